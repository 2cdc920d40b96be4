/-! ===== page: the model's draft, and what is settled ===== -/
def blk (i : Nat) : Int32 := if 20 ≤ i ∧ i < 44 then -9 else 0
section PAGE1
variable {M : Mem} {f : Nat → Nat} {L : Nat}
theorem bg_L41 {M0 : Mem} (hM0 : MR M0.1) :
    ∀ (d i fu : Nat) (M : Mem), i + d = 19 → d < fu → M.1 = M0.1 → (∀ j, j ≠ 148 → M.2 j = M0.2 j) → (∀ q, q < i → M.2 148 q = 0) → ∃ M9, m_X8_begins_L41 144 fu M (nI i) = some M9 ∧ M9.1 = M0.1 ∧ (∀ j, j ≠ 148 → M9.2 j = M0.2 j) ∧ ∀ q, q < 19 → M9.2 148 q = 0 := by
  intro d
  induction d with
  | zero =>
    intro i fu M hi hf a1 a2 a3
    obtain ⟨fu, rfl⟩ : ∃ f, fu = f + 1 := ⟨fu - 1, by omega⟩
    refine ⟨M, ?_, a1, a2, fun q hq => a3 q (by omega)⟩
    unfold m_X8_begins_L41
    simp (disch := omega) only [qle1, qle]
    rw [if_pos (by omega)]
  | succ d ih =>
    intro i fu M hi hf a1 a2 a3
    obtain ⟨fu, rfl⟩ : ∃ f, fu = f + 1 := ⟨fu - 1, by omega⟩
    have hM : MR M.1 := by rw [a1]; exact hM0
    unfold m_X8_begins_L41
    simp (disch := omega) only [qle1, qle, rm10 hM, obs, wa_148, nI_1]
    rw [if_neg (by omega)]
    refine ih (i + 1) fu _ (by omega) (by omega) a1 (fun j hj => by rw [wI2n hj]; exact a2 j hj) (fun q hq => ?_)
    rw [wI2, if_pos rfl]
    by_cases hqi : q = i
    · rw [if_pos hqi]
    · rw [if_neg hqi]; exact a3 q (by omega)
theorem bg_L2 {M0 : Mem} (hM0 : MR M0.1) :
    ∀ (d i fu : Nat) (M : Mem), i + d = 140 → d < fu → M.1 = M0.1 → (∀ j, j ≠ 147 → M.2 j = M0.2 j) → (∀ q, q < i → M.2 147 q = blk q) → ∃ M9, m_X8_begins_L2 144 fu M (nI i) = m_X8_begins_L41 144 FU M9 0 ∧ M9.1 = M0.1 ∧ (∀ j, j ≠ 147 → M9.2 j = M0.2 j) ∧ ∀ q, q < 140 → M9.2 147 q = blk q := by
  intro d
  induction d with
  | zero =>
    intro i fu M hi hf a1 a2 a3
    obtain ⟨fu, rfl⟩ : ∃ f, fu = f + 1 := ⟨fu - 1, by omega⟩
    refine ⟨M, ?_, a1, a2, fun q hq => a3 q (by omega)⟩
    rw [m_X8_begins_L2]
    simp (disch := omega) only [qle1, qle]
    rw [if_pos (by omega)]
  | succ d ih =>
    intro i fu M hi hf a1 a2 a3
    obtain ⟨fu, rfl⟩ : ∃ f, fu = f + 1 := ⟨fu - 1, by omega⟩
    have hM : MR M.1 := by rw [a1]; exact hM0
    have go : ∀ v : Int32, v = blk i → ∃ M9, m_X8_begins_L2 144 fu (wI M 147 i v) (nI (i + 1)) = m_X8_begins_L41 144 FU M9 0 ∧ M9.1 = M0.1 ∧ (∀ j, j ≠ 147 → M9.2 j = M0.2 j) ∧ ∀ q, q < 140 → M9.2 147 q = blk q := by
      intro v hv
      refine ih (i + 1) fu _ (by omega) (by omega) a1 (fun j hj => by rw [wI2n hj]; exact a2 j hj) (fun q hq => ?_)
      rw [wI2, if_pos rfl]
      by_cases hqi : q = i
      · rw [if_pos hqi, hv, hqi]
      · rw [if_neg hqi]; exact a3 q (by omega)
    rw [m_X8_begins_L2]
    simp (disch := omega) only [qle1, qle, qlt2, qlt, rm9 hM, obs, wa_147, nI_1]
    rw [if_neg (by omega)]
    by_cases h20 : i < 20
    · rw [if_pos h20]
      exact go 0 (by unfold blk; rw [if_neg (by omega)])
    · rw [if_neg h20]
      by_cases h44 : 44 ≤ i
      · rw [if_pos h44]
        exact go 0 (by unfold blk; rw [if_neg (by omega)])
      · rw [if_neg h44]
        exact go (-9) (by unfold blk; rw [if_pos (by omega)])
theorem m_begins (hM : MR M.1) : ∃ M9, m_X8_begins M 144 = some M9 ∧ M9.1 = M.1 ∧ (∀ j, j ≠ 147 → j ≠ 148 → M9.2 j = M.2 j) ∧ (∀ q, q < 140 → M9.2 147 q = blk q) ∧ ∀ q, q < 19 → M9.2 148 q = 0 := by
  obtain ⟨M1, e1, e2, e3, e4⟩ := bg_L2 hM 140 0 FU M (by omega) (by unfold FU; omega) rfl (fun _ _ => rfl) (fun q hq => by omega)
  rw [show nI 0 = 0 from rfl] at e1
  obtain ⟨M2, f1, f2, f3, f4⟩ := bg_L41 (M0 := M1) (by rw [e2]; exact hM) 19 0 FU M1 (by omega) (by unfold FU; omega) rfl (fun _ _ => rfl) (fun q hq => by omega)
  rw [show nI 0 = 0 from rfl] at f1
  refine ⟨M2, ?_, by rw [f2, e2], fun j j1 j2 => by rw [f3 j j2, e3 j j1], fun q hq => by rw [f3 147 (by decide)]; exact e4 q hq, f4⟩
  unfold m_X8_begins
  rw [e1, f1]
/-- the model is about to read -/
theorem start_D (hM : MR M.1) (t : TxD M f L) : ∃ D, m_X8_page M 144 = m_X8_page_L25 144 FU D 0 ∧ RdD D f L (aK f L 0) (aS f L 0) (aE f L 0) ∧ D.1 = M.1 ∧ (∀ j, j ≠ 144 → j ≠ 147 → j ≠ 148 → D.2 j = M.2 j) ∧ (∀ i, i ≠ 0 → (i < 3 ∨ 7 < i) → D.2 144 i = M.2 144 i) ∧ (∀ q, q < 140 → D.2 147 q = blk q) ∧ ∀ q, q < 19 → D.2 148 q = 0 := by
  have hM3 : MR (wI (wI (wI M 144 0 0) 144 7 (-1)) 144 3 0).1 := hM
  obtain ⟨M4, e1, e2, e3, e4, e5⟩ := m_begins hM3
  have k144 : M4.2 144 = (wI (wI (wI M 144 0 0) 144 7 (-1)) 144 3 0).2 144 := e3 144 (by decide) (by decide)
  have f144 : ∀ i, i ≠ 0 → i ≠ 7 → i ≠ 3 → M4.2 144 i = M.2 144 i := fun i i1 i2 i3 => by rw [k144, wI2, if_pos rfl, if_neg i3, wI2, if_pos rfl, if_neg i2, wI2, if_pos rfl, if_neg i1]
  have t4 : TxD M4 f L := by
    obtain ⟨a, b, c⟩ := t
    refine ⟨by rw [f144 2 (by omega) (by omega) (by omega)]; exact a, b, fun i hi => ?_⟩
    rw [e3 145 (by decide) (by decide), wI2n (by decide), wI2n (by decide), wI2n (by decide)]
    exact c i hi
  have hM4 : MR M4.1 := by rw [e2]; exact hM3
  obtain ⟨D, g1, g2, g3⟩ := m_advances hM4 t4 (e := 0) (by omega) (by rw [k144, wI2, if_pos rfl, if_pos rfl]; rfl)
  refine ⟨D, ?_, ⟨TxD_FD g2 t4, MR_FD g2 hM4, g3, ?_⟩, by rw [g2.1, e2]; rfl, fun j j1 j2 j3 => ?_, fun i i1 i2 => ?_, fun q hq => ?_, fun q hq => ?_⟩
  · unfold m_X8_page
    simp only [pIs, e1, obs, g1]
  · rw [g2.2.2 7 (by omega) (by omega) (by omega) (by omega), k144, wI2, if_pos rfl, if_neg (by decide), wI2, if_pos rfl, if_pos rfl]
  · rw [g2.2.1 j j1, e3 j j2 j3, wI2n j1, wI2n j1, wI2n j1]
  · rw [g2.2.2 i (by omega) (by omega) (by omega) (by omega), f144 i i1 (by omega) (by omega)]
  · rw [g2.2.1 147 (by decide)]; exact e4 q hq
  · rw [g2.2.1 148 (by decide)]; exact e5 q hq
theorem st_L29 {M0 : Mem} (hM0 : MR M0.1) :
    ∀ (d i fu : Nat) (M : Mem), i + d = 19 → d < fu → M.1 = M0.1 → (∀ j, j ≠ 149 → M.2 j = M0.2 j) → (∀ q, q < i → M.2 149 q = M0.2 148 q) → ∃ M9, m_X8_settles_L29 144 fu M (nI i) = some (wI (wI (wI (wI (wI M9 144 2 0) 144 19 0) 144 13 0) 152 0 0) 152 1 0) ∧ M9.1 = M0.1 ∧ (∀ j, j ≠ 149 → M9.2 j = M0.2 j) ∧ ∀ q, q < 19 → M9.2 149 q = M0.2 148 q := by
  intro d
  induction d with
  | zero =>
    intro i fu M hi hf a1 a2 a3
    obtain ⟨fu, rfl⟩ : ∃ f, fu = f + 1 := ⟨fu - 1, by omega⟩
    have hM : MR M.1 := by rw [a1]; exact hM0
    have hM3 : MR (wI (wI (wI M 144 2 0) 144 19 0) 144 13 0).1 := hM
    have hM4 : MR (wI (wI (wI (wI M 144 2 0) 144 19 0) 144 13 0) 152 0 0).1 := hM
    have nar : vp_nar .boolean (0 : Int32) = 0 := by decide
    have w0 : ∀ {M : Mem} {v : Int32}, wa M 152 0 v = some (wI M 152 0 v) := fun {M v} => wa_152 (k := 0) (by omega)
    have w1 : ∀ {M : Mem} {v : Int32}, wa M 152 1 v = some (wI M 152 1 v) := fun {M v} => wa_152 (k := 1) (by omega)
    refine ⟨M, ?_, a1, a2, fun q hq => a3 q (by omega)⟩
    unfold m_X8_settles_L29
    simp (disch := omega) only [qle1, qle, pIs, rm15 hM3, obs, nar, w0, rm15 hM4, w1]
    rw [if_pos (by omega)]
  | succ d ih =>
    intro i fu M hi hf a1 a2 a3
    obtain ⟨fu, rfl⟩ : ∃ f, fu = f + 1 := ⟨fu - 1, by omega⟩
    have hM : MR M.1 := by rw [a1]; exact hM0
    unfold m_X8_settles_L29
    simp (disch := omega) only [qle1, qle, rm10 hM, rm11 hM, obs, ra_148, wa_149, nI_1]
    rw [if_neg (by omega)]
    refine ih (i + 1) fu _ (by omega) (by omega) a1 (fun j hj => by rw [wI2n hj]; exact a2 j hj) (fun q hq => ?_)
    rw [wI2, if_pos rfl]
    by_cases hqi : q = i
    · rw [if_pos hqi, hqi, a2 148 (by decide)]
    · rw [if_neg hqi]; exact a3 q (by omega)
theorem st_L2 {M0 : Mem} (hM0 : MR M0.1) :
    ∀ (d i fu : Nat) (M : Mem), i + d = 140 → d < fu → M.1 = M0.1 → (∀ j, j ≠ 146 → M.2 j = M0.2 j) → (∀ q, q < i → M.2 146 q = M0.2 147 q) → ∃ M9, m_X8_settles_L2 144 fu M (nI i) = m_X8_settles_L29 144 FU M9 0 ∧ M9.1 = M0.1 ∧ (∀ j, j ≠ 146 → M9.2 j = M0.2 j) ∧ ∀ q, q < 140 → M9.2 146 q = M0.2 147 q := by
  intro d
  induction d with
  | zero =>
    intro i fu M hi hf a1 a2 a3
    obtain ⟨fu, rfl⟩ : ∃ f, fu = f + 1 := ⟨fu - 1, by omega⟩
    refine ⟨M, ?_, a1, a2, fun q hq => a3 q (by omega)⟩
    rw [m_X8_settles_L2]
    simp (disch := omega) only [qle1, qle]
    rw [if_pos (by omega)]
  | succ d ih =>
    intro i fu M hi hf a1 a2 a3
    obtain ⟨fu, rfl⟩ : ∃ f, fu = f + 1 := ⟨fu - 1, by omega⟩
    have hM : MR M.1 := by rw [a1]; exact hM0
    rw [m_X8_settles_L2]
    simp (disch := omega) only [qle1, qle, rm8 hM, rm9 hM, obs, ra_147, wa_146, nI_1]
    rw [if_neg (by omega)]
    refine ih (i + 1) fu _ (by omega) (by omega) a1 (fun j hj => by rw [wI2n hj]; exact a2 j hj) (fun q hq => ?_)
    rw [wI2, if_pos rfl]
    by_cases hqi : q = i
    · rw [if_pos hqi, hqi, a2 147 (by decide)]
    · rw [if_neg hqi]; exact a3 q (by omega)
theorem m_settles (hM : MR M.1) : ∃ M9, m_X8_settles M 144 = some M9 ∧ M9.1 = M.1 ∧ (∀ j, j ≠ 144 → j ≠ 146 → j ≠ 149 → j ≠ 152 → M9.2 j = M.2 j) ∧ (∀ q, q < 140 → M9.2 146 q = M.2 147 q) ∧ (∀ q, q < 19 → M9.2 149 q = M.2 148 q) ∧ M9.2 144 2 = 0 ∧ M9.2 144 13 = 0 ∧ M9.2 144 19 = 0 ∧ M9.2 152 0 = 0 ∧ M9.2 152 1 = 0 := by
  obtain ⟨M1, e1, e2, e3, e4⟩ := st_L2 hM 140 0 FU M (by omega) (by unfold FU; omega) rfl (fun _ _ => rfl) (fun q hq => by omega)
  rw [show nI 0 = 0 from rfl] at e1
  obtain ⟨M2, f1, f2, f3, f4⟩ := st_L29 (M0 := M1) (by rw [e2]; exact hM) 19 0 FU M1 (by omega) (by unfold FU; omega) rfl (fun _ _ => rfl) (fun q hq => by omega)
  rw [show nI 0 = 0 from rfl] at f1
  refine ⟨_, by unfold m_X8_settles; rw [e1, f1], by show M2.1 = M.1; rw [f2, e2], fun j j1 j2 j3 j4 => ?_, fun q hq => ?_, fun q hq => ?_, ?_, ?_, ?_, ?_, ?_⟩
  · rw [wI2n j4, wI2n j4, wI2n j1, wI2n j1, wI2n j1, f3 j j3, e3 j j2]
  · rw [wI2n (by decide), wI2n (by decide), wI2n (by decide), wI2n (by decide), wI2n (by decide), f3 146 (by decide)]; exact e4 q hq
  · rw [wI2n (by decide), wI2n (by decide), wI2n (by decide), wI2n (by decide), wI2n (by decide), f4 q hq, e3 148 (by decide)]
  · simp [wI2]
  · simp [wI2]
  · simp [wI2]
  · simp [wI2]
  · simp [wI2]
end PAGE1
