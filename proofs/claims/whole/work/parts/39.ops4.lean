/-! ===== what can be undone ===== -/
def sh (h : Nat) : Nat := if h = 10 then 1 else 0
theorem sh_le (h : Nat) : sh h ≤ 1 ∧ (h ≤ 10 → h - sh h ≤ 9) ∧ (sh h = 1 → h = 10) ∧ (h = 10 → sh h = 1) ∧ (h ≠ 10 → sh h = 0) := by
  unfold sh
  split <;> omega
section OPS4
variable {M M1 : Mem} {b b2 N R L h m : Nat} {rem sn sp : Nat → Nat} {sv : Nat → Int32}
theorem c_add34 (hC : CR M.1 b b2) {g x : Nat} (hg : g ≤ 9) (h1 : M.2 130 1 = nI g) : m_X0_add_L34 130 (nI x) M = some (wI (wI M 131 g (nI x)) 130 1 (nI (g + 1))) := by
  have y1 : (wI M 131 g (nI x)).2 130 1 = nI g := by simp [wI2, h1]
  unfold m_X0_add_L34
  simp +decide (disch := omega) only [h1, wL10, wi1, obs, ↓reduceIte, rc130 hC, wa_131, pIs, y1, nI_1]
theorem c_add (hC : CR M.1 b b2) (hh : h ≤ 10) {x : Nat} (h1 : M.2 130 1 = nI h) : ∃ M9, m_X0_add M 130 (nI x) = some M9 ∧ M9.1 = M.1 ∧ (∀ j, j ≠ 130 → j ≠ 131 → M9.2 j = M.2 j) ∧ M9.2 130 1 = nI (h - sh h + 1) ∧ (∀ i, i < h - sh h → M9.2 131 i = M.2 131 (i + sh h)) ∧ M9.2 131 (h - sh h) = nI x := by
  obtain ⟨s1, s2, s3, s4, s5⟩ := sh_le h
  unfold m_X0_add
  simp (disch := omega) only [h1, qeq1, qeq]
  by_cases h10 : h = 10
  · rw [if_pos h10, rc130 hC, obs, obs]
    have e9 : (9 : Int32).toNatClampNeg = 9 := by decide
    have e0 : (0 : Int32).toNatClampNeg = 0 := by decide
    have e1 : (1 : Int32).toNatClampNeg = 1 := by decide
    have hl : ln 131 = 10 := rfl
    have hcp : cpM M 131 1 131 0 9 = some (M.1, fun k => if k = 131 then va_cpy (M.2 131) (M.2 131) 1 0 9 else M.2 k) := by
      unfold cpM
      rw [e0, e9, e1, hl, if_pos ⟨by decide, by decide, by decide, by omega, by omega⟩]
    rw [hcp, obs, pIs]
    have y1 : (M.1, fun k => if k = 131 then va_cpy (M.2 131) (M.2 131) 1 0 9 else M.2 k).2 130 1 = nI 10 := by
      show (if (130 : Nat) = 131 then va_cpy (M.2 131) (M.2 131) 1 0 9 else M.2 130) 1 = nI 10
      rw [if_neg (by decide), h1, h10]
    have y2 : ((M.1, fun k => if k = 131 then va_cpy (M.2 131) (M.2 131) 1 0 9 else M.2 k) : Mem).2 130 1 - 1 = nI 9 := by rw [y1]; rfl
    rw [y2, c_add34 (M := wI (M.1, fun k => if k = 131 then va_cpy (M.2 131) (M.2 131) 1 0 9 else M.2 k) 130 1 (nI 9)) hC (Nat.le_refl 9) (by simp [wI2])]
    rw [s4 h10, h10]
    refine ⟨_, rfl, rfl, fun j j1 j2 => ?_, by simp [wI2], fun i hi => ?_, by simp [wI2]⟩
    · rw [wI2n j1, wI2n j2, wI2n j1]
      show (if j = 131 then _ else M.2 j) = M.2 j
      rw [if_neg j2]
    · have hi9 : i ≠ 9 := by omega
      rw [wI2n (by decide), wI2, if_pos rfl, if_neg hi9, wI2n (by decide)]
      show (if 131 = 131 then va_cpy (M.2 131) (M.2 131) 1 0 9 else M.2 131) i = _
      rw [if_pos rfl]
      unfold va_cpy
      rw [if_pos ⟨by omega, by omega⟩, show 1 + (i - 0) = i + 1 by omega]
  · rw [if_neg h10, c_add34 hC (by omega) h1, s5 h10]
    refine ⟨_, rfl, rfl, fun j j1 j2 => ?_, by simp [wI2], fun i hi => ?_, by simp [wI2]⟩
    · rw [wI2n j1, wI2n j2]
    · have : i ≠ h := by omega
      simp [wI2, this]
theorem n_L47 {M0 : Mem} (hM0 : MR M0.1) {g : Nat} (hg : g ≤ 9) (h1 : M0.2 144 13 = nI g) :
    ∀ (d i fu : Nat) (M : Mem), i + d = 19 → d < fu → M.1 = M0.1 → (∀ j, j ≠ 150 → M.2 j = M0.2 j) → (∀ j, j < i → M.2 150 (19 * g + j) = M0.2 149 j) → (∀ q, q < 19 * g → M.2 150 q = M0.2 150 q) → ∃ M9, m_X8_notes_L47 144 fu M (nI i) = some M9 ∧ M9.1 = M0.1 ∧ (∀ j, j ≠ 150 → j ≠ 144 → M9.2 j = M0.2 j) ∧ (∀ j, j ≠ 13 → M9.2 144 j = M0.2 144 j) ∧ M9.2 144 13 = nI (g + 1) ∧ (∀ j, j < 19 → M9.2 150 (19 * g + j) = M0.2 149 j) ∧ (∀ q, q < 19 * g → M9.2 150 q = M0.2 150 q) := by
  intro d
  induction d with
  | zero =>
    intro i fu M hi hf a1 a2 a3 a4
    obtain ⟨fu, rfl⟩ : ∃ f, fu = f + 1 := ⟨fu - 1, by omega⟩
    unfold m_X8_notes_L47
    simp (disch := omega) only [qle1, qle]
    rw [if_pos (by omega), pIs, a2 144 (by omega), h1, nI_1]
    refine ⟨_, rfl, a1, fun j j1 j2 => by rw [wI2n j2]; exact a2 j j1, fun j hj => ?_, by simp [wI2], fun j hj => ?_, fun q hq => ?_⟩
    · rw [wI2, if_pos rfl, if_neg hj, a2 144 (by omega)]
    · rw [wI2n (by decide)]; exact a3 j (by omega)
    · rw [wI2n (by decide)]; exact a4 q hq
  | succ d ih =>
    intro i fu M hi hf a1 a2 a3 a4
    obtain ⟨fu, rfl⟩ : ∃ f, fu = f + 1 := ⟨fu - 1, by omega⟩
    have hM : MR M.1 := by rw [a1]; exact hM0
    unfold m_X8_notes_L47
    simp (disch := omega) only [qle1, qle, rm12 hM, rm11 hM, obs, ra_149, a2 144 (show 144 ≠ 150 by omega), h1, qmu, nI_add, wa_150, nI_1]
    rw [if_neg (by omega)]
    refine ih (i + 1) fu _ (by omega) (by omega) a1 (fun j hj => by rw [wI2n hj]; exact a2 j hj) (fun j hj => ?_) (fun q hq => ?_)
    · rw [wI2, if_pos rfl]
      by_cases hji : j = i
      · rw [if_pos (by omega), a2 149 (by omega), hji]
      · rw [if_neg (by omega)]; exact a3 j (by omega)
    · rw [wI2, if_pos rfl, if_neg (by omega)]; exact a4 q hq
theorem n_L11 {M0 : Mem} (hM0 : MR M0.1) :
    ∀ (d i fu : Nat) (M : Mem), i + d = 171 → d < fu → M.1 = M0.1 → (∀ j, j ≠ 150 → M.2 j = M0.2 j) → (∀ q, q < i → M.2 150 q = M0.2 150 (q + 19)) → (∀ q, i ≤ q → M.2 150 q = M0.2 150 q) → ∃ M9, m_X8_notes_L11 144 fu M (nI i) = m_X8_notes_L47 144 FU (wI M9 144 13 9) 0 ∧ M9.1 = M0.1 ∧ (∀ j, j ≠ 150 → M9.2 j = M0.2 j) ∧ (∀ q, q < 171 → M9.2 150 q = M0.2 150 (q + 19)) := by
  intro d
  induction d with
  | zero =>
    intro i fu M hi hf a1 a2 a3 a4
    obtain ⟨fu, rfl⟩ : ∃ f, fu = f + 1 := ⟨fu - 1, by omega⟩
    refine ⟨M, ?_, a1, a2, fun q hq => a3 q (by omega)⟩
    rw [m_X8_notes_L11]
    simp (disch := omega) only [qle1, qle]
    rw [if_pos (by omega), pIs]
  | succ d ih =>
    intro i fu M hi hf a1 a2 a3 a4
    obtain ⟨fu, rfl⟩ : ∃ f, fu = f + 1 := ⟨fu - 1, by omega⟩
    have hM : MR M.1 := by rw [a1]; exact hM0
    rw [m_X8_notes_L11]
    simp (disch := omega) only [qle1, qle, rm12 hM, obs, qa2, ra_150, wa_150, nI_1]
    rw [if_neg (by omega)]
    refine ih (i + 1) fu _ (by omega) (by omega) a1 (fun j hj => by rw [wI2n hj]; exact a2 j hj) (fun q hq => ?_) (fun q hq => ?_)
    · rw [wI2, if_pos rfl]
      by_cases hqi : q = i
      · rw [if_pos hqi, a4 (i + 19) (by omega), hqi]
      · rw [if_neg hqi]; exact a3 q (by omega)
    · rw [wI2, if_pos rfl, if_neg (by omega)]; exact a4 q (by omega)
theorem m_notes (hM : MR M.1) (hh : h ≤ 10) (h1 : M.2 144 13 = nI h) : ∃ M9, m_X8_notes M 144 = some M9 ∧ M9.1 = M.1 ∧ (∀ j, j ≠ 150 → j ≠ 144 → M9.2 j = M.2 j) ∧ (∀ j, j ≠ 13 → M9.2 144 j = M.2 144 j) ∧ M9.2 144 13 = nI (h - sh h + 1) ∧ (∀ j, j < 19 → M9.2 150 (19 * (h - sh h) + j) = M.2 149 j) ∧ ∀ i j, i < h - sh h → j < 19 → M9.2 150 (19 * i + j) = M.2 150 (19 * (i + sh h) + j) := by
  obtain ⟨s1, s2, s3, s4, s5⟩ := sh_le h
  unfold m_X8_notes
  simp (disch := omega) only [h1, qeq1, qeq]
  by_cases h10 : h = 10
  · rw [if_pos h10]
    obtain ⟨M2, e1, e2, e3, e4⟩ := n_L11 hM 171 0 FU M (by omega) (by unfold FU; omega) rfl (fun _ _ => rfl) (fun q hq => by omega) (fun _ _ => rfl)
    rw [show nI 0 = 0 from rfl] at e1
    obtain ⟨M3, f1, f2, f3, f4, f5, f6, f7⟩ := n_L47 (M0 := wI M2 144 13 9) (show MR (wI M2 144 13 9).1 by rw [wI1, e2]; exact hM) (g := 9) (by omega) (by rw [wI2, if_pos rfl, if_pos rfl]; rfl) 19 0 FU (wI M2 144 13 9) (by omega) (by unfold FU; omega) rfl (fun _ _ => rfl) (fun j hj => by omega) (fun _ _ => rfl)
    rw [show nI 0 = 0 from rfl] at f1
    rw [e1, f1, s4 h10, h10]
    refine ⟨M3, rfl, by rw [f2]; exact e2, fun j j1 j2 => by rw [f3 j j1 j2, wI2n j2, e3 j j1], fun j hj => by rw [f4 j hj, wI2, if_pos rfl, if_neg hj, e3 144 (by decide)], f5, fun j hj => by rw [f6 j hj, wI2n (by decide), e3 149 (by decide)], fun i j hi hj => ?_⟩
    rw [f7 (19 * i + j) (by omega), wI2n (by decide), e4 (19 * i + j) (by omega), show 19 * i + j + 19 = 19 * (i + 1) + j by omega]
  · rw [if_neg h10]
    obtain ⟨M3, f1, f2, f3, f4, f5, f6, f7⟩ := n_L47 (M0 := M) hM (g := h) (by omega) h1 19 0 FU M (by omega) (by unfold FU; omega) rfl (fun _ _ => rfl) (fun j hj => by omega) (fun _ _ => rfl)
    rw [show nI 0 = 0 from rfl] at f1
    rw [f1, s5 h10]
    refine ⟨M3, rfl, f2, f3, f4, f5, f6, fun i j hi hj => ?_⟩
    rw [f7 (19 * i + j) (by omega)]
    rfl
theorem uS_lt {i : Nat} (hi : i < h) : uS M h i = fun j => M.2 150 (19 * i + j) := by
  unfold uS
  rw [if_pos hi]
theorem uS_ge {i : Nat} (hi : h ≤ i) : uS M h i = M.2 149 := by
  unfold uS
  rw [if_neg (by omega)]
theorem ap_cell {x j : Nat} {S S2 : Nat → Int32} (h : S j = S2 j) : ap x S j = ap x S2 j := by
  unfold ap
  rw [h]
/-- the class's part of a change -/
theorem c_perform (H : Iv M b b2 N R L h m rem sn sp sv) {cx x : Nat} (hx : CV cx N R) : ∃ M9, m_X7_perform M 0 (nI cx) (nI x) = some M9 ∧ M9.1 = M.1 ∧ (∀ j, (j < 114 ∨ (116 < j ∧ j < 120) ∨ (124 < j ∧ j < 130) ∨ 131 < j) → M9.2 j = M.2 j) ∧ LkR M9 114 (ap cx (M.2 149)) N ∧ StR M9 120 (M.2 146) (ap cx (M.2 149)) N R ∧ M9.2 130 1 = nI (h - sh h + 1) ∧ (∀ i, i < h - sh h → M9.2 131 i = M.2 131 (i + sh h)) ∧ M9.2 131 (h - sh h) = nI x := by
  obtain ⟨⟨hC, hM⟩, hW, hS, hL, hSt, hT, hTx, hH, ⟨hc, hm⟩, hK⟩ := H
  have h9 := hW.2.1
  have h8 := hW.2.2.2.1
  have hb := sb_le (cr_sb hC)
  unfold m_X7_perform
  rw [rc4 hC, obs]
  obtain ⟨M1, e1, e2, e3, e4⟩ := c_apply (cr_114 hC) lk_114 hL h9 h8 hx
  have hC1 : CR M1.1 b b2 := by rw [e2]; exact hC
  rw [e1, obs, rc8 hC1, obs]
  obtain ⟨M2, f1, f2, f3, f4, f5, f6⟩ := c_add hC1 hH.2.2.1 (x := x) (by rw [e3 130 (by omega)]; exact hH.1)
  have hC2 : CR M2.1 b b2 := by rw [f2]; exact hC1
  rw [f1, obs]
  have hS2 : ShR M2 b (M.2 146) N R := ShR_fr h8 (fun i a1 a2 => by rw [f3 i (by omega) (by omega), e3 i (by omega)]) hS
  have hL2 : LkR M2 114 (ap cx (M.2 149)) N := LkR_fr (fun i a1 a2 => f3 i (by omega) (by omega)) e4
  obtain ⟨M3, g1, g2, g3⟩ := c_refresh hC2 hW hS2 hL2
  rw [g1, obs]
  refine ⟨M3, rfl, by rw [g2.1, f2, e2], fun j hj => ?_, ?_, g3, ?_, fun i hi => ?_, ?_⟩
  · rw [g2.2 j (by omega), f3 j (by omega) (by omega), e3 j (by omega)]
  · exact LkR_fr (fun i a1 a2 => g2.2 i (by omega)) hL2
  · rw [g2.2 130 (by omega)]; exact f4
  · rw [g2.2 131 (by omega), f5 i hi, e3 131 (by omega)]
  · rw [g2.2 131 (by omega)]; exact f6
/-- both parts done: what holds then -/
theorem Iv_perform (H : Iv M b b2 N R L h m rem sn sp sv) {M2 M9 : Mem} {cx x : Nat} (hxr : CV x N R) (hback : ∀ j, j < 19 → ap x (ap cx (M.2 149)) j = M.2 149 j) (hTV : TV (ap cx (M.2 149)) N)
    (c1 : M9.1 = M.1) (c2 : ∀ j, (j < 114 ∨ (116 < j ∧ j < 120) ∨ (124 < j ∧ j < 130) ∨ 131 < j) → M9.2 j = M.2 j) (c3 : LkR M9 114 (ap cx (M.2 149)) N) (c4 : StR M9 120 (M.2 146) (ap cx (M.2 149)) N R) (c5 : M9.2 130 1 = nI (h - sh h + 1)) (c6 : ∀ i, i < h - sh h → M9.2 131 i = M.2 131 (i + sh h)) (c7 : M9.2 131 (h - sh h) = nI x)
    (d1 : M2.1 = M9.1) (d2 : ∀ j, j ≠ 144 → j ≠ 149 → j ≠ 150 → M2.2 j = M9.2 j) (d3 : ∀ j, j ≠ 0 → j ≠ 13 → M2.2 144 j = M9.2 144 j) (d4 : M2.2 144 13 = nI (h - sh h + 1)) (d5 : ∀ j, j < 19 → M2.2 150 (19 * (h - sh h) + j) = M.2 149 j) (d6 : ∀ i j, i < h - sh h → j < 19 → M2.2 150 (19 * i + j) = M.2 150 (19 * (i + sh h) + j)) (d7 : M2.2 149 = ap cx (M.2 149)) : Inv M2 := by
  obtain ⟨⟨hC, hM⟩, hW, hS, hL, hSt, hT, hTx, hH, ⟨hc, hm⟩, hK⟩ := H
  have hb := sb_le (cr_sb hC)
  obtain ⟨s1, s2, s3, s4, s5⟩ := sh_le h
  have s2 := s2 hH.2.2.1
  have e : ∀ j, (j < 114 ∨ (116 < j ∧ j < 120) ∨ (124 < j ∧ j < 130) ∨ (131 < j ∧ j < 144) ∨ (144 < j ∧ j < 149) ∨ 150 < j) → M2.2 j = M.2 j := fun j hj => by rw [d2 j (by omega) (by omega) (by omega), c2 j (by omega)]
  have e144 : ∀ j, j ≠ 0 → j ≠ 13 → M2.2 144 j = M.2 144 j := fun j j1 j2 => by rw [d3 j j1 j2, c2 144 (by omega)]
  have t := e 146 (by omega)
  refine ⟨b, b2, N, R, L, h - sh h + 1, m, fun i => if i < h - sh h then rem (i + sh h) else x, sn, sp, sv, ⟨by rw [d1, c1]; exact hC, by rw [d1, c1]; exact hM⟩, by rw [t]; exact hW, ?_, ?_, ?_, by rw [d7]; exact hTV, ?_, ?_, ⟨?_, ?_⟩, ?_⟩
  · rw [t]; exact ShR_fr hW.2.2.2.1 (fun i a1 a2 => e i (by omega)) hS
  · rw [d7]; exact LkR_fr (fun i a1 a2 => d2 i (by omega) (by omega) (by omega)) c3
  · rw [t, d7]; exact StR_fr (fun i a1 a2 => d2 i (by omega) (by omega) (by omega)) c4
  · exact TxtR_fr (by rw [e 0 (by omega)]) (e 1 (by omega)) (e144 2 (by omega) (by omega)) (e 145 (by omega)) hTx
  · refine ⟨by rw [d2 130 (by omega) (by omega) (by omega)]; exact c5, d4, by omega, fun i hi => ?_⟩
    rw [d2 131 (by omega) (by omega) (by omega)]
    by_cases hlt : i < h - sh h
    · simp only [hlt, if_true]
      obtain ⟨q1, q2, q3⟩ := hH.2.2.2 (i + sh h) (by omega)
      refine ⟨q1, by rw [c6 i hlt]; exact q2, fun j hj => ?_⟩
      rw [d6 i j hlt hj, q3 j hj]
      apply ap_cell
      rw [uS_lt (show i + 1 < h - sh h + 1 by omega)]
      by_cases hlast : i + 1 < h - sh h
      · rw [uS_lt (show i + sh h + 1 < h by omega), show i + sh h + 1 = i + 1 + sh h by omega]
        exact (d6 (i + 1) j hlast hj).symm
      · rw [uS_ge (show h ≤ i + sh h + 1 by omega), show i + 1 = h - sh h by omega]
        exact (d5 j hj).symm
    · simp only [hlt, if_false]
      have hi2 : i = h - sh h := by omega
      refine ⟨hxr, by rw [hi2]; exact c7, fun j hj => ?_⟩
      rw [hi2, d5 j hj]
      rw [uS_ge (Nat.le_refl _), d7, hback j hj]
  · exact SeC_fr (by rw [e 132 (by omega)]) (e 133 (by omega)) (e 134 (by omega)) (e 135 (by omega)) hc
  · exact SeM_fr (e144 19 (by omega) (by omega)) (e 153 (by omega)) (e 154 (by omega)) (e 155 (by omega)) hm
  · exact KpR_fr (by rw [e 0 (by omega)]) (e 152 (by omega)) (e 151 (by omega)) (fun j a1 a2 => e j (by omega)) hK
end OPS4
