/-! ===== reading: the model's next token ===== -/
section READ2
variable {M M1 : Mem} {f : Nat → Nat} {L : Nat}
theorem m_letter1 (hM : MR M.1) (t : TxD M f L) {i : Nat} (hi : i < L) : m_X8_letterAt M 144 (nI i) = some (nI (f i)) := by
  have l120 := t.2.1
  unfold m_X8_letterAt
  simp (disch := omega) only [t.1, qle, rm1 hM, obs, ra_145, (t.2.2 i hi).2]
  rw [if_neg (by omega)]
theorem m_letter0 (t : TxD M f L) {i : Nat} (hi : L ≤ i) (hi2 : i < 2 ^ 31) : m_X8_letterAt M 144 (nI i) = some (-1) := by
  have l120 := t.2.1
  unfold m_X8_letterAt
  simp (disch := omega) only [t.1, qle]
  rw [if_pos (by omega)]
theorem in_m1 : m_X8_in (-1) 48 57 = some 0 := by decide
theorem dg_bd {c : Nat} (h : dgB c = true) : 48 ≤ c ∧ c ≤ 57 := by simpa [dgB] using h
theorem MR_FD (h : FD M M1) (hM : MR M.1) : MR M1.1 := by rw [h.1]; exact hM
theorem qle_1 {a : Nat} (ha : a < 2 ^ 31) : (nI a ≤ 1) = (a ≤ 1) := qle (b := 1) ha (by omega)
theorem m_L71 {M0 : Mem} (hM0 : MR M0.1) (t : TxD M0 f L) {s : Nat} (hs : s < L) (hd : dgB (f s) = true) :
    ∀ (d e v fu : Nat) (M : Mem), e + d = L → d < fu → s < e → FD M0 M → M.2 144 3 = nI e → M.2 144 5 = nI s → M.2 144 6 = nI v → v ≤ 99 → (e = s + 1 → v = f s - 48) → ∃ M9, m_X8_advances_L71 144 fu M = some M9 ∧ FD M0 M9 ∧ M9.2 144 3 = nI (dgr f d e) ∧ M9.2 144 5 = nI s ∧ M9.2 144 4 = (if dgr f d e = s + 1 then 2 else 3) ∧ (dgr f d e = s + 1 → M9.2 144 6 = nI (f s - 48)) := by
  have l120 := t.2.1
  have hdb := dg_bd hd
  have fin : ∀ (e v : Nat) (M : Mem), e ≤ L → s < e → FD M0 M → M.2 144 3 = nI e → M.2 144 5 = nI s → M.2 144 6 = nI v → v ≤ 99 → (e = s + 1 → v = f s - 48) → ∃ M9, (if (9 : Int32) < (M.2 144 6) then (pI M 144 4 (3 : Int32)).bind fun M13 => some M13 else if ((M.2 144 3) - (M.2 144 5)) ≤ (1 : Int32) then (pI M 144 4 (2 : Int32)).bind fun M14 => some M14 else (pI M 144 4 (3 : Int32)).bind fun M15 => some M15) = some M9 ∧ FD M0 M9 ∧ M9.2 144 3 = nI e ∧ M9.2 144 5 = nI s ∧ M9.2 144 4 = (if e = s + 1 then 2 else 3) ∧ (e = s + 1 → M9.2 144 6 = nI (f s - 48)) := by
    intro e v M he hse hX a1 a2 a3 hv hv1
    have go : ∀ x : Int32, x = (if e = s + 1 then 2 else 3) → ∃ M9, some (wI M 144 4 x) = some M9 ∧ FD M0 M9 ∧ M9.2 144 3 = nI e ∧ M9.2 144 5 = nI s ∧ M9.2 144 4 = (if e = s + 1 then 2 else 3) ∧ (e = s + 1 → M9.2 144 6 = nI (f s - 48)) := by
      intro x hx
      refine ⟨_, rfl, FD_trans hX (FD_w _ _ (by omega)), ?_, ?_, ?_, fun h => ?_⟩
      · rw [wI2, if_pos rfl, if_neg (by decide)]; exact a1
      · rw [wI2, if_pos rfl, if_neg (by decide)]; exact a2
      · rw [wI2, if_pos rfl, if_pos rfl]; exact hx
      · rw [wI2, if_pos rfl, if_neg (by decide), a3, hv1 h]
    simp (disch := omega) only [a1, a2, a3, qlt1, qlt, qsub, qle_1, pIs]
    by_cases h9 : 9 < v
    · rw [if_pos h9]
      exact go 3 (by rw [if_neg (fun h => by have := hv1 h; omega)])
    · rw [if_neg h9]
      by_cases h1 : e - s ≤ 1
      · rw [if_pos h1]; exact go 2 (by rw [if_pos (by omega)])
      · rw [if_neg h1]; exact go 3 (by rw [if_neg (by omega)])
  intro d
  induction d with
  | zero =>
    intro e v fu M hi hf hse hX a1 a2 a3 hv hv1
    obtain ⟨fu, rfl⟩ : ∃ f, fu = f + 1 := ⟨fu - 1, by omega⟩
    have t1 := TxD_FD hX t
    unfold m_X8_advances_L71
    rw [a1, m_letter0 t1 (by omega) (by omega), obs, in_m1, obs, if_pos rfl, ← a1]
    exact fin e v M (by omega) hse hX a1 a2 a3 hv hv1
  | succ d ih =>
    intro e v fu M hi hf hse hX a1 a2 a3 hv hv1
    obtain ⟨fu, rfl⟩ : ∃ f, fu = f + 1 := ⟨fu - 1, by omega⟩
    have t1 := TxD_FD hX t
    have hM := MR_FD hX hM0
    unfold m_X8_advances_L71 dgr
    rw [a1, m_letter1 hM t1 (by omega), obs, in256 _ (t.2.2 e (by omega)).1, obs, ← a1]
    by_cases hde : dgB (f e) = true
    · have hb := dg_bd hde
      rw [if_neg (by rw [bi_0]; simp [hde])]
      simp only [hde, if_true]
      have q48 : nI (10 * v + f e) - 48 = nI (10 * v + f e - 48) := qsub (b := 48) (by omega)
      simp (disch := omega) only [a3, qle2, qle, obs, qmu, nI_add, q48, pIs]
      by_cases h9 : v ≤ 9
      · rw [if_pos h9]
        have x3 : (wI M 144 6 (nI (10 * v + f e - 48))).2 144 3 = nI e := by rw [wI2, if_pos rfl, if_neg (by decide)]; exact a1
        rw [x3, nI_1]
        refine ih (e + 1) (10 * v + f e - 48) fu _ (by omega) (by omega) (by omega) (FD_trans hX (FD_trans (FD_w _ _ (by omega)) (FD_w _ _ (by omega)))) (by rw [wI2, if_pos rfl, if_pos rfl]) ?_ ?_ (by omega) (by omega)
        · rw [wI2, if_pos rfl, if_neg (by decide), wI2, if_pos rfl, if_neg (by decide)]; exact a2
        · rw [wI2, if_pos rfl, if_neg (by decide), wI2, if_pos rfl, if_pos rfl]
      · rw [if_neg h9]
        have x3 : (wI M 144 6 (nI v)).2 144 3 = nI e := by rw [wI2, if_pos rfl, if_neg (by decide)]; exact a1
        rw [x3, nI_1]
        refine ih (e + 1) v fu _ (by omega) (by omega) (by omega) (FD_trans hX (FD_trans (FD_w _ _ (by omega)) (FD_w _ _ (by omega)))) (by rw [wI2, if_pos rfl, if_pos rfl]) ?_ ?_ (by omega) (by omega)
        · rw [wI2, if_pos rfl, if_neg (by decide), wI2, if_pos rfl, if_neg (by decide)]; exact a2
        · rw [wI2, if_pos rfl, if_neg (by decide), wI2, if_pos rfl, if_pos rfl]
    · rw [if_pos (by rw [bi_0]; simpa using hde)]
      simp only [hde, if_false]
      exact fin e v M (by omega) hse hX a1 a2 a3 hv hv1
theorem sg_dg : ∀ c, c < 256 → dgB c = true → sgB c = false := by decide +kernel
/-- the token after the spaces -/
theorem m_tok {M0 : Mem} (hM0 : MR M0.1) (t : TxD M0 f L) {s fu : Nat} (hs : s ≤ L) (hX : FD M0 M) (a1 : M.2 144 3 = nI s) (hsp : s < L → f s ≠ 32) : ∃ M9, m_X8_advances_L0 144 (fu + 1) M = some M9 ∧ FD M0 M9 ∧ DP M9 (if L ≤ s then 256 else if dgB (f s) then (if dgr f (L - (s + 1)) (s + 1) = s + 1 then f s else 257) else f s) s (if L ≤ s then s else if dgB (f s) then dgr f (L - (s + 1)) (s + 1) else s + 1) := by
  have l120 := t.2.1
  have t1 := TxD_FD hX t
  have hM := MR_FD hX hM0
  have hX2 : FD M0 (wI M 144 5 (nI s)) := FD_trans hX (FD_w _ _ (by omega))
  have t2 := TxD_FD hX2 t
  have hM2 := MR_FD hX2 hM0
  have x3 : (wI M 144 5 (nI s)).2 144 3 = nI s := by rw [wI2, if_pos rfl, if_neg (by decide)]; exact a1
  rw [m_X8_advances_L0]
  rw [a1]
  by_cases h : s < L
  · have hLs : ¬ L ≤ s := by omega
    obtain ⟨d1, d2⟩ := t.2.2 s h
    simp only [hLs, if_false]
    rw [m_letter1 hM t1 h, obs]
    have n32 : ¬ nI (f s) = 32 := by
      rw [show (32 : Int32) = nI 32 from rfl, qeq (by omega) (by omega)]; exact hsp h
    rw [if_neg n32, pIs, x3, m_letter1 hM2 t2 h, obs]
    have n0 : (0 : Int32) ≤ nI (f s) := by
      rw [show (0 : Int32) = nI 0 from rfl, qle (by omega) (by omega)]; omega
    rw [if_pos n0, in256 _ d1, obs]
    by_cases hd : dgB (f s) = true
    · have hdb := dg_bd hd
      rw [if_neg (by rw [bi_0]; simp [hd]), pIs]
      simp only [hd, if_true]
      -- the first digit
      have hX3 : FD M0 (wI (wI M 144 5 (nI s)) 144 6 0) := FD_trans hX2 (FD_w _ _ (by omega))
      have t3 := TxD_FD hX3 t
      have hM3 := MR_FD hX3 hM0
      have y3 : (wI (wI M 144 5 (nI s)) 144 6 0).2 144 3 = nI s := by rw [wI2, if_pos rfl, if_neg (by decide)]; exact x3
      have y6 : (wI (wI M 144 5 (nI s)) 144 6 0).2 144 6 = nI 0 := by rw [wI2, if_pos rfl, if_pos rfl]; rfl
      rw [FU1]
      unfold m_X8_advances_L71
      rw [y3, m_letter1 hM3 t3 h, obs, in256 _ d1, obs, if_neg (by rw [bi_0]; simp [hd])]
      have q48 : nI (10 * 0 + f s) - 48 = nI (10 * 0 + f s - 48) := qsub (b := 48) (by omega)
      simp (disch := omega) only [y6, qle2, qle, obs, qmu, nI_add, q48, pIs]
      rw [if_pos (by omega)]
      have z3 : (wI (wI (wI M 144 5 (nI s)) 144 6 0) 144 6 (nI (10 * 0 + f s - 48))).2 144 3 = nI s := by rw [wI2, if_pos rfl, if_neg (by decide)]; exact y3
      rw [z3, nI_1]
      obtain ⟨M9, g1, g2, g3, g4, g5, g6⟩ := m_L71 hM0 t h hd (L - (s + 1)) (s + 1) (10 * 0 + f s - 48) 999 (wI (wI (wI (wI M 144 5 (nI s)) 144 6 0) 144 6 (nI (10 * 0 + f s - 48))) 144 3 (nI (s + 1))) (by omega) (by omega) (by omega) (FD_trans hX3 (FD_trans (FD_w _ _ (by omega)) (FD_w _ _ (by omega)))) (by rw [wI2, if_pos rfl, if_pos rfl]) (by rw [wI2, if_pos rfl, if_neg (by decide), wI2, if_pos rfl, if_neg (by decide), wI2, if_pos rfl, if_neg (by decide), wI2, if_pos rfl, if_pos rfl]) (by rw [wI2, if_pos rfl, if_neg (by decide), wI2, if_pos rfl, if_pos rfl]) (by omega) (by omega)
      refine ⟨M9, g1, g2, g3, g4, ?_, fun hs => ?_, fun hdd => ?_⟩
      · rw [g5]
        by_cases he : dgr f (L - (s + 1)) (s + 1) = s + 1
        · rw [if_pos he, if_pos he]
          unfold md
          rw [if_neg (by omega), if_neg (by simp [sg_dg _ d1 hd]), if_pos hd]
        · rw [if_neg he, if_neg he]; rfl
      · by_cases he : dgr f (L - (s + 1)) (s + 1) = s + 1
        · rw [if_pos he, sg_dg _ d1 hd] at hs; cases hs
        · rw [if_neg he] at hs; exact absurd hs (by decide)
      · by_cases he : dgr f (L - (s + 1)) (s + 1) = s + 1
        · rw [if_pos he, g6 he]
        · rw [if_neg he] at hdd; exact absurd hdd (by decide)
    · rw [if_pos (by rw [bi_0]; simpa using hd)]
      simp only [hd, if_false, Bool.false_eq_true]
      rw [pIs, pIs, sg256 _ d1, obs]
      have go : ∀ x : Int32, x = md (f s) → ∃ M9, some (wI (wI (wI (wI M 144 5 (nI s)) 144 3 (nI (s + 1))) 144 6 (nI (f s))) 144 4 x) = some M9 ∧ FD M0 M9 ∧ DP M9 (f s) s (s + 1) := by
        intro x hx
        refine ⟨_, rfl, FD_trans hX2 (FD_trans (FD_w _ _ (by omega)) (FD_trans (FD_w _ _ (by omega)) (FD_w _ _ (by omega)))), ?_, ?_, ?_, fun _ => ?_, fun h => absurd h hd⟩
        · rw [wI2, if_pos rfl, if_neg (by decide), wI2, if_pos rfl, if_neg (by decide), wI2, if_pos rfl, if_pos rfl]
        · rw [wI2, if_pos rfl, if_neg (by decide), wI2, if_pos rfl, if_neg (by decide), wI2, if_pos rfl, if_neg (by decide), wI2, if_pos rfl, if_pos rfl]
        · rw [wI2, if_pos rfl, if_pos rfl]; exact hx
        · rw [wI2, if_pos rfl, if_neg (by decide), wI2, if_pos rfl, if_pos rfl]
      rw [nI_1]
      by_cases hsg : sgB (f s) = true
      · rw [if_neg (by rw [bi_0]; simp [hsg]), pIs]
        exact go 1 (by unfold md; rw [if_neg (by omega), if_pos hsg])
      · rw [if_pos (by rw [bi_0]; simpa using hsg), pIs]
        exact go 3 (by unfold md; rw [if_neg (by omega), if_neg hsg, if_neg hd])
  · have hLs : L ≤ s := by omega
    simp only [hLs, if_true]
    rw [m_letter0 t1 hLs (by omega), obs, if_neg (by decide), pIs, x3, m_letter0 t2 hLs (by omega), obs, if_neg (by decide), pIs]
    refine ⟨_, rfl, FD_trans hX2 (FD_w _ _ (by omega)), ?_, ?_, ?_, fun h => absurd h (by decide), fun h => absurd h (by decide)⟩
    · rw [wI2, if_pos rfl, if_neg (by decide)]; exact x3
    · rw [wI2, if_pos rfl, if_neg (by decide), wI2, if_pos rfl, if_pos rfl]
    · rw [wI2, if_pos rfl, if_pos rfl]; rfl
theorem m_advances (hM0 : MR M.1) (t : TxD M f L) {e : Nat} (he : e ≤ L) (a1 : M.2 144 3 = nI e) : ∃ M9, m_X8_advances M 144 = some M9 ∧ FD M M9 ∧ DP M9 (aK f L e) (aS f L e) (aE f L e) := by
  have l120 := t.2.1
  have key : ∀ (d e fu : Nat) (M2 : Mem), e + d = L → d < fu → FD M M2 → M2.2 144 3 = nI e → ∃ M9, m_X8_advances_L0 144 fu M2 = some M9 ∧ FD M M9 ∧ DP M9 (if L ≤ skp f d e then 256 else if dgB (f (skp f d e)) then (if dgr f (L - (skp f d e + 1)) (skp f d e + 1) = skp f d e + 1 then f (skp f d e) else 257) else f (skp f d e)) (skp f d e) (if L ≤ skp f d e then skp f d e else if dgB (f (skp f d e)) then dgr f (L - (skp f d e + 1)) (skp f d e + 1) else skp f d e + 1) := by
    intro d
    induction d with
    | zero =>
      intro e fu M2 hi hf hX a2
      obtain ⟨fu, rfl⟩ : ∃ f, fu = f + 1 := ⟨fu - 1, by omega⟩
      unfold skp
      exact m_tok hM0 t (by omega) hX a2 (fun h => by omega)
    | succ d ih =>
      intro e fu M2 hi hf hX a2
      obtain ⟨fu, rfl⟩ : ∃ f, fu = f + 1 := ⟨fu - 1, by omega⟩
      unfold skp
      by_cases h : f e = 32
      · have t1 := TxD_FD hX t
        have hM := MR_FD hX hM0
        rw [m_X8_advances_L0]
        rw [a2, m_letter1 hM t1 (by omega), obs, if_pos (by rw [h]; rfl), pIs, nI_1]
        simp only [h, if_true]
        exact ih (e + 1) fu _ (by omega) (by omega) (FD_trans hX (FD_w _ _ (by omega))) (by rw [wI2, if_pos rfl, if_pos rfl])
      · simp only [h, if_false]
        exact m_tok hM0 t (by omega) hX a2 (fun _ => h)
  exact key (L - e) e FU M (by omega) (by unfold FU; omega) (FD_refl M) a1
theorem aS_le {e : Nat} (he : e ≤ L) : e ≤ aS f L e ∧ aS f L e ≤ L := by
  have := skp_le f (L - e) e
  unfold aS
  omega
theorem aE_le {e : Nat} (he : e ≤ L) : aS f L e ≤ aE f L e ∧ aE f L e ≤ L := by
  have h1 := aS_le (f := f) he
  have h2 := dgr_le f (L - (aS f L e + 1)) (aS f L e + 1)
  unfold aE
  split
  · omega
  · split <;> omega
theorem aK_e {e : Nat} (he : e ≤ L) (h : aK f L e ≠ 256) : aS f L e < aE f L e := by
  have h2 := dgr_le f (L - (aS f L e + 1)) (aS f L e + 1)
  unfold aK at h
  unfold aE
  split
  · rename_i hl; rw [if_pos hl] at h; exact absurd rfl h
  · split <;> omega
theorem aK_lt {e : Nat} (he : e ≤ L) (hf : ∀ i, i < L → f i < 256) : aK f L e < 258 := by
  unfold aK
  split
  · omega
  · rename_i hl
    have := hf (aS f L e) (by omega)
    split
    · split <;> omega
    · omega
end READ2
