/-! ===== reading in step: all of it ===== -/
section READ17
variable {C D : Mem} {f : Nat → Nat} {L k s e N R bb : Nat}
theorem L25_bad (hB : Bad D s) {fu : Nat} (x : Int32) : m_X8_page_L25 144 (fu + 1) D x = some (-10 - nI s, D) := by
  rw [m_X8_page_L25, m_well0 hB, obs, if_pos rfl]
  unfold m_X8_page_L137
  rw [m_well0 hB, obs, if_pos rfl, hB.1]
theorem L85_0 (hD : RdD D f L k s e) (hs : s ≤ 120) {fu : Nat} (x : Int32) : m_X8_page_L85 144 (fun z0 z1 => m_X8_page_L25 144 (fu + 1) z0 z1) D x 0 144 = some (-10 - nI s, wI D 144 7 (nI s)) := by
  have hB := Bad_7 D hs
  unfold m_X8_page_L85
  rw [m_take0 hD, b2s, m_well0 hB, obs, if_pos rfl]
  unfold m_X8_page_L109
  rw [m_well0 hB, obs, if_pos rfl, m_this0 hB, obs, m_takeB hB, b2s]
  exact L25_bad hB _
theorem L85_N {D0 D1 : Mem} (h1 : m_X8_takes D 144 1 = some (nI 78, D0)) (h2 : D0.2 144 7 = -1) (h3 : mNo D0 = some D1) (k25 : Mem → Int32 → Option (Int32 × Mem)) (x : Int32) : m_X8_page_L85 144 k25 D x 1 144 = k25 D1 (x + 1) := by
  have w : m_X8_isWell D0 144 = some 1 := by unfold m_X8_isWell; rw [h2]; rfl
  unfold m_X8_page_L85
  rw [h1, b2s, w, obs, if_neg (by decide), if_pos (by decide)]
  unfold mNo at h3
  cases hr : m_X8_readsNode D0 144 with
  | none => rw [hr] at h3; cases h3
  | some M13 =>
    rw [hr, obs] at h3
    rw [obs]
    unfold mEnd at h3
    cases ht : m_X8_isThis M13 144 59 with
    | none => rw [ht] at h3; cases h3
    | some r =>
      rw [ht, obs] at h3
      rw [obs]
      cases hk : m_X8_takes M13 144 r with
      | none => rw [hk] at h3; cases h3
      | some q =>
        obtain ⟨q1, q2⟩ := q
        rw [hk, b2s] at h3
        cases h3
        rw [b2s]
theorem L85_R {D0 D1 : Mem} (h1 : m_X8_takes D 144 1 = some (nI 82, D0)) (h2 : D0.2 144 7 = -1) (h3 : mRu D0 = some D1) (k25 : Mem → Int32 → Option (Int32 × Mem)) (x : Int32) : m_X8_page_L85 144 k25 D x 1 144 = k25 D1 (x + 1) := by
  have w : m_X8_isWell D0 144 = some 1 := by unfold m_X8_isWell; rw [h2]; rfl
  unfold m_X8_page_L85
  rw [h1, b2s, w, obs, if_neg (by decide), if_neg (by decide)]
  unfold m_X8_page_L109
  rw [w, obs, if_neg (by decide)]
  rw [mRu_end] at h3
  cases hr : m_X8_readsRule D0 144 with
  | none => rw [hr] at h3; cases h3
  | some M13 =>
    rw [hr, obs] at h3
    rw [obs]
    unfold mEnd at h3
    cases ht : m_X8_isThis M13 144 59 with
    | none => rw [ht] at h3; cases h3
    | some r =>
      rw [ht, obs] at h3
      rw [obs]
      cases hk : m_X8_takes M13 144 r with
      | none => rw [hk] at h3; cases h3
      | some q =>
        obtain ⟨q1, q2⟩ := q
        rw [hk, b2s] at h3
        cases h3
        rw [b2s]
theorem GC_25 {C1 : Mem} (h : GC bb C C1) (h25 : C.1 2 5 = some bb) : C1.1 2 5 = some bb := by rw [h.1]; exact h25
theorem pg_L (hs : SB bb) {xl : Int32} :
    ∀ (d x fuC fuD k s e N R : Nat) (C D : Mem), L < s + d → d < fuC → d + 1 < fuD → C.1 2 5 = some bb → RdC C f L k s e → RdD D f L k s e → DR C D bb N R → x ≤ s →
    (∃ C1 D1 N' R' x' k' s' e', m_X2_readAll_L33 2 1 xl fuC C (nI x) = some (nI x', C1) ∧ m_X8_page_L25 144 fuD D (nI x) = m_X8_page_L137 144 D1 (nI x') ∧ x' ≤ 120 ∧ RdD D1 f L k' s' e' ∧ DR C1 D1 bb N' R' ∧ GC bb C C1 ∧ GD D D1)
    ∨ (∃ C1 D1 s', s' ≤ 120 ∧ m_X2_readAll_L33 2 1 xl fuC C (nI x) = some (-9, C1) ∧ m_X8_page_L25 144 fuD D (nI x) = some (-10 - nI s', D1) ∧ C1.2 2 3 = nI s' ∧ GC bb C C1 ∧ GD D D1) := by
  intro d
  induction d with
  | zero =>
    intro x fuC fuD k s e N R C D hd hfC hfD h25 hC hD hDR hx
    have := hC.2.2.1
    have := hC.2.2.2.1
    omega
  | succ d ih =>
    intro x fuC fuD k s e N R C D hd hfC hfD h25 hC hD hDR hx
    obtain ⟨fuC, rfl⟩ : ∃ f, fuC = f + 1 := ⟨fuC - 1, by omega⟩
    obtain ⟨fuD, rfl⟩ : ∃ f, fuD = f + 1 := ⟨fuD - 1, by omega⟩
    obtain ⟨fuD, rfl⟩ : ∃ f, fuD = f + 1 := ⟨fuD - 1, by omega⟩
    have hk := hC.2.2.2.2.1
    have hsl := RdC_s hC
    have l120 := hC.1.2.2.1
    have hsL : s ≤ L := by have := hC.2.2.1; have := hC.2.2.2.1; omega
    obtain ⟨kS1, kS2⟩ := kS hs
    have hW := hDR.2.1
    have h9 := hW.2.1
    have h8 := hW.2.2.2.1
    have cL : C.2 2 1 = nI L := hC.1.2.1
    have cE1 : (C.2 2 4 = -1) = (k = 256) := by rw [hC.2.1.2.2, tk_end hk]
    have c78 : (C.2 2 4 = 78) = (k = 78) := c_tok hC (c := 78) (by omega)
    have c82 : (C.2 2 4 = 82) = (k = 82) := c_tok hC (c := 82) (by omega)
    have t78 : m_X8_isThis D 144 78 = some (bi (decide (k = 78))) := m_this1 hD hk (c := 78) (by omega) (by decide)
    have t82 : m_X8_isThis D 144 82 = some (bi (decide (k = 82))) := m_this1 hD hk (c := 82) (by omega) (by decide)
    have z0 : (D.2 144 4 = 0) = (k = 256) := by rw [hD.2.2.1.2.2.1]; exact propext (s258 k hk).2.2.2
    have cl : m_X2_readAll_L33 2 1 xl (fuC + 1) C (nI x) = if k = 256 then some (nI x, C) else if k = 78 then (b2 (m_X2_readNode C 2) fun r11 M11 => if r11 = 0 then some ((-9 : Int32), M11) else m_X2_readAll_L33 2 1 xl fuC M11 (nI (x + 1))) else (b2 (m_X2_readRule C 2) fun r12 M12 => if r12 = 0 then some ((-9 : Int32), M12) else m_X2_readAll_L33 2 1 xl fuC M12 (nI (x + 1))) := by
      rw [m_X2_readAll_L33]
      simp (disch := omega) only [cL, qlt, cE1, c78, nI_1]
      rw [if_neg (by omega)]
    have rc25 : rf 5 C 2 5 = some bb := rf_eq h25 kS1.1
    by_cases h256 : k = 256
    · left
      refine ⟨C, D, N, R, x, k, s, e, ?_, ?_, by omega, hD, hDR, GC_refl _ _, GD_refl D⟩
      · rw [cl, if_pos h256]
      · rw [m_X8_page_L25, m_well1 hD, obs, if_neg (by decide)]
        simp only [z0, h256, if_true]
    · rw [cl, if_neg h256]
      have ml : m_X8_page_L25 144 (fuD + 1 + 1) D (nI x) = if k = 78 ∧ N < 9 ∨ k = 82 ∧ R < 8 then m_X8_page_L85 144 (fun z0 z1 => m_X8_page_L25 144 (fuD + 1) z0 z1) D (nI x) 1 144 else m_X8_page_L85 144 (fun z0 z1 => m_X8_page_L25 144 (fuD + 1) z0 z1) D (nI x) 0 144 := by
        have n9 : (nI N < 9) = (N < 9) := qlt (b := 9) (by omega) (by omega)
        have n8 : ((8 : Int32) ≤ nI R) = (8 ≤ R) := qle (a := 8) (by omega) (by omega)
        rw [m_X8_page_L25, m_well1 hD, obs, if_neg (by decide)]
        simp only [z0, h256, if_false, t78, obs]
        unfold m_X8_page_L60
        simp only [t82, obs, rm9 hD.2.1, ra_147z, ra_147o, hW.1, hW.2.2.1, n9, n8]
        by_cases h78 : k = 78
        · rw [if_neg (by rw [bi_0]; simp [h78])]
          by_cases hN9 : N < 9
          · rw [if_pos hN9, if_pos (Or.inl ⟨h78, hN9⟩)]
          · rw [if_neg hN9, if_pos (by rw [bi_0]; simp; omega), if_neg (by omega)]
        · rw [if_pos (by rw [bi_0]; simp [h78])]
          by_cases h82 : k = 82
          · rw [if_neg (by rw [bi_0]; simp [h82])]
            by_cases hR8 : 8 ≤ R
            · rw [if_pos hR8, if_neg (by omega)]
            · rw [if_neg hR8, if_pos (Or.inr ⟨h82, by omega⟩)]
          · rw [if_pos (by rw [bi_0]; simp [h82]), if_neg (by omega)]
      rw [ml]
      have here : ¬ (k = 78 ∧ N < 9 ∨ k = 82 ∧ R < 8) → (if k = 78 then (b2 (m_X2_readNode C 2) fun r11 M11 => if r11 = 0 then some ((-9 : Int32), M11) else m_X2_readAll_L33 2 1 xl fuC M11 (nI (x + 1))) else (b2 (m_X2_readRule C 2) fun r12 M12 => if r12 = 0 then some ((-9 : Int32), M12) else m_X2_readAll_L33 2 1 xl fuC M12 (nI (x + 1)))) = some (-9, C) := by
        intro hno
        by_cases h78 : k = 78
        · have hN9 : ¬ N < 9 := fun h => hno (Or.inl ⟨h78, h⟩)
          have n9 : (nI N < 9) = (N < 9) := qlt (b := 9) (by omega) (by omega)
          rw [if_pos h78]
          unfold m_X2_readNode
          simp only [c78, h78, if_true, rc25, obs, hDR.2.2.1.1, n9, hN9, if_false, b2s]
        · rw [if_neg h78]
          unfold m_X2_readRule
          by_cases h82 : k = 82
          · have hR8 : ¬ R < 8 := fun h => hno (Or.inr ⟨h82, h⟩)
            simp +decide (disch := omega) only [c82, h82, ↓reduceIte, rc25, obs, hDR.2.2.1.2.1, wL8, wi0n, b2s]
          · simp only [c82, h82, if_false, b2s, if_true]
      by_cases hyes : k = 78 ∧ N < 9 ∨ k = 82 ∧ R < 8
      · rw [if_pos hyes]
        by_cases h78 : k = 78
        · have hN9 : N < 9 := by omega
          rw [if_pos h78]
          obtain ⟨D0, n1, n2, n3⟩ := node_all hs h25 hC hD h78 hDR hN9
          rcases n3 with ⟨C1, D1, k', s', e', x1, x2, x3, x4, x5, x6, x7, x8⟩ | ⟨C1, D1, s', x1, x2, x3, x4, x5, x6⟩
          · rw [x1, b2s, if_neg (by decide), L85_N n1 n2 x2, nI_1]
            rcases ih (x + 1) fuC (fuD + 1) k' s' e' (N + 1) R C1 D1 (by omega) (by omega) (by omega) (GC_25 x7 h25) x3 x4 x6 (by omega) with ⟨C2, D2, N2, R2, x', k2, s2, e2, y1, y2, y3, y4, y5, y6, y7⟩ | ⟨C2, D2, s2, y0, y1, y2, y3, y4, y5⟩
            · left
              exact ⟨C2, D2, N2, R2, x', k2, s2, e2, y1, y2, y3, y4, y5, GC_trans x7 y6, GD_trans x8 y7⟩
            · right
              exact ⟨C2, D2, s2, y0, y1, y2, y3, GC_trans x7 y4, GD_trans x8 y5⟩
          · right
            refine ⟨C1, D1, s', x4.2, ?_, ?_, x3, x5, x6⟩
            · rw [x1, b2s, if_pos rfl]
            · rw [L85_N n1 n2 x2]
              exact L25_bad x4 _
        · have hR8 : R < 8 := by omega
          have h82 : k = 82 := by omega
          rw [if_neg h78]
          rcases rule_all hs h25 hC hD h82 hDR hR8 with ⟨C1, D0, D1, k', s', e', x1, n1, n2, x2, x3, x4, x5, x6, x7, x8⟩ | ⟨C1, D0, D1, s', x1, n1, n2, x2, x3, x4, x5, x6⟩
          · rw [x1, b2s, if_neg (by decide), L85_R n1 n2 x2, nI_1]
            rcases ih (x + 1) fuC (fuD + 1) k' s' e' N (R + 1) C1 D1 (by omega) (by omega) (by omega) (GC_25 x7 h25) x3 x4 x6 (by omega) with ⟨C2, D2, N2, R2, x', k2, s2, e2, y1, y2, y3, y4, y5, y6, y7⟩ | ⟨C2, D2, s2, y0, y1, y2, y3, y4, y5⟩
            · left
              exact ⟨C2, D2, N2, R2, x', k2, s2, e2, y1, y2, y3, y4, y5, GC_trans x7 y6, GD_trans x8 y7⟩
            · right
              exact ⟨C2, D2, s2, y0, y1, y2, y3, GC_trans x7 y4, GD_trans x8 y5⟩
          · right
            refine ⟨C1, D1, s', x4.2, ?_, ?_, x3, x5, x6⟩
            · rw [x1, b2s, if_pos rfl]
            · rw [L85_R n1 n2 x2]
              exact L25_bad x4 _
      · right
        rw [if_neg hyes, here hyes, L85_0 hD hsl]
        exact ⟨C, wI D 144 7 (nI s), s, hsl, rfl, rfl, hC.2.1.2.1, GC_refl _ _, GD_7 _ _⟩
end READ17
