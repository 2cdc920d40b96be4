/-! ===== reading in step: the selector's loop ===== -/
def AgS (r : Nat) (T T2 : Nat → Int32) : Prop := ∀ i, (i < 20 + 3 * r ∨ 22 + 3 * r < i) → (i < 44 + 3 * r ∨ 46 + 3 * r < i) → (i < 68 + 3 * r ∨ 70 + 3 * r < i) → T2 i = T i
theorem AgS_refl (r : Nat) (T : Nat → Int32) : AgS r T T := fun _ _ _ _ => rfl
theorem AgS_trans {r : Nat} {T T1 T2 : Nat → Int32} (h : AgS r T T1) (g : AgS r T1 T2) : AgS r T T2 := fun i a b c => by rw [g i a b c, h i a b c]
theorem AgS_T {r : Nat} {T T1 : Nat → Int32} (h : AgS r T T1) : AgT r T T1 := fun i hi => h i hi.2.1 hi.2.2.1 hi.2.2.2.1
section READ6
variable {C D : Mem} {f : Nat → Nat} {L k s e : Nat}
theorem c_isJoint (h : RdC C f L k s e) : m_X2_isJoint C 2 = some (bi (decide (k = 62 ∨ k = 47))) := by
  have c62 : (C.2 2 4 = 62) = (k = 62) := c_tok h (c := 62) (by omega)
  have c47 : (C.2 2 4 = 47) = (k = 47) := c_tok h (c := 47) (by omega)
  unfold m_X2_isJoint
  simp only [c62, c47]
  by_cases h1 : k = 62
  · simp [h1, bi]
  · by_cases h2 : k = 47
    · simp [h2, bi]
    · simp [h1, h2, bi]
theorem sel_L {q r : Nat} (hqk : QK q) (hr : r < 8) (hq3 : 3 < q) :
    ∀ (d c fuC fuD k s e : Nat) (C D : Mem), c + d = 3 → 1 ≤ c → d < fuC → d + 1 < fuD → RdC C f L k s e → RdD D f L k s e → URf C.1 q → SelP C q (D.2 147) r c → FrT (D.2 147) r c →
    (∃ C1 D1 c' k' s' e', 1 ≤ c' ∧ c' ≤ 3 ∧ HC q C C1 ∧ m_X2_readSelector_L13 2 q fuC C (nI c) = some (1, C1) ∧ m_X8_readsRule_L46 144 fuD D (nI r) (nI c) = m_rest D1 (nI r) (nI c') ∧ RdC C1 f L k' s' e' ∧ RdD D1 f L k' s' e' ∧ s ≤ s' ∧ SelP C1 q (D1.2 147) r c' ∧ FrT (D1.2 147) r c' ∧ AgS r (D.2 147) (D1.2 147) ∧ D1.2 148 = D.2 148 ∧ GD D D1)
    ∨ (∃ C1 D1 s', HC q C C1 ∧ m_X2_readSelector_L13 2 q fuC C (nI c) = some (0, C1) ∧ m_X8_readsRule_L46 144 fuD D (nI r) (nI c) = some D1 ∧ C1.2 2 3 = nI s' ∧ Bad D1 s' ∧ GD D D1)
    ∨ (∃ C1 D1 k' s' e', HC q C C1 ∧ m_X2_readSelector_L13 2 q fuC C (nI c) = some (1, C1) ∧ RdC C1 f L k' s' e' ∧ k' ≠ 58 ∧ m_X8_readsRule_L46 144 fuD D (nI r) (nI c) = some D1 ∧ Bad D1 s' ∧ GD D D1) := by
  intro d
  induction d with
  | zero =>
    intro c fuC fuD k s e C D hcd hc1 hfC hfD hC hD hq hS hF
    obtain ⟨fuC, rfl⟩ : ∃ f, fuC = f + 1 := ⟨fuC - 1, by omega⟩
    obtain ⟨fuD, rfl⟩ : ∃ f, fuD = f + 1 := ⟨fuD - 1, by omega⟩
    obtain ⟨fuD, rfl⟩ : ∃ f, fuD = f + 1 := ⟨fuD - 1, by omega⟩
    obtain rfl : c = 3 := by omega
    have hk := hC.2.2.2.2.1
    have t62 : m_X8_isThis D 144 62 = some (bi (decide (k = 62))) := m_this1 hD hk (c := 62) (by omega) (by decide)
    have t47 : m_X8_isThis D 144 47 = some (bi (decide (k = 47))) := m_this1 hD hk (c := 47) (by omega) (by decide)
    have r1 : m_X2_readSelector_L13 2 q (fuC + 1) C (nI 3) = some (1, C) := by
      unfold m_X2_readSelector_L13
      rw [if_pos (by decide)]
    have stop : ∃ D1, m_X8_readsRule_L75 144 (fun z0 z1 z2 => m_X8_readsRule_L46 144 (fuD + 1) z0 z1 z2) D (nI r) (nI 3) 0 144 = some D1 ∧ Bad D1 s ∧ GD D D1 := by
      have hB := Bad_7 D (RdC_s hC)
      obtain ⟨D1, a1, a2, a3⟩ := L46_bad (D := wI D 144 7 (nI s)) hD.2.1 hB hr (nI 3) (fu := fuD)
      refine ⟨D1, ?_, a2, GD_trans (GD_7 _ _) a3⟩
      unfold m_X8_readsRule_L75
      rw [m_take0 hD, b2s, m_well0 hB, obs, if_pos rfl]
      exact a1
    obtain ⟨D1, s1, s2, s3⟩ := stop
    by_cases h62 : k = 62
    · right; right
      refine ⟨C, D1, k, s, e, HC_refl q C, r1, hC, by omega, ?_, s2, s3⟩
      rw [L46_eq, t62, obs, if_neg (by rw [bi_0]; simp [h62]), if_pos (by decide)]
      exact s1
    · by_cases h47 : k = 47
      · right; right
        refine ⟨C, D1, k, s, e, HC_refl q C, r1, hC, by omega, ?_, s2, s3⟩
        rw [L46_eq, t62, obs, if_pos (by rw [bi_0]; simp [h62]), t47, obs, if_neg (by rw [bi_0]; simp [h47]), if_pos (by decide)]
        exact s1
      · left
        refine ⟨C, D, 3, k, s, e, by omega, by omega, HC_refl q C, r1, ?_, hC, hD, Nat.le_refl _, hS, hF, AgS_refl _ _, rfl, GD_refl D⟩
        rw [L46_eq, t62, obs, if_pos (by rw [bi_0]; simp [h62]), t47, obs, if_pos (by rw [bi_0]; simp [h47])]
  | succ d ih =>
    intro c fuC fuD k s e C D hcd hc1 hfC hfD hC hD hq hS hF
    obtain ⟨fuC, rfl⟩ : ∃ f, fuC = f + 1 := ⟨fuC - 1, by omega⟩
    obtain ⟨fuD, rfl⟩ : ∃ f, fuD = f + 1 := ⟨fuD - 1, by omega⟩
    have hk := hC.2.2.2.2.1
    have t62 : m_X8_isThis D 144 62 = some (bi (decide (k = 62))) := m_this1 hD hk (c := 62) (by omega) (by decide)
    have t47 : m_X8_isThis D 144 47 = some (bi (decide (k = 47))) := m_this1 hD hk (c := 47) (by omega) (by decide)
    have c62 : (C.2 2 4 = 62) = (k = 62) := c_tok hC (c := 62) (by omega)
    have n3 : ((3 : Int32) ≤ nI c) = False := by
      simp (disch := omega) only [qle1, qle]
      simp; omega
    by_cases hj : k = 62 ∨ k = 47
    · have hsg : sgB k = true := by rcases hj with rfl | rfl <;> decide
      obtain ⟨C1, a1, a2, a3⟩ := c_adv hC
      obtain ⟨D1, g1, g2, g3⟩ := m_take1 hD hC.2.2.1
      have v6 : D.2 144 6 = nI k := hD.2.2.1.2.2.2.1 hsg
      have hD1 : RdD (wI D1 147 (68 + 3 * r + c) (nI k)) f L (aK f L e) (aS f L e) (aE f L e) := RdD_w g3 (by omega)
      have hq1 : URf C1.1 q := by rw [a2.1]; exact hq
      obtain ⟨fr1, fr2⟩ := hF c (by omega) (by omega)
      have key := cmp_all (ch := decide (k = 62)) (q := q) (c := c) (cell := 3 * r + c) hqk (by omega) (by omega) a3 hD1 (by rw [wI2, if_pos rfl, if_neg (by omega), g2.2.1 147 (by omega)]; exact fr1) (by rw [wI2, if_pos rfl, if_neg (by omega), g2.2.1 147 (by omega)]; exact fr2) hq1 (by rw [a2.2.1 q (by omega)]; exact hS.2.1) hq3
      have hbig : ∀ X, m_X8_readsCompound (wI D1 147 (68 + 3 * r + c) (nI k)) 144 (nI (3 * r + c)) = some X → m_X8_readsRule_L46 144 (fuD + 1) D (nI r) (nI c) = m_X8_readsRule_L46 144 fuD X (nI r) (nI (c + 1)) := by
        intro X hX
        have r75 : m_X8_readsRule_L75 144 (fun z0 z1 z2 => m_X8_readsRule_L46 144 fuD z0 z1 z2) D (nI r) (nI c) 1 144 = m_X8_readsRule_L46 144 fuD X (nI r) (nI (c + 1)) := by
          unfold m_X8_readsRule_L75
          rw [g1, b2s, m_well1 g3, obs, if_neg (by decide), rm9 g3.2.1, obs, v6]
          simp (disch := omega) only [qmu, qa1, nI_add, wa_147, obs, hX, nI_1]
        rw [L46_eq, t62, obs]
        by_cases h62 : k = 62
        · rw [if_neg (by rw [bi_0]; simp [h62]), if_neg (by simp [n3]), r75]
        · have h47 : k = 47 := hj.resolve_left h62
          rw [if_pos (by rw [bi_0]; simp [h62]), t47, obs, if_neg (by rw [bi_0]; simp [h47]), if_neg (by simp [n3]), r75]
      have hcls : ∀ rr X, m_X2_readCompound C1 2 q (bi (decide (k = 62))) = some (rr, X) → m_X2_readSelector_L13 2 q (fuC + 1) C (nI c) = if rr = 0 then some (0, X) else m_X2_readSelector_L13 2 q fuC X (nI (c + 1)) := by
        intro rr X hX
        conv => lhs; unfold m_X2_readSelector_L13
        rw [if_neg (by simp [n3]), c_isJoint hC, obs, if_neg (by rw [bi_0]; simp [hj])]
        simp only [c62]
        by_cases h62 : k = 62
        · have hX2 : m_X2_readCompound C1 2 q 1 = some (rr, X) := by
            have : bi (decide (k = 62)) = 1 := by simp [h62, bi]
            rw [this] at hX; exact hX
          rw [if_pos h62]
          unfold m_X2_readSelector_L39
          rw [a1, obs, hX2, b2s, nI_1]
        · have hX2 : m_X2_readCompound C1 2 q 0 = some (rr, X) := by
            have : bi (decide (k = 62)) = 0 := by simp [h62, bi]
            rw [this] at hX; exact hX
          rw [if_neg h62]
          unfold m_X2_readSelector_L39
          rw [a1, obs, hX2, b2s, nI_1]
      have hp1 := hC.2.2.2.2.2 (by omega)
      have hp2 := aS_le (f := f) hC.2.2.1
      rcases key with ⟨C3, D3, k', s', e', tg, w', x1, x2, x3, x4, x5, x6, x7, x8, x9, x10⟩ | ⟨C3, D3, s', x1, x2, x3, x4, x5, x6⟩
      · have T3 : ∀ i, D3.2 147 i = if i = 20 + (3 * r + c) then tg else if i = 44 + (3 * r + c) then nI w' else if i = 68 + 3 * r + c then nI k else D.2 147 i := by
          intro i
          rw [x8]
          simp only
          rw [wI2, if_pos rfl, g2.2.1 147 (by omega)]
        have hS3 : SelP (addC C3 q c tg w' (decide (k = 62))) q (D3.2 147) r (c + 1) := by
          refine SelP_add hq3 hS (FC_trans a2 x2) x1 ?_ ?_ ?_ (fun _ => ?_) (fun i hi => ⟨?_, ?_, ?_⟩)
          · rw [T3, if_neg (by omega), if_neg (by omega), if_neg (by omega)]
          · rw [T3, if_pos rfl]
          · rw [T3, if_neg (by omega), if_pos rfl]
          · have e62 : (nI k = 62) = (k = 62) := qeq (b := 62) (by omega) (by omega)
            rw [T3, if_neg (by omega), if_neg (by omega), if_pos rfl]
            simp only [e62]
          · rw [T3, if_neg (by omega), if_neg (by omega), if_neg (by omega)]
          · rw [T3, if_neg (by omega), if_neg (by omega), if_neg (by omega)]
          · rw [T3, if_neg (by omega), if_neg (by omega), if_neg (by omega)]
        have hF3 : FrT (D3.2 147) r (c + 1) := by
          intro i h1 h2
          rw [T3, if_neg (by omega), if_neg (by omega), if_neg (by omega), T3, if_neg (by omega), if_neg (by omega), if_neg (by omega)]
          exact hF i (by omega) h2
        have hq4 : URf (addC C3 q c tg w' (decide (k = 62))).1 q := by
          show URf C3.1 q
          rw [x2.1]; exact hq1
        have hHC : HC q C (addC C3 q c tg w' (decide (k = 62))) := HC_trans (FC_HC (FC_trans a2 x2)) (HC_addC hq3)
        have hAg : AgS r (D.2 147) (D3.2 147) := by
          intro i h1 h2 h3
          rw [T3, if_neg (by omega), if_neg (by omega), if_neg (by omega)]
        have hGD : GD D D3 := GD_trans (FD_GD g2) (GD_trans (GD_w _ _ (by omega)) x10)
        have h148 : D3.2 148 = D.2 148 := by rw [x9, wI2n (by decide), g2.2.1 148 (by omega)]
        rw [hbig D3 x4, hcls 1 _ x3, if_neg (by decide)]
        rcases ih (c + 1) fuC fuD k' s' e' _ D3 (by omega) (by omega) (by omega) (by omega) (RdC_addC hq3 x5) x6 hq4 hS3 hF3 with ⟨C4, D4, c4, k4, s4, e4, y1, y2, y3, y4, y5, y6, y7, y8, y9, y10, y11, y12, y13⟩ | ⟨C4, D4, s4, y1, y2, y3, y4, y5, y6⟩ | ⟨C4, D4, k4, s4, e4, y1, y2, y3, y4, y5, y6, y7⟩
        · left
          exact ⟨C4, D4, c4, k4, s4, e4, y1, y2, HC_trans hHC y3, y4, y5, y6, y7, by omega, y9, y10, AgS_trans hAg y11, by rw [y12, h148], GD_trans hGD y13⟩
        · right; left
          exact ⟨C4, D4, s4, HC_trans hHC y1, y2, y3, y4, y5, GD_trans hGD y6⟩
        · right; right
          exact ⟨C4, D4, k4, s4, e4, HC_trans hHC y1, y2, y3, y4, y5, y6, GD_trans hGD y7⟩
      · right; left
        obtain ⟨fuD, rfl⟩ : ∃ f, fuD = f + 1 := ⟨fuD - 1, by omega⟩
        have hM3 : MR D3.1 := by rw [x6.1]; exact hD1.2.1
        obtain ⟨D4, b1, bb2, b3⟩ := L46_bad (D := D3) hM3 x5 hr (nI (c + 1)) (fu := fuD)
        refine ⟨C3, D4, s', FC_HC (FC_trans a2 x1), ?_, ?_, x4, bb2, GD_trans (FD_GD g2) (GD_trans (GD_w _ _ (by omega)) (GD_trans x6 b3))⟩
        · rw [hcls 0 _ x2, if_pos rfl]
        · rw [hbig D3 x3]; exact b1
    · left
      refine ⟨C, D, c, k, s, e, hc1, by omega, HC_refl q C, ?_, ?_, hC, hD, Nat.le_refl _, hS, hF, AgS_refl _ _, rfl, GD_refl D⟩
      · unfold m_X2_readSelector_L13
        rw [if_neg (by simp [n3]), c_isJoint hC, obs, if_pos (by rw [bi_0]; simp; omega)]
      · rw [L46_eq, t62, obs, if_pos (by rw [bi_0]; simp; omega), t47, obs, if_pos (by rw [bi_0]; simp; omega)]
end READ6
