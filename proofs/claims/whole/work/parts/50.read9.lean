/-! ===== reading in step: all declarations ===== -/
section READ9
variable {C D : Mem} {f : Nat → Nat} {L k s e : Nat}
theorem L137_go (hD : RdD D f L k s e) (hk : k < 258) {r : Nat} (k0 : Mem → Option Mem) : m_X8_readsDeclarations_L137 144 (nI r) k0 D = if k = 59 ∨ k = 256 then some D else k0 D := by
  have t59 : m_X8_isThis D 144 59 = some (bi (decide (k = 59))) := m_this1 hD hk (c := 59) (by omega) (by decide)
  obtain ⟨-, -, -, z⟩ := s258 k hk
  unfold m_X8_readsDeclarations_L137
  rw [m_well1 hD, obs, if_neg (by decide), t59, obs]
  by_cases h59 : k = 59
  · rw [if_neg (by rw [bi_0]; simp [h59]), if_pos (Or.inl h59)]
  · rw [if_pos (by rw [bi_0]; simp [h59])]
    have z2 : (D.2 144 4 = 0) = (k = 256) := by rw [hD.2.2.1.2.2.1]; exact propext z
    simp only [z2]
    by_cases h256 : k = 256
    · rw [if_pos h256, if_pos (Or.inr h256)]
    · rw [if_neg h256, if_neg (by omega)]
theorem dcl_L {q r : Nat} (hqk : QK q) (hr : r < 8) (hq3 : 3 < q) :
    ∀ (d dm fuC fuD k s e : Nat) (C D : Mem), on4 dm + d = 4 → dm < 16 → d < fuC → d < fuD → RdC C f L k s e → RdD D f L k s e → URf C.1 q → DcP C q (D.2 147) r dm →
    (∃ C1 D1 k' s' e' dm', HC q C C1 ∧ m_X2_readDeclarations_L12 2 q fuC C (nI (on4 dm)) = some (1, C1) ∧ m_X8_readsDeclarations_L137 144 (nI r) (fun z0 => m_X8_readsDeclarations_L0 144 (nI r) fuD z0) D = some D1 ∧ RdC C1 f L k' s' e' ∧ RdD D1 f L k' s' e' ∧ s ≤ s' ∧ DcP C1 q (D1.2 147) r dm' ∧ AgD r (D.2 147) (D1.2 147) ∧ D1.2 148 = D.2 148 ∧ GD D D1)
    ∨ (∃ C1 D1 s', HC q C C1 ∧ m_X2_readDeclarations_L12 2 q fuC C (nI (on4 dm)) = some (0, C1) ∧ m_X8_readsDeclarations_L137 144 (nI r) (fun z0 => m_X8_readsDeclarations_L0 144 (nI r) fuD z0) D = some D1 ∧ C1.2 2 3 = nI s' ∧ Bad D1 s' ∧ GD D D1)
    ∨ (∃ C1 D1 k' s' e', HC q C C1 ∧ m_X2_readDeclarations_L12 2 q fuC C (nI (on4 dm)) = some (1, C1) ∧ RdC C1 f L k' s' e' ∧ k' ≠ 59 ∧ m_X8_readsDeclarations_L137 144 (nI r) (fun z0 => m_X8_readsDeclarations_L0 144 (nI r) fuD z0) D = some D1 ∧ Bad D1 s' ∧ GD D D1) := by
  intro d
  induction d with
  | zero =>
    intro dm fuC fuD k s e C D h4 hdm hfC hfD hC hD hq hP
    obtain ⟨fuC, rfl⟩ : ∃ f, fuC = f + 1 := ⟨fuC - 1, by omega⟩
    obtain ⟨fuD, rfl⟩ : ∃ f, fuD = f + 1 := ⟨fuD - 1, by omega⟩
    have hk := hC.2.2.2.2.1
    have hs := RdC_s hC
    have r1 : m_X2_readDeclarations_L12 2 q (fuC + 1) C (nI (on4 dm)) = some (1, C) := by
      unfold m_X2_readDeclarations_L12
      rw [show on4 dm = 4 by omega, if_pos (by decide)]
    by_cases he : k = 59 ∨ k = 256
    · left
      refine ⟨C, D, k, s, e, dm, HC_refl q C, r1, ?_, hC, hD, Nat.le_refl _, hP, AgD_refl _ _, rfl, GD_refl D⟩
      rw [L137_go hD hk, if_pos he]
    · right; right
      refine ⟨C, wI D 144 7 (nI s), k, s, e, HC_refl q C, r1, hC, fun h => he (Or.inl h), ?_, Bad_7 D hs, GD_7 _ _⟩
      rw [L137_go hD hk, if_neg he]
      refine L0_here hD hk hs hr hP.2.1 ?_
      by_cases hp : 119 ≤ k ∧ k ≤ 122
      · exact Or.inr (on4_4 dm hdm (by omega) (k - 119) (by omega))
      · exact Or.inl hp
  | succ d ih =>
    intro dm fuC fuD k s e C D h4 hdm hfC hfD hC hD hq hP
    obtain ⟨fuC, rfl⟩ : ∃ f, fuC = f + 1 := ⟨fuC - 1, by omega⟩
    obtain ⟨fuD, rfl⟩ : ∃ f, fuD = f + 1 := ⟨fuD - 1, by omega⟩
    have hk := hC.2.2.2.2.1
    have hs := RdC_s hC
    have n4 : ((4 : Int32) ≤ nI (on4 dm)) = False := by
      simp (disch := omega) only [qle1, qle]
      simp; omega
    have r0 : ¬ (119 ≤ k ∧ k ≤ 122) → m_X2_readDeclarations_L12 2 q (fuC + 1) C (nI (on4 dm)) = some (1, C) := by
      intro hp
      unfold m_X2_readDeclarations_L12
      rw [if_neg (by simp [n4]), c_isProperty hC, obs, if_pos (by rw [bi_0]; simp [hp])]
    have r1 : (119 ≤ k ∧ k ≤ 122) → m_X2_readDeclarations_L12 2 q (fuC + 1) C (nI (on4 dm)) = b2 (m_X2_readDeclaration C 2 q) fun r12 M12 => if r12 = 0 then some ((0 : Int32), M12) else m_X2_readDeclarations_L12 2 q fuC M12 (nI (on4 dm + 1)) := by
      intro hp
      conv => lhs; unfold m_X2_readDeclarations_L12
      rw [if_neg (by simp [n4]), c_isProperty hC, obs, if_neg (by rw [bi_0]; simp [hp]), nI_1]
    by_cases he : k = 59 ∨ k = 256
    · left
      refine ⟨C, D, k, s, e, dm, HC_refl q C, r0 (by omega), ?_, hC, hD, Nat.le_refl _, hP, AgD_refl _ _, rfl, GD_refl D⟩
      rw [L137_go hD hk, if_pos he]
    · rw [L137_go hD hk, if_neg he]
      by_cases hp : 119 ≤ k ∧ k ≤ 122
      · cases hnew : bt (nI dm) (k - 119) with
        | true =>
          right; left
          refine ⟨C, wI D 144 7 (nI s), s, HC_refl q C, ?_, L0_here hD hk hs hr hP.2.1 (Or.inr hnew), hC.2.1.2.1, Bad_7 D hs, GD_7 _ _⟩
          rw [r1 hp, c_here hC hr hP (Or.inr hnew), b2s, if_pos rfl]
        | false =>
          obtain ⟨o1, o2, o3, -, -⟩ := or16 dm hdm (k - 119) (by omega)
          have hon := o3 hnew
          rcases decl1 hqk hr hq3 hC hD hq hP hp hnew with ⟨C1, D1, k', s', e', x1, x2, x3, x4, x5, x6, x7, x8, x9, x10⟩ | ⟨C1, D1, s', x1, x2, x3, x4, x5, x6⟩
          · have hq1 : URf C1.1 q := by rw [x1.1]; exact hq
            rw [r1 hp, x2, b2s, if_neg (by decide), x3 fuD, ← hon]
            rcases ih (dm ||| 2 ^ (k - 119)) fuC fuD k' s' e' C1 D1 (by omega) o2 (by omega) (by omega) x4 x5 hq1 x7 with ⟨C4, D4, k4, s4, e4, dm4, y1, y2, y3, y4, y5, y6, y7, y8, y9, y10⟩ | ⟨C4, D4, s4, y1, y2, y3, y4, y5, y6⟩ | ⟨C4, D4, k4, s4, e4, y1, y2, y3, y4, y5, y6, y7⟩
            · left
              exact ⟨C4, D4, k4, s4, e4, dm4, HC_trans x1 y1, y2, y3, y4, y5, by omega, y7, AgD_trans x8 y8, by rw [y9, x9], GD_trans x10 y10⟩
            · right; left
              exact ⟨C4, D4, s4, HC_trans x1 y1, y2, y3, y4, y5, GD_trans x10 y6⟩
            · right; right
              exact ⟨C4, D4, k4, s4, e4, HC_trans x1 y1, y2, y3, y4, y5, y6, GD_trans x10 y7⟩
          · right; left
            refine ⟨C1, D1, s', x1, ?_, x3 fuD, x4, x5, x6⟩
            rw [r1 hp, x2, b2s, if_pos rfl]
      · right; right
        exact ⟨C, wI D 144 7 (nI s), k, s, e, HC_refl q C, r0 hp, hC, fun h => he (Or.inl h), L0_here hD hk hs hr hP.2.1 (Or.inl hp), Bad_7 D hs, GD_7 _ _⟩
theorem dcl_all {q r : Nat} (hqk : QK q) (hr : r < 8) (hq3 : 3 < q) (hC : RdC C f L k s e) (hD : RdD D f L k s e) (hq : URf C.1 q) (hP : DcP C q (D.2 147) r 0) :
    (∃ C1 D1 k' s' e' dm', HC q C C1 ∧ m_X2_readDeclarations C 2 q = some (1, C1) ∧ m_X8_readsDeclarations D 144 (nI r) = some D1 ∧ RdC C1 f L k' s' e' ∧ RdD D1 f L k' s' e' ∧ s ≤ s' ∧ DcP C1 q (D1.2 147) r dm' ∧ AgD r (D.2 147) (D1.2 147) ∧ D1.2 148 = D.2 148 ∧ GD D D1)
    ∨ (∃ C1 D1 s', HC q C C1 ∧ m_X2_readDeclarations C 2 q = some (0, C1) ∧ m_X8_readsDeclarations D 144 (nI r) = some D1 ∧ C1.2 2 3 = nI s' ∧ Bad D1 s' ∧ GD D D1)
    ∨ (∃ C1 D1 k' s' e', HC q C C1 ∧ m_X2_readDeclarations C 2 q = some (1, C1) ∧ RdC C1 f L k' s' e' ∧ k' ≠ 59 ∧ m_X8_readsDeclarations D 144 (nI r) = some D1 ∧ Bad D1 s' ∧ GD D D1) := by
  have hk := hC.2.2.2.2.1
  have hs := RdC_s hC
  unfold m_X2_readDeclarations m_X8_readsDeclarations
  rw [show m_X8_readsDeclarations_L0 144 (nI r) FU D = m_X8_readsDeclarations_L0 144 (nI r) (999 + 1) D from rfl]
  by_cases hp : 119 ≤ k ∧ k ≤ 122
  · have hnew : bt (nI 0) (k - 119) = false := b_0 _
    obtain ⟨o1, o2, o3, -, -⟩ := or16 0 (by omega) (k - 119) (by omega)
    have hon := o3 hnew
    rcases decl1 hqk hr hq3 hC hD hq hP hp hnew with ⟨C1, D1, k', s', e', x1, x2, x3, x4, x5, x6, x7, x8, x9, x10⟩ | ⟨C1, D1, s', x1, x2, x3, x4, x5, x6⟩
    · have hq1 : URf C1.1 q := by rw [x1.1]; exact hq
      have h1 : nI (on4 (0 ||| 2 ^ (k - 119))) = 1 := by rw [hon]; rfl
      have key := dcl_L hqk hr hq3 3 (0 ||| 2 ^ (k - 119)) FU 999 k' s' e' C1 D1 (by rw [hon]; rfl) o2 (by unfold FU; omega) (by omega) x4 x5 hq1 x7
      rw [h1] at key
      rw [x2, b2s, if_neg (by decide), x3 999]
      rcases key with ⟨C4, D4, k4, s4, e4, dm4, y1, y2, y3, y4, y5, y6, y7, y8, y9, y10⟩ | ⟨C4, D4, s4, y1, y2, y3, y4, y5, y6⟩ | ⟨C4, D4, k4, s4, e4, y1, y2, y3, y4, y5, y6, y7⟩
      · left
        exact ⟨C4, D4, k4, s4, e4, dm4, HC_trans x1 y1, y2, y3, y4, y5, by omega, y7, AgD_trans x8 y8, by rw [y9, x9], GD_trans x10 y10⟩
      · right; left
        exact ⟨C4, D4, s4, HC_trans x1 y1, y2, y3, y4, y5, GD_trans x10 y6⟩
      · right; right
        exact ⟨C4, D4, k4, s4, e4, HC_trans x1 y1, y2, y3, y4, y5, y6, GD_trans x10 y7⟩
    · right; left
      refine ⟨C1, D1, s', x1, ?_, x3 999, x4, x5, x6⟩
      rw [x2, b2s, if_pos rfl]
  · right; left
    refine ⟨C, wI D 144 7 (nI s), s, HC_refl q C, ?_, L0_here hD hk hs hr hP.2.1 (Or.inl hp), hC.2.1.2.1, Bad_7 D hs, GD_7 _ _⟩
    rw [c_here hC hr hP (Or.inl hp), b2s, if_pos rfl]
end READ9
