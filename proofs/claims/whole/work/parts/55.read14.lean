/-! ===== reading in step: a node ===== -/
section READ14
variable {C D : Mem} {f : Nat → Nat} {L k s e N R bb : Nat}
theorem ra_147z {M : Mem} : ra M 147 0 = some (M.2 147 0) := ra_147 (k := 0) (by omega)
theorem wa_147z {M : Mem} {v : Int32} : wa M 147 0 v = some (wI M 147 0 v) := wa_147 (k := 0) (by omega)
theorem L72_bad (hM : MR D.1) (hB : Bad D s) {fu : Nat} (x : Int32) : ∃ D1, m_X8_readsNode_L72 144 (fu + 1) D x = some D1 ∧ Bad D1 s ∧ GD D D1 := by
  refine ⟨wI D 147 0 (D.2 147 0 + 1), ?_, Bad_w hB (by decide), GD_w _ _ (by omega)⟩
  rw [m_X8_readsNode_L72, m_from0 hB, obs, if_pos rfl, rm9 hM, obs, ra_147z, obs, wa_147z, obs]
theorem L111_0 (hD : RdD D f L k s e) (hs : s ≤ 120) (hN : N < 9) {fu : Nat} : ∃ D1, m_X8_readsNode_L111 144 (fun z0 z1 => m_X8_readsNode_L72 144 (fu + 1) z0 z1) D (nI N) 0 144 = some D1 ∧ Bad D1 s ∧ GD D D1 := by
  have hB := Bad_7 D hs
  have hM1 : MR (wI D 144 7 (nI s)).1 := hD.2.1
  have hB2 : Bad (wI (wI D 144 7 (nI s)) 148 (9 + N) ((wI D 144 7 (nI s)).2 148 (9 + N))) s := Bad_w hB (by decide)
  obtain ⟨D1, a1, a2, a3⟩ := L72_bad (D := wI (wI D 144 7 (nI s)) 148 (9 + N) ((wI D 144 7 (nI s)).2 148 (9 + N))) hD.2.1 hB2 (fu := fu) (nI N)
  refine ⟨D1, ?_, a2, GD_trans (GD_7 _ _) (GD_trans (GD_w _ _ (by omega)) a3)⟩
  unfold m_X8_readsNode_L111
  simp (disch := omega) only [m_take0 hD, b2s, rm10 hM1, obs, qa1, ra_148, m_well0 hB, if_true, qor0, wa_148]
  exact a1
theorem nod_L {x1 x2 : Int32} (hN : N < 9) :
    ∀ (d w fuC fuD k s e : Nat) (C D : Mem), on4 w + d = 4 → w < 16 → d < fuC → d + 1 < fuD → RdC C f L k s e → RdD D f L k s e → D.2 148 (9 + N) = nI w → D.2 147 0 = nI N →
    (∃ C1 D1 k' s' e' w', w' < 16 ∧ FC C C1 ∧ m_X2_readNode_L98 2 fuC C x1 x2 (nI w) (nI (on4 w)) = m_X2_readNode_L146 2 C1 x1 x2 (nI w') ∧ m_X8_readsNode_L72 144 fuD D (nI N) = some D1 ∧ RdC C1 f L k' s' e' ∧ RdD D1 f L k' s' e' ∧ s ≤ s' ∧ D1.2 148 = (fun i => if i = 9 + N then nI w' else D.2 148 i) ∧ D1.2 147 = (fun i => if i = 0 then nI (N + 1) else D.2 147 i) ∧ GD D D1)
    ∨ (∃ C1 D1 s', FC C C1 ∧ m_X2_readNode_L98 2 fuC C x1 x2 (nI w) (nI (on4 w)) = some (0, C1) ∧ m_X8_readsNode_L72 144 fuD D (nI N) = some D1 ∧ C1.2 2 3 = nI s' ∧ Bad D1 s' ∧ GD D D1)
    ∨ (∃ C1 D1 k' s' e' w', FC C C1 ∧ m_X2_readNode_L98 2 fuC C x1 x2 (nI w) (nI (on4 w)) = m_X2_readNode_L146 2 C1 x1 x2 (nI w') ∧ RdC C1 f L k' s' e' ∧ k' ≠ 59 ∧ m_X8_readsNode_L72 144 fuD D (nI N) = some D1 ∧ Bad D1 s' ∧ GD D D1) := by
  have fin : ∀ (w fuD k s e : Nat) (D : Mem), k < 258 → RdD D f L k s e → D.2 148 (9 + N) = nI w → D.2 147 0 = nI N → ¬ (112 ≤ k ∧ k ≤ 115) → m_X8_readsNode_L72 144 (fuD + 1) D (nI N) = some (wI D 147 0 (nI (N + 1))) ∧ RdD (wI D 147 0 (nI (N + 1))) f L k s e ∧ (wI D 147 0 (nI (N + 1))).2 148 = (fun i => if i = 9 + N then nI w else D.2 148 i) ∧ (wI D 147 0 (nI (N + 1))).2 147 = (fun i => if i = 0 then nI (N + 1) else D.2 147 i) ∧ GD D (wI D 147 0 (nI (N + 1))) := by
    intro w fuD k s e D hk hD hv h0 hcl
    refine ⟨?_, RdD_w hD (by omega), ?_, ?_, GD_w _ _ (by omega)⟩
    · rw [m_X8_readsNode_L72, m_fromC hD hk, obs, if_pos (by rw [bi_0]; simp [hcl]), rm9 hD.2.1, obs, ra_147z, obs, wa_147z, obs, h0, nI_1]
    · funext i
      rw [wI2n (by decide)]
      by_cases hi : i = 9 + N
      · rw [if_pos hi, hi, hv]
      · rw [if_neg hi]
    · funext i
      rw [wI2, if_pos rfl]
  have go : ∀ (fuD k s e : Nat) (D : Mem) (w : Nat), k < 258 → RdD D f L k s e → D.2 148 (9 + N) = nI w → (112 ≤ k ∧ k ≤ 115) → m_X8_readsNode_L72 144 (fuD + 1) D (nI N) = if bt (nI w) (k - 112) then m_X8_readsNode_L111 144 (fun z0 z1 => m_X8_readsNode_L72 144 fuD z0 z1) D (nI N) 0 144 else m_X8_readsNode_L111 144 (fun z0 z1 => m_X8_readsNode_L72 144 fuD z0 z1) D (nI N) 1 144 := by
    intro fuD k s e D w hk hD hv hcl
    have hsg : sgB k = true := (sgr _ hk).2.1 hcl
    have q112d : D.2 144 6 - 112 = nI (k - 112) := by rw [hD.2.2.1.2.2.2.1 hsg]; exact qsub (b := 112) (by omega)
    rw [m_X8_readsNode_L72, m_fromC hD hk, obs, if_neg (by rw [bi_0]; simp [hcl]), rm10 hD.2.1, obs, show (9 : Int32) = nI 9 from rfl, nI_add, ra_148 (by omega), obs, hv, q112d, hb8 _ (by omega), obs]
    cases hb : bt (nI w) (k - 112) with
    | true => rw [if_neg (by rw [hb_0, hb]; simp), if_pos rfl]
    | false => rw [if_pos (by rw [hb_0, hb]), if_neg (by simp)]
  intro d
  induction d with
  | zero =>
    intro w fuC fuD k s e C D h4 hw hfC hfD hC hD hv h0
    obtain ⟨fuC, rfl⟩ : ∃ f, fuC = f + 1 := ⟨fuC - 1, by omega⟩
    obtain ⟨fuD, rfl⟩ : ∃ f, fuD = f + 1 := ⟨fuD - 1, by omega⟩
    obtain ⟨fuD, rfl⟩ : ∃ f, fuD = f + 1 := ⟨fuD - 1, by omega⟩
    have hk := hC.2.2.2.2.1
    have r1 : m_X2_readNode_L98 2 (fuC + 1) C x1 x2 (nI w) (nI (on4 w)) = m_X2_readNode_L146 2 C x1 x2 (nI w) := by
      rw [show on4 w = 4 by omega]
      unfold m_X2_readNode_L98
      rw [if_pos (by decide)]
    by_cases hcl : 112 ≤ k ∧ k ≤ 115
    · right; right
      obtain ⟨D1, s1, s2, s3⟩ := L111_0 hD (RdC_s hC) hN (fu := fuD)
      refine ⟨C, D1, k, s, e, w, FC_refl C, r1, hC, by omega, ?_, s2, s3⟩
      rw [go (fuD + 1) k s e D w hk hD hv hcl, if_pos (on4_4 w hw (by omega) (k - 112) (by omega))]
      exact s1
    · left
      obtain ⟨y1, y2, y3, y4, y5⟩ := fin w (fuD + 1) k s e D hk hD hv h0 hcl
      exact ⟨C, _, k, s, e, w, hw, FC_refl C, r1, y1, hC, y2, Nat.le_refl _, y3, y4, y5⟩
  | succ d ih =>
    intro w fuC fuD k s e C D h4 hw hfC hfD hC hD hv h0
    obtain ⟨fuC, rfl⟩ : ∃ f, fuC = f + 1 := ⟨fuC - 1, by omega⟩
    obtain ⟨fuD, rfl⟩ : ∃ f, fuD = f + 1 := ⟨fuD - 1, by omega⟩
    obtain ⟨fuD, rfl⟩ : ∃ f, fuD = f + 1 := ⟨fuD - 1, by omega⟩
    have hk := hC.2.2.2.2.1
    have n4 : ((4 : Int32) ≤ nI (on4 w)) = False := by
      simp (disch := omega) only [qle1, qle]
      simp; omega
    by_cases hcl : 112 ≤ k ∧ k ≤ 115
    · have q112 : C.2 2 4 - 112 = nI (k - 112) := by rw [c_tokv hC (by omega)]; exact qsub (b := 112) (by omega)
      have hsg : sgB k = true := (sgr _ hk).2.1 hcl
      have v6 : D.2 144 6 = nI k := hD.2.2.1.2.2.2.1 hsg
      obtain ⟨o1, o2, o3, o4, o5⟩ := or16 w hw (k - 112) (by omega)
      cases hdup : bt (nI w) (k - 112) with
      | true =>
        right; left
        obtain ⟨D1, s1, s2, s3⟩ := L111_0 hD (RdC_s hC) hN (fu := fuD)
        refine ⟨C, D1, s, FC_refl C, ?_, ?_, hC.2.1.2.1, s2, s3⟩
        · unfold m_X2_readNode_L98
          rw [if_neg (by simp [n4]), c_isClass hC, obs, if_neg (by rw [bi_0]; simp [hcl]), q112, if_neg (by rw [o4, hdup]; simp)]
        · rw [go (fuD + 1) k s e D w hk hD hv hcl, if_pos hdup]
          exact s1
      | false =>
        obtain ⟨C1, a1, a2, a3⟩ := c_adv hC
        obtain ⟨D1, g1, g2, g3⟩ := m_take1 hD hC.2.2.1
        rw [v6] at g1
        have k112 : nI k - 112 = nI (k - 112) := qsub (b := 112) (by omega)
        have v1 : D1.2 148 (9 + N) = nI w := by rw [g2.2.1 148 (by decide)]; exact hv
        have r1 : m_X2_readNode_L98 2 (fuC + 1) C x1 x2 (nI w) (nI (on4 w)) = m_X2_readNode_L98 2 fuC C1 x1 x2 (nI (w ||| 2 ^ (k - 112))) (nI (on4 (w ||| 2 ^ (k - 112)))) := by
          rw [m_X2_readNode_L98]
          rw [if_neg (by simp [n4]), c_isClass hC, obs, if_neg (by rw [bi_0]; simp [hcl]), q112, if_pos (o4.mpr hdup), a1, obs, o1, nI_1, o3 hdup]
        have r2 : m_X8_readsNode_L72 144 (fuD + 1 + 1) D (nI N) = m_X8_readsNode_L72 144 (fuD + 1) (wI D1 148 (9 + N) (nI (w ||| 2 ^ (k - 112)))) (nI N) := by
          rw [go (fuD + 1) k s e D w hk hD hv hcl, if_neg (by simp [hdup])]
          unfold m_X8_readsNode_L111
          simp (disch := omega) only [g1, b2s, rm10 g3.2.1, obs, qa1, ra_148, v1, m_well1 g3, k112, o1, wa_148]
          rw [if_neg (by decide)]
        have hp := prog hC (by omega)
        have key := ih (w ||| 2 ^ (k - 112)) fuC (fuD + 1) _ _ _ C1 (wI D1 148 (9 + N) (nI (w ||| 2 ^ (k - 112)))) (by rw [o3 hdup]; omega) o2 (by omega) (by omega) a3 (RdD_w g3 (by omega)) (by rw [wI2, if_pos rfl, if_pos rfl]) (by rw [wI2n (by decide), g2.2.1 147 (by decide)]; exact h0)
        have GD1 : GD D (wI D1 148 (9 + N) (nI (w ||| 2 ^ (k - 112)))) := GD_trans (FD_GD g2) (GD_w _ _ (by omega))
        rw [r1, r2]
        rcases key with ⟨C3, D3, k', s', e', w', z1, z2, z3, z4, z5, z6, z7, z8, z9, z10⟩ | ⟨C3, D3, s', z1, z2, z3, z4, z5, z6⟩ | ⟨C3, D3, k', s', e', w', z1, z2, z3, z4, z5, z6, z7⟩
        · left
          refine ⟨C3, D3, k', s', e', w', z1, FC_trans a2 z2, z3, z4, z5, z6, by omega, ?_, ?_, GD_trans GD1 z10⟩
          · rw [z8]
            funext i
            by_cases hi : i = 9 + N
            · rw [if_pos hi, if_pos hi]
            · rw [if_neg hi, if_neg hi, wI2, if_pos rfl, if_neg hi, g2.2.1 148 (by decide)]
          · rw [z9, wI2n (by decide), g2.2.1 147 (by decide)]
        · right; left
          exact ⟨C3, D3, s', FC_trans a2 z1, z2, z3, z4, z5, GD_trans GD1 z6⟩
        · right; right
          exact ⟨C3, D3, k', s', e', w', FC_trans a2 z1, z2, z3, z4, z5, z6, GD_trans GD1 z7⟩
    · left
      obtain ⟨y1, y2, y3, y4, y5⟩ := fin w (fuD + 1) k s e D hk hD hv h0 hcl
      refine ⟨C, _, k, s, e, w, hw, FC_refl C, ?_, y1, hC, y2, Nat.le_refl _, y3, y4, y5⟩
      rw [m_X2_readNode_L98]
      rw [if_neg (by simp [n4]), c_isClass hC, obs, if_pos (by rw [bi_0]; simp [hcl])]
end READ14
