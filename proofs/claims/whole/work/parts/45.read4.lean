/-! ===== reading in step: a compound ===== -/
def QK (q : Nat) : Prop := (kd (q + 1) = 10 ∧ kd (q + 2) = 10 ∧ kd (q + 3) = 12 ∧ kd (q + 4) = 10 ∧ kd (q + 5) = 10) ∧ (ln (q + 1) = 3 ∧ ln (q + 2) = 3 ∧ ln (q + 3) = 3 ∧ ln (q + 4) = 4 ∧ ln (q + 5) = 4)
def sp1 (tg : Int32) (w : Nat) : Nat := 10 * on4 w + if tg = -9 then 0 else 1
def addC (M : Mem) (q c : Nat) (tg : Int32) (w : Nat) (ch : Bool) : Mem := wI (wI (wI (wI (wI M (q + 1) c tg) (q + 2) c (nI w)) (q + 3) c (bi ch)) q 1 (nI (c + 1))) q 2 (M.2 q 2 + nI (sp1 tg w))
theorem nar_bi (b : Bool) : vp_nar .boolean (bi b) = bi b := by cases b <;> decide
theorem or16 : ∀ w, w < 16 → ∀ j, j < 4 → nI w ||| ((1 : Int32) <<< (nI j &&& 31)) = nI (w ||| 2 ^ j) ∧ w ||| 2 ^ j < 16 ∧ (bt (nI w) j = false → on4 (w ||| 2 ^ j) = on4 w + 1) ∧ ((nI w &&& ((1 : Int32) <<< (nI j &&& 31)) = 0) ↔ bt (nI w) j = false) ∧ ¬ ((1 : Int32) <<< (nI j &&& 31)) = 0 := by decide +kernel
theorem on4_4 : ∀ w, w < 16 → on4 w = 4 → ∀ j, j < 4 → bt (nI w) j = true := by decide +kernel
section READ4
variable {C D : Mem} {f : Nat → Nat} {L k s e : Nat}
theorem c_addC {q c w : Nat} {tg : Int32} {ch : Bool} (hq : URf C.1 q) (hk : QK q) (h1 : C.2 q 1 = nI c) (hc : c < 3) (hw : w < 16) : m_X3_addCompound C q tg (nI w) (bi ch) = some (addC C q c tg w ch) := by
  obtain ⟨⟨k1, k2, k3, -⟩, ⟨l1, l2, l3, -⟩⟩ := hk
  have hq1 : URf (wI C (q + 1) c tg).1 q := hq
  have hq2 : URf (wI (wI C (q + 1) c tg) (q + 2) c (nI w)).1 q := hq
  have y1 : (wI C (q + 1) c tg).2 q 1 = nI c := by rw [wI2n (by omega)]; exact h1
  have y2 : (wI (wI C (q + 1) c tg) (q + 2) c (nI w)).2 q 1 = nI c := by rw [wI2n (by omega), wI2n (by omega)]; exact h1
  have y3 : (wI (wI (wI C (q + 1) c tg) (q + 2) c (nI w)) (q + 3) c (bi ch)).2 q 1 = nI c := by rw [wI2n (by omega), wI2n (by omega), wI2n (by omega)]; exact h1
  have y4 : (wI (wI (wI (wI C (q + 1) c tg) (q + 2) c (nI w)) (q + 3) c (bi ch)) q 1 (nI (c + 1))).2 q 2 = C.2 q 2 := by rw [wI2, if_pos rfl, if_neg (by decide), wI2n (by omega), wI2n (by omega), wI2n (by omega)]
  have w3 : ∀ x, m_X7_within x 3 = m_X7_within x (nI 3) := fun _ => rfl
  unfold m_X3_addCompound
  simp +decide (disch := omega) only [h1, w3, wi1, obs, ↓reduceIte, rf_eq hq.1 k1, wa_eq (a := q + 1) (k := c) (by rw [l1]; omega) (by omega), rf_eq hq1.2.1 k2, y1, wa_eq (a := q + 2) (k := c) (by rw [l2]; omega) (by omega), rf_eq hq2.2.2.1 k3, y2, nar_bi, wa_eq (a := q + 3) (k := c) (by rw [l3]; omega) (by omega), pIs, y3, nI_1, bitc16 w hw, y4, qmu]
  unfold addC sp1
  by_cases h9 : tg = -9
  · rw [if_pos h9, if_pos h9, show (0 : Int32) = nI 0 from rfl, nI_add]
  · rw [if_neg h9, if_neg h9]
theorem cmp_L {q c cell : Nat} {tg : Int32} {ch : Bool} (hqk : QK q) (hc : c < 3) (hcell : cell < 24) :
    ∀ (d w fuC fuD k s e : Nat) (C D : Mem) (fl : Int32), on4 w + d = 4 → w < 16 → d < fuC → d + 1 < fuD → RdC C f L k s e → RdD D f L k s e → D.2 147 (44 + cell) = nI w → URf C.1 q → C.2 q 1 = nI c → q > 3 → (fl ≠ 0 ∨ k = 46) →
    (∃ C1 D1 k' s' e' w', w' < 16 ∧ FC C C1 ∧ m_X2_readCompound_L42 2 q (bi ch) fuC C tg (nI w) (nI (on4 w)) = some (1, addC C1 q c tg w' ch) ∧ m_X8_readsCompound_L30 144 (nI cell) fuD D fl = some D1 ∧ RdC C1 f L k' s' e' ∧ RdD D1 f L k' s' e' ∧ s ≤ s' ∧ (k = 46 → s < s') ∧ D1.2 147 = (fun i => if i = 44 + cell then nI w' else D.2 147 i) ∧ D1.2 148 = D.2 148 ∧ GD D D1)
    ∨ (∃ C1 D1 s', FC C C1 ∧ m_X2_readCompound_L42 2 q (bi ch) fuC C tg (nI w) (nI (on4 w)) = some (0, C1) ∧ m_X8_readsCompound_L30 144 (nI cell) fuD D fl = some D1 ∧ C1.2 2 3 = nI s' ∧ Bad D1 s' ∧ GD D D1) := by
  intro d
  induction d with
  | zero =>
    intro w fuC fuD k s e C D fl h4 hw hfC hfD hC hD hv hq h1 hq3 hfl
    obtain ⟨fuC, rfl⟩ : ∃ f, fuC = f + 1 := ⟨fuC - 1, by omega⟩
    obtain ⟨fuD, rfl⟩ : ∃ f, fuD = f + 1 := ⟨fuD - 1, by omega⟩
    obtain ⟨fuD, rfl⟩ : ∃ f, fuD = f + 1 := ⟨fuD - 1, by omega⟩
    have hk := hC.2.2.2.2.1
    have t46 : m_X8_isThis D 144 46 = some (bi (decide (k = 46))) := m_this1 hD hk (c := 46) (by omega) (by decide)
    have c46 : (C.2 2 4 = 46) = (k = 46) := c_tok hC (c := 46) (by omega)
    have hx5 : (4 < on4 w) = False := by simp; omega
    by_cases h46 : k = 46
    · right
      obtain ⟨C1, a1, a2, a3⟩ := c_adv hC
      obtain ⟨D1, g1, g2, g3⟩ := m_take1 hD hC.2.2.1
      have hk1 := a3.2.2.2.2.1
      have hs1 := RdC_s a3
      have v1 : D1.2 147 (44 + cell) = nI w := by rw [g2.2.1 147 (by omega)]; exact hv
      -- both stop here
      have stop : m_X8_readsCompound_L84 144 (nI cell) (fun z0 z1 => m_X8_readsCompound_L30 144 (nI cell) (fuD + 1) z0 z1) D1 0 144 = some (wI (wI D1 144 7 (nI (aS f L e))) 147 (44 + cell) (nI w)) := by
        have hM1 : MR (wI D1 144 7 (nI (aS f L e))).1 := g3.2.1
        have hB := Bad_7 D1 hs1
        have hB2 : Bad (wI (wI D1 144 7 (nI (aS f L e))) 147 (44 + cell) (nI w)) (aS f L e) := Bad_w hB (by omega)
        have v2 : (wI D1 144 7 (nI (aS f L e))).2 147 (44 + cell) = nI w := by rw [wI2n (by omega)]; exact v1
        unfold m_X8_readsCompound_L84
        simp (disch := omega) only [m_take0 g3, b2s, rm9 hM1, obs, qa1, ra_147, v2, m_well0 hB, if_true, qor0, wa_147]
        unfold m_X8_readsCompound_L30
        rw [m_this0 hB2, obs, if_pos rfl, if_neg (by decide)]
      refine ⟨C1, wI (wI D1 144 7 (nI (aS f L e))) 147 (44 + cell) (nI w), aS f L e, a2, ?_, ?_, a3.2.1.2.1, Bad_w (Bad_7 D1 hs1) (by omega), GD_trans (FD_GD g2) (GD_trans (GD_7 _ _) (GD_w _ _ (by omega)))⟩
      · unfold m_X2_readCompound_L42
        simp (disch := omega) only [qlt1, qlt, hx5, if_false, c46, h46, if_true, a1, obs, c_isClass a3, bi_0, decide_eq_false_iff_not]
        by_cases hcl : 112 ≤ aK f L e ∧ aK f L e ≤ 115
        · rw [if_neg (by simp [hcl])]
          have q112 : C1.2 2 4 - 112 = nI (aK f L e - 112) := by rw [c_tokv a3 (by omega)]; exact qsub (b := 112) (by omega)
          obtain ⟨o1, o2, o3, o4, o5⟩ := or16 w hw (aK f L e - 112) (by omega)
          have hdup := on4_4 w hw (by omega) (aK f L e - 112) (by omega)
          unfold m_X2_readCompound_L81
          rw [q112, if_neg o5, if_neg (by rw [o4, hdup]; simp)]
        · rw [if_pos hcl]
          unfold m_X2_readCompound_L81
          rw [if_pos rfl]
      · rw [m_X8_readsCompound_L30, t46, obs, if_neg (by rw [bi_0]; simp [h46]), g1, b2s, m_fromC g3 hk1, obs]
        by_cases hcl : 112 ≤ aK f L e ∧ aK f L e ≤ 115
        · rw [if_neg (by rw [bi_0]; simp [hcl])]
          have hsg : sgB (aK f L e) = true := (sgr _ hk1).2.1 hcl
          have q112 : D1.2 144 6 - 112 = nI (aK f L e - 112) := by rw [g3.2.2.1.2.2.2.1 hsg]; exact qsub (b := 112) (by omega)
          have hdup := on4_4 w hw (by omega) (aK f L e - 112) (by omega)
          rw [rm9 g3.2.1, obs, show (44 : Int32) = nI 44 from rfl, nI_add, ra_147 (by omega), obs, v1, q112, hb8 _ (by omega), obs, if_neg (by rw [hb_0, hdup]; simp)]
          exact stop
        · rw [if_pos (by rw [bi_0]; simp [hcl])]
          exact stop
    · left
      refine ⟨C, D, k, s, e, w, hw, FC_refl C, ?_, ?_, hC, hD, Nat.le_refl _, fun h => absurd h h46, ?_, rfl, GD_refl D⟩
      · unfold m_X2_readCompound_L42
        simp (disch := omega) only [qlt1, qlt, hx5, if_false, c46, h46, c_addC hq hqk h1 hc hw, obs]
      · rw [m_X8_readsCompound_L30, t46, obs, if_pos (by rw [bi_0]; simp [h46]), if_neg (by rcases hfl with h | h; exact h; exact absurd h h46)]
      · funext i
        by_cases hi : i = 44 + cell
        · rw [if_pos hi, hi, hv]
        · rw [if_neg hi]
  | succ d ih =>
    intro w fuC fuD k s e C D fl h4 hw hfC hfD hC hD hv hq h1 hq3 hfl
    obtain ⟨fuC, rfl⟩ : ∃ f, fuC = f + 1 := ⟨fuC - 1, by omega⟩
    obtain ⟨fuD, rfl⟩ : ∃ f, fuD = f + 1 := ⟨fuD - 1, by omega⟩
    obtain ⟨fuD, rfl⟩ : ∃ f, fuD = f + 1 := ⟨fuD - 1, by omega⟩
    have hk := hC.2.2.2.2.1
    have t46 : m_X8_isThis D 144 46 = some (bi (decide (k = 46))) := m_this1 hD hk (c := 46) (by omega) (by decide)
    have c46 : (C.2 2 4 = 46) = (k = 46) := c_tok hC (c := 46) (by omega)
    have hx5 : (4 < on4 w) = False := by simp; omega
    by_cases h46 : k = 46
    · obtain ⟨C1, a1, a2, a3⟩ := c_adv hC
      obtain ⟨D1, g1, g2, g3⟩ := m_take1 hD hC.2.2.1
      have hk1 := a3.2.2.2.2.1
      have hs1 := RdC_s a3
      have v1 : D1.2 147 (44 + cell) = nI w := by rw [g2.2.1 147 (by omega)]; exact hv
      have stop : m_X8_readsCompound_L84 144 (nI cell) (fun z0 z1 => m_X8_readsCompound_L30 144 (nI cell) (fuD + 1) z0 z1) D1 0 144 = some (wI (wI D1 144 7 (nI (aS f L e))) 147 (44 + cell) (nI w)) := by
        have hM1 : MR (wI D1 144 7 (nI (aS f L e))).1 := g3.2.1
        have hB := Bad_7 D1 hs1
        have hB2 : Bad (wI (wI D1 144 7 (nI (aS f L e))) 147 (44 + cell) (nI w)) (aS f L e) := Bad_w hB (by omega)
        have v2 : (wI D1 144 7 (nI (aS f L e))).2 147 (44 + cell) = nI w := by rw [wI2n (by omega)]; exact v1
        unfold m_X8_readsCompound_L84
        simp (disch := omega) only [m_take0 g3, b2s, rm9 hM1, obs, qa1, ra_147, v2, m_well0 hB, if_true, qor0, wa_147]
        unfold m_X8_readsCompound_L30
        rw [m_this0 hB2, obs, if_pos rfl, if_neg (by decide)]
      by_cases hcl : 112 ≤ aK f L e ∧ aK f L e ≤ 115
      · have q112 : C1.2 2 4 - 112 = nI (aK f L e - 112) := by rw [c_tokv a3 (by omega)]; exact qsub (b := 112) (by omega)
        have hsg : sgB (aK f L e) = true := (sgr _ hk1).2.1 hcl
        have q112d : D1.2 144 6 - 112 = nI (aK f L e - 112) := by rw [g3.2.2.1.2.2.2.1 hsg]; exact qsub (b := 112) (by omega)
        obtain ⟨o1, o2, o3, o4, o5⟩ := or16 w hw (aK f L e - 112) (by omega)
        cases hdup : bt (nI w) (aK f L e - 112) with
        | true =>
          right
          refine ⟨C1, wI (wI D1 144 7 (nI (aS f L e))) 147 (44 + cell) (nI w), aS f L e, a2, ?_, ?_, a3.2.1.2.1, Bad_w (Bad_7 D1 hs1) (by omega), GD_trans (FD_GD g2) (GD_trans (GD_7 _ _) (GD_w _ _ (by omega)))⟩
          · unfold m_X2_readCompound_L42
            simp (disch := omega) only [qlt1, qlt, hx5, if_false, c46, h46, if_true, a1, obs, c_isClass a3, bi_0, decide_eq_false_iff_not]
            rw [if_neg (by simp [hcl])]
            unfold m_X2_readCompound_L81
            rw [q112, if_neg o5, if_neg (by rw [o4, hdup]; simp)]
          · rw [m_X8_readsCompound_L30, t46, obs, if_neg (by rw [bi_0]; simp [h46]), g1, b2s, m_fromC g3 hk1, obs, if_neg (by rw [bi_0]; simp [hcl]), rm9 g3.2.1, obs, show (44 : Int32) = nI 44 from rfl, nI_add, ra_147 (by omega), obs, v1, q112d, hb8 _ (by omega), obs, if_neg (by rw [hb_0, hdup]; simp)]
            exact stop
        | false =>
          obtain ⟨C2, b1, bb2, b3⟩ := c_adv a3
          obtain ⟨D2, j1, j2, j3⟩ := m_take1 g3 a3.2.2.1
          have hM2 : MR D2.1 := j3.2.1
          have v2 : D2.2 147 (44 + cell) = nI w := by rw [j2.2.1 147 (by omega)]; exact v1
          have hq2 : URf C2.1 q := by rw [bb2.1, a2.1]; exact hq
          have h12 : C2.2 q 1 = nI c := by rw [bb2.2.1 q (by omega), a2.2.1 q (by omega)]; exact h1
          have key := ih (w ||| 2 ^ (aK f L e - 112)) fuC (fuD + 1) _ _ _ C2 (wI D2 147 (44 + cell) (nI (w ||| 2 ^ (aK f L e - 112)))) 1 (by rw [o3 hdup]; omega) o2 (by omega) (by omega) b3 (RdD_w j3 (by omega)) (by rw [wI2, if_pos rfl, if_pos rfl]) hq2 h12 hq3 (Or.inl (by decide))
          have r1 : m_X2_readCompound_L42 2 q (bi ch) (fuC + 1) C tg (nI w) (nI (on4 w)) = m_X2_readCompound_L42 2 q (bi ch) fuC C2 tg (nI (w ||| 2 ^ (aK f L e - 112))) (nI (on4 (w ||| 2 ^ (aK f L e - 112)))) := by
            conv => lhs; unfold m_X2_readCompound_L42
            simp (disch := omega) only [qlt1, qlt, hx5, if_false, c46, h46, if_true, a1, obs, c_isClass a3, bi_0, decide_eq_false_iff_not]
            rw [if_neg (by simp [hcl])]
            unfold m_X2_readCompound_L81
            rw [q112, if_neg o5, if_pos (o4.mpr hdup), b1, obs, o1, nI_1, o3 hdup]
          have r2 : m_X8_readsCompound_L30 144 (nI cell) (fuD + 1 + 1) D fl = m_X8_readsCompound_L30 144 (nI cell) (fuD + 1) (wI D2 147 (44 + cell) (nI (w ||| 2 ^ (aK f L e - 112)))) 1 := by
            rw [m_X8_readsCompound_L30, t46, obs, if_neg (by rw [bi_0]; simp [h46]), g1, b2s, m_fromC g3 hk1, obs, if_neg (by rw [bi_0]; simp [hcl]), rm9 g3.2.1, obs, show (44 : Int32) = nI 44 from rfl, nI_add, ra_147 (by omega), obs, v1, q112d, hb8 _ (by omega), obs, if_pos (by rw [hb_0, hdup])]
            unfold m_X8_readsCompound_L84
            simp (disch := omega) only [j1, b2s, rm9 hM2, obs, qa1, ra_147, v2, m_well1 j3, q112d, o1, wa_147]
            rw [if_neg (by decide)]
          have hse : s < aS f L (aE f L e) := by
            have p1 := hC.2.2.2.2.2 (by omega)
            have p2 := aS_le (f := f) hC.2.2.1
            have p3 := a3.2.2.2.1
            have p4 := aS_le (f := f) a3.2.2.1
            omega
          rw [r1, r2]
          rcases key with ⟨C3, D3, k', s', e', w', x1, x2, x3, x4, x5, x6, x7, x8, x9, x10, x11⟩ | ⟨C3, D3, s', x1, x2, x3, x4, x5, x6⟩
          · left
            refine ⟨C3, D3, k', s', e', w', x1, FC_trans a2 (FC_trans bb2 x2), x3, x4, x5, x6, by omega, fun _ => by omega, ?_, ?_, GD_trans (FD_GD g2) (GD_trans (FD_GD j2) (GD_trans (GD_w _ _ (by omega)) x11))⟩
            · rw [x9]
              funext i
              by_cases hi : i = 44 + cell
              · rw [if_pos hi, if_pos hi]
              · rw [if_neg hi, if_neg hi, wI2, if_pos rfl, if_neg hi, j2.2.1 147 (by omega), g2.2.1 147 (by omega)]
            · rw [x10, wI2n (by decide), j2.2.1 148 (by omega), g2.2.1 148 (by omega)]
          · right
            exact ⟨C3, D3, s', FC_trans a2 (FC_trans bb2 x1), x2, x3, x4, x5, GD_trans (FD_GD g2) (GD_trans (FD_GD j2) (GD_trans (GD_w _ _ (by omega)) x6))⟩
      · right
        refine ⟨C1, wI (wI D1 144 7 (nI (aS f L e))) 147 (44 + cell) (nI w), aS f L e, a2, ?_, ?_, a3.2.1.2.1, Bad_w (Bad_7 D1 hs1) (by omega), GD_trans (FD_GD g2) (GD_trans (GD_7 _ _) (GD_w _ _ (by omega)))⟩
        · unfold m_X2_readCompound_L42
          simp (disch := omega) only [qlt1, qlt, hx5, if_false, c46, h46, if_true, a1, obs, c_isClass a3, bi_0, decide_eq_false_iff_not]
          rw [if_pos hcl]
          unfold m_X2_readCompound_L81
          rw [if_pos rfl]
        · rw [m_X8_readsCompound_L30, t46, obs, if_neg (by rw [bi_0]; simp [h46]), g1, b2s, m_fromC g3 hk1, obs, if_pos (by rw [bi_0]; simp [hcl])]
          exact stop
    · left
      refine ⟨C, D, k, s, e, w, hw, FC_refl C, ?_, ?_, hC, hD, Nat.le_refl _, fun h => absurd h h46, ?_, rfl, GD_refl D⟩
      · unfold m_X2_readCompound_L42
        simp (disch := omega) only [qlt1, qlt, hx5, if_false, c46, h46, c_addC hq hqk h1 hc hw, obs]
      · rw [m_X8_readsCompound_L30, t46, obs, if_pos (by rw [bi_0]; simp [h46]), if_neg (by rcases hfl with h | h; exact h; exact absurd h h46)]
      · funext i
        by_cases hi : i = 44 + cell
        · rw [if_pos hi, hi, hv]
        · rw [if_neg hi]
end READ4
