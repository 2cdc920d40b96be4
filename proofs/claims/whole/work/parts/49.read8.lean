/-! ===== reading in step: one declaration, all of them ===== -/
section READ8
variable {C D : Mem} {f : Nat → Nat} {L k s e : Nat}
theorem q119 (h : 119 ≤ k ∧ k ≤ 122) : nI k - 119 = nI (k - 119) := qsub (b := 119) (by omega)
/-- the model stops here, whatever follows -/
theorem L67_bad {s : Nat} (hM : MR D.1) (hB : Bad D s) {r : Nat} (k0 : Mem → Option Mem) (x2 s0 : Int32) : m_X8_readsDeclarations_L67 144 (nI r) k0 D x2 s0 144 = some D := by
  unfold m_X8_readsDeclarations_L67
  rw [m_takeB hB, b2s, m_well0 hB, obs, if_pos rfl]
  unfold m_X8_readsDeclarations_L137
  rw [m_well0 hB, obs, if_pos rfl]
theorem L39_0 (hD : RdD D f L k s e) (hs : s ≤ 120) {r : Nat} (k0 : Mem → Option Mem) : m_X8_readsDeclarations_L39 144 (nI r) k0 D 0 144 = some (wI D 144 7 (nI s)) := by
  unfold m_X8_readsDeclarations_L39
  rw [m_take0 hD, b2s, m_well0 (Bad_7 D hs), obs, if_pos rfl]
  exact L67_bad (D := wI D 144 7 (nI s)) hD.2.1 (Bad_7 D hs) _ _ _
/-- no property here, or one that is declared -/
theorem L0_here (hD : RdD D f L k s e) (hk : k < 258) (hs : s ≤ 120) {r fu dm : Nat} (hr : r < 8) (h92 : D.2 147 (92 + r) = nI dm) (h : ¬ (119 ≤ k ∧ k ≤ 122) ∨ bt (nI dm) (k - 119) = true) : m_X8_readsDeclarations_L0 144 (nI r) (fu + 1) D = some (wI D 144 7 (nI s)) := by
  rw [m_X8_readsDeclarations_L0, m_fromP hD hk, obs]
  by_cases hp : 119 ≤ k ∧ k ≤ 122
  · have hb := h.resolve_left (fun h => h hp)
    have hsg : sgB k = true := (sgr _ hk).2.2.1 hp
    rw [if_neg (by rw [bi_0]; simp [hp]), rm9 hD.2.1, obs, show (92 : Int32) = nI 92 from rfl, nI_add, ra_147 (by omega), obs, h92, hD.2.2.1.2.2.2.1 hsg, q119 hp, hb8 _ (by omega), obs, if_neg (by rw [hb_0, hb]; simp)]
    exact L39_0 hD hs _
  · rw [if_pos (by rw [bi_0]; simp [hp])]
    exact L39_0 hD hs _
theorem c_here {q r dm : Nat} (hC : RdC C f L k s e) (hr : r < 8) {T : Nat → Int32} (hP : DcP C q T r dm) (h : ¬ (119 ≤ k ∧ k ≤ 122) ∨ bt (nI dm) (k - 119) = true) : m_X2_readDeclaration C 2 q = some (0, C) := by
  unfold m_X2_readDeclaration
  rw [c_isProperty hC, obs]
  by_cases hp : 119 ≤ k ∧ k ≤ 122
  · have hb := h.resolve_left (fun h => h hp)
    rw [if_neg (by rw [bi_0]; simp [hp]), hP.1.2.2.2.1, hP.2.1, c_tokv hC (by omega), q119 hp, hb1 _ (by omega), obs, if_neg (by rw [hb_0, hb]; simp)]
  · rw [if_pos (by rw [bi_0]; simp [hp])]
theorem decl1 {q r dm : Nat} (hqk : QK q) (hr : r < 8) (hq3 : 3 < q) (hC : RdC C f L k s e) (hD : RdD D f L k s e) (hq : URf C.1 q) (hP : DcP C q (D.2 147) r dm) (hp : 119 ≤ k ∧ k ≤ 122) (hnew : bt (nI dm) (k - 119) = false) :
    (∃ C1 D1 k' s' e', HC q C C1 ∧ m_X2_readDeclaration C 2 q = some (1, C1) ∧ (∀ fu, m_X8_readsDeclarations_L0 144 (nI r) (fu + 1) D = m_X8_readsDeclarations_L137 144 (nI r) (fun z0 => m_X8_readsDeclarations_L0 144 (nI r) fu z0) D1) ∧ RdC C1 f L k' s' e' ∧ RdD D1 f L k' s' e' ∧ s < s' ∧ DcP C1 q (D1.2 147) r (dm ||| 2 ^ (k - 119)) ∧ AgD r (D.2 147) (D1.2 147) ∧ D1.2 148 = D.2 148 ∧ GD D D1)
    ∨ (∃ C1 D1 s', HC q C C1 ∧ m_X2_readDeclaration C 2 q = some (0, C1) ∧ (∀ fu, m_X8_readsDeclarations_L0 144 (nI r) (fu + 1) D = some D1) ∧ C1.2 2 3 = nI s' ∧ Bad D1 s' ∧ GD D D1) := by
  have hk := hC.2.2.2.2.1
  have hsg : sgB k = true := (sgr _ hk).2.2.1 hp
  have v6 : D.2 144 6 = nI k := hD.2.2.1.2.2.2.1 hsg
  obtain ⟨C1, a1, a2, a3⟩ := c_adv hC
  obtain ⟨D1, g1, g2, g3⟩ := m_take1 hD hC.2.2.1
  have hk1 := a3.2.2.2.2.1
  have hs1 := RdC_s a3
  have hp1 := hC.2.2.2.2.2 (by omega)
  have hp2 := aS_le (f := f) hC.2.2.1
  have m0 : ∀ fu, m_X8_readsDeclarations_L0 144 (nI r) (fu + 1) D = m_X8_readsDeclarations_L39 144 (nI r) (fun z0 => m_X8_readsDeclarations_L0 144 (nI r) fu z0) D 1 144 := by
    intro fu
    rw [m_X8_readsDeclarations_L0, m_fromP hD hk, obs, if_neg (by rw [bi_0]; simp [hp]), rm9 hD.2.1, obs, show (92 : Int32) = nI 92 from rfl, nI_add, ra_147 (by omega), obs, hP.2.1, v6, q119 hp, hb8 _ (by omega), obs, if_pos (by rw [hb_0, hnew])]
  have c0 : ∀ X, (if bi (dgB (aK f L e)) = 0 then some ((0 : Int32), C1) else X) = (if dgB (aK f L e) then X else some (0, C1)) := by
    intro X
    cases dgB (aK f L e) <;> rfl
  have cl0 : m_X2_readDeclaration C 2 q = if dgB (aK f L e) then ((m_X2_advance C1 2).bind fun M15 =>
    b2 (m_X2_take M15 2 (33 : Int32)) fun r16 M16 =>
    (m_X3_declare M16 q (nI (k - 119)) ((C1.2 2 4) - (48 : Int32)) r16).bind fun M17 =>
    some ((1 : Int32), M17)) else some (0, C1) := by
    unfold m_X2_readDeclaration
    rw [c_isProperty hC, obs, if_neg (by rw [bi_0]; simp [hp]), hP.1.2.2.2.1, hP.2.1, c_tokv hC (by omega), q119 hp, hb1 _ (by omega), obs, if_pos (by rw [hb_0, hnew]), a1, obs, c_isDigit a3, obs]
    exact c0 _
  have d2 := s258 (aK f L e) hk1
  cases hdg : dgB (aK f L e) with
  | false =>
    right
    rw [hdg] at cl0
    refine ⟨C1, wI D1 144 7 (nI (aS f L e)), aS f L e, FC_HC a2, cl0, fun fu => ?_, a3.2.1.2.1, Bad_7 D1 hs1, GD_trans (FD_GD g2) (GD_7 _ _)⟩
    rw [m0]
    unfold m_X8_readsDeclarations_L39
    have n2 : ¬ D1.2 144 4 = 2 := by
      rw [g3.2.2.1.2.2.1, d2.2.2.1, hdg]; simp
    rw [g1, b2s, m_well1 g3, obs, if_neg (by decide), if_neg n2]
    unfold m_X8_readsDeclarations_L67
    rw [m_take0 g3, b2s, m_well0 (Bad_7 D1 hs1), obs, if_pos rfl]
    unfold m_X8_readsDeclarations_L137
    rw [m_well0 (Bad_7 D1 hs1), obs, if_pos rfl]
  | true =>
    left
    rw [hdg] at cl0
    have hdb := dg_bd hdg
    obtain ⟨C2, b1, bb2, b3⟩ := c_adv a3
    obtain ⟨D2, j1, j2, j3⟩ := m_take1 g3 a3.2.2.1
    have hk2 := b3.2.2.2.2.1
    have v48 : C1.2 2 4 - 48 = nI (aK f L e - 48) := by rw [c_tokv a3 (by omega)]; exact qsub (b := 48) (by omega)
    have w6 : D1.2 144 6 = nI (aK f L e - 48) := g3.2.2.1.2.2.2.2 hdg
    have y2 : D1.2 144 4 = 2 := by rw [g3.2.2.1.2.2.1, d2.2.2.1]; exact hdg
    have hp3 := a3.2.2.2.1
    have hp4 := aS_le (f := f) a3.2.2.1
    -- the model after the value
    have tr : ∀ q, q ≠ 144 → D2.2 q = D.2 q := fun q hq => by rw [j2.2.1 q hq, g2.2.1 q hq]
    have h92 : D2.2 147 (92 + r) = D.2 147 (92 + r) := by rw [tr 147 (by decide)]
    have hD3 : RdD (wI (wI D2 147 (92 + r) (D.2 147 (92 + r) ||| ((1 : Int32) <<< (nI (k - 119) &&& 31)))) 147 (108 + 4 * r + (k - 119)) (nI (aK f L e - 48))) f L (aK f L (aE f L e)) (aS f L (aE f L e)) (aE f L (aE f L e)) := RdD_w (RdD_w j3 (by omega)) (by omega)
    have GD3 : GD D (wI (wI D2 147 (92 + r) (D.2 147 (92 + r) ||| ((1 : Int32) <<< (nI (k - 119) &&& 31)))) 147 (108 + 4 * r + (k - 119)) (nI (aK f L e - 48))) := GD_trans (FD_GD g2) (GD_trans (FD_GD j2) (GD_trans (GD_w _ _ (by omega)) (GD_w _ _ (by omega))))
    have T3 : ∀ i, (wI (wI D2 147 (92 + r) (D.2 147 (92 + r) ||| ((1 : Int32) <<< (nI (k - 119) &&& 31)))) 147 (108 + 4 * r + (k - 119)) (nI (aK f L e - 48))).2 147 i = if i = 108 + 4 * r + (k - 119) then nI (aK f L e - 48) else if i = 92 + r then D.2 147 (92 + r) ||| ((1 : Int32) <<< (nI (k - 119) &&& 31)) else D.2 147 i := by
      intro i
      rw [wI2, if_pos rfl, wI2, if_pos rfl, tr 147 (by decide)]
    have e148 : (wI (wI D2 147 (92 + r) (D.2 147 (92 + r) ||| ((1 : Int32) <<< (nI (k - 119) &&& 31)))) 147 (108 + 4 * r + (k - 119)) (nI (aK f L e - 48))).2 148 = D.2 148 := by
      rw [wI2n (by decide), wI2n (by decide), tr 148 (by decide)]
    have t33 := m_this1 hD3 hk2 (c := 33) (by omega) (by decide)
    have m1 : ∀ fu, m_X8_readsDeclarations_L0 144 (nI r) (fu + 1) D = if bi (decide (aK f L (aE f L e) = 33)) = 0 then m_X8_readsDeclarations_L137 144 (nI r) (fun z0 => m_X8_readsDeclarations_L0 144 (nI r) fu z0) (wI (wI D2 147 (92 + r) (D.2 147 (92 + r) ||| ((1 : Int32) <<< (nI (k - 119) &&& 31)))) 147 (108 + 4 * r + (k - 119)) (nI (aK f L e - 48))) else b2 (m_X8_takes (wI (wI D2 147 (92 + r) (D.2 147 (92 + r) ||| ((1 : Int32) <<< (nI (k - 119) &&& 31)))) 147 (108 + 4 * r + (k - 119)) (nI (aK f L e - 48))) 144 (1 : Int32)) fun r19 M19 =>
        (rf 10 M19 144 9).bind fun a20 =>
        (ra M19 a20 ((100 : Int32) + nI r)).bind fun v21 =>
        (wa M19 a20 ((100 : Int32) + nI r) (v21 ||| ((1 : Int32) <<< (nI (k - 119) &&& 31)))).bind fun M22 =>
        m_X8_readsDeclarations_L137 144 (nI r) (fun z0 => m_X8_readsDeclarations_L0 144 (nI r) fu z0) M22 := by
      intro fu
      rw [m0]
      unfold m_X8_readsDeclarations_L39
      rw [g1, b2s, m_well1 g3, obs, if_neg (by decide), if_pos y2, v6, q119 hp]
      unfold m_X8_readsDeclarations_L67
      rw [j1, b2s, m_well1 j3, obs, if_neg (by decide), w6]
      have hM3 : MR (wI D2 147 (92 + r) (D.2 147 (92 + r) ||| ((1 : Int32) <<< (nI (k - 119) &&& 31)))).1 := j3.2.1
      simp (disch := omega) only [rm9 j3.2.1, obs, qa1, qmu, nI_add, ra_147, wa_147, h92, rm9 hM3]
      rw [show (33 : Int32) = nI 33 from rfl, t33, obs]
    have hnw : (D.2 147 (92 + r)) = nI dm := hP.2.1
    have h33c : (C2.2 2 4 = 33) = (aK f L (aE f L e) = 33) := c_tok b3 (c := 33) (by omega)
    have hX2 : FC C C2 := FC_trans a2 bb2
    by_cases h33 : aK f L (aE f L e) = 33
    · obtain ⟨C3, x1, x2, x3⟩ := c_adv b3
      obtain ⟨D4, y1, z2, y3⟩ := m_take1 hD3 b3.2.2.1
      have hX3 : FC C C3 := FC_trans hX2 x2
      have hq3' : URf C3.1 q := by rw [hX3.1]; exact hq
      have cdc := c_dcC (C := C3) (q := q) (p := k - 119) (v := aK f L e - 48) (st := true) (u := bt (D.2 147 2) r) (sp := spec (D.2 147) r) hq3' hqk (by omega) (by rw [hX3.2.1 q (by omega)]; exact hP.1.1) (by rw [hX3.2.1 q (by omega)]; exact hP.1.2.2.1)
      have tr4 : ∀ i, D4.2 147 i = if i = 108 + 4 * r + (k - 119) then nI (aK f L e - 48) else if i = 92 + r then D.2 147 (92 + r) ||| ((1 : Int32) <<< (nI (k - 119) &&& 31)) else D.2 147 i := fun i => by rw [z2.2.1 147 (by decide), T3]
      have h100 : D4.2 147 (100 + r) = D.2 147 (100 + r) := by rw [tr4, if_neg (by omega), if_neg (by omega)]
      have T5 : ∀ i, (wI D4 147 (100 + r) (D.2 147 (100 + r) ||| ((1 : Int32) <<< (nI (k - 119) &&& 31)))).2 147 i = if i = 100 + r then D.2 147 (100 + r) ||| ((1 : Int32) <<< (nI (k - 119) &&& 31)) else if i = 108 + 4 * r + (k - 119) then nI (aK f L e - 48) else if i = 92 + r then D.2 147 (92 + r) ||| ((1 : Int32) <<< (nI (k - 119) &&& 31)) else D.2 147 i := fun i => by rw [wI2, if_pos rfl, tr4]
      have hA : AgD r (D.2 147) ((wI D4 147 (100 + r) (D.2 147 (100 + r) ||| ((1 : Int32) <<< (nI (k - 119) &&& 31)))).2 147) := by
        intro i i1 i2 i3
        rw [T5, if_neg i2, if_neg (by omega), if_neg i1]
      have hp5 := b3.2.2.2.1
      have hp6 := aS_le (f := f) b3.2.2.1
      refine ⟨dcC C3 q (k - 119) (aK f L e - 48) true (bt (D.2 147 2) r) (spec (D.2 147) r), wI D4 147 (100 + r) (D.2 147 (100 + r) ||| ((1 : Int32) <<< (nI (k - 119) &&& 31))), _, _, _, HC_trans (FC_HC hX3) ?_, ?_, fun fu => ?_, ?_, RdD_w y3 (by omega), ?_, ?_, hA, ?_, GD_trans GD3 (GD_trans (FD_GD z2) (GD_w _ _ (by omega)))⟩
      · exact HC_trans (HC_w _ _ (by omega) (by omega) (by omega)) (HC_trans (HC_w _ _ (by omega) (by omega) (by omega)) (HC_trans (HC_w _ _ (by omega) (by omega) (by omega)) (HC_w _ _ (by omega) (by omega) (by omega))))
      · rw [cl0, if_pos rfl, b1, obs]
        unfold m_X2_take
        simp only [h33c, h33, if_true, x1, obs, b2s]
        rw [v48, show (1 : Int32) = bi true from rfl, cdc, obs]
      · rw [m1, if_neg (by rw [bi_0]; simp [h33]), y1, b2s, rm9 y3.2.1, obs, show (100 : Int32) = nI 100 from rfl, nI_add, ra_147 (by omega), obs, h100, wa_147 (by omega), obs]
      · exact RdC_w (RdC_w (RdC_w (RdC_w x3 (by omega)) (by omega)) (by omega)) (by omega)
      · omega
      · refine DcP_add hq3 hr hX3 hP (by omega) (by omega) hnew hA ?_ ?_ ?_ (fun p2 h1 h2 => ?_)
        · rw [T5, if_neg (by omega), if_neg (by omega), if_pos rfl]
        · rw [T5, if_pos rfl]; rfl
        · rw [T5, if_neg (by omega), if_pos rfl]
        · rw [T5, if_neg (by omega), if_neg (by omega), if_neg (by omega)]
      · rw [wI2n (by decide), z2.2.1 148 (by decide), e148]
    · have hq2 : URf C2.1 q := by rw [hX2.1]; exact hq
      have cdc := c_dcC (C := C2) (q := q) (p := k - 119) (v := aK f L e - 48) (st := false) (u := bt (D.2 147 2) r) (sp := spec (D.2 147) r) hq2 hqk (by omega) (by rw [hX2.2.1 q (by omega)]; exact hP.1.1) (by rw [hX2.2.1 q (by omega)]; exact hP.1.2.2.1)
      have hA : AgD r (D.2 147) ((wI (wI D2 147 (92 + r) (D.2 147 (92 + r) ||| ((1 : Int32) <<< (nI (k - 119) &&& 31)))) 147 (108 + 4 * r + (k - 119)) (nI (aK f L e - 48))).2 147) := by
        intro i i1 i2 i3
        rw [T3, if_neg (by omega), if_neg i1]
      refine ⟨dcC C2 q (k - 119) (aK f L e - 48) false (bt (D.2 147 2) r) (spec (D.2 147) r), _, _, _, _, HC_trans (FC_HC hX2) ?_, ?_, fun fu => ?_, ?_, hD3, ?_, ?_, hA, e148, GD3⟩
      · exact HC_trans (HC_w _ _ (by omega) (by omega) (by omega)) (HC_trans (HC_w _ _ (by omega) (by omega) (by omega)) (HC_trans (HC_w _ _ (by omega) (by omega) (by omega)) (HC_w _ _ (by omega) (by omega) (by omega))))
      · rw [cl0, if_pos rfl, b1, obs]
        unfold m_X2_take
        simp only [h33c, h33, if_false, b2s]
        rw [v48, show (0 : Int32) = bi false from rfl, cdc, obs]
      · rw [m1, if_pos (by rw [bi_0]; simp [h33])]
      · exact RdC_w (RdC_w (RdC_w (RdC_w b3 (by omega)) (by omega)) (by omega)) (by omega)
      · omega
      · refine DcP_add hq3 hr hX2 hP (by omega) (by omega) hnew hA ?_ ?_ ?_ (fun p2 h1 h2 => ?_)
        · rw [T3, if_neg (by omega), if_pos rfl]
        · rw [T3, if_neg (by omega), if_neg (by omega)]; simp [qor0]
        · rw [T3, if_pos rfl]
        · rw [T3, if_neg (by omega), if_neg (by omega)]
end READ8
