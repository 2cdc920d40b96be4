/-! ===== page: the call ===== -/
section PAGE3
variable {M M1 : Mem} {b bb N R L h m : Nat} {rem sn sp : Nat → Nat} {sv : Nat → Int32} {f : Nat → Nat}
theorem DR_told {C D : Mem} {S : Nat → Int32} (hDR : DR C D bb N R) (h1 : ∀ n, n < 18 → S n = D.2 148 n) (h2 : S 18 = bs R (fun _ => true)) : LkR C (bb + 3) S N := by
  have h9 := hDR.2.1.2.1
  refine ⟨fun n hn => ?_, by rw [h2]; exact hDR.2.2.2.2.1⟩
  obtain ⟨a1, a2⟩ := hDR.2.2.2.1 n hn
  rw [h1 n (by omega), h1 (9 + n) (by omega)]
  exact ⟨a1, a2⟩
/-- the class behind a text without a fault, up to the refreshing -/
theorem c_pageA {C1 D : Mem} {S : Nat → Int32} (hC1 : CR C1.1 b bb) (hDR : DR C1 D bb N R) (h1 : ∀ n, n < 18 → S n = D.2 148 n) (h2 : S 18 = bs R (fun _ => true)) :
    ∃ X, m_X1_copyFrom (wI (wR (wR C1 2 5 b) 0 3 bb) 0 1 0) 114 (bb + 3) = some X ∧ X.1 = (wR (wR C1 2 5 b) 0 3 bb).1 ∧ CR X.1 bb b ∧ (∀ j, (j < 114 ∨ 116 < j) → j ≠ 0 → X.2 j = C1.2 j) ∧ X.2 0 1 = 0 ∧ LkR X 114 S N := by
  have hb2 := sb_le (cr_sb2 hC1)
  have up : ∀ a j, 4 ≤ a → (wR (wR C1 2 5 b) 0 3 bb).1 a j = C1.1 a j := fun a j ha => by
    unfold wR up2
    simp only
    rw [if_neg (by omega), if_neg (by omega)]
  have up0 : ∀ j, j ≠ 3 → (wR (wR C1 2 5 b) 0 3 bb).1 0 j = C1.1 0 j := fun j hj => by
    unfold wR up2
    simp [hj]
  have u3 : (wR (wR C1 2 5 b) 0 3 bb).1 0 3 = some bb := by unfold wR up2; simp
  have u5 : (wR (wR C1 2 5 b) 0 3 bb).1 2 5 = some b := by unfold wR up2; simp
  have hCR : CR (wR (wR C1 2 5 b) 0 3 bb).1 bb b := CR_any hC1 (by rcases hC1.1 with ⟨r1, r2⟩ | ⟨r1, r2⟩ <;> omega) up up0 u3 u5
  have hCR' : CR (wI (wR (wR C1 2 5 b) 0 3 bb) 0 1 0).1 bb b := hCR
  have c0 : ∀ j, j ≠ 0 → (wI (wR (wR C1 2 5 b) 0 3 bb) 0 1 0).2 j = C1.2 j := fun j hj => by rw [wI2n hj]; rfl
  have hL : LkR (wI (wR (wR C1 2 5 b) 0 3 bb) 0 1 0) (bb + 3) S N := LkR_fr (fun i a1 a2 => c0 i (by omega)) (DR_told hDR h1 h2)
  obtain ⟨X, e1, e2, e3, e4⟩ := c_copy (M := wI (wR (wR C1 2 5 b) 0 3 bb) 0 1 0) (k1 := 114) (k2 := bb + 3) (cr_114 hCR') (cr_sr hCR').2.2.2.2.1 lk_114 (lk_sb (cr_sb hCR')) (by omega) hL hDR.2.1.2.1
  refine ⟨X, e1, by rw [e2]; rfl, by rw [e2]; exact hCR', fun j j1 j2 => by rw [e3 j (by omega), c0 j j2], ?_, e4⟩
  rw [e3 0 (by omega), wI2, if_pos rfl, if_pos rfl]
theorem op_page (H : Iv M b bb N R L h m rem sn sp sv) : Alike2 (m_X7_page M 0) (fun M1 => m_X8_page M1 144) := by
  have H0 := H
  obtain ⟨⟨hC, hM⟩, hW, hS, hL, hSt, hT, hTx, hH, ⟨hc, hm⟩, hK⟩ := H
  have hs := cr_sb2 hC
  have hb2 := sb_le hs
  have hbl := sb_le (cr_sb hC)
  obtain ⟨x1, x2, l120, x3⟩ := hTx
  have ht : ∀ i, i < L → (fun i => (M.2 1 i).toNatClampNeg) i < 256 ∧ M.2 1 i = nI ((fun i => (M.2 1 i).toNatClampNeg) i) ∧ M.2 145 i = nI ((fun i => (M.2 1 i).toNatClampNeg) i) := by
    intro i hi
    obtain ⟨c, h1, h2, h3⟩ := x3 i hi
    simp only
    rw [h2, h3, qclamp (by omega)]
    exact ⟨h1, rfl, rfl⟩
  generalize (fun i => (M.2 1 i).toNatClampNeg) = f at ht
  obtain ⟨C0, c1, c2, c3, c4, c5, c6, c7⟩ := start_C (f := f) hC l120 (fun i hi => ⟨(ht i hi).1, (ht i hi).2.1⟩)
  have up : ∀ a j, 4 ≤ a → C0.1 a j = M.1 a j := fun a j ha => by
    rw [c3]
    unfold wR up2
    simp only
    rw [if_neg (by omega)]
  have up0 : ∀ j, C0.1 0 j = M.1 0 j := fun j => by rw [c3]; unfold wR up2; simp
  have hC0 : CR C0.1 b bb := CR_any hC hC.1 up (fun j _ => up0 j) (by rw [up0]; exact hC.2.1.2.2.1) (by rw [c3]; unfold wR up2; simp; exact hC.2.2.1)
  have hM0 : MR C0.1 := MR_any up hM
  have h25 : C0.1 2 5 = some bb := hC0.2.2.1
  -- a run of the model from memory X beside the class's run
  have run : ∀ X : Mem, MR X.1 → TxD X f L → ∃ D, m_X8_page X 144 = m_X8_page_L25 144 FU D 0 ∧ D.1 = X.1 ∧ (∀ j, j ≠ 144 → j ≠ 147 → j ≠ 148 → D.2 j = X.2 j) ∧ (∀ i, i ≠ 0 → (i < 3 ∨ 7 < i) → D.2 144 i = X.2 144 i) ∧ ((∃ C1 D1 N' R' x' k' s' e', m_X2_readAll M 2 1 (nI L) = some (nI x', C1) ∧ m_X8_page X 144 = m_X8_page_L137 144 D1 (nI x') ∧ x' ≤ 120 ∧ RdD D1 f L k' s' e' ∧ DR C1 D1 bb N' R' ∧ GC bb C0 C1 ∧ GD D D1)
    ∨ (∃ C1 D1 s', s' ≤ 120 ∧ m_X2_readAll M 2 1 (nI L) = some (-9, C1) ∧ m_X8_page X 144 = some (-10 - nI s', D1) ∧ C1.2 2 3 = nI s' ∧ GC bb C0 C1 ∧ GD D D1)) := by
    intro X hMX hTX
    obtain ⟨D, d1, d2, d3, d4, d5, d6, d7⟩ := start_D hMX hTX
    refine ⟨D, d1, d3, d4, d5, ?_⟩
    have key := pg_L (f := f) (L := L) hs (xl := nI L) (L + 1) 0 FU FU _ _ _ 0 0 C0 D (by omega) (by unfold FU; omega) (by unfold FU; omega) h25 c2 d2 (DR_0 (cr_sr2 hC0) c5 c6 c7 d6 d7) (by omega)
    rw [show nI 0 = 0 from rfl] at key
    rw [c1, d1]
    exact key
  have tx0 : ∀ X : Mem, X.2 144 2 = M.2 144 2 → X.2 145 = M.2 145 → TxD X f L := fun X e1 e2 => ⟨by rw [e1]; exact x2, l120, fun i hi => by rw [e2]; exact ⟨(ht i hi).1, (ht i hi).2.2⟩⟩
  have f144 : ∀ C1 : Mem, GC bb C0 C1 → ∀ j, 113 < j → C1.2 j = M.2 j := fun C1 g j hj => by rw [g.2.1 j (by omega) (by omega), c4 j (by omega) (by omega) (by omega)]
  have fl : ∀ C1 : Mem, GC bb C0 C1 → ∀ j, j ≠ 2 → (j < bb ∨ bb + 54 < j) → C1.2 j = M.2 j := fun C1 g j j1 j2 => by rw [g.2.1 j j1 j2, c4 j j1 (by omega) (by omega)]
  obtain ⟨Dd, -, -, -, -, hdum⟩ := run M hM (tx0 M rfl rfl)
  rcases hdum with ⟨C1, D1, N', R', x', k', s', e', y1, -, y3, -, y5, y6, -⟩ | ⟨C1, D1, s', y0, y1, -, y3, y4, -⟩
  · -- no fault
    have hC1 : CR C1.1 b bb := by rw [y6.1]; exact hC0
    have hDRd := y5
    obtain ⟨X, p1, p2, p3, p4, p5, p6⟩ := c_pageA (S := fun i => if i = 18 then bs R' (fun _ => true) else D1.2 148 i) hC1 y5 (fun n hn => by rw [if_neg (by omega)]) (by rw [if_pos rfl])
    have hX8 : CR (wI X 130 1 0).1 bb b := p3
    have hX9 : CR (wI (wI X 130 1 0) 132 3 0).1 bb b := p3
    have hX29 : CR (wI (wI (wI X 130 1 0) 132 3 0) 0 11 0).1 bb b := p3
    have cX : ∀ j, (j < 114 ∨ 116 < j) → j ≠ 0 → j ≠ 130 → j ≠ 132 → (wI (wI (wI X 130 1 0) 132 3 0) 0 11 0).2 j = C1.2 j := fun j j1 j2 j3 j4 => by rw [wI2n j2, wI2n j4, wI2n j3, p4 j j1 j2]
    have lX : ∀ S' N2, LkR X 114 S' N2 → LkR (wI (wI (wI X 130 1 0) 132 3 0) 0 11 0) 114 S' N2 := fun S' N2 hh => LkR_fr (fun i a1 a2 => by rw [wI2n (by omega), wI2n (by omega), wI2n (by omega)]) hh
    have sX : ∀ T' T2 N2 R2, WF T' N2 R2 → (∀ i, i < 140 → T2 i = T' i) → ShR C1 bb T' N2 R2 → ShR (wI (wI (wI X 130 1 0) 132 3 0) 0 11 0) bb T2 N2 R2 := fun T' T2 N2 R2 w1 w2 w3 => ShR_ext w1 w2 (fun j j1 j2 => cX j (by omega) (by omega) (by omega) (by omega)) w3
    obtain ⟨M30, r1, r2, r3⟩ := c_refresh hX29 y5.2.1 (sX _ _ _ _ y5.2.1 (fun _ _ => rfl) y5.2.2.1) (lX _ _ p6)
    -- the class's answer
    have hA : m_X7_page M 0 = some (nI x', M30) := by
      have e1 : rf 2 (wI (wR (wR C1 2 5 b) 0 3 bb) 0 1 0) 0 4 = some 114 := rc4 (M := wI (wR (wR C1 2 5 b) 0 3 bb) 0 1 0) (b := bb) (b2 := b) (by rw [wI1, ← p2]; exact p3)
      have e2 : rf 5 (wI (wR (wR C1 2 5 b) 0 3 bb) 0 1 0) 0 3 = some bb := rc3 (M := wI (wR (wR C1 2 5 b) 0 3 bb) 0 1 0) (b := bb) (b2 := b) (by rw [wI1, ← p2]; exact p3)
      have hsr : SRf (wI (wR (wR C1 2 5 b) 0 3 bb) 0 1 0).1 bb := cr_sr (b := bb) (b2 := b) (by rw [wI1, ← p2]; exact p3)
      have e3 : rf 2 (wI (wR (wR C1 2 5 b) 0 3 bb) 0 1 0) bb 4 = some (bb + 3) := rf_eq hsr.2.2.1 (kS hs).1.2.2.2.1
      have e4 : ik 5 bb = some () := by unfold ik; rw [if_pos (kS hs).1.1]
      have pRs : ∀ {β : Type} {A : Mem} {a j c : Nat} {g : Mem → Option β}, (pR A a j c).bind g = g (wR A a j c) := rfl
      unfold m_X7_page m_X2_exchange m_X0_empty m_X5_empty
      rw [rc2 hC, obs, rc0 hC, obs, x1, y1, b2s, if_neg (qm9 (by omega)), rc2 hC1, obs, rc3 hC1, obs, rc25 hC1, obs, pRs, b2s, e4, obs, pRs, pIs, e1, obs, e2, obs, e3, obs, p1, obs, rc8 p3, obs, pIs, obs, rc9 hX8, obs, pIs, obs, pIs, r1, obs]
    -- the model beside it
    have hM30 : MR M30.1 := by
      rw [r2.1]
      show MR X.1
      rw [p2]
      exact MR_any (ρ := C1.1) (fun a j ha => by unfold wR up2; simp only; rw [if_neg (by omega), if_neg (by omega)]) (by rw [y6.1]; exact hM0)
    have c30 : ∀ j, 132 < j → M30.2 j = M.2 j := fun j hj => by rw [r2.2 j (by omega), cX j (by omega) (by omega) (by omega) (by omega), f144 C1 y6 j (by omega)]
    obtain ⟨Dr, -, q2, q3, q4, hreal⟩ := run M30 hM30 (tx0 M30 (by rw [c30 144 (by omega)]) (c30 145 (by omega)))
    rcases hreal with ⟨C1', E, N2, R2, x'', k2, s2, e2, z1, z2, z3, z4, z5, z6, z7⟩ | ⟨C1', E, s2, z0, z1, -, -, -, -⟩
    · rw [y1] at z1
      obtain ⟨hxx, hcc⟩ := Prod.mk.inj (Option.some.inj z1)
      subst hcc
      have hx : nI x'' = nI x' := hxx.symm
      have w8 := z5.2.1.2.2.2.1
      have w9 := z5.2.1.2.1
      have hME : MR E.1 := z4.2.1
      have hME1 : MR (wI E 148 18 (bs R2 (fun _ => true))).1 := hME
      obtain ⟨F, a1, a2, a3, a4, a5, a6, a7, a8, a9, a10⟩ := m_settles hME1
      have w148 : ∀ {A : Mem} {v : Int32}, wa A 148 18 v = some (wI A 148 18 v) := fun {A v} => wa_148 (k := 18) (by omega)
      have hB : m_X8_page M30 144 = some (nI x', F) := by
        rw [z2, hx]
        unfold m_X8_page_L137
        rw [m_well1 z4, obs, if_neg (by decide), rm10 hME, obs, rm9 hME, obs, ra_147o, obs, z5.2.1.2.2.1, onb R2 (by omega), w148, obs, a1, obs]
      have T5 : ∀ i, i < 140 → F.2 146 i = E.2 147 i := fun i hi => by rw [a4 i hi, wI2n (by decide)]
      have S5 : ∀ i, i < 18 → F.2 149 i = E.2 148 i := fun i hi => by rw [a5 i (by omega), wI2, if_pos rfl, if_neg (by omega)]
      have S18 : F.2 149 18 = bs R2 (fun _ => true) := by rw [a5 18 (by omega), wI2, if_pos rfl, if_pos rfl]
      -- the class's look and styles, by what the model holds now
      obtain ⟨X', p1', p2', p3', p4', p5', p6'⟩ := c_pageA (S := F.2 149) hC1 z5 S5 S18
      rw [p1] at p1'
      have hXX := Option.some.inj p1'
      subst hXX
      obtain ⟨M30', r1', r2', r3'⟩ := c_refresh hX29 (WF_ext T5 z5.2.1) (sX _ _ _ _ z5.2.1 T5 z5.2.2.1) (lX _ _ p6')
      rw [r1] at r1'
      have hMM := Option.some.inj r1'
      subst hMM
      have cF : ∀ j, j ≠ 144 → j ≠ 146 → j ≠ 147 → j ≠ 148 → j ≠ 149 → j ≠ 152 → F.2 j = M30.2 j := fun j j1 j2 j3 j4 j5 j6 => by rw [a3 j j1 j2 j5 j6, wI2n j4, z7.2.1 j j1 j3 j4, q3 j j1 j3 j4]
      have cl : ∀ j, j < 144 → F.2 j = M30.2 j := fun j hj => cF j (by omega) (by omega) (by omega) (by omega) (by omega) (by omega)
      have hF1 : F.1 = M30.1 := by rw [a2, wI1, z7.1, q2]
      have z30 : M30.2 0 = (wI (wI (wI X 130 1 0) 132 3 0) 0 11 0).2 0 := r2.2 0 (by omega)
      refine ⟨nI x', M30, F, hA, hB, bb, b, N2, R2, 0, 0, 0, rem, sn, sp, sv, ⟨by rw [hF1, r2.1]; exact hX29, by rw [hF1]; exact hM30⟩, WF_ext T5 z5.2.1, ?_, ?_, ?_, ?_, ?_, ?_, ⟨?_, ?_⟩, ?_⟩
      · exact ShR_ext z5.2.1 T5 (fun j j1 j2 => by rw [cl j (by omega), r2.2 j (by omega), cX j (by omega) (by omega) (by omega) (by omega)]) z5.2.2.1
      · exact LkR_fr (fun i i1 i2 => by rw [cl i (by omega), r2.2 i (by omega)]) (lX _ _ p6')
      · exact StR_fr (fun i i1 i2 => cl i (by omega)) r3'
      · intro n hn
        rw [S5 n (by omega)]
        exact z5.2.2.2.2.2.1 n hn
      · refine ⟨?_, by rw [a6]; rfl, by omega, fun i hi => by omega⟩
        rw [cl 0 (by omega), z30, wI2, if_pos rfl, if_neg (by decide), wI2n (by decide), wI2n (by decide), p5]
        rfl
      · refine ⟨?_, by rw [a7]; rfl, by omega, fun i hi => by omega⟩
        rw [cl 130 (by omega), r2.2 130 (by omega), wI2n (by decide), wI2n (by decide), wI2, if_pos rfl, if_pos rfl]
        rfl
      · refine ⟨?_, by omega, fun i hi => by omega⟩
        rw [cl 132 (by omega), r2.2 132 (by omega), wI2n (by decide), wI2, if_pos rfl, if_pos rfl]
        rfl
      · exact ⟨by rw [a8]; rfl, by omega, fun i hi => by omega⟩
      · have k0 : F.2 0 11 = 0 := by rw [cl 0 (by omega), z30, wI2, if_pos rfl, if_pos rfl]
        intro y hy
        rw [k0]
        refine ⟨?_, fun hz => by rw [b_0] at hz; cases hz⟩
        unfold hb
        rw [b_0]
        obtain rfl | rfl : y = 0 ∨ y = 1 := by omega
        · rw [a9]; rfl
        · rw [a10]; rfl
    · rw [y1] at z1
      obtain ⟨hxx, -⟩ := Prod.mk.inj (Option.some.inj z1)
      exact absurd hxx (qm9 (by omega))
  · -- a fault
    have hC1 : CR C1.1 b bb := by rw [y4.1]; exact hC0
    have hM1 : MR C1.1 := by rw [y4.1]; exact hM0
    obtain ⟨Dr, -, q2, q3, q4, hreal⟩ := run C1 hM1 (tx0 C1 (by rw [f144 C1 y4 144 (by omega)]) (f144 C1 y4 145 (by omega)))
    have hA : m_X7_page M 0 = some (-10 - nI s', C1) := by
      unfold m_X7_page m_X2_fault
      rw [rc2 hC, obs, rc0 hC, obs, x1, y1, b2s, if_pos rfl, rc2 hC1, obs, y3, obs]
    rcases hreal with ⟨C1', E, N2, R2, x'', k2, s2, e2, z1, z2, z3, z4, z5, z6, z7⟩ | ⟨C1', E, s2, z0, z1, z2, z3, z4, z5⟩
    · rw [y1] at z1
      obtain ⟨hxx, -⟩ := Prod.mk.inj (Option.some.inj z1)
      exact absurd hxx.symm (qm9 (by omega))
    · rw [y1] at z1
      obtain ⟨-, hcc⟩ := Prod.mk.inj (Option.some.inj z1)
      subst hcc
      rw [y3] at z3
      refine ⟨-10 - nI s', C1, E, hA, by show m_X8_page C1 144 = _; rw [z2, z3], ?_⟩
      refine Iv_frame H0 (by rw [z5.1, q2]; exact hC1) (by rw [z5.1, q2]; exact hM1) (fun j j1 j2 j3 j4 j5 => ?_) (fun i i1 i2 => ?_)
      · rw [z5.2.1 j j3 j4 j5, q3 j j3 j4 j5, fl C1 y4 j j1 j2]
      · rw [z5.2.2 i i2, q4 i i1 i2, f144 C1 y4 144 (by omega)]
end PAGE3
