/-! ===== reading in step: a rule, put together ===== -/
section READ12
variable {C D : Mem} {f : Nat → Nat} {L k s e N R bb : Nat}
theorem MR_GD {D1 : Mem} (h : GD D D1) (hM : MR D.1) : MR D1.1 := by rw [h.1]; exact hM
theorem out_D {c' : Nat} (hs : SB bb) (hR : R < 8) (h25 : C.1 2 5 = some bb) (hρ : SRf C.1 bb) (hC : RdC C f L k s e) (hD : RdD D f L k s e) (hP : DcP C (bb + 7 + 6 * R) (D.2 147) R 0) (h1 : C.2 bb 1 = nI R) (t1 : D.2 147 1 = nI R) (t2 : D.2 147 (12 + R) = nI c') (t3 : 1 ≤ c' ∧ c' ≤ 3) (t4 : ∀ c, c < 3 → ∃ w, w < 16 ∧ D.2 147 (44 + 3 * R + c) = nI w) : Out C D bb R f L s (cD C (bb + 7 + 6 * R)) ((m_X8_readsDeclarations D 144 (nI R)).bind mE) := by
  have hb := sb_le hs
  have hq := (hρ.2.2.2.2.2 R hR).2
  unfold cD
  rcases dcl_all (QK_of hs hR) hR (by omega) hC hD hq hP with ⟨C1, D1, k', s', e', dm, x1, x2, x3, x4, x5, x6, x7, x8, x9, x10⟩ | ⟨C1, D1, s', x1, x2, x3, x4, x5, x6⟩ | ⟨C1, D1, k', s', e', x1, x2, x3, x4, x5, x6, x7⟩
  · rw [x2, b2s, if_neg (by decide), x3, obs]
    refine Out_pre x1 (by omega) (AgD_T x8) x9 x10 x6 (out_E (dm := dm) (c' := c') hs hR (by rw [x1.1]; exact h25) (by rw [x1.1]; exact hρ) x4 x5 x7 (by rw [x1.2.1 bb (by omega) (by omega)]; exact h1) (by rw [x8 1 (by omega) (by omega) (by omega)]; exact t1) (by rw [x8 _ (by omega) (by omega) (by omega)]; exact t2) t3 (fun c hc => by rw [x8 _ (by omega) (by omega) (by omega)]; exact t4 c hc))
  · right
    obtain ⟨D2, y1, y2, y3⟩ := mE_bad (MR_GD x6 hD.2.1) x5
    refine ⟨C1, D2, s', ?_, ?_, x4, y2, x1, GD_trans x6 y3⟩
    · rw [x2, b2s, if_pos rfl]
    · rw [x3, obs]; exact y1
  · right
    obtain ⟨D2, y1, y2, y3⟩ := mE_bad (MR_GD x7 hD.2.1) x6
    refine ⟨C1, D2, s', ?_, ?_, x3.2.1.2.1, y2, x1, GD_trans x7 y3⟩
    · rw [x2, b2s, if_neg (by decide)]
      unfold cE
      rw [show (59 : Int32) = nI 59 from rfl, c_take0 x3 (by omega) x4, b2s, if_pos rfl]
    · rw [x5, obs]; exact y1
theorem out_R {c' : Nat} (hs : SB bb) (hR : R < 8) (h25 : C.1 2 5 = some bb) (hρ : SRf C.1 bb) (hC : RdC C f L k s e) (hD : RdD D f L k s e) (hP : SelP C (bb + 7 + 6 * R) (D.2 147) R c') (hF : FrT (D.2 147) R c') (h1 : C.2 bb 1 = nI R) (t1 : D.2 147 1 = nI R) (t3 : 1 ≤ c' ∧ c' ≤ 3) (f92 : D.2 147 (92 + R) = 0) (f100 : D.2 147 (100 + R) = 0) (f108 : ∀ p, p < 4 → D.2 147 (108 + 4 * R + p) = 0) : Out C D bb R f L s (cR C (bb + 7 + 6 * R)) ((m_rest D (nI R) (nI c')).bind mEnd) := by
  have hb := sb_le hs
  have hk := hC.2.2.2.2.1
  have hD1 : RdD (wI D 147 (12 + R) (nI c')) f L k s e := RdD_w hD (by omega)
  have t58 : m_X8_isThis (wI D 147 (12 + R) (nI c')) 144 58 = some (bi (decide (k = 58))) := m_this1 hD1 hk (c := 58) (by omega) (by decide)
  unfold cR m_rest
  rw [rm9 hD.2.1, obs, show (12 : Int32) = nI 12 from rfl, nI_add, wa_147 (by omega), obs, t58, obs]
  by_cases h58 : k = 58
  · obtain ⟨C1, a1, a2, a3⟩ := c_take1 hC (c := 58) (by omega) h58
    obtain ⟨D2, g1, g2, g3⟩ := m_take1 hD1 hC.2.2.1
    have hbi : bi (decide (k = 58)) = 1 := by simp [h58, bi]
    have hp := prog hC (by omega)
    have T2 : ∀ i, D2.2 147 i = if i = 12 + R then nI c' else D.2 147 i := fun i => by rw [g2.2.1 147 (by decide), wI2, if_pos rfl]
    have hdc : DcP C1 (bb + 7 + 6 * R) (D2.2 147) R 0 := SelP_RuR (c := c') (by omega) hP a2 hR t3.2 (by rw [T2, if_pos rfl]) (fun i hi => by rw [T2, if_neg hi]) f92 f100 f108
    have hout := out_D (c' := c') hs hR (by rw [a2.1]; exact h25) (by rw [a2.1]; exact hρ) a3 g3 hdc (by rw [a2.2.1 bb (by omega)]; exact h1) (by rw [T2, if_neg (by omega)]; exact t1) (by rw [T2, if_pos rfl]) t3 (fun c hc => by
      rw [T2, if_neg (by omega), Nat.add_assoc]
      by_cases hcc : c < c'
      · exact hP.2.2.2.2.2.2 c hcc
      · exact ⟨0, by omega, by rw [(hF c (by omega) hc).2]; rfl⟩)
    have hpre := Out_pre (C0 := C) (D0 := D) (s0 := s) (FC_HC a2) (by omega) (fun i hi => by rw [T2, if_neg hi.1]) (by rw [g2.2.1 148 (by decide), wI2n (by decide)]) (GD_trans (GD_w _ _ (by omega)) (FD_GD g2)) (by omega) hout
    rw [show (58 : Int32) = nI 58 from rfl, a1, b2s, if_neg (by decide), hbi, g1, b2s, m_well1 g3, obs, if_neg (by decide)]
    simp only [Option.bind_assoc, obs]
    exact hpre
  · right
    have hbi : bi (decide (k = 58)) = 0 := by simp [h58, bi]
    have hB := Bad_7 (wI D 147 (12 + R) (nI c')) (RdC_s hC)
    have hM1 : MR (wI (wI D 147 (12 + R) (nI c')) 144 7 (nI s)).1 := hD.2.1
    refine ⟨C, wI (wI (wI D 147 (12 + R) (nI c')) 144 7 (nI s)) 147 1 ((wI (wI D 147 (12 + R) (nI c')) 144 7 (nI s)).2 147 1 + 1), s, ?_, ?_, hC.2.1.2.1, Bad_w hB (by decide), HC_refl _ _, GD_trans (GD_w _ _ (by omega)) (GD_trans (GD_7 _ _) (GD_w _ _ (by omega)))⟩
    · rw [show (58 : Int32) = nI 58 from rfl, c_take0 hC (by omega) h58, b2s, if_pos rfl]
    · rw [hbi, m_take0 hD1, b2s, m_well0 hB, obs, if_pos rfl, rm9 hM1, obs, ra_147o, obs, wa_147o, obs, obs, mEnd_bad (Bad_w hB (by decide))]
theorem out_S (hs : SB bb) (hR : R < 8) (h25 : C.1 2 5 = some bb) (hρ : SRf C.1 bb) (hC : RdC C f L k s e) (hD : RdD D f L k s e) (hP : SelP C (bb + 7 + 6 * R) (D.2 147) R 0) (hF : FrT (D.2 147) R 0) (h1 : C.2 bb 1 = nI R) (t1 : D.2 147 1 = nI R) (f92 : D.2 147 (92 + R) = 0) (f100 : D.2 147 (100 + R) = 0) (f108 : ∀ p, p < 4 → D.2 147 (108 + 4 * R + p) = 0) : Out C D bb R f L s (cS C (bb + 7 + 6 * R)) (((m_X8_readsCompound D 144 (nI (3 * R))).bind fun M => m_X8_readsRule_L46 144 FU M (nI R) (nI 1)).bind mEnd) := by
  have hb := sb_le hs
  have hq := (hρ.2.2.2.2.2 R hR).2
  have hqk := QK_of hs hR
  have hq3 : 3 < bb + 7 + 6 * R := by omega
  obtain ⟨fr1, fr2⟩ := hF 0 (Nat.le_refl 0) (by omega)
  unfold cS m_X2_readSelector
  rcases cmp_all (ch := false) (q := bb + 7 + 6 * R) (c := 0) (cell := 3 * R) hqk (by omega) (by omega) hC hD fr1 fr2 hq hP.2.1 hq3 with ⟨C3, D3, k', s', e', tg, w, x1, x2, x3, x4, x5, x6, x7, x8, x9, x10⟩ | ⟨C3, D3, s', x1, x2, x3, x4, x5, x6⟩
  · have T3 : ∀ i, D3.2 147 i = if i = 20 + 3 * R then tg else if i = 44 + 3 * R then nI w else D.2 147 i := fun i => by rw [x8]
    have hS3 : SelP (addC C3 (bb + 7 + 6 * R) 0 tg w false) (bb + 7 + 6 * R) (D3.2 147) R (0 + 1) := by
      refine SelP_add hq3 hP x2 x1 ?_ ?_ ?_ (fun h => by omega) (fun i hi => by omega)
      · rw [T3, if_neg (by omega), if_neg (by omega)]
      · rw [T3, if_pos (by omega)]
      · rw [T3, if_neg (by omega), if_pos (by omega)]
    have hF3 : FrT (D3.2 147) R 1 := by
      intro i i1 i2
      rw [T3, if_neg (by omega), if_neg (by omega), T3, if_neg (by omega), if_neg (by omega)]
      exact hF i (by omega) i2
    have hH3 : HC (bb + 7 + 6 * R) C (addC C3 (bb + 7 + 6 * R) 0 tg w false) := HC_trans (FC_HC x2) (HC_addC hq3)
    have hA3 : AgS R (D.2 147) (D3.2 147) := by
      intro i i1 i2 i3
      rw [T3, if_neg (by omega), if_neg (by omega)]
    have x3' : m_X2_readCompound C 2 (bb + 7 + 6 * R) 0 = some (1, addC C3 (bb + 7 + 6 * R) 0 tg w false) := x3
    rw [x3', b2s, if_neg (by decide), x4, obs]
    rcases sel_L hqk hR hq3 2 1 FU FU k' s' e' _ D3 (by omega) (by omega) (by unfold FU; omega) (by unfold FU; omega) (RdC_addC hq3 x5) x6 (HC_URf hH3 hq) hS3 hF3 with ⟨C4, D4, c4, k4, s4, e4, y1, y2, y3, y4, y5, y6, y7, y8, y9, y10, y11, y12, y13⟩ | ⟨C4, D4, s4, y1, y2, y3, y4, y5, y6⟩ | ⟨C4, D4, k4, s4, e4, y1, y2, y3, y4, y5, y6, y7⟩
    · have hH4 := HC_trans hH3 y3
      have hA4 := AgS_trans hA3 y11
      have hout := out_R (c' := c4) hs hR (by rw [hH4.1]; exact h25) (by rw [hH4.1]; exact hρ) y6 y7 y9 y10 (by rw [hH4.2.1 bb (by omega) (by omega)]; exact h1) (by rw [hA4 1 (by omega) (by omega) (by omega)]; exact t1) ⟨y1, y2⟩ (by rw [hA4 _ (by omega) (by omega) (by omega)]; exact f92) (by rw [hA4 _ (by omega) (by omega) (by omega)]; exact f100) (fun p hp => by rw [hA4 _ (by omega) (by omega) (by omega)]; exact f108 p hp)
      have hpre := Out_pre (C0 := C) (D0 := D) (s0 := s) hH4 (by omega) (AgS_T hA4) (by rw [y12, x9]) (GD_trans x10 y13) (by omega) hout
      rw [show (1 : Int32) = nI 1 from rfl, y4, b2s, y5]
      exact hpre
    · right
      refine ⟨C4, D4, s4, ?_, ?_, y4, y5, HC_trans hH3 y1, GD_trans x10 y6⟩
      · rw [show (1 : Int32) = nI 1 from rfl, y2, b2s, if_pos rfl]
      · rw [y3, obs, mEnd_bad y5]
    · right
      refine ⟨C4, D4, s4, ?_, ?_, y3.2.1.2.1, y6, HC_trans hH3 y1, GD_trans x10 y7⟩
      · rw [show (1 : Int32) = nI 1 from rfl, y2, b2s, if_neg (by decide)]
        unfold cR
        rw [show (58 : Int32) = nI 58 from rfl, c_take0 y3 (by omega) y4, b2s, if_pos rfl]
      · rw [y5, obs, mEnd_bad y6]
  · right
    obtain ⟨D4, y1, y2, y3⟩ := L46_bad (D := D3) (MR_GD x6 hD.2.1) x5 hR (nI 1) (fu := 999)
    refine ⟨C3, D4, s', ?_, ?_, x4, y2, FC_HC x1, GD_trans x6 y3⟩
    · have x2' : m_X2_readCompound C 2 (bb + 7 + 6 * R) 0 = some (0, C3) := x2
      rw [x2', b2s, if_pos rfl, b2s, if_pos rfl]
    · rw [x3, obs, show m_X8_readsRule_L46 144 FU D3 (nI R) (nI 1) = some D4 from y1, obs, mEnd_bad y2]
end READ12
