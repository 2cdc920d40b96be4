/-! ===== reading in step: a whole rule ===== -/
section READ13
variable {C D : Mem} {f : Nat → Nat} {L k s e N R bb : Nat}
theorem rule_all (hs : SB bb) (h25 : C.1 2 5 = some bb) (hC : RdC C f L k s e) (hD : RdD D f L k s e) (hk82 : k = 82) (hDR : DR C D bb N R) (hR : R < 8) :
    (∃ C1 D0 D1 k' s' e', m_X2_readRule C 2 = some (1, C1) ∧ m_X8_takes D 144 1 = some (nI 82, D0) ∧ D0.2 144 7 = -1 ∧ mRu D0 = some D1 ∧ RdC C1 f L k' s' e' ∧ RdD D1 f L k' s' e' ∧ s < s' ∧ DR C1 D1 bb N (R + 1) ∧ GC bb C C1 ∧ GD D D1)
    ∨ (∃ C1 D0 D1 s', m_X2_readRule C 2 = some (0, C1) ∧ m_X8_takes D 144 1 = some (nI 82, D0) ∧ D0.2 144 7 = -1 ∧ mRu D0 = some D1 ∧ C1.2 2 3 = nI s' ∧ Bad D1 s' ∧ GC bb C C1 ∧ GD D D1) := by
  have hb := sb_le hs
  obtain ⟨kS1, kS2⟩ := kS hs
  obtain ⟨kR1, kR2⟩ := kR hs R hR
  have hDR0 := hDR
  obtain ⟨hρ, hW, hS, -, hon, -, hfr, -⟩ := hDR
  obtain ⟨fr1, fr2, fr3, fr4, fr5⟩ := hfr R (Nat.le_refl R) hR
  have hqr := hρ.2.2.2.2.2 R hR
  have hq3 : 3 < bb + 7 + 6 * R := by omega
  have v6 : D.2 144 6 = nI 82 := by rw [hD.2.2.1.2.2.2.1 (by rw [hk82]; decide), hk82]
  obtain ⟨C1, a1, a2, a3⟩ := c_adv hC
  obtain ⟨D0, g1, g2, g3⟩ := m_take1 hD hC.2.2.1
  rw [v6] at g1
  have hp0 := prog hC (by omega)
  have w0 : D0.2 144 7 = -1 := g3.2.2.2
  have T0 : D0.2 147 = D.2 147 := g2.2.1 147 (by decide)
  obtain ⟨u, C2, D2, k2, s2, e2, b1, bb2, b3, b4, b5, b6, b7, b8, b9, b10⟩ := rule_u hq3 hR a3 g3 (by rw [T0]; exact hW.2.2.1) (by rw [T0]; exact fr5)
  have GD2 : GD D D2 := GD_trans (FD_GD g2) b7
  have T2 : ∀ i, i ≠ 2 → D2.2 147 i = D.2 147 i := fun i hi => by rw [b8 i hi, T0]
  have hX2 : FC C C2 := FC_trans a2 bb2
  have hH3 : HC (bb + 7 + 6 * R) C (bgC C2 (bb + 7 + 6 * R) u) := HC_trans (FC_HC hX2) (HC_bgC hq3)
  have hC3 := RdC_bgC (q := bb + 7 + 6 * R) (u := u) hq3 b4
  have c82 : (C.2 2 4 = 82) = (k = 82) := c_tok hC (c := 82) (by omega)
  have rc25 : rf 5 C 2 5 = some bb := rf_eq h25 kS1.1
  have rr1 : rr 4 C (bb + 6) (nI R) = some (bb + 7 + 6 * R) := rr_eq (by rw [kS2.2.2.2.2]; omega) (by omega) hqr.1 kR1.1
  have c0 : m_X2_readRule C 2 = cS (bgC C2 (bb + 7 + 6 * R) u) (bb + 7 + 6 * R) := by
    unfold m_X2_readRule
    simp +decide (disch := omega) only [c82, hk82, ↓reduceIte, rc25, obs, hS.2.1, wL8, wi1, rf_eq hρ.2.2.2.1 kS1.2.2.2.2.2.2, rr1, a1, b1, b2s, c_bgC]
    rfl
  have hsel : SelP (bgC C2 (bb + 7 + 6 * R) u) (bb + 7 + 6 * R) (D2.2 147) R 0 := by
    refine ⟨?_, ?_, ?_, ?_, ?_, fun i hi => by omega, fun i hi => by omega⟩
    · unfold bgC
      rw [wI2, if_pos rfl, if_neg (by decide), wI2, if_pos rfl, if_neg (by decide), wI2, if_pos rfl, if_neg (by decide), wI2, if_pos rfl, if_neg (by decide), wI2, if_pos rfl, if_pos rfl, b9 R hR, T0, fr5]
      simp
    · unfold bgC
      rw [wI2, if_pos rfl, if_neg (by decide), wI2, if_pos rfl, if_neg (by decide), wI2, if_pos rfl, if_neg (by decide), wI2, if_pos rfl, if_pos rfl]; rfl
    · unfold bgC
      rw [wI2, if_pos rfl, if_neg (by decide), wI2, if_pos rfl, if_neg (by decide), wI2, if_pos rfl, if_pos rfl]; rfl
    · unfold bgC
      rw [wI2, if_pos rfl, if_neg (by decide), wI2, if_pos rfl, if_pos rfl]
    · unfold bgC
      rw [wI2, if_pos rfl, if_pos rfl]
  have hout := out_S (C := bgC C2 (bb + 7 + 6 * R) u) (D := D2) hs hR (by rw [hH3.1]; exact h25) (by rw [hH3.1]; exact hρ) hC3 b5 hsel (fun i i1 i2 => by rw [T2 _ (by omega), T2 _ (by omega)]; exact fr1 i i1 i2) (by rw [hH3.2.1 bb (by omega) (by omega)]; exact hS.2.1) (by rw [T2 1 (by omega)]; exact hW.2.2.1) (by rw [T2 _ (by omega)]; exact fr2) (by rw [T2 _ (by omega)]; exact fr3) (fun p hp => by rw [T2 _ (by omega)]; exact fr4 p hp)
  have m0 : mRu D0 = (((m_X8_readsCompound D2 144 (nI (3 * R))).bind fun M => m_X8_readsRule_L46 144 FU M (nI R) (nI 1)).bind mEnd) := by
    rw [mRu_end, b3]
  rw [← c0, ← m0] at hout
  have hbk : ∀ j, j ≠ 2 → (j < bb ∨ bb + 54 < j) → (bgC C2 (bb + 7 + 6 * R) u).2 j = C.2 j := fun j j1 j2 => hH3.2.1 j j1 (by omega)
  rcases hout with ⟨C5, D5, k', s', e', dm, c', x1, x2, x3, x4, x5, x6, ⟨y1, y2, y3, y4, y5, y6⟩, z1, z2, z3, z4, z5, z6, z7⟩ | ⟨C5, D5, s', x1, x2, x3, x4, x5, x6⟩
  · left
    refine ⟨C5, D0, D5, k', s', e', x1, g1, w0, x2, x3, x4, by omega, ?_, ⟨by rw [y1, hH3.1], fun j j1 j2 => ?_, fun i i1 i2 i3 => by rw [y3 i i1 i2 i3, hH3.2.2 i i1 i2 i3]⟩, GD_trans GD2 z7⟩
    · refine DR_rule (c' := c') hs hR hDR0 (by rw [y1, hH3.1]) (fun j j1 j2 j3 j4 => ?_) ?_ y5 ?_ x6 z1 (fun i i1 i2 i3 => ?_) (fun r r1 r2 => ?_) z3 z4 z5 ?_
      · rw [y2 j (by omega) (by omega) j3 j4, hH3.2.1 j (by omega) j4]
      · rw [y4, hH3.2.1 bb (by omega) (by omega)]
      · rw [y6, hH3.2.1 (bb + 3) (by omega) (by omega)]
      · rw [z2 i i1 i2, T2 i i3]
      · rw [z2 2 (by unfold NR; omega) (by omega), b9 r r1, T0]
        simp [r2]
      · rw [z6, b10, g2.2.1 148 (by decide)]
    · rw [y2 j j1 (by omega) (by omega) (by omega), hbk j j1 j2]
  · right
    have hH5 := HC_trans hH3 x5
    exact ⟨C5, D0, D5, s', x1, g1, w0, x2, x3, x4, HC_GC hH5 (by omega) (by omega), GD_trans GD2 x6⟩
end READ13
