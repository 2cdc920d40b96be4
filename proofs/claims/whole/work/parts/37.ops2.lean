/-! ===== calls: change, wanted, unseen, count ===== -/
section OPS2
variable {M M1 : Mem} {b b2 N R L h m : Nat} {rem sn sp : Nat → Nat} {sv : Nat → Int32}
theorem y_125 (hC : CR M.1 b b2) : YRf M.1 125 := cr_125 hC
theorem op_change (H : Iv M b b2 N R L h m rem sn sp sv) (x1 x2 x3 : Int32) : Alike2 (m_X7_change M 0 x1 x2 x3) (fun M1 => m_X8_change M1 144 x1 x2 x3) := by
  have H0 := H
  obtain ⟨⟨hC, hM⟩, hW, hS, hL, hSt, hT, hTx, hH, ⟨hc, hm⟩, hK⟩ := H
  have h9 := hW.2.1
  have hz := SX_z M 0
  have hMz := MR_SX hz hM
  have hWz := WF_SX hz hW
  have iz := Inv_SX hz H0
  rcases qix x1 N (by omega) with ⟨n, hn, rfl⟩ | hx
  · rcases qix x2 4 (by omega) with ⟨c, hc4, rfl⟩ | hx
    · rcases qix x3 2 (by omega) with ⟨j, hj, rfl⟩ | hx
      · obtain rfl | rfl : j = 0 ∨ j = 1 := by omega
        · refine ⟨bs N (lkR (M.2 146) (M.2 149) n c R), M, _, ?_, ?_, iz⟩
          · unfold m_X7_change
            simp +decide (disch := omega) only [rc3 hC, rc4 hC, obs, hS.1, wi1, wL4, wL2, ↓reduceIte, c_lookedAt (cr_sb hC) (cr_sr hC) (cr_114 hC) lk_114 hW hS hL hn hc4]
          · unfold m_X8_change
            simp +decide (disch := omega) only [pIs, obs, m_isNode1 hMz hWz hn, m_isFour1 hc4, iL1, in1, ↓reduceIte, m_lookedAt hMz hWz hn hc4, sx_146 hz, sx_149 hz]
        · obtain ⟨M2, e1, e2, e3⟩ := c_tryOut hC hW hS hL (x := 4 * n + c) (Or.inl (by omega))
          have hX := Tx_SX e2
          have hC2 := CR_Tx e2 hC
          have hSt2 : StR M2 120 (M.2 146) (M.2 149) N R := StR_fr (fun i h1 h2 => e2.2 i (by omega) (by omega) (by omega) (by omega)) hSt
          have hX2 := SX_trans hX (SX_z M2 0)
          obtain ⟨M3, f1, f2⟩ := m_different (MR_SX hX2 hM) (WF_SX hX2 hW) hn hc4
          rw [sx_146 hX2, sx_149 hX2] at f1
          refine ⟨bs N (dfB (M.2 146) (M.2 149) (ap (4 * n + c) (M.2 149)) R), M2, M3, ?_, ?_, Inv_SX (SX_trans hX2 f2) H0⟩
          · unfold m_X7_change
            simp +decide (disch := omega) only [rc3 hC, obs, hS.1, wi1, wL4, wL2, ↓reduceIte, qmu, nI_add, e1, rc6 hC2, rc7 hC2, c_diff (cr_120 hC2) yk_120 (cr_125 hC2) yk_125 hW hSt2 e3]
          · unfold m_X8_change
            simp +decide (disch := omega) only [pIs, obs, m_isNode1 (MR_SX hX2 hM) (WF_SX hX2 hW) hn, m_isFour1 hc4, iL1, in1, ↓reduceIte, f1, b2s]
      · refine ⟨-2, M, _, ?_, ?_, iz⟩
        · unfold m_X7_change
          simp +decide (disch := omega) only [rc3 hC, obs, hS.1, wi1, wL4, wL2, wi0 hx, ↓reduceIte]
        · unfold m_X8_change
          simp +decide (disch := omega) only [pIs, obs, m_isNode1 hMz hWz hn, m_isFour1 hc4, iL1, in0n (n := 1) (by omega) hx, ↓reduceIte]
    · refine ⟨-2, M, _, ?_, ?_, iz⟩
      · unfold m_X7_change
        simp +decide (disch := omega) only [rc3 hC, obs, hS.1, wi1, wL4, wi0 hx, ↓reduceIte]
      · unfold m_X8_change
        simp +decide (disch := omega) only [pIs, obs, m_isNode1 hMz hWz hn, m_isFour0 hx, ↓reduceIte]
  · refine ⟨-2, M, _, ?_, ?_, iz⟩
    · unfold m_X7_change
      simp +decide (disch := omega) only [rc3 hC, obs, hS.1, wi0 hx, ↓reduceIte]
    · unfold m_X8_change
      simp +decide (disch := omega) only [pIs, obs, m_isNode0 hMz hWz hx, ↓reduceIte]
theorem op_wanted (H : Iv M b b2 N R L h m rem sn sp sv) (x1 x2 x3 : Int32) : Alike2 (m_X7_wanted M 0 x1 x2 x3) (fun M1 => m_X8_wanted M1 144 x1 x2 x3) := by
  have H0 := H
  obtain ⟨⟨hC, hM⟩, hW, hS, hL, hSt, hT, hTx, hH, ⟨hc, hm⟩, hK⟩ := H
  have h9 := hW.2.1
  have hz := SX_z M 0
  have hMz := MR_SX hz hM
  have hWz := WF_SX hz hW
  have iz := Inv_SX hz H0
  rcases qix x1 N (by omega) with ⟨n, hn, rfl⟩ | hx
  · rcases qix x2 4 (by omega) with ⟨p, hp, rfl⟩ | hx
    · rcases qix x3 10 (by omega) with ⟨v, hv, rfl⟩ | hx
      · by_cases hq : valO (M.2 146) (M.2 149) R n p = nI v
        · obtain ⟨M3, f1, f2, f3⟩ := m_fill2 hM hW
          have hM3 := MR_SX f2 hM
          have hW3 := WF_SX f2 hW
          refine ⟨-1, M, M3, ?_, ?_, Inv_SX f2 H0⟩
          · unfold m_X7_wanted
            simp +decide (disch := omega) only [c_isPlace1 hC hW hS hn hp, obs, wi1, wL10, ↓reduceIte, rc6 hC, c_valueAt (cr_120 hC) yk_120 h9 hSt hn hp, hq]
          · unfold m_X8_wanted
            simp +decide (disch := omega) only [pIs, obs, m_isNode1 hMz hWz hn, m_isFour1 hp, iL9, in1, ↓reduceIte, f1, m_valueOf hM3 hW3 f3 hn hp, sx_146 f2, sx_149 f2, hq]
        · obtain ⟨M1, e1, e2⟩ := c_wanted hC hW hS hL hn hp (v := nI v)
          have hX := Tx_SX e2
          obtain ⟨M3, f1, f2, f3⟩ := m_fill2 (MR_SX hX hM) (WF_SX hX hW)
          have hX3 := SX_trans hX f2
          have hM3 := MR_SX hX3 hM
          have hW3 := WF_SX hX3 hW
          have hXz := SX_trans hX (SX_z M1 0)
          obtain ⟨M4, g1, g2⟩ := wt_L65 hM3 hW3 hn hp (v := nI v) (4 * N) 0 FU M3 (by omega) (by unfold FU; omega) (SX_refl M3)
          rw [sx_146 hX3, sx_149 hX3, show frs (dW (M.2 146) (M.2 149) R n p (nI v) 0) 0 (4 * N) = none from rfl, encN] at g1
          refine ⟨wtd (M.2 146) (M.2 149) N R n p (nI v), M1, M4, ?_, ?_, Inv_SX (SX_trans hX3 g2) H0⟩
          · unfold m_X7_wanted
            simp +decide (disch := omega) only [c_isPlace1 hC hW hS hn hp, obs, wi1, wL10, ↓reduceIte, rc6 hC, c_valueAt (cr_120 hC) yk_120 h9 hSt hn hp, hq]
            exact e1
          · unfold m_X8_wanted
            simp +decide (disch := omega) only [pIs, obs, m_isNode1 (MR_SX hXz hM) (WF_SX hXz hW) hn, m_isFour1 hp, iL9, in1, ↓reduceIte, f1, m_valueOf hM3 hW3 f3 hn hp, sx_146 hX3, sx_149 hX3, hq, rm8 hM3, ra_146z, hW.1, qmu]
            exact g1
      · refine ⟨-2, M, _, ?_, ?_, iz⟩
        · unfold m_X7_wanted
          simp +decide (disch := omega) only [c_isPlace1 hC hW hS hn hp, obs, wL10, wi0 hx, ↓reduceIte]
        · unfold m_X8_wanted
          simp +decide (disch := omega) only [pIs, obs, m_isNode1 hMz hWz hn, m_isFour1 hp, iL9, in0n (n := 9) (by omega) hx, ↓reduceIte]
    · refine ⟨-2, M, _, ?_, ?_, iz⟩
      · unfold m_X7_wanted
        simp +decide (disch := omega) only [c_isPlace0b hC hW hS hn hx, obs, ↓reduceIte]
      · unfold m_X8_wanted
        simp +decide (disch := omega) only [pIs, obs, m_isNode1 hMz hWz hn, m_isFour0 hx, ↓reduceIte]
  · refine ⟨-2, M, _, ?_, ?_, iz⟩
    · unfold m_X7_wanted
      simp +decide (disch := omega) only [c_isPlace0a hC hS hx, obs, ↓reduceIte]
    · unfold m_X8_wanted
      simp +decide (disch := omega) only [pIs, obs, m_isNode0 hMz hWz hx, ↓reduceIte]
theorem op_unseen (H : Iv M b b2 N R L h m rem sn sp sv) : Alike2 (m_X7_unseen M 0) (fun M1 => m_X8_unseen M1 144) := by
  have H0 := H
  obtain ⟨⟨hC, hM⟩, hW, hS, hL, hSt, hT, hTx, hH, ⟨hc, hm⟩, hK⟩ := H
  obtain ⟨M1, e1, e2⟩ := c_unseen hC hW hS hL hc
  have hX := Tx_SX e2
  have hXz := SX_trans hX (SX_z M1 0)
  obtain ⟨M3, f1, f2⟩ := m_unseenSet (MR_SX hXz hM) (WF_SX hXz hW) (SeM_SX hXz hm)
  rw [sx_146 hXz, sx_149 hXz] at f1
  refine ⟨_, M1, M3, e1, ?_, Inv_SX (SX_trans hXz f2) H0⟩
  unfold m_X8_unseen
  simp only [pIs, f1, b2s]
theorem m_styles_L (hM : MR M.1) (hW : WF (M.2 146) N R) (hF : FLD M N R) :
    ∀ (d i fu : Nat), i + d = N → d < fu → m_X8_styles_L8 144 fu M (nI (cntB i (rcB (M.2 146) (M.2 149) R))) (nI i) = some (nI (cntB N (rcB (M.2 146) (M.2 149) R)), M) := by
  have h9 := hW.2.1
  intro d
  induction d with
  | zero =>
    intro i fu hi hf
    obtain ⟨fu, rfl⟩ : ∃ f, fu = f + 1 := ⟨fu - 1, by omega⟩
    unfold m_X8_styles_L8
    simp (disch := omega) only [rm8 hM, obs, ra_146z, hW.1, qle]
    rw [if_pos (by omega), show i = N by omega]
  | succ d ih =>
    intro i fu hi hf
    obtain ⟨fu, rfl⟩ : ∃ f, fu = f + 1 := ⟨fu - 1, by omega⟩
    have next := ih (i + 1) fu (by omega) (by omega)
    have b1 := rcG_le (M.2 146) (M.2 149) R i
    have e : cntB (i + 1) (rcB (M.2 146) (M.2 149) R) = cntB i (rcB (M.2 146) (M.2 149) R) + if rcB (M.2 146) (M.2 149) R i then 1 else 0 := rfl
    unfold m_X8_styles_L8
    simp (disch := omega) only [rm8 hM, obs, ra_146z, hW.1, qle, m_recordOf hM hW hF (show i < N by omega), qeq, nI_1]
    rw [if_neg (by omega)]
    by_cases hq : rcG (M.2 146) (M.2 149) R i = i
    · rw [if_pos hq]
      rw [e, if_pos (by simp [rcB, hq])] at next
      exact next
    · rw [if_neg hq, show (0 : Int32) = nI 0 from rfl, nI_add]
      rw [e, if_neg (by simp [rcB, hq])] at next
      exact next
theorem nlit {x : Int32} (hx : x < 0 ∨ nI 7 ≤ x) : ¬ x = 0 ∧ ¬ x = 1 ∧ ¬ x = 2 ∧ ¬ x = 3 ∧ ¬ x = 4 ∧ ¬ x = 5 ∧ ¬ x = 6 := by
  refine ⟨?_, ?_, ?_, ?_, ?_, ?_, ?_⟩ <;> (intro e; subst e; revert hx; decide)
theorem op_count (H : Iv M b b2 N R L h m rem sn sp sv) (x1 : Int32) : Alike (m_X7_count M 0 x1) (m_X8_count M 144 x1) := by
  have H0 := H
  obtain ⟨⟨hC, hM⟩, hW, hS, hL, hSt, hT, hTx, hH, ⟨hc, hm⟩, hK⟩ := H
  have h9 := hW.2.1
  have hz := SX_z M 0
  have hMz := MR_SX hz hM
  have hWz := WF_SX hz hW
  have iz := Inv_SX hz H0
  rcases qix x1 7 (by omega) with ⟨j, hj, rfl⟩ | hx
  · have z2 : (wI M 144 0 0).2 144 2 = M.2 144 2 := hz.2.2 2 (by omega)
    have z13 : (wI M 144 0 0).2 144 13 = M.2 144 13 := hz.2.2 13 (by omega)
    have z19 : (wI M 144 0 0).2 144 19 = M.2 144 19 := hz.2.2 19 (by omega)
    have hL2 : M.2 114 2 = M.2 149 18 := hL.2
    have r0 : ra (wI M 144 0 0) 146 (nI 0) = some (M.2 146 0) := by rw [ra_146 (by omega), sx_146 hz]
    have r1 : ra (wI M 144 0 0) 146 (nI 1) = some (M.2 146 1) := by rw [ra_146 (by omega), sx_146 hz]
    obtain rfl | rfl | rfl | rfl | rfl | rfl | rfl : j = 0 ∨ j = 1 ∨ j = 2 ∨ j = 3 ∨ j = 4 ∨ j = 5 ∨ j = 6 := by omega
    · refine ⟨nI N, _, ?_, ?_, iz⟩
      · unfold m_X7_count
        simp +decide (disch := omega) only [rc3 hC, obs, hS.1, ↓reduceIte]
      · unfold m_X8_count
        simp +decide (disch := omega) only [pIs, obs, iL6, in1, ↓reduceIte, rm8 hMz, r0, hW.1]
    · refine ⟨nI R, _, ?_, ?_, iz⟩
      · unfold m_X7_count
        simp +decide (disch := omega) only [rc3 hC, obs, hS.2.1, ↓reduceIte]
      · unfold m_X8_count
        simp +decide (disch := omega) only [pIs, obs, iL6, in1, ↓reduceIte, rm8 hMz, r1, hW.2.2.1]
    · refine ⟨M.2 149 18, _, ?_, ?_, iz⟩
      · unfold m_X7_count
        simp +decide (disch := omega) only [rc4 hC, obs, ↓reduceIte, hL2]
      · unfold m_X8_count
        simp +decide (disch := omega) only [pIs, obs, iL6, in1, ↓reduceIte, rm11 hMz, ra_149e, sx_149 hz]
    · obtain ⟨M3, f1, f2, f3⟩ := m_fill2 hM hW
      have hM3 := MR_SX f2 hM
      have hW3 := WF_SX f2 hW
      have hl := m_styles_L hM3 hW3 f3 N 0 FU (by omega) (by unfold FU; omega)
      rw [sx_146 f2, sx_149 f2, show nI (cntB 0 (rcB (M.2 146) (M.2 149) R)) = 0 from rfl, show nI 0 = 0 from rfl] at hl
      refine ⟨nI (cntB N (rcB (M.2 146) (M.2 149) R)), M3, ?_, ?_, Inv_SX f2 H0⟩
      · unfold m_X7_count
        simp +decide (disch := omega) only [rc6 hC, obs, ↓reduceIte, c_unlike (cr_120 hC) yk_120 hW hSt]
      · unfold m_X8_count m_X8_styles
        simp +decide (disch := omega) only [pIs, obs, iL6, in1, ↓reduceIte, f1, hl, b2s]
    · refine ⟨nI m, _, ?_, ?_, iz⟩
      · unfold m_X7_count
        simp +decide (disch := omega) only [rc9 hC, obs, ↓reduceIte, hc.1]
      · unfold m_X8_count
        simp +decide (disch := omega) only [pIs, obs, iL6, in1, ↓reduceIte, z19, hm.1]
    · refine ⟨nI L, _, ?_, ?_, iz⟩
      · unfold m_X7_count
        simp +decide (disch := omega) only [↓reduceIte, hTx.1]
      · unfold m_X8_count
        simp +decide (disch := omega) only [pIs, obs, iL6, in1, ↓reduceIte, z2, hTx.2.1]
    · refine ⟨nI h, _, ?_, ?_, iz⟩
      · unfold m_X7_count
        simp +decide (disch := omega) only [rc8 hC, obs, ↓reduceIte, hH.1]
      · unfold m_X8_count
        simp +decide (disch := omega) only [pIs, obs, iL6, in1, ↓reduceIte, z13, hH.2.1]
  · obtain ⟨a0, a1, a2, a3, a4, a5, a6⟩ := nlit hx
    refine ⟨-2, _, ?_, ?_, iz⟩
    · unfold m_X7_count
      simp only [a0, a1, a2, a3, a4, a5, a6, ↓reduceIte]
    · unfold m_X8_count
      simp +decide (disch := omega) only [pIs, obs, iL6, in0n (n := 6) (by omega) hx, ↓reduceIte]
end OPS2
