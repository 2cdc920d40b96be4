/-! ===== ask: what the call's own text is put together from ===== -/
section ASK4
variable {M : Mem} {b bb N R L h m : Nat} {rem sn sp : Nat → Nat} {sv : Nat → Int32}
/-- the class's pieces: the unseen set, its count, what is gathered, the choice from nothing chosen and none counted -/
theorem ask_pieces (H : Iv M b bb N R L h m rem sn sp sv) : ∃ M1 M2, m_X7_unseen M 0 = some (bs R (uns (M.2 146) (M.2 149) R sn sp sv m), M1) ∧ TA M M1 ∧ m_J6_bitCount_0f7a4 (bs R (uns (M.2 146) (M.2 149) R sn sp sv m)) = some (nI (cntB R (uns (M.2 146) (M.2 149) R sn sp sv m))) ∧ m_X7_gatherAnswers M1 0 (bs R (uns (M.2 146) (M.2 149) R sn sp sv m)) = some M2 ∧ TA M M2 ∧ m_X7_ask_L29 0 FU M2 (-9) 0 0 = some ((askF (aCnt (M.2 146) (M.2 149) R (uns (M.2 146) (M.2 149) R sn sp sv m)) (4 * N)).1, M2) := by
  obtain ⟨⟨hC, hM⟩, hW, hS, hL, hSt, hT, hTx, hH, ⟨hc, hm⟩, hK⟩ := H
  have h8 := hW.2.2.2.1
  have h9 := hW.2.1
  have hbl := sb_le (cr_sb hC)
  obtain ⟨M1, e1, e2⟩ := c_unseen hC hW hS hL hc
  have hC1 := CR_Tx e2 hC
  obtain ⟨M2, f1, f2, f3⟩ := c_gather (U := uns (M.2 146) (M.2 149) R sn sp sv m) hC1 hW (ShR_Tx e2 (cr_sb hC) h8 hS) (LkR_Tx e2 hL)
  have hC2 : CR M2.1 b bb := by rw [f2.1]; exact hC1
  have hS2 : M2.2 b 0 = nI N := by
    rw [f2.2 b (by omega) (by omega) (by omega) (by omega) (by omega), e2.2 b (by omega) (by omega) (by omega) (by omega)]
    exact hS.1
  refine ⟨M1, M2, e1, Tx_TA e2, ?_, f1, TA_trans (Tx_TA e2) f2, ?_⟩
  · rw [bitc_ok (bs_hi (by omega)), cN10_bs (by omega)]
  · exact c_ask_F hC2 hS2 h9 (fun x => aCnt_le x) (fun x hx => by rw [f3 x hx]; exact aCnt_bits hW x) (4 * N) 0 FU (by omega) (by unfold FU; omega)
/-- where the class answers so, both answer alike -/
theorem ask_alike (H : Iv M b bb N R L h m rem sn sp sv) {M1 : Mem} (hX : TA M M1) (hc : m_X7_ask M 0 = some (askV (M.2 146) (M.2 149) N R (uns (M.2 146) (M.2 149) R sn sp sv m), M1)) : Alike2 (m_X7_ask M 0) (fun M1 => m_X8_ask M1 144) := by
  have H0 := H
  obtain ⟨⟨hC, hM⟩, hW, hS, hL, hSt, hT, hTx, hH, ⟨-, hm⟩, hK⟩ := H
  have hx := TA_SX hX
  obtain ⟨M2, e1, e2⟩ := m_ask (MR_SX hx hM) (WF_SX hx hW) (SeM_SX hx hm)
  rw [sx_146 hx, sx_149 hx] at e1
  exact ⟨_, M1, M2, hc, e1, Inv_SX (SX_trans hx e2) H0⟩
end ASK4
