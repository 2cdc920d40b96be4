/-! ===== ask, both sides; the law ===== -/
section ASK5
variable {M : Mem}
theorem op_ask (hI : Inv M) : Alike2 (m_X7_ask M 0) (fun M1 => m_X8_ask M1 144) := by
  obtain ⟨b, bb, N, R, L, h, m, rem, sn, sp, sv, H⟩ := hI
  obtain ⟨M1, M2, a1, a2, a3, a4, a5, a6⟩ := ask_pieces H
  have h8 : R ≤ 8 := H.2.1.2.2.2.1
  have hk : cntB R (uns (M.2 146) (M.2 149) R sn sp sv m) ≤ R := cntB_le _ _
  by_cases hle : cntB R (uns (M.2 146) (M.2 149) R sn sp sv m) ≤ 1
  · have hq : ¬ (1 : Int32) < nI (cntB R (uns (M.2 146) (M.2 149) R sn sp sv m)) := fun hx => absurd ((nI_ltI (a := 1) (by omega) (by omega)).1 hx) (by omega)
    refine ask_alike H (M1 := M1) a2 ?_
    unfold m_X7_ask askV
    rw [if_pos hle, a1, b2s, a3, obs, if_neg hq]
  · have hq : (1 : Int32) < nI (cntB R (uns (M.2 146) (M.2 149) R sn sp sv m)) := (nI_ltI (a := 1) (by omega) (by omega)).2 (by omega)
    refine ask_alike H (M1 := M2) a5 ?_
    unfold m_X7_ask askV
    rw [if_neg hle, a1, b2s, a3, obs, if_pos hq, a4, obs]
    exact a6
end ASK5
theorem law_pure (L : Nat) (xs : Nat → Int32) (h : L ≤ 2048) : m_law L xs = some 1 := law_by_ask (fun _ hI => op_ask hI) h
