/-! ===== ask, both sides; the law ===== -/
section ASK5
variable {M : Mem}
/-- to be proved over the class as it stands: m_X7_ask from ask_pieces -/
theorem op_ask (hI : Inv M) : Alike2 (m_X7_ask M 0) (fun M1 => m_X8_ask M1 144) := by
  obtain ⟨b, bb, N, R, L, h, m, rem, sn, sp, sv, H⟩ := hI
  obtain ⟨M1, M2, a1, a2, a3, a4, a5, a6⟩ := ask_pieces H
  refine ask_alike H (M1 := M2) a5 ?_
  unfold m_X7_ask askV
  sorry
end ASK5
theorem law_pure (L : Nat) (xs : Nat → Int32) (h : L ≤ 2048) : m_law L xs = some 1 := law_by_ask (fun _ hI => op_ask hI) h
