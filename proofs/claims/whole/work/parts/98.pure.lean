theorem law_pure (L : Nat) (xs : Nat → Int32) (h : L ≤ 2048) : m_law L xs = some 1 := by
  sorry
