/-! ===== tools: ints as naturals, bits ===== -/
theorem lit (n : Nat) : (OfNat.ofNat n : Int32) = nI n := rfl
theorem le_s {a b : Nat} (ha : a < 2 ^ 31) (hb : b < 2 ^ 31) : (nI a ≤ nI b) = (a ≤ b) := propext (nI_leI ha hb)
theorem lt_s {a b : Nat} (ha : a < 2 ^ 31) (hb : b < 2 ^ 31) : (nI a < nI b) = (a < b) := propext (nI_ltI ha hb)
theorem eq_s {a b : Nat} (ha : a < 2 ^ 31) (hb : b < 2 ^ 31) : (nI a = nI b) = (a = b) := propext (nI_eq ha hb)
theorem test1 (k n : Nat) (h : k < n) (hn : n ≤ 9) : m_X7_within (nI k) (nI n) = some 1 := by
  unfold m_X7_within
  simp (disch := omega) only [lit, le_s, lt_s, eq_s]
  sorry
theorem test2 (k n : Nat) (h : k < n) (hn : n ≤ 9) : m_X7_within (nI k) 120 = some 1 := by
  unfold m_X7_within
  simp (disch := omega) [lit, le_s, lt_s, eq_s]
  sorry
