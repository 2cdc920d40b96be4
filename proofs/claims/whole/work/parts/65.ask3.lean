/-! ===== ask: the class's choice, from nothing chosen and none counted ===== -/
section ASK3
variable {N R b bb : Nat} {T S : Nat → Int32}
theorem aCnt_le {U : Nat → Bool} (x : Nat) : aCnt T S R U x ≤ 10 := by
  unfold aCnt
  exact cN10_le _
theorem aCnt_bits {U : Nat → Bool} (hW : WF T N R) (x : Nat) : m_J6_bitCount_0f7a4 (vset T S R (x / 4) (x % 4) U R) = some (nI (aCnt T S R U x)) := by
  unfold aCnt
  exact bitc_ok (vset_hi hW (by omega) R)
theorem askF_s (cnt : Nat → Nat) (x : Nat) : askF cnt (x + 1) = if cnt x ≤ (askF cnt x).2 then askF cnt x else (nI x, cnt x) := rfl
theorem ask_step {M : Mem} (hC : CR M.1 b bb) {n c x fu : Nat} {x1 : Int32} {q : Nat} (hS : M.2 b 0 = nI n) (hn : n ≤ 9) (hx : x < 4 * n) (hc : c ≤ 10) (hq : q ≤ 10) (ho : m_J6_bitCount_0f7a4 (M.2 137 x) = some (nI c)) : m_X7_ask_L29 0 (fu + 1) M x1 (nI q) (nI x) = if c ≤ q then m_X7_ask_L29 0 fu M x1 (nI q) (nI (x + 1)) else m_X7_ask_L29 0 fu M (nI x) (nI c) (nI (x + 1)) := by
  rw [m_X7_ask_L29]
  rw [rc3 hC, obs, hS, show (4 : Int32) = nI 4 from rfl, pk_mul]
  simp (disch := omega) only [qle]
  rw [if_neg (by omega), rc12 hC, obs, ra_137 (by omega), obs, ho, obs]
  simp (disch := omega) only [qle, nI_1]
theorem ask_end {M : Mem} (hC : CR M.1 b bb) {n x fu : Nat} {x1 x2 : Int32} (hS : M.2 b 0 = nI n) (hn : n ≤ 9) (hx : 4 * n = x) : m_X7_ask_L29 0 (fu + 1) M x1 x2 (nI x) = some (x1, M) := by
  rw [m_X7_ask_L29]
  rw [rc3 hC, obs, hS, show (4 : Int32) = nI 4 from rfl, pk_mul, hx]
  rw [if_pos (Int32.le_refl _)]
theorem c_ask_F {M : Mem} (hC : CR M.1 b bb) {n : Nat} (hS : M.2 b 0 = nI n) (hn : n ≤ 9) {cnt : Nat → Nat} (hc : ∀ x, cnt x ≤ 10) (ho : ∀ x, x < 4 * n → m_J6_bitCount_0f7a4 (M.2 137 x) = some (nI (cnt x))) :
    ∀ (d x fu : Nat), x + d = 4 * n → d < fu → m_X7_ask_L29 0 fu M (askF cnt x).1 (nI (askF cnt x).2) (nI x) = some ((askF cnt (4 * n)).1, M) := by
  intro d
  induction d with
  | zero =>
    intro x fu hi hf
    obtain ⟨fu, rfl⟩ : ∃ f, fu = f + 1 := ⟨fu - 1, by omega⟩
    obtain rfl : x = 4 * n := by omega
    exact ask_end hC hS hn rfl
  | succ d ih =>
    intro x fu hi hf
    obtain ⟨fu, rfl⟩ : ∃ f, fu = f + 1 := ⟨fu - 1, by omega⟩
    have next := ih (x + 1) fu (by omega) (by omega)
    rw [ask_step hC hS hn (by omega) (hc x) (askF_le hc x) (ho x (by omega))]
    rw [askF_s] at next
    by_cases hle : cnt x ≤ (askF cnt x).2
    · rw [if_pos hle] at next ⊢
      exact next
    · rw [if_neg hle] at next ⊢
      exact next
end ASK3
