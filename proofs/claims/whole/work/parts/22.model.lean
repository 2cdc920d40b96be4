/-! ===== literals beside naturals ===== -/
theorem qa1 (k n : Nat) : (no_index (OfNat.ofNat k : Int32)) + nI n = nI (k + n) := nI_add k n
theorem qa2 (k n : Nat) : nI n + (no_index (OfNat.ofNat k : Int32)) = nI (n + k) := nI_add n k
theorem qmu (k n : Nat) : (no_index (OfNat.ofNat k : Int32)) * nI n = nI (k * n) := pk_mul k n
theorem qs1 {k n : Nat} (h : k ≤ n) : nI n - (no_index (OfNat.ofNat k : Int32)) = nI (n - k) := pk_sub h
theorem qle1 (k n : Nat) : ((no_index (OfNat.ofNat k : Int32)) ≤ nI n) = (nI k ≤ nI n) := by
  have h : (((OfNat.ofNat k : Int32)) ≤ nI n) = (nI k ≤ nI n) := rfl
  exact h.trans (Eq.refl _)
theorem qle2 (k n : Nat) : (nI n ≤ (no_index (OfNat.ofNat k : Int32))) = (nI n ≤ nI k) := by
  have h : (nI n ≤ ((OfNat.ofNat k : Int32))) = (nI n ≤ nI k) := rfl
  exact h.trans (Eq.refl _)
theorem qlt1 (k n : Nat) : ((no_index (OfNat.ofNat k : Int32)) < nI n) = (nI k < nI n) := by
  have h : (((OfNat.ofNat k : Int32)) < nI n) = (nI k < nI n) := rfl
  exact h.trans (Eq.refl _)
theorem qlt2 (k n : Nat) : (nI n < (no_index (OfNat.ofNat k : Int32))) = (nI n < nI k) := by
  have h : (nI n < ((OfNat.ofNat k : Int32))) = (nI n < nI k) := rfl
  exact h.trans (Eq.refl _)
theorem qeq1 (k n : Nat) : (nI n = (no_index (OfNat.ofNat k : Int32))) = (nI n = nI k) := by
  have h : (nI n = ((OfNat.ofNat k : Int32))) = (nI n = nI k) := rfl
  exact h.trans (Eq.refl _)
theorem ra_146z {M : Mem} : ra M 146 0 = some (M.2 146 0) := ra_146 (k := 0) (by omega)
theorem ra_146o {M : Mem} : ra M 146 1 = some (M.2 146 1) := ra_146 (k := 1) (by omega)
theorem qs_1 {n : Nat} (h : 1 ≤ n) : nI n - 1 = nI (n - 1) := pk_sub (b := 1) h
theorem q0a (n : Nat) : (0 : Int32) + nI n = nI n := by rw [show (0 : Int32) = nI 0 from rfl, nI_add, Nat.zero_add]
theorem qeq_0 {n : Nat} (h : n < 2 ^ 31) : (nI n = 0) = (n = 0) := qeq (b := 0) h (by omega)
theorem qeq_1 {n : Nat} (h : n < 2 ^ 31) : (nI n = 1) = (n = 1) := qeq (b := 1) h (by omega)
theorem qle_0 {n : Nat} (h : n < 2 ^ 31) : (nI n ≤ 0) = (n = 0) := by rw [show (0 : Int32) = nI 0 from rfl, qle h (by omega)]; simp
theorem qor0 (x : Int32) : x ||| 0 = x := by
  apply b_ext
  intro i hi
  rw [b_or, b_0]
  simp
theorem enc_m9 {x : Option Nat} (h : ∀ q, x = some q → q < 2 ^ 31) : (enc x = -9) = (x = none) := by
  cases x with
  | none => simp [enc]
  | some q => simp only [enc, qm9 (h q rfl)]; simp
def bi (b : Bool) : Int32 := if b then 1 else 0
theorem bi_0 {b : Bool} : (bi b = 0) = (b = false) := by cases b <;> simp [bi]
section MODEL
variable {M : Mem} {N R : Nat}
theorem m_isNode1 (hM : MR M.1) (hW : WF (M.2 146) N R) {n : Nat} (hn : n < N) : m_X8_isNode M 144 (nI n) = some 1 := by
  have h9 := hW.2.1
  unfold m_X8_isNode
  simp (disch := omega) only [rm8 hM, obs, ra_146z, hW.1, qs_1, in1]
  rfl
theorem in0N {x : Int32} (hN : N ≤ 9) (hx : x < 0 ∨ nI N ≤ x) : m_X8_in x 0 (nI N - 1) = some 0 := by
  cases N with
  | zero =>
    have h1 : nI 0 - 1 = -1 := by decide
    rw [h1]
    unfold m_X8_in
    by_cases h0 : x < 0
    · rw [if_pos h0]
    · rw [if_neg h0, if_pos]
      exact Int32.lt_of_lt_of_le (by decide) (Int32.not_lt.mp h0)
  | succ N =>
    rw [show nI (N + 1) - 1 = nI N from nI_pred N]
    exact in0n (by omega) hx
theorem m_isNode0 (hM : MR M.1) (hW : WF (M.2 146) N R) {x : Int32} (hx : x < 0 ∨ nI N ≤ x) : m_X8_isNode M 144 x = some 0 := by
  unfold m_X8_isNode
  simp (disch := omega) only [rm8 hM, obs, ra_146z, hW.1, in0N hW.2.1 hx]
  rfl
theorem m_isRule1 (hM : MR M.1) (hW : WF (M.2 146) N R) {r : Nat} (hr : r < R) : m_X8_isRule M 144 (nI r) = some 1 := by
  have h8 := hW.2.2.2.1
  unfold m_X8_isRule
  simp (disch := omega) only [rm8 hM, obs, ra_146o, hW.2.2.1, qs_1, in1]
  rfl
theorem m_isRule0 (hM : MR M.1) (hW : WF (M.2 146) N R) {x : Int32} (hx : x < 0 ∨ nI R ≤ x) : m_X8_isRule M 144 x = some 0 := by
  have h8 := hW.2.2.2.1
  unfold m_X8_isRule
  simp (disch := omega) only [rm8 hM, obs, ra_146o, hW.2.2.1, in0N (show R ≤ 9 by omega) hx]
  rfl
theorem m_isFour1 {k : Nat} (hk : k < 4) : m_X8_isFour (nI k) = some 1 := by
  unfold m_X8_isFour
  rw [show (3 : Int32) = nI 3 from rfl, in1 (by omega) (by omega)]
  rfl
theorem m_isFour0 {x : Int32} (hx : x < 0 ∨ nI 4 ≤ x) : m_X8_isFour x = some 0 := by
  unfold m_X8_isFour
  rw [show (3 : Int32) = nI 3 from rfl, in0n (by omega) hx]
  rfl
theorem m_fits (hM : MR M.1) {cell n : Nat} (hc : cell < 24) (hn : n < 9) : m_X8_fits M 144 (nI cell) (nI n) = some (bi (fitB (M.2 146) (M.2 149) cell n)) := by
  unfold m_X8_fits m_X8_fits_L28 fitB
  simp (disch := omega) only [rm8 hM, rm11 hM, obs, qa1, ra_146, ra_149, Nat.zero_add]
  by_cases h2 : (M.2 146 (44 + cell) &&& (M.2 149 (9 + n) ^^^ -1)) = 0
  · simp only [h2, if_true, decide_true, Bool.and_true]
    by_cases h1 : M.2 146 (20 + cell) = -9
    · simp [h1, bi]
    · by_cases h3 : M.2 146 (20 + cell) = M.2 149 n
      · rw [if_neg h1, if_pos h3]; simp [h3, bi]
      · rw [if_neg h1, if_neg h3]; simp [h1, h3, bi]
  · simp only [h2, if_false, decide_false, Bool.and_false]
    by_cases h1 : M.2 146 (20 + cell) = -9
    · simp [h1, bi]
    · by_cases h3 : M.2 146 (20 + cell) = M.2 149 n
      · rw [if_neg h1, if_pos h3]; simp [bi]
      · rw [if_neg h1, if_neg h3]; simp [bi]
/-- the exit of the inner loop -/
def exM (T S : Nat → Int32) (k17 : Int32 → Int32 → Int32 → Int32 → Option Int32) (r c n : Nat) (set x5 : Int32) (b : Bool) : Option Int32 :=
  if b && fitB T S (3 * r + c) n then k17 set (nI c) (x5 ||| ((1 : Int32) <<< (nI n &&& 31))) (nI n + 1) else k17 set (nI c) (x5 ||| 0) (nI n + 1)
theorem mt_out (hM : MR M.1) {r c n fu : Nat} (hr : r < 8) (hc : c < 3) (hn : n < 9) {k5 : Int32 → Int32 → Option Int32} {k17 : Int32 → Int32 → Int32 → Int32 → Option Int32} {set x2 x5 : Int32} (b : Bool) :
    m_X8_matching_L61 M 144 (nI r) x2 k5 k17 (fu + 1) set (nI c) x5 (nI n) (bi b) (-9) = exM (M.2 146) (M.2 149) k17 r c n set x5 b := by
  unfold m_X8_matching_L61 exM
  simp (disch := omega) only [qmu, nI_add, m_fits hM, obs, if_true, bi_0]
  cases b
  · simp
  · cases fitB (M.2 146) (M.2 149) (3 * r + c) n <;> simp
theorem mt_in (hM : MR M.1) (hW : WF (M.2 146) N R) {r c n : Nat} (hr : r < 8) (hc : c < 3) (hn : n < 9) {k5 : Int32 → Int32 → Option Int32} {k17 : Int32 → Int32 → Int32 → Int32 → Option Int32} {P : Nat → Bool} {x2 x5 : Int32} :
    ∀ (a fu : Nat), a < N → a + 2 ≤ fu → ∀ b : Bool, m_X8_matching_L61 M 144 (nI r) x2 k5 k17 fu (bs N P) (nI c) x5 (nI n) (bi b) (nI a) = exM (M.2 146) (M.2 149) k17 r c n (bs N P) x5 (b || (P a || (if M.2 146 (68 + 3 * r + c) = 62 then [] else AN (M.2 146) a).any P)) := by
  intro a
  induction a using Nat.strongRecOn with
  | ind a ih =>
    intro fu ha hfu b
    have h9 := hW.2.1
    obtain ⟨fu, rfl⟩ : ∃ f, fu = f + 1 := ⟨fu - 1, by omega⟩
    obtain ⟨fu, rfl⟩ : ∃ f, fu = f + 1 := ⟨fu - 1, by omega⟩
    -- one turn, whatever b is
    have turn : ∀ b2 : Bool, m_X8_matching_L87 M 144 (nI r) x2 k5 k17 (fun z0 z1 z2 z3 z4 z5 => m_X8_matching_L61 M 144 (nI r) x2 k5 k17 (fu + 1) z0 z1 z2 z3 z4 z5) (bs N P) (nI c) x5 (nI n) (nI a) (bi b2) = exM (M.2 146) (M.2 149) k17 r c n (bs N P) x5 (b2 || (if M.2 146 (68 + 3 * r + c) = 62 then [] else AN (M.2 146) a).any P) := by
      intro b2
      unfold m_X8_matching_L87
      simp (disch := omega) only [rm8 hM, obs, qmu, qa1, nI_add, ra_146]
      by_cases hg : M.2 146 (68 + 3 * r + c) = 62
      · simp only [hg, if_true]
        rw [mt_out hM hr hc hn]
        simp
      · simp only [hg, if_false]
        rw [(pa_ok hW ha).1, AN_eq hW ha]
        cases hp : pa (M.2 146) a with
        | none =>
          show m_X8_matching_L61 M 144 (nI r) x2 k5 k17 (fu + 1) (bs N P) (nI c) x5 (nI n) (bi b2) (-9) = _
          rw [mt_out hM hr hc hn]
          simp
        | some q =>
          have hq := (pa_ok hW ha).2 q hp
          show m_X8_matching_L61 M 144 (nI r) x2 k5 k17 (fu + 1) (bs N P) (nI c) x5 (nI n) (bi b2) (nI q) = _
          rw [ih q hq (fu + 1) (by omega) (by omega) b2, if_neg hg]
          simp
    have t0 := turn false
    have t1 := turn true
    unfold m_X8_matching_L61
    simp (disch := omega) only [qm9, if_false, bi_0, hb8, obs]
    cases b
    · simp only [if_true, hb_0]
      rw [b_bs (by omega) (by omega)]
      cases hPa : P a
      · simp only [hPa, Bool.and_false, if_true, Bool.false_or]
        exact t0
      · have : decide (a < N) = true := by simp [ha]
        simp only [hPa, this, Bool.and_true, Bool.true_eq_false, if_false, Bool.true_or, Bool.false_or, Bool.or_true]
        rw [Bool.true_or] at t1
        exact t1
    · simp only [Bool.true_eq_false, if_false, Bool.true_or]
      rw [Bool.true_or] at t1
      exact t1
end MODEL
