/-! ===== tools: ints as naturals, bits (the family of bt is the kit's, pasted) ===== -/
def bt (x : Int32) (i : Nat) : Bool := x.toBitVec.getLsbD i
theorem b_ext {x y : Int32} (h : ∀ i, i < 32 → bt x i = bt y i) : x = y := Int32.toBitVec_inj.mp (BitVec.eq_of_getLsbD_eq (fun i hi => h i hi))
theorem b_or (x y : Int32) (i : Nat) : bt (x ||| y) i = (bt x i || bt y i) := by unfold bt; rw [Int32.toBitVec_or, BitVec.getLsbD_or]
theorem b_and (x y : Int32) (i : Nat) : bt (x &&& y) i = (bt x i && bt y i) := by unfold bt; rw [Int32.toBitVec_and, BitVec.getLsbD_and]
theorem b_xor (x y : Int32) (i : Nat) : bt (x ^^^ y) i = (bt x i ^^ bt y i) := by unfold bt; rw [Int32.toBitVec_xor, BitVec.getLsbD_xor]
theorem b_big {x : Int32} {i : Nat} (h : 32 ≤ i) : bt x i = false := BitVec.getLsbD_of_ge _ _ h
theorem b_255 (i : Nat) : bt 255 i = decide (i < 8) := by
  rcases Nat.lt_or_ge i 32 with h | h
  · exact (by decide +kernel : ∀ i, i < 32 → bt 255 i = decide (i < 8)) i h
  · rw [b_big h, decide_eq_false (by omega)]
theorem b_65535 (i : Nat) : bt 65535 i = decide (i < 16) := by
  rcases Nat.lt_or_ge i 32 with h | h
  · exact (by decide +kernel : ∀ i, i < 32 → bt 65535 i = decide (i < 16)) i h
  · rw [b_big h, decide_eq_false (by omega)]
theorem b_m1 : ∀ i, i < 32 → bt (-1) i = true := by decide +kernel
theorem b_0 (i : Nat) : bt 0 i = false := BitVec.getLsbD_zero
theorem s_l : ∀ n, n < 32 → ((nI n &&& 31).toBitVec.smod 32).toNat = n := by decide +kernel
theorem s_u : ∀ n, n < 32 → (((nI n).toUInt32 &&& Int32.toUInt32 31).toBitVec % 32).toNat = n := by decide +kernel
theorem b_shl (n : Nat) (hn : n < 32) (x : Int32) {i : Nat} (hi : i < 32) : bt (x <<< (nI n &&& 31)) i = (decide (n ≤ i) && bt x (i - n)) := by
  unfold bt
  rw [Int32.toBitVec_shiftLeft]
  show (x.toBitVec <<< ((nI n &&& 31).toBitVec.smod 32).toNat).getLsbD i = _
  rw [s_l n hn, BitVec.getLsbD_shiftLeft]
  rcases Nat.lt_or_ge i n with h | h
  · simp [h, Nat.not_le.mpr h]
  · simp [hi, h, Nat.not_lt.mpr h]
theorem b_ushr (n : Nat) (hn : n < 32) (x : Int32) (i : Nat) : bt ((x.toUInt32 >>> ((nI n).toUInt32 &&& Int32.toUInt32 31)).toInt32) i = bt x (n + i) := by
  show (x.toUInt32 >>> ((nI n).toUInt32 &&& Int32.toUInt32 31)).toBitVec.getLsbD i = x.toUInt32.toBitVec.getLsbD (n + i)
  rw [UInt32.toBitVec_shiftRight]
  show (x.toUInt32.toBitVec >>> (((nI n).toUInt32 &&& Int32.toUInt32 31).toBitVec % 32).toNat).getLsbD i = _
  rw [s_u n hn, BitVec.getLsbD_ushiftRight]
theorem b_sshr (n : Nat) (hn : n < 32) (x : Int32) {i : Nat} (hi : i < 32) : bt (x >>> (nI n &&& 31)) i = if n + i < 32 then bt x (n + i) else bt x 31 := by
  unfold bt
  rw [Int32.toBitVec_shiftRight]
  show (x.toBitVec.sshiftRight ((nI n &&& 31).toBitVec.smod 32).toNat).getLsbD i = _
  rw [s_l n hn, BitVec.getLsbD_sshiftRight, BitVec.msb_eq_getLsbD_last]
  simp [hi]
theorem qlit (n : Nat) : (OfNat.ofNat n : Int32) = nI n := rfl
theorem qle {a b : Nat} (ha : a < 2 ^ 31) (hb : b < 2 ^ 31) : (nI a ≤ nI b) = (a ≤ b) := propext (nI_leI ha hb)
theorem qlt {a b : Nat} (ha : a < 2 ^ 31) (hb : b < 2 ^ 31) : (nI a < nI b) = (a < b) := propext (nI_ltI ha hb)
theorem qeq {a b : Nat} (ha : a < 2 ^ 31) (hb : b < 2 ^ 31) : (nI a = nI b) = (a = b) := propext (nI_eq ha hb)
theorem qsub {a b : Nat} (h : b ≤ a) : nI a - nI b = nI (a - b) := pk_sub h
theorem qclamp {n : Nat} (h : n < 2 ^ 31) : (nI n).toNatClampNeg = n := nI_clamp h
theorem qneg {a : Nat} (ha : a < 2 ^ 31) : ¬ nI a < 0 := nI_pos ha
theorem qm9 {a : Nat} (ha : a < 2 ^ 31) : ¬ nI a = -9 := by
  intro h
  have h1 := congrArg Int32.toInt h
  rw [nI_toInt ha] at h1
  have h2 : (-9 : Int32).toInt = -9 := by decide
  omega
theorem qm9b {a : Nat} (ha : a < 2 ^ 31) : ¬ -9 = nI a := fun h => qm9 ha h.symm
theorem qm9lt : (-9 : Int32) < 0 := by decide
/-- an int is a number below n, or it isn't -/
theorem qix (x : Int32) (n : Nat) (hn : n < 2 ^ 31) : (∃ j, j < n ∧ x = nI j) ∨ (x < 0 ∨ nI n ≤ x) := by
  rcases pk_ix x hn with h | h | h
  · exact Or.inr (Or.inl h)
  · exact Or.inr (Or.inr h)
  · exact Or.inl h
theorem wi1 {k n : Nat} (h : k < n) (hn : n < 2 ^ 31) : m_X7_within (nI k) (nI n) = some 1 := by
  unfold m_X7_within
  rw [if_neg (qneg (by omega)), if_neg (by rw [qle hn (by omega)]; omega)]
theorem wi0 {x : Int32} {n : Nat} (h : x < 0 ∨ nI n ≤ x) : m_X7_within x (nI n) = some 0 := by
  unfold m_X7_within
  rcases h with h | h
  · rw [if_pos h]
  · by_cases h0 : x < 0
    · rw [if_pos h0]
    · rw [if_neg h0, if_pos h]
theorem wi0n {k n : Nat} (h : n ≤ k) (hk : k < 2 ^ 31) : m_X7_within (nI k) (nI n) = some 0 := wi0 (Or.inr (by rw [qle (by omega) hk]; exact h))
theorem wi0m (n : Nat) : m_X7_within (-9) (nI n) = some 0 := wi0 (Or.inl qm9lt)
theorem in1 {k n : Nat} (h : k ≤ n) (hn : n < 2 ^ 31) : m_X8_in (nI k) 0 (nI n) = some 1 := by
  unfold m_X8_in
  rw [if_neg (qneg (by omega)), if_neg (by rw [qlt hn (by omega)]; omega)]
theorem in0 {x : Int32} {n : Nat} (h : x < 0 ∨ nI n < x) : m_X8_in x 0 (nI n) = some 0 := by
  unfold m_X8_in
  rcases h with h | h
  · rw [if_pos h]
  · by_cases h0 : x < 0
    · rw [if_pos h0]
    · rw [if_neg h0, if_pos h]
theorem qle_lt {x : Int32} {n : Nat} (hn : n < 2 ^ 30) (h : nI (n + 1) ≤ x) : nI n < x := by
  refine Int32.lt_of_lt_of_le ?_ h
  rw [qlt (by omega) (by omega)]
  omega
theorem in0n {x : Int32} {n : Nat} (hn : n < 2 ^ 30) (h : x < 0 ∨ nI (n + 1) ≤ x) : m_X8_in x 0 (nI n) = some 0 := in0 (h.imp id (qle_lt hn))
/-! bits -/
theorem b_1 : ∀ i, i < 32 → bt 1 i = decide (i = 0) := by decide +kernel
theorem b_one {k i : Nat} (hk : k < 32) (hi : i < 32) : bt ((1 : Int32) <<< (nI k &&& 31)) i = decide (i = k) := by
  rw [b_shl k hk _ hi]
  by_cases h : k ≤ i
  · rw [b_1 _ (by omega)]
    by_cases h2 : i = k
    · simp [h2]
    · simp [h, h2]; omega
  · simp [h]; omega
def hb (x : Int32) (k : Nat) : Int32 := if bt x k then 1 else 0
theorem shr1 (x : Int32) {k : Nat} (hk : k < 32) : (x >>> (nI k &&& 31)) &&& 1 = hb x k := by
  apply b_ext
  intro i hi
  rw [b_and, b_sshr k hk x hi, b_1 i hi]
  unfold hb
  by_cases h : i = 0
  · subst h
    cases hbk : bt x k <;> simp [hk, hbk, b_0, b_1]
  · cases hbk : bt x k <;> simp [h, b_0, b_1 i hi]
theorem hb1 (x : Int32) {k : Nat} (hk : k < 32) : m_X7_hasBit x (nI k) = some (hb x k) := by
  unfold m_X7_hasBit
  rw [shr1 x hk]
  unfold hb
  cases bt x k <;> simp
theorem hb8 (x : Int32) {k : Nat} (hk : k < 32) : m_X8_has x (nI k) = some (hb x k) := by
  unfold m_X8_has
  rw [shr1 x hk]
  unfold hb
  cases bt x k <;> simp
theorem hb_0 {x : Int32} {k : Nat} : hb x k = 0 ↔ bt x k = false := by
  unfold hb
  cases bt x k <;> simp
theorem bz_hb (x : Int32) (k : Nat) : bz (hb x k) = some () := by
  unfold bz hb
  cases bt x k <;> simp
/-- the set of the numbers below n with p, as bits -/
def bs : Nat → (Nat → Bool) → Int32
  | 0, _ => 0
  | n + 1, p => if p n then bs n p ||| ((1 : Int32) <<< (nI n &&& 31)) else bs n p
theorem b_bs {p : Nat → Bool} : ∀ {n : Nat}, n ≤ 32 → ∀ {i : Nat}, i < 32 → bt (bs n p) i = (decide (i < n) && p i) := by
  intro n
  induction n with
  | zero => intro _ i _; simp [bs, b_0]
  | succ n ih =>
    intro hn i hi
    unfold bs
    by_cases hp : p n
    · rw [if_pos hp, b_or, ih (by omega) hi, b_one (by omega) hi]
      by_cases h : i = n
      · subst h; simp [hp]
      · by_cases h2 : i < n
        · simp [h2, h, show i < n + 1 by omega]
        · simp [h2, h, show ¬ i < n + 1 by omega]
    · rw [if_neg hp, ih (by omega) hi]
      by_cases h : i = n
      · subst h; simp [hp]
      · by_cases h2 : i < n
        · simp [h2, show i < n + 1 by omega]
        · simp [h2, show ¬ i < n + 1 by omega]
theorem bs_ext {p q : Nat → Bool} : ∀ {n : Nat}, (∀ i, i < n → p i = q i) → bs n p = bs n q := by
  intro n
  induction n with
  | zero => intro _; rfl
  | succ n ih => intro h; unfold bs; rw [ih (fun i hi => h i (by omega)), h n (by omega)]
theorem bs_t {p : Nat → Bool} {n : Nat} (h : p n = true) : bs n p ||| ((1 : Int32) <<< (nI n &&& 31)) = bs (n + 1) p := by
  show _ = if p n then _ else _
  rw [if_pos h]
theorem bs_f {p : Nat → Bool} {n : Nat} (h : p n = false) : bs n p = bs (n + 1) p := by
  show _ = if p n then _ else _
  rw [if_neg (by simp [h])]
theorem bs_and {p q : Nat → Bool} {n : Nat} (hn : n ≤ 32) : bs n p &&& bs n q = bs n (fun i => p i && q i) := by
  apply b_ext
  intro i hi
  rw [b_and, b_bs hn hi, b_bs hn hi, b_bs hn hi]
  cases decide (i < n) <;> simp
theorem bs_or {p q : Nat → Bool} {n : Nat} (hn : n ≤ 32) : bs n p ||| bs n q = bs n (fun i => p i || q i) := by
  apply b_ext
  intro i hi
  rw [b_or, b_bs hn hi, b_bs hn hi, b_bs hn hi]
  cases decide (i < n) <;> simp
theorem bs_one {n k : Nat} (hn : n ≤ 32) (hk : k < n) : (1 : Int32) <<< (nI k &&& 31) = bs n (fun i => decide (i = k)) := by
  apply b_ext
  intro i hi
  rw [b_one (by omega) hi, b_bs hn hi]
  by_cases h : i = k
  · subst h; simp [hk]
  · simp [h]
theorem bs_f0 (n : Nat) : bs n (fun _ => false) = 0 := by
  induction n with
  | zero => rfl
  | succ n ih => unfold bs; simp [ih]
theorem bs_0 {p : Nat → Bool} {n : Nat} (hn : n ≤ 32) : bs n p = 0 ↔ ∀ i, i < n → p i = false := by
  constructor
  · intro h i hi
    have h1 := b_bs (p := p) hn (i := i) (by omega)
    rw [h, b_0] at h1
    simpa [hi] using h1.symm
  · intro h
    rw [bs_ext (q := fun _ => false) h, bs_f0]
theorem hb_bs {p : Nat → Bool} {n k : Nat} (hn : n ≤ 32) (hk : k < n) : hb (bs n p) k = if p k then 1 else 0 := by
  unfold hb
  rw [b_bs hn (by omega)]
  simp [hk]
theorem b_m1' {i : Nat} (hi : i < 32) : bt (-1) i = true := b_m1 i hi
/-- the set less one of its members -/
theorem bs_less {p : Nat → Bool} {n k : Nat} (hn : n ≤ 32) (hk : k < n) : bs n p &&& (((1 : Int32) <<< (nI k &&& 31)) ^^^ (-1)) = bs n (fun i => p i && !decide (i = k)) := by
  apply b_ext
  intro i hi
  rw [b_and, b_xor, b_one (by omega) hi, b_m1' hi, b_bs hn hi, b_bs hn hi]
  by_cases h : i = k
  · subst h; simp
  · simp [h]
/-! the mirror's words, evaluated -/
theorem rf_eq {T : Nat} {M : Mem} {a j b : Nat} (h : M.1 a j = some b) (hk : kd b = T) : rf T M a j = some b := by
  unfold rf
  rw [h]
  simp [hk]
theorem ra_eq {M : Mem} {a k : Nat} (h : k < ln a) (hk : k < 2 ^ 31) : ra M a (nI k) = some (M.2 a k) := by
  unfold ra
  rw [if_pos (by rw [qclamp hk]; intro q; rcases q with q | q; exact qneg hk q; omega), qclamp hk]
theorem wa_eq {M : Mem} {a k : Nat} {v : Int32} (h : k < ln a) (hk : k < 2 ^ 31) : wa M a (nI k) v = some (wI M a k v) := by
  unfold wa
  rw [if_pos (by rw [qclamp hk]; intro q; rcases q with q | q; exact qneg hk q; omega), qclamp hk]
theorem rr_eq {T : Nat} {M : Mem} {a k b : Nat} (h : k < ln a) (hk : k < 2 ^ 31) (h1 : M.1 a k = some b) (h2 : kd b = T) : rr T M a (nI k) = some b := by
  unfold rr
  rw [if_pos (by rw [qclamp hk]; intro q; rcases q with q | q; exact qneg hk q; omega), qclamp hk, rf_eq h1 h2]
theorem wI1 (M : Mem) (a j : Nat) (v : Int32) : (wI M a j v).1 = M.1 := rfl
theorem wI2 (M : Mem) (a j k i : Nat) (v : Int32) : (wI M a j v).2 k i = if k = a then (if i = j then v else M.2 k i) else M.2 k i := by
  simp only [wI, up2]
  split <;> rfl
theorem wI2n {M : Mem} {a j k : Nat} {v : Int32} (h : k ≠ a) : (wI M a j v).2 k = M.2 k := by
  simp [wI, up2, h]
theorem obs {α β : Type} {a : α} {f : α → Option β} : (some a).bind f = f a := rfl
theorem b2s {α β γ : Type} {a : α} {b : β} {f : α → β → Option γ} : b2 (some (a, b)) f = f a b := rfl
theorem pIs {β : Type} {M : Mem} {a j : Nat} {v : Int32} {f : Mem → Option β} : (pI M a j v).bind f = f (wI M a j v) := rfl
theorem FU1 : FU = 999 + 1 := rfl
