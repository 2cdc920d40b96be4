/-! ===== weights, winners ===== -/
def on4 (w : Nat) : Nat := [0, 1, 1, 2, 1, 2, 2, 3, 1, 2, 2, 3, 2, 3, 3, 4].getD w 0
theorem on4_le : ∀ w, w < 16 → on4 w ≤ 4 := by decide
theorem ones16 : ∀ w, w < 16 → m_X8_ones (nI w) = some (nI (on4 w)) := by decide +kernel
theorem bitc16 : ∀ w, w < 16 → m_J6_bitCount_0f7a4 (nI w) = some (nI (on4 w)) := by decide +kernel
/-- how specific the first so many compounds are -/
def spN (T : Nat → Int32) (r : Nat) : Nat → Nat
  | 0 => 0
  | c + 1 => spN T r c + (10 * on4 (T (44 + 3 * r + c)).toNatClampNeg + if T (20 + 3 * r + c) = -9 then 0 else 1)
def spec (T : Nat → Int32) (r : Nat) : Nat := spN T r (cn T r)
theorem spN_le {T : Nat → Int32} {N R : Nat} (h : WF T N R) {r : Nat} (hr : r < R) : ∀ c, c ≤ 3 → spN T r c ≤ 41 * c := by
  intro c
  induction c with
  | zero => intro _; simp [spN]
  | succ c ih =>
    intro hc
    obtain ⟨-, -, -, -, -, -, -, h1, -⟩ := h
    obtain ⟨w, hw, hT⟩ := h1 r c hr (by omega)
    unfold spN
    rw [hT, qclamp (by omega)]
    have := on4_le w hw
    have := ih (by omega)
    split <;> omega
theorem spec_le {T : Nat → Int32} {N R : Nat} (h : WF T N R) {r : Nat} (hr : r < R) : spec T r ≤ 123 := by
  obtain ⟨-, h2, h3⟩ := cn_ok h hr
  have := spN_le h hr (cn T r) h3
  unfold spec
  omega
def lvl (T : Nat → Int32) (r p : Nat) : Nat := if bt (T (100 + r)) p then (if bt (T 2) r then 3 else 2) else (if bt (T 2) r then 0 else 1)
theorem lvl_le (T : Nat → Int32) (r p : Nat) : lvl T r p ≤ 3 := by
  unfold lvl
  split <;> split <;> omega
def wt (T : Nat → Int32) (r p : Nat) : Nat := 1000 * lvl T r p + spec T r
/-- of the rules below k with L the one whose declaration of p is highest -/
def best (T : Nat → Int32) (p : Nat) : Nat → (Nat → Bool) → Option Nat
  | 0, _ => none
  | k + 1, L => if L k then (match best T p k L with
    | none => some k
    | some b => if wt T b p ≤ wt T k p then some k else some b) else best T p k L
theorem best_lt {T : Nat → Int32} {p : Nat} {L : Nat → Bool} : ∀ {k b : Nat}, best T p k L = some b → b < k ∧ L b = true := by
  intro k
  induction k with
  | zero => intro b h; simp [best] at h
  | succ k ih =>
    intro b h
    unfold best at h
    split at h
    · rename_i hk
      split at h
      · cases h; exact ⟨by omega, hk⟩
      · rename_i b2 hb2
        split at h
        · cases h; exact ⟨by omega, hk⟩
        · cases h; have := ih hb2; exact ⟨by omega, this.2⟩
    · have := ih h; exact ⟨by omega, this.2⟩
theorem best_none {T : Nat → Int32} {p : Nat} {L : Nat → Bool} : ∀ {k : Nat}, best T p k L = none → ∀ i, i < k → L i = false := by
  intro k
  induction k with
  | zero => intro _ i hi; omega
  | succ k ih =>
    intro h i hi
    unfold best at h
    split at h
    · split at h
      · cases h
      · split at h <;> cases h
    · rename_i hk
      by_cases h2 : i = k
      · subst h2; simpa using hk
      · exact ih h i (by omega)
theorem best_ext {T : Nat → Int32} {p : Nat} {L L2 : Nat → Bool} : ∀ {k : Nat}, (∀ i, i < k → L i = L2 i) → best T p k L = best T p k L2 := by
  intro k
  induction k with
  | zero => intro _; rfl
  | succ k ih =>
    intro h
    unfold best
    rw [ih (fun i hi => h i (by omega)), h k (by omega)]
def rmv (L : Nat → Bool) (b : Nat) : Nat → Bool := fun i => L i && !decide (i = b)
/-- what is left when the first so many winners are taken out -/
def lf (T : Nat → Int32) (p R : Nat) (L : Nat → Bool) : Nat → Nat → Bool
  | 0 => L
  | e + 1 => match best T p R (lf T p R L e) with
    | none => lf T p R L e
    | some b => rmv (lf T p R L e) b
def wn (T : Nat → Int32) (p R : Nat) (L : Nat → Bool) (k : Nat) : Option Nat := best T p R (lf T p R L k)
def cntB : Nat → (Nat → Bool) → Nat
  | 0, _ => 0
  | n + 1, L => cntB n L + if L n then 1 else 0
theorem cntB_le (L : Nat → Bool) : ∀ n, cntB n L ≤ n := by
  intro n
  induction n with
  | zero => simp [cntB]
  | succ n ih => unfold cntB; split <;> omega
theorem cntB_rmv {L : Nat → Bool} {b : Nat} : ∀ {n : Nat}, (b < n → L b = true → cntB n (rmv L b) + 1 = cntB n L) ∧ (n ≤ b → cntB n (rmv L b) = cntB n L) := by
  intro n
  induction n with
  | zero => exact ⟨fun h => by omega, fun _ => rfl⟩
  | succ n ih =>
    refine ⟨fun h hb => ?_, fun h => ?_⟩
    · unfold cntB
      by_cases h2 : b = n
      · subst h2
        rw [ih.2 (Nat.le_refl b)]
        simp [rmv, hb]
      · have := ih.1 (by omega) hb
        have : rmv L b n = L n := by simp [rmv, Ne.symm h2]
        rw [this]
        omega
    · unfold cntB
      rw [ih.2 (by omega)]
      have : rmv L b n = L n := by simp [rmv, show n ≠ b by omega]
      rw [this]
theorem cntB_0 {L : Nat → Bool} : ∀ {n : Nat}, cntB n L = 0 → ∀ i, i < n → L i = false := by
  intro n
  induction n with
  | zero => intro _ i hi; omega
  | succ n ih =>
    intro h i hi
    unfold cntB at h
    by_cases hn : L n = true
    · rw [if_pos hn] at h; omega
    · by_cases h2 : i = n
      · subst h2; simpa using hn
      · exact ih (by omega) i (by omega)
theorem best_no {T : Nat → Int32} {p : Nat} {L : Nat → Bool} {k : Nat} (h : ∀ i, i < k → L i = false) : best T p k L = none := by
  cases hb : best T p k L with
  | none => rfl
  | some b =>
    have := best_lt hb
    rw [h b this.1] at this
    simp at this
theorem wn_end {T : Nat → Int32} {p R : Nat} {L : Nat → Bool} : ∀ e, cntB R (lf T p R L e) + e ≤ R ∨ wn T p R L e = none := by
  intro e
  induction e with
  | zero => left; have := cntB_le L R; simp [lf]; omega
  | succ e ih =>
    cases hb : best T p R (lf T p R L e) with
    | none =>
      right
      unfold wn lf
      rw [hb]
      exact hb
    | some b =>
      have h1 := best_lt hb
      left
      rcases ih with ih | ih
      · have h2 := (cntB_rmv (L := lf T p R L e) (b := b) (n := R)).1 h1.1 h1.2
        have h3 : lf T p R L (e + 1) = rmv (lf T p R L e) b := by
          show (match best T p R (lf T p R L e) with
            | none => lf T p R L e
            | some b => rmv (lf T p R L e) b) = _
          rw [hb]
        rw [h3]
        omega
      · unfold wn at ih; rw [ih] at hb; cases hb
theorem wn_8 {T : Nat → Int32} {p R : Nat} {L : Nat → Bool} (hR : R ≤ 8) : wn T p R L 8 = none := by
  rcases wn_end (T := T) (p := p) (R := R) (L := L) 8 with h | h
  · exact best_no (cntB_0 (by omega))
  · exact h
theorem lf_stay {T : Nat → Int32} {p R : Nat} {L : Nat → Bool} {e : Nat} (h : wn T p R L e = none) : ∀ k, wn T p R L (e + k) = none := by
  intro k
  induction k with
  | zero => exact h
  | succ k ih =>
    unfold wn at ih
    show best T p R (lf T p R L (e + k + 1)) = none
    unfold lf
    rw [ih]
    exact ih
/-- rules that match node a and declare p -/
def dcl (T S : Nat → Int32) (p a : Nat) : Nat → Bool := fun r => mtch T S r a && bt (T (92 + r)) p
def srcO (T S : Nat → Int32) (R n p : Nat) : Option Nat := (n :: (if p < 2 then AN T n else [])).find? (fun a => (best T p R (dcl T S p a)).isSome)
def valO (T S : Nat → Int32) (R n p : Nat) : Int32 := match srcO T S R n p with
  | none => 0
  | some a => match best T p R (dcl T S p a) with
    | none => 0
    | some b => T (108 + 4 * b + p)
def likeB (T S : Nat → Int32) (R a b : Nat) : Bool := decide (valO T S R a 0 = valO T S R b 0) && (decide (valO T S R a 1 = valO T S R b 1) && (decide (valO T S R a 2 = valO T S R b 2) && decide (valO T S R a 3 = valO T S R b 3)))
theorem likeB_self (T S : Nat → Int32) (R n : Nat) : likeB T S R n n = true := by simp [likeB]
def rcd (T S : Nat → Int32) (R n : Nat) : Nat := ((List.range n).find? (fun e => likeB T S R e n)).getD n
section MODEL3
variable {M : Mem} {N R : Nat}
theorem m_rulesOf_L (hM : MR M.1) (hW : WF (M.2 146) N R) (hF : ∀ j, j < R → M.2 157 j = matF (M.2 146) (M.2 149) N j) {n : Nat} (hn : n < N) :
    ∀ (d i fu : Nat), i + d = R → d < fu → m_X8_rulesOf_L4 M 144 (nI n) fu (bs i (fun r => mtch (M.2 146) (M.2 149) r n)) (nI i) = some (bs R (fun r => mtch (M.2 146) (M.2 149) r n)) := by
  have h8 := hW.2.2.2.1
  have h9 := hW.2.1
  intro d
  induction d with
  | zero =>
    intro i fu hi hf
    obtain ⟨fu, rfl⟩ : ∃ f, fu = f + 1 := ⟨fu - 1, by omega⟩
    unfold m_X8_rulesOf_L4
    simp (disch := omega) only [rm8 hM, obs, ra_146o, hW.2.2.1, qle]
    rw [if_pos (by omega), show i = R by omega]
  | succ d ih =>
    intro i fu hi hf
    obtain ⟨fu, rfl⟩ : ∃ f, fu = f + 1 := ⟨fu - 1, by omega⟩
    unfold m_X8_rulesOf_L4
    simp (disch := omega) only [rm8 hM, rm21 hM, obs, ra_146o, hW.2.2.1, qle, ra_157, hb8, hF i (by omega), nI_1, qor0]
    rw [if_neg (by omega)]
    have hbit : bt (matF (M.2 146) (M.2 149) N i) n = mtch (M.2 146) (M.2 149) i n := by
      unfold matF
      rw [b_bs (by omega) (by omega)]
      simp [hn]
    by_cases hm : mtch (M.2 146) (M.2 149) i n = true
    · rw [if_neg (by rw [hb_0, hbit]; simp [hm]), bs_t (p := fun r => mtch (M.2 146) (M.2 149) r n) hm]
      exact ih (i + 1) fu (by omega) (by omega)
    · rw [if_pos (by rw [hb_0, hbit]; simpa using hm), bs_f (n := i) (p := fun r => mtch (M.2 146) (M.2 149) r n) (by simpa using hm)]
      exact ih (i + 1) fu (by omega) (by omega)
theorem m_rulesOf (hM : MR M.1) (hW : WF (M.2 146) N R) (hF : ∀ j, j < R → M.2 157 j = matF (M.2 146) (M.2 149) N j) {n : Nat} (hn : n < N) : m_X8_rulesOf M 144 (nI n) = some (bs R (fun r => mtch (M.2 146) (M.2 149) r n)) := by
  have h8 := hW.2.2.2.1
  exact m_rulesOf_L hM hW hF hn R 0 FU (by omega) (by unfold FU; omega)
theorem m_specific_L (hM : MR M.1) (hW : WF (M.2 146) N R) {r : Nat} (hr : r < R) :
    ∀ (d c fu : Nat), c + d = cn (M.2 146) r → d < fu → m_X8_specific_L4 M 144 (nI r) fu (nI (spN (M.2 146) r c)) (nI c) = some (nI (spec (M.2 146) r)) := by
  have h8 := hW.2.2.2.1
  obtain ⟨k1, k2, k3⟩ := cn_ok hW hr
  intro d
  induction d with
  | zero =>
    intro c fu hi hf
    obtain ⟨fu, rfl⟩ : ∃ f, fu = f + 1 := ⟨fu - 1, by omega⟩
    unfold m_X8_specific_L4
    simp (disch := omega) only [rm8 hM, obs, qa1, ra_146, k1, qle]
    rw [if_pos (by omega), show c = cn (M.2 146) r by omega]
    rfl
  | succ d ih =>
    intro c fu hi hf
    obtain ⟨fu, rfl⟩ : ∃ f, fu = f + 1 := ⟨fu - 1, by omega⟩
    unfold m_X8_specific_L4
    obtain ⟨-, -, -, -, -, -, -, h1, -⟩ := hW
    obtain ⟨w, hw, hT⟩ := h1 r c hr (by omega)
    simp (disch := omega) only [rm8 hM, obs, qa1, qmu, nI_add, ra_146, k1, qle, hT, ones16 w hw, nI_1]
    rw [if_neg (by omega)]
    have hs : spN (M.2 146) r (c + 1) = spN (M.2 146) r c + (10 * on4 w + if M.2 146 (20 + 3 * r + c) = -9 then 0 else 1) := by
      show spN (M.2 146) r c + (10 * on4 (M.2 146 (44 + 3 * r + c)).toNatClampNeg + _) = _
      rw [hT, qclamp (by omega)]
    by_cases h9 : M.2 146 (20 + 3 * r + c) = -9
    · rw [if_pos h9]
      rw [if_pos h9] at hs
      rw [show (0 : Int32) = nI 0 from rfl, nI_add, nI_add, ← hs]
      exact ih (c + 1) fu (by omega) (by omega)
    · rw [if_neg h9]
      rw [if_neg h9] at hs
      rw [← hs]
      exact ih (c + 1) fu (by omega) (by omega)
theorem m_specific (hM : MR M.1) (hW : WF (M.2 146) N R) {r : Nat} (hr : r < R) : m_X8_specific M 144 (nI r) = some (nI (spec (M.2 146) r)) := by
  obtain ⟨k1, k2, k3⟩ := cn_ok hW hr
  exact m_specific_L hM hW hr (cn (M.2 146) r) 0 FU (by omega) (by unfold FU; omega)
theorem m_heightOf (hM : MR M.1) (hW : WF (M.2 146) N R) {r p : Nat} (hr : r < R) (hp : p < 4) : m_X8_heightOf M 144 (nI r) (nI p) = some (nI (10 * wt (M.2 146) r p + r)) := by
  have h8 := hW.2.2.2.1
  unfold m_X8_heightOf m_X8_heightOf_L48
  simp (disch := omega) only [rm8 hM, obs, ra_146t, hb8, qa1, ra_146, m_specific hM hW hr, hb_0]
  unfold wt lvl
  cases h1 : bt (M.2 146 (100 + r)) p <;> cases h2 : bt (M.2 146 2) r <;> simp only [if_true, if_false, Bool.true_eq_false, Bool.false_eq_true, reduceCtorEq]
  · rw [show (10000 : Int32) * 1 = nI 10000 from rfl, show (10 : Int32) = nI 10 from rfl, pk_mul, nI_add, nI_add]
    congr 2; omega
  · rw [show (10000 : Int32) * 0 = nI 0 from rfl, show (10 : Int32) = nI 10 from rfl, pk_mul, nI_add, nI_add]
    congr 2; omega
  · rw [show (10000 : Int32) * 2 = nI 20000 from rfl, show (10 : Int32) = nI 10 from rfl, pk_mul, nI_add, nI_add]
    congr 2; omega
  · rw [show (10000 : Int32) * 3 = nI 30000 from rfl, show (10 : Int32) = nI 10 from rfl, pk_mul, nI_add, nI_add]
    congr 2; omega
end MODEL3
