/-! ===== the class: where things lie ===== -/
def SB (b : Nat) : Prop := b = 4 ∨ b = 59
theorem kS {b : Nat} (h : SB b) : (kd b = 5 ∧ kd (b + 1) = 10 ∧ kd (b + 2) = 10 ∧ kd (b + 3) = 2 ∧ kd (b + 4) = 10 ∧ kd (b + 5) = 10 ∧ kd (b + 6) = 14) ∧ (ln (b + 1) = 9 ∧ ln (b + 2) = 9 ∧ ln (b + 4) = 9 ∧ ln (b + 5) = 9 ∧ ln (b + 6) = 8) := by
  rcases h with rfl | rfl <;> decide
theorem kR {b : Nat} (h : SB b) : ∀ r, r < 8 → (kd (b + 7 + 6 * r) = 4 ∧ kd (b + 7 + 6 * r + 1) = 10 ∧ kd (b + 7 + 6 * r + 2) = 10 ∧ kd (b + 7 + 6 * r + 3) = 12 ∧ kd (b + 7 + 6 * r + 4) = 10 ∧ kd (b + 7 + 6 * r + 5) = 10) ∧ (ln (b + 7 + 6 * r + 1) = 3 ∧ ln (b + 7 + 6 * r + 2) = 3 ∧ ln (b + 7 + 6 * r + 3) = 3 ∧ ln (b + 7 + 6 * r + 4) = 4 ∧ ln (b + 7 + 6 * r + 5) = 4) := by
  rcases h with rfl | rfl <;> decide
def LRf (ρ : Nat → Nat → Option Nat) (k : Nat) : Prop := ρ k 0 = some (k + 1) ∧ ρ k 1 = some (k + 2)
def LK (k : Nat) : Prop := kd (k + 1) = 10 ∧ kd (k + 2) = 10 ∧ ln (k + 1) = 9 ∧ ln (k + 2) = 9
def YRf (ρ : Nat → Nat → Option Nat) (y : Nat) : Prop := ρ y 1 = some (y + 1) ∧ ρ y 2 = some (y + 2) ∧ ρ y 3 = some (y + 3) ∧ ρ y 4 = some (y + 4)
def YK (y : Nat) : Prop := (kd (y + 1) = 10 ∧ kd (y + 2) = 10 ∧ kd (y + 3) = 10 ∧ kd (y + 4) = 10) ∧ (ln (y + 1) = 8 ∧ ln (y + 2) = 9 ∧ ln (y + 3) = 36 ∧ ln (y + 4) = 36)
def URf (ρ : Nat → Nat → Option Nat) (q : Nat) : Prop := ρ q 5 = some (q + 1) ∧ ρ q 6 = some (q + 2) ∧ ρ q 7 = some (q + 3) ∧ ρ q 8 = some (q + 4) ∧ ρ q 9 = some (q + 5)
def SRf (ρ : Nat → Nat → Option Nat) (b : Nat) : Prop := ρ b 2 = some (b + 1) ∧ ρ b 3 = some (b + 2) ∧ ρ b 4 = some (b + 3) ∧ ρ b 5 = some (b + 6) ∧ LRf ρ (b + 3) ∧ ∀ r, r < 8 → ρ (b + 6) r = some (b + 7 + 6 * r) ∧ URf ρ (b + 7 + 6 * r)
/-! what a rule, a sheet, a look, a row of styles hold -/
def RuR (M : Mem) (q : Nat) (T : Nat → Int32) (r : Nat) : Prop :=
  M.2 q 0 = bi (bt (T 2) r) ∧ M.2 q 1 = T (12 + r) ∧ M.2 q 2 = nI (spec T r) ∧ M.2 q 3 = T (92 + r) ∧ M.2 q 4 = T (100 + r) ∧ (∀ c, c < cn T r → M.2 (q + 1) c = T (20 + (3 * r + c)) ∧ M.2 (q + 2) c = T (44 + (3 * r + c)) ∧ (0 < c → M.2 (q + 3) c = bi (decide (T (68 + 3 * r + c) = 62)))) ∧ ∀ p, p < 4 → bt (T (92 + r)) p = true → M.2 (q + 4) p = T (108 + 4 * r + p) ∧ M.2 (q + 5) p = nI (wt T r p)
def ShR (M : Mem) (b : Nat) (T : Nat → Int32) (N R : Nat) : Prop :=
  M.2 b 0 = nI N ∧ M.2 b 1 = nI R ∧ (∀ n, n < N → M.2 (b + 1) n = T (3 + n) ∧ M.2 (b + 2) n = bs 9 (fun a => blB T a n)) ∧ ∀ r, r < R → RuR M (b + 7 + 6 * r) T r
def LkR (M : Mem) (k : Nat) (S : Nat → Int32) (N : Nat) : Prop := (∀ n, n < N → M.2 (k + 1) n = S n ∧ M.2 (k + 2) n = S (9 + n)) ∧ M.2 k 2 = S 18
def StR (M : Mem) (y : Nat) (T S : Nat → Int32) (N R : Nat) : Prop :=
  M.2 y 0 = nI N ∧ (∀ r, r < R → M.2 (y + 1) r = matF T S N r) ∧ (∀ n, n < N → M.2 (y + 2) n = bs R (fun r => mtch T S r n)) ∧ ∀ n p, n < N → p < 4 → M.2 (y + 3) (4 * n + p) = valO T S R n p ∧ M.2 (y + 4) (4 * n + p) = enc (srcO T S R n p)
section CLS1
variable {M : Mem} {N R b k : Nat} {T S : Nat → Int32}
theorem c_fits1 {q r c n : Nat} (hq : URf M.1 q) (hk1 : kd (q + 1) = 10 ∧ kd (q + 2) = 10) (hl1 : ln (q + 1) = 3 ∧ ln (q + 2) = 3) (hW : WF T N R) (hr : r < R) (hR : RuR M q T r) (hc : c < cn T r) : m_X3_fits M q (nI c) (S n) (S (9 + n)) = some (bi (fitB T S (3 * r + c) n)) := by
  obtain ⟨k1, k2, k3⟩ := cn_ok hW hr
  obtain ⟨e0, e1, e2, e3, e4, e5, e6⟩ := hR
  obtain ⟨f1, f2, f3⟩ := e5 c hc
  unfold m_X3_fits m_X3_fits_L40
  simp (disch := omega) only [rf_eq hq.1 hk1.1, rf_eq hq.2.1 hk1.2, obs, ra_eq (a := q + 1) (k := c) (by omega) (by omega), ra_eq (a := q + 2) (k := c) (by omega) (by omega), f1, f2, e1, k1, qlt]
  rw [if_neg (qneg (by omega)), if_pos hc]
  unfold fitB
  by_cases h2 : (T (44 + (3 * r + c)) &&& (S (9 + n) ^^^ -1)) = 0
  · simp only [h2, if_true, decide_true, Bool.and_true]
    by_cases h1 : T (20 + (3 * r + c)) = -9
    · simp [h1, bi]
    · by_cases h3 : T (20 + (3 * r + c)) = S n
      · rw [if_neg h1, if_pos h3]; simp [h3, bi]
      · rw [if_neg h1, if_neg h3]; simp [h1, h3, bi]
  · simp only [h2, if_false, decide_false, Bool.and_false]
    by_cases h1 : T (20 + (3 * r + c)) = -9
    · simp [h1, bi]
    · by_cases h3 : T (20 + (3 * r + c)) = S n
      · rw [if_neg h1, if_pos h3]; simp [bi]
      · rw [if_neg h1, if_neg h3]; simp [bi]
theorem c_fitted_L (hs : SB b) (hρ : SRf M.1 b) (hlr : LRf M.1 k) (hlk : LK k) (hW : WF T N R) (hS : ShR M b T N R) (hL : LkR M k S N) {r c : Nat} (hr : r < R) (hc : c < cn T r) :
    ∀ (d i fu : Nat), i + d = N → d < fu → m_X4_fitted_L6 M b k (b + 7 + 6 * r) (nI c) fu (bs i (fitB T S (3 * r + c))) (nI i) = some (bs N (fitB T S (3 * r + c))) := by
  have h9 := hW.2.1
  have h8 := hW.2.2.2.1
  have hq := (hρ.2.2.2.2.2 r (by omega)).2
  obtain ⟨hk1, hl1⟩ := kR hs r (by omega)
  intro d
  induction d with
  | zero =>
    intro i fu hi hf
    obtain ⟨fu, rfl⟩ : ∃ f, fu = f + 1 := ⟨fu - 1, by omega⟩
    unfold m_X4_fitted_L6
    simp (disch := omega) only [hS.1, qle]
    rw [if_pos (by omega), show i = N by omega]
  | succ d ih =>
    intro i fu hi hf
    obtain ⟨fu, rfl⟩ : ∃ f, fu = f + 1 := ⟨fu - 1, by omega⟩
    have next := ih (i + 1) fu (by omega) (by omega)
    obtain ⟨l1, l2⟩ := hL.1 i (by omega)
    unfold m_X4_fitted_L6
    simp (disch := omega) only [hS.1, qle, rf_eq hlr.1 hlk.1, rf_eq hlr.2 hlk.2.1, obs, ra_eq (a := k + 1) (k := i) (by rw [hlk.2.2.1]; omega) (by omega), ra_eq (a := k + 2) (k := i) (by rw [hlk.2.2.2]; omega) (by omega), l1, l2, c_fits1 hq ⟨hk1.2.1, hk1.2.2.1⟩ ⟨hl1.1, hl1.2.1⟩ hW hr (hS.2.2.2 r hr) hc, bi_0, nI_1]
    rw [if_neg (by omega)]
    by_cases hf1 : fitB T S (3 * r + c) i = true
    · rw [if_neg (by simp [hf1]), bs_t hf1]
      exact next
    · rw [if_pos (by simpa using hf1), bs_f (n := i) (p := fitB T S (3 * r + c)) (by simpa using hf1)]
      exact next
theorem c_fitted (hs : SB b) (hρ : SRf M.1 b) (hlr : LRf M.1 k) (hlk : LK k) (hW : WF T N R) (hS : ShR M b T N R) (hL : LkR M k S N) {r c : Nat} (hr : r < R) (hc : c < cn T r) : m_X4_fitted M b k (b + 7 + 6 * r) (nI c) = some (bs N (fitB T S (3 * r + c))) := by
  have h9 := hW.2.1
  exact c_fitted_L hs hρ hlr hlk hW hS hL hr hc N 0 FU (by omega) (by unfold FU; omega)
/-- where nodes with P stand above -/
def unB (T : Nat → Int32) (child : Bool) (P : Nat → Bool) (n : Nat) : Bool := (if child then (pa T n).toList else AN T n).any P
theorem and_any {P : Nat → Bool} {l : List Nat} {n m : Nat} (hm : m ≤ 9) (hl : ∀ a ∈ l, a < m) : (bs 9 (fun a => l.any (fun q => decide (q = a))) &&& bs m P = 0) = (l.any P = false) := by
  apply propext
  constructor
  · intro h
    cases hc : l.any P with
    | false => rfl
    | true =>
      exfalso
      obtain ⟨a, ha, hP⟩ := List.any_eq_true.mp hc
      have h1 := congrArg (fun x => bt x a) h
      have := hl a ha
      rw [b_and, b_bs (by omega) (by omega), b_bs (by omega) (by omega), b_0] at h1
      have h2 : (l.any fun q => decide (q = a)) = true := List.any_eq_true.mpr ⟨a, ha, by simp⟩
      rw [h2, hP] at h1
      simp [show a < 9 by omega, show a < m by omega] at h1
  · intro h
    apply b_ext
    intro i hi
    rw [b_and, b_bs (by omega) hi, b_bs (by omega) hi, b_0]
    cases hP : P i with
    | false => simp
    | true =>
      have h2 : (l.any fun q => decide (q = i)) = false := by
        cases h3 : l.any fun q => decide (q = i) with
        | false => rfl
        | true =>
          obtain ⟨a, ha, hq⟩ := List.any_eq_true.mp h3
          have hq2 : a = i := by simpa using hq
          subst hq2
          have : l.any P = true := List.any_eq_true.mpr ⟨a, ha, hP⟩
          rw [h] at this
          cases this
      rw [h2]
      simp
theorem one_and {P : Nat → Bool} {q m : Nat} (hm : m ≤ 9) (hq : q < m) : (((1 : Int32) <<< (nI q &&& 31)) &&& bs m P = 0) = (P q = false) := by
  rw [bs_one (n := m) (by omega) hq, bs_and (by omega)]
  apply propext
  rw [bs_0 (by omega)]
  constructor
  · intro h
    have := h q hq
    simpa using this
  · intro h i hi
    by_cases e : i = q
    · subst e; simp [h]
    · simp [e]
theorem zero_and (x : Int32) : ((0 : Int32) &&& x = 0) = True := by
  apply propext
  refine ⟨fun _ => trivial, fun _ => ?_⟩
  apply b_ext
  intro i hi
  rw [b_and, b_0]
  rfl
theorem c_under_L (hs : SB b) (hρ : SRf M.1 b) (hW : WF T N R) (hS : ShR M b T N R) {P : Nat → Bool} (ch : Bool) :
    ∀ (d i fu : Nat), i + d = N → d < fu → m_X4_under_L5 M b (bs N P) (bi ch) fu (bs i (unB T ch P)) (nI i) = some (bs N (unB T ch P)) := by
  have h9 := hW.2.1
  obtain ⟨hk1, hl1⟩ := kS hs
  intro d
  induction d with
  | zero =>
    intro i fu hi hf
    obtain ⟨fu, rfl⟩ : ∃ f, fu = f + 1 := ⟨fu - 1, by omega⟩
    unfold m_X4_under_L5
    simp (disch := omega) only [hS.1, qle]
    rw [if_pos (by omega), show i = N by omega]
  | succ d ih =>
    intro i fu hi hf
    obtain ⟨fu, rfl⟩ : ∃ f, fu = f + 1 := ⟨fu - 1, by omega⟩
    have next := ih (i + 1) fu (by omega) (by omega)
    obtain ⟨l1, l2⟩ := hS.2.2.1 i (by omega)
    have step : ∀ x5 : Int32, (x5 &&& bs N P = 0) = (unB T ch P i = false) → m_X4_under_L59 M b (bs N P) (bi ch) (fun z0 z1 => m_X4_under_L5 M b (bs N P) (bi ch) fu z0 z1) (bs i (unB T ch P)) (nI i) x5 = some (bs N (unB T ch P)) := by
      intro x5 hx
      unfold m_X4_under_L59
      simp only [hx, nI_1]
      by_cases hu : unB T ch P i = true
      · rw [if_neg (by simp [hu]), bs_t hu]
        exact next
      · rw [if_pos (by simpa using hu), bs_f (n := i) (p := unB T ch P) (by simpa using hu)]
        exact next
    unfold m_X4_under_L5
    simp (disch := omega) only [hS.1, qle, rf_eq hρ.2.1 hk1.2.2.1, rf_eq hρ.1 hk1.2.1, obs, ra_eq (a := b + 2) (k := i) (by rw [hl1.2.1]; omega) (by omega), ra_eq (a := b + 1) (k := i) (by rw [hl1.1]; omega) (by omega), l1, l2, bi_0]
    rw [if_neg (by omega)]
    cases ch
    · rw [if_pos rfl]
      refine step _ ?_
      unfold unB
      exact and_any (n := 0) (l := AN T i) h9 (fun a ha => by have := AN_lt hW i (by omega) a ha; omega)
    · rw [if_neg (by simp), (pa_ok hW (show i < N by omega)).1]
      cases hp : pa T i with
      | none =>
        rw [encN, wi0m, obs, if_pos rfl]
        refine step _ ?_
        rw [zero_and]
        simp [unB, hp]
      | some q =>
        have hq := (pa_ok hW (show i < N by omega)).2 q hp
        rw [encS, wi1 (by omega) (by omega), obs, if_neg (by decide)]
        refine step _ ?_
        rw [one_and h9 (by omega)]
        simp [unB, hp]
theorem c_under (hs : SB b) (hρ : SRf M.1 b) (hW : WF T N R) (hS : ShR M b T N R) {P : Nat → Bool} (ch : Bool) : m_X4_under M b (bs N P) (bi ch) = some (bs N (unB T ch P)) := by
  have h9 := hW.2.1
  exact c_under_L hs hρ hW hS ch N 0 FU (by omega) (by unfold FU; omega)
theorem c_reached_L (hs : SB b) (hρ : SRf M.1 b) (hlr : LRf M.1 k) (hlk : LK k) (hW : WF T N R) (hS : ShR M b T N R) (hL : LkR M k S N) {r : Nat} (hr : r < R) :
    ∀ (d c fu : Nat), (c + 1) + d = cn T r → d < fu → m_X4_reached_L11 M b k (b + 7 + 6 * r) fu (bs N (mt T S r c)) (nI (c + 1)) = some (bs N (mt T S r (cn T r - 1))) := by
  have h9 := hW.2.1
  have h8 := hW.2.2.2.1
  obtain ⟨k1, k2, k3⟩ := cn_ok hW hr
  have hq := (hρ.2.2.2.2.2 r (by omega)).2
  obtain ⟨hk1, hl1⟩ := kR hs r (by omega)
  have hR := hS.2.2.2 r hr
  intro d
  induction d with
  | zero =>
    intro c fu hi hf
    obtain ⟨fu, rfl⟩ : ∃ f, fu = f + 1 := ⟨fu - 1, by omega⟩
    unfold m_X4_reached_L11
    simp (disch := omega) only [hR.2.1, k1, qle]
    rw [if_pos (by omega), show c = cn T r - 1 by omega]
  | succ d ih =>
    intro c fu hi hf
    obtain ⟨fu, rfl⟩ : ∃ f, fu = f + 1 := ⟨fu - 1, by omega⟩
    have next := ih (c + 1) fu (by omega) (by omega)
    have hc := (hR.2.2.2.2.2.1 (c + 1) (by omega)).2.2 (by omega)
    unfold m_X4_reached_L11
    simp (disch := omega) only [hR.2.1, k1, qle, c_fitted hs hρ hlr hlk hW hS hL hr (show c + 1 < cn T r by omega), obs, rf_eq hq.2.2.1 hk1.2.2.2.1, ra_eq (a := b + 7 + 6 * r + 3) (k := c + 1) (by rw [hl1.2.2.1]; omega) (by omega), hc, c_under hs hρ hW hS, nI_1]
    rw [if_neg (by omega), bs_and (by omega)]
    have e : bs N (fun i => fitB T S (3 * r + (c + 1)) i && unB T (decide (T (68 + 3 * r + (c + 1)) = 62)) (mt T S r c) i) = bs N (mt T S r (c + 1)) := bs_ext (fun i hi => by
      unfold mt unB cand
      by_cases hg : T (68 + 3 * r + (c + 1)) = 62
      · simp [hg, Bool.and_comm]
      · simp [hg, Bool.and_comm])
    rw [e]
    exact next
theorem c_reached (hs : SB b) (hρ : SRf M.1 b) (hlr : LRf M.1 k) (hlk : LK k) (hW : WF T N R) (hS : ShR M b T N R) (hL : LkR M k S N) {r : Nat} (hr : r < R) : m_X4_reached M b k (b + 7 + 6 * r) = some (bs N (mt T S r (cn T r - 1))) := by
  obtain ⟨k1, k2, k3⟩ := cn_ok hW hr
  unfold m_X4_reached
  have h := c_fitted hs hρ hlr hlk hW hS hL hr (show 0 < cn T r by omega)
  rw [show nI 0 = 0 from rfl] at h
  rw [h, obs]
  exact c_reached_L hs hρ hlr hlk hW hS hL hr (cn T r - 1) 0 FU (by omega) (by unfold FU; omega)
theorem c_strongest_L (hs : SB b) (hρ : SRf M.1 b) (hW : WF T N R) (hS : ShR M b T N R) {p : Nat} (hp : p < 4) {L : Nat → Bool} :
    ∀ (d i fu : Nat) (x4 : Nat), i + d = R → d < fu → (∀ q, best T p i (fun r => L r && bt (T (92 + r)) p) = some q → x4 = wt T q p) → (best T p i (fun r => L r && bt (T (92 + r)) p) = none → x4 = 0) → m_X4_strongest_L9 M b (bs R L) (nI p) fu (enc (best T p i (fun r => L r && bt (T (92 + r)) p))) (nI x4) (nI i) = some (enc (best T p R (fun r => L r && bt (T (92 + r)) p))) := by
  have h8 := hW.2.2.2.1
  obtain ⟨hk0, hl0⟩ := kS hs
  intro d
  induction d with
  | zero =>
    intro i fu x4 hi hf _ _
    obtain ⟨fu, rfl⟩ : ∃ f, fu = f + 1 := ⟨fu - 1, by omega⟩
    unfold m_X4_strongest_L9
    simp (disch := omega) only [hS.2.1, qle]
    rw [if_pos (by omega), show i = R by omega]
  | succ d ih =>
    intro i fu x4 hi hf hx hx0
    obtain ⟨fu, rfl⟩ : ∃ f, fu = f + 1 := ⟨fu - 1, by omega⟩
    have hq := (hρ.2.2.2.2.2 i (by omega))
    obtain ⟨hk1, hl1⟩ := kR hs i (by omega)
    have hR := hS.2.2.2 i (by omega)
    have hbit : bt (bs R L) i = L i := by rw [b_bs (by omega) (by omega)]; simp [show i < R by omega]
    unfold m_X4_strongest_L9
    simp (disch := omega) only [hS.2.1, qle, hb1, obs, hb_0, hbit, rf_eq hρ.2.2.2.1 hk0.2.2.2.2.2.2, rr_eq (a := b + 6) (k := i) (by rw [hl0.2.2.2.2]; omega) (by omega) hq.1 hk1.1, hR.2.2.2.1, rf_eq hq.2.2.2.2.2 hk1.2.2.2.2.2, ra_eq (a := b + 7 + 6 * i + 5) (k := p) (by rw [hl1.2.2.2.2]; omega) (by omega), nI_1]
    rw [if_neg (by omega)]
    have skip : (L i && bt (T (92 + i)) p) = false → m_X4_strongest_L9 M b (bs R L) (nI p) fu (enc (best T p i (fun r => L r && bt (T (92 + r)) p))) (nI x4) (nI (i + 1)) = some (enc (best T p R (fun r => L r && bt (T (92 + r)) p))) := by
      intro hz
      have h1 : best T p (i + 1) (fun r => L r && bt (T (92 + r)) p) = best T p i (fun r => L r && bt (T (92 + r)) p) := by
        show (if (fun r => L r && bt (T (92 + r)) p) i then _ else _) = _
        rw [if_neg (by simp only [hz]; simp)]
      have := ih (i + 1) fu x4 (by omega) (by omega)
      rw [h1] at this
      exact this hx hx0
    by_cases hL : L i = true
    · rw [if_neg (by simp [hL])]
      by_cases hd : bt (T (92 + i)) p = true
      · rw [if_neg (by simp [hd])]
        have hwt := (hR.2.2.2.2.2.2 p hp hd).2
        have w1 := lvl_le T i p
        have w2 := spec_le hW (r := i) (by omega)
        have w5 : wt T i p ≤ 4000 := by unfold wt; omega
        rw [hwt]
        have hLi : (fun r => L r && bt (T (92 + r)) p) i = true := by simp [hL, hd]
        cases hb : best T p i (fun r => L r && bt (T (92 + r)) p) with
        | none =>
          have e0 := hx0 hb
          have h1 : best T p (i + 1) (fun r => L r && bt (T (92 + r)) p) = some i := by unfold best; rw [if_pos hLi, hb]
          have := ih (i + 1) fu (wt T i p) (by omega) (by omega)
          rw [h1, encS] at this
          simp (disch := omega) only [qlt]
          rw [if_neg (by omega)]
          exact this (fun q hq => by cases hq; rfl) (fun h => by cases h)
        | some q =>
          have e0 := hx q hb
          have hlt := (best_lt hb).1
          have w3 := lvl_le T q p
          have w4 := spec_le hW (r := q) (by omega)
          have w6 : wt T q p ≤ 4000 := by unfold wt; omega
          have h1 : best T p (i + 1) (fun r => L r && bt (T (92 + r)) p) = if wt T q p ≤ wt T i p then some i else some q := by unfold best; rw [if_pos hLi, hb]
          rw [e0]
          simp (disch := omega) only [qlt]
          by_cases hw : wt T q p ≤ wt T i p
          · rw [if_pos hw] at h1
            have := ih (i + 1) fu (wt T i p) (by omega) (by omega)
            rw [h1, encS] at this
            rw [if_neg (by omega)]
            exact this (fun q hq => by cases hq; rfl) (fun h => by cases h)
          · rw [if_neg hw] at h1
            have := ih (i + 1) fu (wt T q p) (by omega) (by omega)
            rw [h1] at this
            rw [if_pos (by omega)]
            exact this (fun q2 hq2 => by cases hq2; rfl) (fun h => by cases h)
      · rw [if_pos (by simpa using hd)]
        exact skip (by simp [hd])
    · rw [if_pos (by simpa using hL)]
      exact skip (by simp [hL])
theorem c_strongest (hs : SB b) (hρ : SRf M.1 b) (hW : WF T N R) (hS : ShR M b T N R) {p : Nat} (hp : p < 4) {L : Nat → Bool} : m_X4_strongest M b (bs R L) (nI p) = some (enc (best T p R (fun r => L r && bt (T (92 + r)) p))) := by
  have h8 := hW.2.2.2.1
  exact c_strongest_L hs hρ hW hS hp R 0 FU 0 (by omega) (by unfold FU; omega) (fun q hq => by cases hq) (fun _ => rfl)
end CLS1
