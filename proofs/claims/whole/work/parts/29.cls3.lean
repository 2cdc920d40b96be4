section CLS3
variable {M : Mem} {N R b k y : Nat} {T S : Nat → Int32}
def RS (M M1 : Mem) (y : Nat) (T S : Nat → Int32) (N R : Nat) : Prop := Fy M M1 y ∧ M1.2 y 0 = nI N ∧ (∀ r, r < R → M1.2 (y + 1) r = matF T S N r) ∧ ∀ n, n < N → M1.2 (y + 2) n = bs R (fun r => mtch T S r n)
def VS (M1 : Mem) (y : Nat) (T S : Nat → Int32) (R n : Nat) : Prop := ∀ q p, q < n → p < 4 → M1.2 (y + 3) (4 * q + p) = valO T S R q p ∧ M1.2 (y + 4) (4 * q + p) = enc (srcO T S R q p)
def VP (M1 : Mem) (y : Nat) (T S : Nat → Int32) (R n i : Nat) : Prop := ∀ p, p < i → M1.2 (y + 3) (4 * n + p) = valO T S R n p ∧ M1.2 (y + 4) (4 * n + p) = enc (srcO T S R n p)
theorem res_L94 (hs : SB b) (hρ : SRf M.1 b) (hy : YRf M.1 y) (hyk : YK y) (hW : WF T N R) (hS : ShR M b T N R) (hby : b + 54 < y) {n : Nat} (hn : n < N) {k83 : Mem → Int32 → Option Mem} :
    ∀ (d i fu : Nat) (M1 : Mem), i + d = 4 → d < fu → RS M M1 y T S N R → VS M1 y T S R n → VP M1 y T S R n i → ∃ M9, m_X6_resolve_L94 y b k k83 fu M1 (nI n) (nI i) = k83 M9 (nI (n + 1)) ∧ RS M M9 y T S N R ∧ VS M9 y T S R (n + 1) := by
  have h9 := hW.2.1
  have h8 := hW.2.2.2.1
  intro d
  induction d with
  | zero =>
    intro i fu M1 hi hf hR hV hP
    obtain ⟨fu, rfl⟩ : ∃ f, fu = f + 1 := ⟨fu - 1, by omega⟩
    refine ⟨M1, ?_, hR, fun q p hq hp => ?_⟩
    · unfold m_X6_resolve_L94
      simp (disch := omega) only [qle1, qle, nI_1]
      rw [if_pos (by omega)]
    · by_cases h : q = n
      · subst h; exact hP p (by omega)
      · exact hV q p (by omega) hp
  | succ d ih =>
    intro i fu M1 hi hf hR hV hP
    obtain ⟨fu, rfl⟩ : ∃ f, fu = f + 1 := ⟨fu - 1, by omega⟩
    obtain ⟨hF, r0, r1, r2⟩ := hR
    have hS1 : ShR M1 b T N R := ShR_fr h8 (fun j h1 h2 => hF.2 j (by omega)) hS
    have hy1 : YRf M1.1 y := by rw [hF.1]; exact hy
    have hρ1 : SRf M1.1 b := by rw [hF.1]; exact hρ
    unfold m_X6_resolve_L94
    simp (disch := omega) only [qle1, qle, nI_1, c_settle hs hρ1 hy1 hyk hW hS1 hby hn (show i < 4 by omega) (r2 n hn) (fun q hq => hV q i hq (by omega)), obs]
    rw [if_neg (by omega)]
    refine ih (i + 1) fu _ (by omega) (by omega) ⟨⟨hF.1, fun j hj => ?_⟩, ?_, fun r hr => ?_, fun m hm => ?_⟩ (fun q p hq hp => ?_) (fun p hp => ?_)
    · rw [wI2n (by omega), wI2n (by omega)]; exact hF.2 j hj
    · rw [wI2n (by omega), wI2n (by omega)]; exact r0
    · rw [wI2n (by omega), wI2n (by omega)]; exact r1 r hr
    · rw [wI2n (by omega), wI2n (by omega)]; exact r2 m hm
    · rw [wI2n (show y + 3 ≠ y + 4 by omega), wI2, if_pos rfl, if_neg (by omega), wI2, if_pos rfl, if_neg (by omega), wI2n (show y + 4 ≠ y + 3 by omega)]
      exact hV q p hq hp
    · rw [wI2n (show y + 3 ≠ y + 4 by omega), wI2, if_pos rfl, wI2, if_pos rfl]
      by_cases h : p = i
      · subst h; rw [if_pos rfl, if_pos rfl]; exact ⟨rfl, rfl⟩
      · rw [if_neg (by omega), if_neg (by omega), wI2n (show y + 4 ≠ y + 3 by omega)]
        exact hP p (by omega)
theorem res_L83 (hs : SB b) (hρ : SRf M.1 b) (hy : YRf M.1 y) (hyk : YK y) (hW : WF T N R) (hS : ShR M b T N R) (hby : b + 54 < y) :
    ∀ (d i fu : Nat) (M1 : Mem), i + d = N → d < fu → RS M M1 y T S N R → VS M1 y T S R i → ∃ M9, m_X6_resolve_L83 y b k fu M1 (nI i) = some M9 ∧ RS M M9 y T S N R ∧ VS M9 y T S R N := by
  have h9 := hW.2.1
  intro d
  induction d with
  | zero =>
    intro i fu M1 hi hf hR hV
    obtain ⟨fu, rfl⟩ : ∃ f, fu = f + 1 := ⟨fu - 1, by omega⟩
    have : i = N := by omega
    subst this
    refine ⟨M1, ?_, hR, hV⟩
    unfold m_X6_resolve_L83
    simp (disch := omega) only [hR.2.1, qle]
    rw [if_pos (by omega)]
  | succ d ih =>
    intro i fu M1 hi hf hR hV
    obtain ⟨fu, rfl⟩ : ∃ f, fu = f + 1 := ⟨fu - 1, by omega⟩
    unfold m_X6_resolve_L83
    simp (disch := omega) only [hR.2.1, qle]
    rw [if_neg (by omega)]
    obtain ⟨M2, e1, e2, e3⟩ := res_L94 (k := k) hs hρ hy hyk hW hS hby (n := i) (by omega) (k83 := fun z0 z1 => m_X6_resolve_L83 y b k fu z0 z1) 4 0 FU M1 (by omega) (by unfold FU; omega) hR hV (fun p hp => by omega)
    rw [show nI 0 = 0 from rfl] at e1
    rw [e1]
    exact ih (i + 1) fu M2 (by omega) (by omega) e2 e3
/-- resolve: the styles of the sheet by the look stand in the five cells at y -/
theorem c_resolve (hs : SB b) (hρ : SRf M.1 b) (hlr : LRf M.1 k) (hlk : LK k) (hy : YRf M.1 y) (hyk : YK y) (hW : WF T N R) (hS : ShR M b T N R) (hL : LkR M k S N) (hby : b + 54 < y) (hky : k + 2 < y ∨ y + 4 < k) :
    ∃ M9, m_X6_resolve M y b k = some M9 ∧ Fy M M9 y ∧ StR M9 y T S N R := by
  have h9 := hW.2.1
  have h8 := hW.2.2.2.1
  unfold m_X6_resolve
  rw [pIs, hS.1]
  have f0 : ∀ i, i ≠ y → (wI M y 0 (nI N)).2 i = M.2 i := fun i hi => wI2n hi
  have z0 : (wI M y 0 (nI N)).2 y 0 = nI N := by rw [wI2, if_pos rfl, if_pos rfl]
  obtain ⟨M1, e1, e2, e3, e4⟩ := res_L10 (M := wI M y 0 (nI N)) (a1 := b) (a2 := k) hy hyk h9 z0 N 0 FU (wI M y 0 (nI N)) (by omega) (by unfold FU; omega) rfl (fun _ _ => rfl) (fun n hn => by omega)
  rw [show nI 0 = 0 from rfl] at e1
  rw [e1]
  have hF1 : Fy M M1 y := ⟨e2, fun j hj => by rw [e3 j (by omega), f0 j (by omega)]⟩
  obtain ⟨M2, g1, g2, g3, g4, g5⟩ := res_L33 hs hρ hlr hlk hy hyk hW hS hL hby hky R 0 FU M1 (by omega) (by unfold FU; omega) hF1 (by rw [e3 y (by omega)]; exact z0) (fun r hr => by omega) (fun n hn => e4 n hn)
  rw [show nI 0 = 0 from rfl] at g1
  rw [g1]
  obtain ⟨M3, i1, i2, i3⟩ := res_L83 (k := k) (S := S) hs hρ hy hyk hW hS hby N 0 FU M2 (by omega) (by unfold FU; omega) ⟨g2, g3, g4, g5⟩ (fun q p hq => by omega)
  rw [show nI 0 = 0 from rfl] at i1
  exact ⟨M3, i1, i2.1, i2.2.1, i2.2.2.1, i2.2.2.2, fun n p hn hp => i3 n p hn hp⟩
/-! what the styles answer -/
theorem c_valueAt (hy : YRf M.1 y) (hyk : YK y) (hN : N ≤ 9) (hSt : StR M y T S N R) {n p : Nat} (hn : n < N) (hp : p < 4) : m_X6_valueAt M y (nI n) (nI p) = some (valO T S R n p) := by
  unfold m_X6_valueAt
  rw [hSt.1, wi1 hn (by omega), obs, if_neg (by decide), show (4 : Int32) = nI 4 from rfl, wi1 hp (by omega), obs, if_neg (by decide), rf_eq hy.2.2.1 hyk.1.2.2.1, obs, pk_mul, nI_add, ra_eq (by rw [hyk.2.2.2.1]; omega) (by omega), obs, (hSt.2.2.2 n p hn hp).1]
theorem c_sourceAt (hy : YRf M.1 y) (hyk : YK y) (hN : N ≤ 9) (hSt : StR M y T S N R) {n p : Nat} (hn : n < N) (hp : p < 4) : m_X6_sourceAt M y (nI n) (nI p) = some (enc (srcO T S R n p)) := by
  unfold m_X6_sourceAt
  rw [hSt.1, wi1 hn (by omega), obs, if_neg (by decide), show (4 : Int32) = nI 4 from rfl, wi1 hp (by omega), obs, if_neg (by decide), rf_eq hy.2.2.2 hyk.1.2.2.2, obs, pk_mul, nI_add, ra_eq (by rw [hyk.2.2.2.2]; omega) (by omega), obs, (hSt.2.2.2 n p hn hp).2]
theorem c_rulesOf (hy : YRf M.1 y) (hyk : YK y) (hN : N ≤ 9) (hSt : StR M y T S N R) {n : Nat} (hn : n < N) : m_X6_rulesOf M y (nI n) = some (bs R (fun r => mtch T S r n)) := by
  unfold m_X6_rulesOf
  rw [hSt.1, wi1 hn (by omega), obs, if_neg (by decide), rf_eq hy.2.1 hyk.1.2.1, obs, ra_eq (by rw [hyk.2.2.1]; omega) (by omega), obs, hSt.2.2.1 n hn]
theorem c_nodesOf (hy : YRf M.1 y) (hyk : YK y) (hR : R ≤ 8) (hSt : StR M y T S N R) {r : Nat} (hr : r < R) : m_X6_nodesOf M y (nI r) = some (matF T S N r) := by
  unfold m_X6_nodesOf
  rw [show (8 : Int32) = nI 8 from rfl, wi1 (by omega) (by omega), obs, if_neg (by decide), rf_eq hy.1 hyk.1.1, obs, ra_eq (by rw [hyk.2.1]; omega) (by omega), obs, hSt.2.1 r hr]
/-- a value is a digit -/
theorem val_dig (hW : WF T N R) {n p : Nat} (hp : p < 4) : ∃ v, v < 10 ∧ valO T S R n p = nI v := by
  have h8 := hW.2.2.2.1
  unfold valO
  cases hs : srcO T S R n p with
  | none => exact ⟨0, by omega, rfl⟩
  | some a =>
    simp only
    cases hb : best T p R (dcl T S p a) with
    | none => exact ⟨0, by omega, rfl⟩
    | some q =>
      obtain ⟨-, -, -, -, -, -, -, -, h1⟩ := hW
      exact h1 q p (best_lt hb).1 hp
def dig (T S : Nat → Int32) (R n p : Nat) : Nat := (valO T S R n p).toNatClampNeg
theorem dig_ok (hW : WF T N R) {n p : Nat} (hp : p < 4) : valO T S R n p = nI (dig T S R n p) ∧ dig T S R n p < 10 := by
  obtain ⟨v, hv, e⟩ := val_dig (S := S) hW (n := n) hp
  unfold dig
  rw [e, qclamp (by omega)]
  exact ⟨rfl, hv⟩
def sty (T S : Nat → Int32) (R n : Nat) : Nat := 1000 * dig T S R n 0 + 100 * dig T S R n 1 + 10 * dig T S R n 2 + dig T S R n 3
theorem sty_lt (hW : WF T N R) (n : Nat) : sty T S R n < 10000 := by
  have h0 := (dig_ok (S := S) hW (n := n) (p := 0) (by omega)).2
  have h1 := (dig_ok (S := S) hW (n := n) (p := 1) (by omega)).2
  have h2 := (dig_ok (S := S) hW (n := n) (p := 2) (by omega)).2
  have h3 := (dig_ok (S := S) hW (n := n) (p := 3) (by omega)).2
  unfold sty
  omega
theorem c_styleOf (hy : YRf M.1 y) (hyk : YK y) (hW : WF T N R) (hSt : StR M y T S N R) {n : Nat} (hn : n < N) : m_X6_styleOf M y (nI n) = some (nI (sty T S R n)) := by
  have h9 := hW.2.1
  obtain ⟨e0, l0⟩ := dig_ok (S := S) hW (n := n) (p := 0) (by omega)
  obtain ⟨e1, l1⟩ := dig_ok (S := S) hW (n := n) (p := 1) (by omega)
  obtain ⟨e2, l2⟩ := dig_ok (S := S) hW (n := n) (p := 2) (by omega)
  obtain ⟨e3, l3⟩ := dig_ok (S := S) hW (n := n) (p := 3) (by omega)
  have v : ∀ p, p < 4 → m_X6_valueAt M y (nI n) (nI p) = some (nI (dig T S R n p)) := fun p hp => by rw [c_valueAt hy hyk h9 hSt hn hp, ← (dig_ok hW hp).1]
  have step : ∀ (fu x p : Nat), p < 4 → m_X6_styleOf_L4 M y (nI n) (fu + 1) (nI x) (nI p) = m_X6_styleOf_L4 M y (nI n) fu (nI (10 * x + dig T S R n p)) (nI (p + 1)) := by
    intro fu x p hp
    conv => lhs; unfold m_X6_styleOf_L4
    simp (disch := omega) only [qle1, qle, v p hp, obs, qmu, nI_add, nI_1]
    rw [if_neg (by omega)]
  unfold m_X6_styleOf
  rw [show FU = 995 + 1 + 1 + 1 + 1 + 1 from rfl, show (0 : Int32) = nI 0 from rfl, step _ _ _ (by omega), step _ _ _ (by omega), step _ _ _ (by omega), step _ _ _ (by omega)]
  unfold m_X6_styleOf_L4
  simp (disch := omega) only [qle1, qle]
  rw [if_pos (by omega)]
  congr 2
  unfold sty
  show 10 * (10 * (10 * (10 * 0 + dig T S R n 0) + dig T S R n 1) + dig T S R n 2) + dig T S R n 3 = _
  omega
theorem sty_like {T2 S2 : Nat → Int32} {N2 R2 : Nat} (hW : WF T N R) (hW2 : WF T2 N2 R2) (a c : Nat) : sty T S R a = sty T2 S2 R2 c ↔ (valO T S R a 0 = valO T2 S2 R2 c 0 ∧ valO T S R a 1 = valO T2 S2 R2 c 1 ∧ valO T S R a 2 = valO T2 S2 R2 c 2 ∧ valO T S R a 3 = valO T2 S2 R2 c 3) := by
  obtain ⟨e0, l0⟩ := dig_ok (S := S) hW (n := a) (p := 0) (by omega)
  obtain ⟨e1, l1⟩ := dig_ok (S := S) hW (n := a) (p := 1) (by omega)
  obtain ⟨e2, l2⟩ := dig_ok (S := S) hW (n := a) (p := 2) (by omega)
  obtain ⟨e3, l3⟩ := dig_ok (S := S) hW (n := a) (p := 3) (by omega)
  obtain ⟨f0, m0⟩ := dig_ok (S := S2) hW2 (n := c) (p := 0) (by omega)
  obtain ⟨f1, m1⟩ := dig_ok (S := S2) hW2 (n := c) (p := 1) (by omega)
  obtain ⟨f2, m2⟩ := dig_ok (S := S2) hW2 (n := c) (p := 2) (by omega)
  obtain ⟨f3, m3⟩ := dig_ok (S := S2) hW2 (n := c) (p := 3) (by omega)
  rw [e0, e1, e2, e3, f0, f1, f2, f3, qeq (by omega) (by omega), qeq (by omega) (by omega), qeq (by omega) (by omega), qeq (by omega) (by omega)]
  unfold sty
  omega
theorem like_sty (hW : WF T N R) (a c : Nat) : (likeB T S R a c = true) = (sty T S R a = sty T S R c) := by
  apply propext
  rw [sty_like hW hW]
  simp [likeB]
theorem c_recordOf (hy : YRf M.1 y) (hyk : YK y) (hW : WF T N R) (hSt : StR M y T S N R) {n : Nat} (hn : n < N) : m_X6_recordOf M y (nI n) = some (nI (rcG T S R n)) := by
  have h9 := hW.2.1
  unfold m_X6_recordOf
  rw [c_styleOf hy hyk hW hSt hn, obs]
  have key : ∀ (d e fu : Nat), e + d = n → d < fu → m_X6_recordOf_L8 M y (nI n) fu (nI (sty T S R n)) (nI e) = some (nI (rcdG (fun e => likeB T S R e n) d e)) := by
    intro d
    induction d with
    | zero =>
      intro e fu hi hf
      obtain ⟨fu, rfl⟩ : ∃ f, fu = f + 1 := ⟨fu - 1, by omega⟩
      unfold m_X6_recordOf_L8
      simp (disch := omega) only [qle]
      rw [if_pos (by omega), show e = n by omega]
      rfl
    | succ d ih =>
      intro e fu hi hf
      obtain ⟨fu, rfl⟩ : ∃ f, fu = f + 1 := ⟨fu - 1, by omega⟩
      have b1 := sty_lt (S := S) hW e
      have b2 := sty_lt (S := S) hW n
      unfold m_X6_recordOf_L8 rcdG
      simp (disch := omega) only [qle, c_styleOf hy hyk hW hSt (show e < N by omega), obs, qeq, nI_1]
      rw [if_neg (by omega)]
      by_cases hl : likeB T S R e n = true
      · rw [if_pos (by rw [← like_sty hW]; exact hl)]; simp [hl]
      · rw [if_neg (by rw [← like_sty hW]; exact hl), if_neg hl]
        exact ih (e + 1) fu (by omega) (by omega)
  exact key n 0 FU (by omega) (by unfold FU; omega)
end CLS3
