/-! ===== the class: resolve ===== -/
theorem ShR_fr {M M2 : Mem} {b N R : Nat} {T : Nat → Int32} (hR : R ≤ 8) (h : ∀ i, b ≤ i → i ≤ b + 54 → M2.2 i = M.2 i) (hS : ShR M b T N R) : ShR M2 b T N R := by
  obtain ⟨h1, h2, h3, h4⟩ := hS
  refine ⟨by rw [h b (by omega) (by omega)]; exact h1, by rw [h b (by omega) (by omega)]; exact h2, fun n hn => ?_, fun r hr => ?_⟩
  · rw [h (b + 1) (by omega) (by omega), h (b + 2) (by omega) (by omega)]
    exact h3 n hn
  · have q := h4 r hr
    unfold RuR at q ⊢
    rw [h (b + 7 + 6 * r) (by omega) (by omega), h (b + 7 + 6 * r + 1) (by omega) (by omega), h (b + 7 + 6 * r + 2) (by omega) (by omega), h (b + 7 + 6 * r + 3) (by omega) (by omega), h (b + 7 + 6 * r + 4) (by omega) (by omega), h (b + 7 + 6 * r + 5) (by omega) (by omega)]
    exact q
theorem LkR_fr {M M2 : Mem} {k N : Nat} {S : Nat → Int32} (h : ∀ i, k ≤ i → i ≤ k + 2 → M2.2 i = M.2 i) (hS : LkR M k S N) : LkR M2 k S N := by
  obtain ⟨h1, h2⟩ := hS
  refine ⟨fun n hn => ?_, by rw [h k (by omega) (by omega)]; exact h2⟩
  rw [h (k + 1) (by omega) (by omega), h (k + 2) (by omega) (by omega)]
  exact h1 n hn
theorem StR_fr {M M2 : Mem} {y N R : Nat} {T S : Nat → Int32} (h : ∀ i, y ≤ i → i ≤ y + 4 → M2.2 i = M.2 i) (hS : StR M y T S N R) : StR M2 y T S N R := by
  obtain ⟨h1, h2, h3, h4⟩ := hS
  refine ⟨by rw [h y (by omega) (by omega)]; exact h1, fun r hr => ?_, fun n hn => ?_, fun n p hn hp => ?_⟩
  · rw [h (y + 1) (by omega) (by omega)]; exact h2 r hr
  · rw [h (y + 2) (by omega) (by omega)]; exact h3 n hn
  · rw [h (y + 3) (by omega) (by omega), h (y + 4) (by omega) (by omega)]; exact h4 n p hn hp
section CLS2
variable {M : Mem} {N R b k y : Nat} {T S : Nat → Int32}
theorem note_L (hy : YRf M.1 y) (hyk : YK y) (hN : N ≤ 9) {r : Nat} (hr : r < 8) (M0 : Mem) (hM0 : M0.1 = M.1 ∧ M0.2 y 0 = nI N ∧ M0.2 (y + 1) r = matF T S N r ∧ ∀ n, n < N → M0.2 (y + 2) n = bs r (fun r => mtch T S r n)) :
    ∀ (d i fu : Nat) (M1 : Mem), i + d = N → d < fu → M1.1 = M.1 → (∀ k, k ≠ y + 2 → M1.2 k = M0.2 k) → (∀ n, n < N → M1.2 (y + 2) n = if n < i then bs (r + 1) (fun r => mtch T S r n) else bs r (fun r => mtch T S r n)) → ∃ M9, m_X6_noteRule_L2 y (nI r) fu M1 (nI i) = some M9 ∧ M9.1 = M.1 ∧ (∀ k, k ≠ y + 2 → M9.2 k = M0.2 k) ∧ ∀ n, n < N → M9.2 (y + 2) n = bs (r + 1) (fun r => mtch T S r n) := by
  intro d
  induction d with
  | zero =>
    intro i fu M1 hi hf h1 h2 h3
    obtain ⟨fu, rfl⟩ : ∃ f, fu = f + 1 := ⟨fu - 1, by omega⟩
    refine ⟨M1, ?_, h1, h2, fun n hn => by rw [h3 n hn, if_pos (by omega)]⟩
    unfold m_X6_noteRule_L2
    simp (disch := omega) only [h2 y (by omega), hM0.2.1, qle]
    rw [if_pos (by omega)]
  | succ d ih =>
    intro i fu M1 hi hf h1 h2 h3
    obtain ⟨fu, rfl⟩ : ∃ f, fu = f + 1 := ⟨fu - 1, by omega⟩
    have hy1 : YRf M1.1 y := by rw [h1]; exact hy
    have e1 : M1.2 (y + 1) r = matF T S N r := by rw [h2 (y + 1) (by omega)]; exact hM0.2.2.1
    have hbit : bt (matF T S N r) i = mtch T S r i := by
      unfold matF
      rw [b_bs (by omega) (by omega)]
      simp [show i < N by omega]
    unfold m_X6_noteRule_L2
    simp (disch := omega) only [h2 y (by omega), hM0.2.1, qle, rf_eq hy1.1 hyk.1.1, rf_eq hy1.2.1 hyk.1.2.1, obs, ra_eq (a := y + 1) (k := r) (by rw [hyk.2.1]; omega) (by omega), e1, hb1, hb_0, hbit, ra_eq (a := y + 2) (k := i) (by rw [hyk.2.2.1]; omega) (by omega), wa_eq (a := y + 2) (k := i) (by rw [hyk.2.2.1]; omega) (by omega), nI_1]
    rw [if_neg (by omega)]
    have hcur := h3 i (by omega)
    rw [if_neg (by omega)] at hcur
    by_cases hm : mtch T S r i = true
    · rw [if_neg (by simp [hm]), hcur, bs_t (p := fun r => mtch T S r i) hm]
      refine ih (i + 1) fu (wI M1 (y + 2) i (bs (r + 1) (fun r => mtch T S r i))) (by omega) (by omega) h1 (fun k hk => by rw [wI2n hk]; exact h2 k hk) (fun n hn => ?_)
      rw [wI2, if_pos rfl]
      by_cases hni : n = i
      · subst hni; rw [if_pos rfl, if_pos (by omega)]
      · rw [if_neg hni, h3 n hn]
        by_cases h2 : n < i
        · rw [if_pos h2, if_pos (by omega)]
        · rw [if_neg h2, if_neg (by omega)]
    · rw [if_pos (by simpa using hm)]
      refine ih (i + 1) fu M1 (by omega) (by omega) h1 h2 (fun n hn => ?_)
      rw [h3 n hn]
      by_cases hni : n = i
      · subst hni
        rw [if_neg (by omega), if_pos (by omega), bs_f (n := r) (p := fun r => mtch T S r n) (by simpa using hm)]
      · by_cases h2 : n < i
        · rw [if_pos h2, if_pos (by omega)]
        · rw [if_neg h2, if_neg (by omega)]
theorem c_note (hy : YRf M.1 y) (hyk : YK y) (hN : N ≤ 9) {r : Nat} (hr : r < 8) (hM0 : M.2 y 0 = nI N ∧ M.2 (y + 1) r = matF T S N r ∧ ∀ n, n < N → M.2 (y + 2) n = bs r (fun r => mtch T S r n)) :
    ∃ M9, m_X6_noteRule M y (nI r) = some M9 ∧ M9.1 = M.1 ∧ (∀ k, k ≠ y + 2 → M9.2 k = M.2 k) ∧ ∀ n, n < N → M9.2 (y + 2) n = bs (r + 1) (fun r => mtch T S r n) :=
  note_L hy hyk hN hr M ⟨rfl, hM0⟩ N 0 FU M (by omega) (by unfold FU; omega) rfl (fun _ _ => rfl) (fun n hn => by rw [if_neg (by omega)]; exact hM0.2.2 n hn)
theorem res_L10 (hy : YRf M.1 y) (hyk : YK y) (hN : N ≤ 9) {a1 a2 : Nat} (hM0 : M.2 y 0 = nI N) :
    ∀ (d i fu : Nat) (M1 : Mem), i + d = N → d < fu → M1.1 = M.1 → (∀ k, k ≠ y + 2 → M1.2 k = M.2 k) → (∀ n, n < i → M1.2 (y + 2) n = 0) → ∃ M9, m_X6_resolve_L10 y a1 a2 fu M1 (nI i) = m_X6_resolve_L33 y a1 a2 FU M9 0 ∧ M9.1 = M.1 ∧ (∀ k, k ≠ y + 2 → M9.2 k = M.2 k) ∧ ∀ n, n < N → M9.2 (y + 2) n = 0 := by
  intro d
  induction d with
  | zero =>
    intro i fu M1 hi hf h1 h2 h3
    obtain ⟨fu, rfl⟩ : ∃ f, fu = f + 1 := ⟨fu - 1, by omega⟩
    refine ⟨M1, ?_, h1, h2, fun n hn => h3 n (by omega)⟩
    conv => lhs; unfold m_X6_resolve_L10
    simp (disch := omega) only [h2 y (by omega), hM0, qle]
    rw [if_pos (by omega)]
  | succ d ih =>
    intro i fu M1 hi hf h1 h2 h3
    obtain ⟨fu, rfl⟩ : ∃ f, fu = f + 1 := ⟨fu - 1, by omega⟩
    have hy1 : YRf M1.1 y := by rw [h1]; exact hy
    unfold m_X6_resolve_L10
    simp (disch := omega) only [h2 y (by omega), hM0, qle, rf_eq hy1.2.1 hyk.1.2.1, obs, wa_eq (a := y + 2) (k := i) (by rw [hyk.2.2.1]; omega) (by omega), nI_1]
    rw [if_neg (by omega)]
    refine ih (i + 1) fu (wI M1 (y + 2) i 0) (by omega) (by omega) h1 (fun k hk => by rw [wI2n hk]; exact h2 k hk) (fun n hn => ?_)
    rw [wI2, if_pos rfl]
    by_cases hni : n = i
    · rw [if_pos hni]
    · rw [if_neg hni]; exact h3 n (by omega)
/-- what stays: everything but the five cells of the styles -/
def Fy (M M2 : Mem) (y : Nat) : Prop := M2.1 = M.1 ∧ ∀ k, (k < y ∨ y + 4 < k) → M2.2 k = M.2 k
theorem res_L33 (hs : SB b) (hρ : SRf M.1 b) (hlr : LRf M.1 k) (hlk : LK k) (hy : YRf M.1 y) (hyk : YK y) (hW : WF T N R) (hS : ShR M b T N R) (hL : LkR M k S N) (hby : b + 54 < y) (hky : k + 2 < y ∨ y + 4 < k) :
    ∀ (d i fu : Nat) (M1 : Mem), i + d = R → d < fu → Fy M M1 y → M1.2 y 0 = nI N → (∀ r, r < i → M1.2 (y + 1) r = matF T S N r) → (∀ n, n < N → M1.2 (y + 2) n = bs i (fun r => mtch T S r n)) → ∃ M9, m_X6_resolve_L33 y b k fu M1 (nI i) = m_X6_resolve_L83 y b k FU M9 0 ∧ Fy M M9 y ∧ M9.2 y 0 = nI N ∧ (∀ r, r < R → M9.2 (y + 1) r = matF T S N r) ∧ ∀ n, n < N → M9.2 (y + 2) n = bs R (fun r => mtch T S r n) := by
  have h9 := hW.2.1
  have h8 := hW.2.2.2.1
  obtain ⟨hk0, hl0⟩ := kS hs
  intro d
  induction d with
  | zero =>
    intro i fu M1 hi hf hF h0 h1 h2
    obtain ⟨fu, rfl⟩ : ∃ f, fu = f + 1 := ⟨fu - 1, by omega⟩
    have hiR : i = R := by omega
    subst hiR
    refine ⟨M1, ?_, hF, h0, h1, h2⟩
    have hS1 : ShR M1 b T N i := ShR_fr h8 (fun j h1 h2 => hF.2 j (by omega)) hS
    conv => lhs; unfold m_X6_resolve_L33
    simp (disch := omega) only [hS1.2.1, qle]
    rw [if_pos (by omega)]
  | succ d ih =>
    intro i fu M1 hi hf hF h0 h1 h2
    obtain ⟨fu, rfl⟩ : ∃ f, fu = f + 1 := ⟨fu - 1, by omega⟩
    have hS1 : ShR M1 b T N R := ShR_fr h8 (fun j h1 h2 => hF.2 j (by omega)) hS
    have hL1 : LkR M1 k S N := LkR_fr (fun j h1 h2 => hF.2 j (by omega)) hL
    have hy1 : YRf M1.1 y := by rw [hF.1]; exact hy
    have hρ1 : SRf M1.1 b := by rw [hF.1]; exact hρ
    have hlr1 : LRf M1.1 k := by rw [hF.1]; exact hlr
    have hq := hρ1.2.2.2.2.2 i (by omega)
    obtain ⟨hk1, hl1⟩ := kR hs i (by omega)
    -- one turn with the row's value v
    have turn : ∀ v : Int32, v = matF T S N i → ∃ M9, ((m_X6_noteRule (wI M1 (y + 1) i v) y (nI i)).bind fun M14 => m_X6_resolve_L33 y b k fu M14 (nI i + 1)) = m_X6_resolve_L83 y b k FU M9 0 ∧ Fy M M9 y ∧ M9.2 y 0 = nI N ∧ (∀ r, r < R → M9.2 (y + 1) r = matF T S N r) ∧ ∀ n, n < N → M9.2 (y + 2) n = bs R (fun r => mtch T S r n) := by
      intro v hv
      obtain ⟨M2, e1, e2, e3, e4⟩ := c_note (M := wI M1 (y + 1) i v) (y := y) (N := N) (T := T) (S := S) (r := i) hy1 hyk h9 (by omega) ⟨by rw [wI2n (by omega)]; exact h0, by rw [wI2, if_pos rfl, if_pos rfl]; exact hv, fun n hn => by rw [wI2n (by omega)]; exact h2 n hn⟩
      rw [e1, obs, nI_1]
      refine ih (i + 1) fu M2 (by omega) (by omega) ⟨by rw [e2]; exact hF.1, fun j hj => by rw [e3 j (by omega), wI2n (by omega)]; exact hF.2 j hj⟩ (by rw [e3 y (by omega), wI2n (by omega)]; exact h0) (fun r hr => ?_) e4
      rw [e3 (y + 1) (by omega), wI2, if_pos rfl]
      by_cases hri : r = i
      · subst hri; rw [if_pos rfl]; exact hv
      · rw [if_neg hri]; exact h1 r (by omega)
    unfold m_X6_resolve_L33
    simp (disch := omega) only [hS1.2.1, qle, rf_eq hy1.1 hyk.1.1, obs, m_X1_hasOn, hL1.2, hb1, bz_hb, hb_0, wa_eq (a := y + 1) (k := i) (by rw [hyk.2.1]; omega) (by omega), rf_eq hρ1.2.2.2.1 hk0.2.2.2.2.2.2, rr_eq (a := b + 6) (k := i) (by rw [hl0.2.2.2.2]; omega) (by omega) hq.1 hk1.1, c_reached hs hρ1 hlr1 hlk hW hS1 hL1 (show i < R by omega)]
    rw [if_neg (by omega)]
    by_cases hon : bt (S 18) i = true
    · rw [if_neg (by simp [hon])]
      refine turn _ ?_
      unfold matF
      exact bs_ext (fun n _ => by simp [mtch, hon])
    · rw [if_pos (by simpa using hon)]
      refine turn _ ?_
      unfold matF
      rw [bs_ext (q := fun _ => false) (fun n _ => by simp [mtch, hon]), bs_f0]
theorem srcO_self {n p q : Nat} (h : best T p R (dcl T S p n) = some q) : srcO T S R n p = some n := by
  unfold srcO
  simp [List.find?, h]
theorem srcO_up (hW : WF T N R) {n p q : Nat} (hn : n < N) (h : best T p R (dcl T S p n) = none) (hp : p < 2) (hq : pa T n = some q) : srcO T S R n p = srcO T S R q p := by
  unfold srcO
  rw [if_pos hp, if_pos hp, AN_eq hW hn, hq]
  simp [List.find?, h]
theorem srcO_no (hW : WF T N R) {n p : Nat} (hn : n < N) (h : best T p R (dcl T S p n) = none) (hp : ¬ p < 2 ∨ pa T n = none) : srcO T S R n p = none := by
  unfold srcO
  rcases hp with hp | hp
  · rw [if_neg hp]
    simp [List.find?, h]
  · rw [AN_eq hW hn, hp]
    simp [List.find?, h]
theorem c_settle (hs : SB b) (hρ : SRf M.1 b) (hy : YRf M.1 y) (hyk : YK y) (hW : WF T N R) (hS : ShR M b T N R) (hby : b + 54 < y) {n p : Nat} (hn : n < N) (hp : p < 4) (h2 : M.2 (y + 2) n = bs R (fun r => mtch T S r n)) (hv : ∀ q, q < n → M.2 (y + 3) (4 * q + p) = valO T S R q p ∧ M.2 (y + 4) (4 * q + p) = enc (srcO T S R q p)) :
    m_X6_settle M y b (nI n) (nI p) = some (wI (wI M (y + 3) (4 * n + p) (valO T S R n p)) (y + 4) (4 * n + p) (enc (srcO T S R n p))) := by
  have h9 := hW.2.1
  have h8 := hW.2.2.2.1
  obtain ⟨hk0, hl0⟩ := kS hs
  have l1 := (hS.2.2.1 n hn).1
  have hpa := pa_ok hW hn
  unfold m_X6_settle m_X6_settle_L123
  simp (disch := omega) only [rf_eq hy.2.1 hyk.1.2.1, rf_eq hy.2.2.1 hyk.1.2.2.1, obs, ra_eq (a := y + 2) (k := n) (by rw [hyk.2.2.1]; omega) (by omega), h2, c_strongest hs hρ hW hS hp, rf_eq hρ.1 hk0.2.1, ra_eq (a := b + 1) (k := n) (by rw [hl0.1]; omega) (by omega), l1, hS.2.1, qmu, nI_add, wa_eq (a := y + 3) (k := 4 * n + p) (by rw [hyk.2.2.2.1]; omega) (by omega)]
  have e4 : ∀ M1 : Mem, M1.1 = M.1 → rf 10 M1 y 4 = some (y + 4) := fun M1 h => rf_eq (by rw [h]; exact hy.2.2.2) hyk.1.2.2.2
  have w4 : ∀ (M1 : Mem) (v : Int32), wa M1 (y + 4) (nI (4 * n + p)) v = some (wI M1 (y + 4) (4 * n + p) v) := fun M1 v => wa_eq (by rw [hyk.2.2.2.2]; omega) (by omega)
  have hd : (fun r => (fun r => mtch T S r n) r && bt (T (92 + r)) p) = dcl T S p n := rfl
  rw [hd]
  cases hb : best T p R (dcl T S p n) with
  | some q =>
    have hq := best_lt hb
    have hdq : bt (T (92 + q)) p = true := by
      have := hq.2
      simp [dcl] at this
      exact this.2
    have hqr := hρ.2.2.2.2.2 q (by omega)
    obtain ⟨hk1, hl1⟩ := kR hs q (by omega)
    have hv4 := ((hS.2.2.2 q hq.1).2.2.2.2.2.2 p hp hdq).1
    rw [encS, wi1 hq.1 (by omega), obs, if_neg (by decide)]
    simp (disch := omega) only [rf_eq hρ.2.2.2.1 hk0.2.2.2.2.2.2, obs, rr_eq (a := b + 6) (k := q) (by rw [hl0.2.2.2.2]; omega) (by omega) hqr.1 hk1.1, rf_eq hqr.2.2.2.2.1 hk1.2.2.2.2.1, ra_eq (a := b + 7 + 6 * q + 4) (k := p) (by rw [hl1.2.2.2.1]; omega) (by omega), hv4, wa_eq (a := y + 3) (k := 4 * n + p) (by rw [hyk.2.2.2.1]; omega) (by omega), e4 (wI M (y + 3) (4 * n + p) (T (108 + 4 * q + p))) rfl, w4]
    have hsrc := srcO_self hb
    have hval : valO T S R n p = T (108 + 4 * q + p) := by unfold valO; rw [hsrc]; simp only [hb]
    rw [hsrc, hval, encS]
  | none =>
    rw [encN, wi0m, obs, if_pos rfl]
    have zero : srcO T S R n p = none → (((wa M (y + 3) (nI (4 * n + p)) 0).bind fun M12 => (rf 10 M12 y 4).bind fun a13 => (wa M12 a13 (nI (4 * n + p)) (-9)).bind fun M14 => some M14) = some (wI (wI M (y + 3) (4 * n + p) (valO T S R n p)) (y + 4) (4 * n + p) (enc (srcO T S R n p)))) := by
      intro hz
      have hval : valO T S R n p = 0 := by unfold valO; rw [hz]
      rw [hz, hval, encN, wa_eq (by rw [hyk.2.2.2.1]; omega) (by omega), obs, e4 (wI M (y + 3) (4 * n + p) 0) rfl, obs, w4, obs]
    simp (disch := omega) only [qle1, qle]
    by_cases hp2 : 2 ≤ p
    · rw [if_pos hp2]
      have := zero (srcO_no hW hn hb (Or.inl (by omega)))
      rw [wa_eq (by rw [hyk.2.2.2.1]; omega) (by omega), obs] at this
      exact this
    · rw [if_neg hp2, hpa.1]
      cases hq : pa T n with
      | none =>
        rw [encN, wi0m, obs, if_pos rfl]
        have := zero (srcO_no hW hn hb (Or.inr hq))
        rw [wa_eq (by rw [hyk.2.2.2.1]; omega) (by omega), obs] at this
        exact this
      | some q =>
        have hqn := hpa.2 q hq
        obtain ⟨v1, v2⟩ := hv q hqn
        rw [encS, wi1 hqn (by omega), obs, if_neg (by decide)]
        have hsrc := srcO_up (S := S) hW hn hb (by omega) hq
        have hval : valO T S R n p = valO T S R q p := by unfold valO; rw [hsrc]
        simp (disch := omega) only [qmu, nI_add, ra_eq (a := y + 3) (k := 4 * q + p) (by rw [hyk.2.2.2.1]; omega) (by omega), obs, v1, wa_eq (a := y + 3) (k := 4 * n + p) (by rw [hyk.2.2.2.1]; omega) (by omega), e4 (wI M (y + 3) (4 * n + p) (valO T S R q p)) rfl, ra_eq (a := y + 4) (k := 4 * q + p) (by rw [hyk.2.2.2.2]; omega) (by omega), w4]
        rw [wI2n (show y + 4 ≠ y + 3 by omega), v2, hsrc, hval]
end CLS2
