/-! ===== the class: winner, its references, copies, changes, trials ===== -/
section CLS5
variable {M : Mem} {N R b b2 k y : Nat} {T S : Nat → Int32}
theorem c_win_L (hs : SB b) (hρ : SRf M.1 b) (h0 : rf 5 M 0 3 = some b) (hW : WF T N R) (hS : ShR M b T N R) {p w : Nat} (hp : p < 4) (hw : w < 2 ^ 31) {L : Nat → Bool} {x1 : Int32} :
    ∀ (d e fu : Nat) (X : Nat → Bool), e + d = min w 8 → d < fu → (∀ i, i < R → (X i && bt (T (92 + i)) p) = lf T p R L e i) → m_X7_winner_L41 M 0 x1 (nI p) (nI w) fu (bs R X) (enc (wn T p R L e)) (nI e) = some (enc (wn T p R L (min w 8))) := by
  have h8 := hW.2.2.2.1
  have hmin : (if (8 : Int32) < nI w then (8 : Int32) else nI w) = nI (min w 8) := by
    simp (disch := omega) only [qlt1, qlt]
    by_cases h : 8 < w
    · rw [if_pos h, Nat.min_eq_right (by omega)]; rfl
    · rw [if_neg h, Nat.min_eq_left (by omega)]
  intro d
  induction d with
  | zero =>
    intro e fu X hi hf _
    obtain ⟨fu, rfl⟩ : ∃ f, fu = f + 1 := ⟨fu - 1, by omega⟩
    unfold m_X7_winner_L41
    simp (disch := omega) only [hmin, qle]
    rw [if_pos (by omega), show e = min w 8 by omega]
  | succ d ih =>
    intro e fu X hi hf hX
    obtain ⟨fu, rfl⟩ : ∃ f, fu = f + 1 := ⟨fu - 1, by omega⟩
    unfold m_X7_winner_L41
    simp (disch := omega) only [hmin, qle]
    rw [if_neg (by omega)]
    cases hb : wn T p R L e with
    | none =>
      rw [encN, if_pos rfl]
      have := lf_stay hb (d + 1)
      rw [hi] at this
      rw [this, encN]
    | some q =>
      have hq := best_lt hb
      rw [encS, if_neg (qm9 (show q < 2 ^ 31 by omega)), h0, obs, bs_less (by omega) hq.1, c_strongest hs hρ hW hS hp, obs, nI_1]
      have hl : lf T p R L (e + 1) = rmv (lf T p R L e) q := by
        show (match best T p R (lf T p R L e) with
          | none => lf T p R L e
          | some b => rmv (lf T p R L e) b) = _
        unfold wn at hb
        rw [hb]
      have hX2 : ∀ i, i < R → ((fun i => X i && !decide (i = q)) i && bt (T (92 + i)) p) = lf T p R L (e + 1) i := by
        intro i hi
        rw [hl]
        unfold rmv
        rw [← hX i hi]
        cases hXi : X i <;> cases bt (T (92 + i)) p <;> simp [hXi]
      have hbest : best T p R (fun r => (fun i => X i && !decide (i = q)) r && bt (T (92 + r)) p) = wn T p R L (e + 1) := best_ext hX2
      rw [hbest]
      exact ih (e + 1) fu _ (by omega) (by omega) hX2
/-- the class's references -/
def CR (ρ : Nat → Nat → Option Nat) (b b2 : Nat) : Prop :=
  ((b = 4 ∧ b2 = 59) ∨ (b = 59 ∧ b2 = 4)) ∧ (ρ 0 0 = some 1 ∧ ρ 0 2 = some 2 ∧ ρ 0 3 = some b ∧ ρ 0 4 = some 114 ∧ ρ 0 5 = some 117 ∧ ρ 0 6 = some 120 ∧ ρ 0 7 = some 125 ∧ ρ 0 8 = some 130 ∧ ρ 0 9 = some 132 ∧ ρ 0 10 = some 136 ∧ ρ 0 12 = some 137) ∧ ρ 2 5 = some b2 ∧ (SRf ρ 4 ∧ SRf ρ 59) ∧ (LRf ρ 114 ∧ LRf ρ 117 ∧ LRf ρ 138 ∧ LRf ρ 141) ∧ (YRf ρ 120 ∧ YRf ρ 125) ∧ ρ 130 0 = some 131 ∧ (ρ 132 0 = some 133 ∧ ρ 132 1 = some 134 ∧ ρ 132 2 = some 135) ∧ ρ 136 0 = some 138 ∧ ρ 136 1 = some 141
theorem cr_sb {ρ : Nat → Nat → Option Nat} (h : CR ρ b b2) : SB b := by
  rcases h.1 with h | h
  · exact Or.inl h.1
  · exact Or.inr h.1
theorem cr_sb2 {ρ : Nat → Nat → Option Nat} (h : CR ρ b b2) : SB b2 := by
  rcases h.1 with h | h
  · exact Or.inr h.2
  · exact Or.inl h.2
theorem sb_le (h : SB b) : 4 ≤ b ∧ b + 54 ≤ 113 := by rcases h with rfl | rfl <;> omega
theorem cr_sr {ρ : Nat → Nat → Option Nat} (h : CR ρ b b2) : SRf ρ b := by
  have h2 := h.2.2.2.1
  rcases h.1 with h | h
  · rw [h.1]; exact h2.1
  · rw [h.1]; exact h2.2
theorem cr_sr2 {ρ : Nat → Nat → Option Nat} (h : CR ρ b b2) : SRf ρ b2 := by
  have h2 := h.2.2.2.1
  rcases h.1 with h | h
  · rw [h.2]; exact h2.2
  · rw [h.2]; exact h2.1
theorem cr_114 {ρ : Nat → Nat → Option Nat} (h : CR ρ b b2) : LRf ρ 114 := h.2.2.2.2.1.1
theorem cr_117 {ρ : Nat → Nat → Option Nat} (h : CR ρ b b2) : LRf ρ 117 := h.2.2.2.2.1.2.1
theorem cr_138 {ρ : Nat → Nat → Option Nat} (h : CR ρ b b2) : LRf ρ 138 := h.2.2.2.2.1.2.2.1
theorem cr_141 {ρ : Nat → Nat → Option Nat} (h : CR ρ b b2) : LRf ρ 141 := h.2.2.2.2.1.2.2.2
theorem cr_120 {ρ : Nat → Nat → Option Nat} (h : CR ρ b b2) : YRf ρ 120 := h.2.2.2.2.2.1.1
theorem cr_125 {ρ : Nat → Nat → Option Nat} (h : CR ρ b b2) : YRf ρ 125 := h.2.2.2.2.2.1.2
theorem lk_114 : LK 114 := by unfold LK; decide
theorem lk_117 : LK 117 := by unfold LK; decide
theorem lk_138 : LK 138 := by unfold LK; decide
theorem lk_141 : LK 141 := by unfold LK; decide
theorem lk_sb (h : SB b) : LK (b + 3) := by rcases h with rfl | rfl <;> (unfold LK; decide)
theorem yk_120 : YK 120 := by unfold YK; decide
theorem yk_125 : YK 125 := by unfold YK; decide
theorem rc0 (h : CR M.1 b b2) : rf 11 M 0 0 = some 1 := rf_eq h.2.1.1 rfl
theorem rc2 (h : CR M.1 b b2) : rf 3 M 0 2 = some 2 := rf_eq h.2.1.2.1 rfl
theorem rc3 (h : CR M.1 b b2) : rf 5 M 0 3 = some b := rf_eq h.2.1.2.2.1 (kS (cr_sb h)).1.1
theorem rc4 (h : CR M.1 b b2) : rf 2 M 0 4 = some 114 := rf_eq h.2.1.2.2.2.1 rfl
theorem rc5 (h : CR M.1 b b2) : rf 2 M 0 5 = some 117 := rf_eq h.2.1.2.2.2.2.1 rfl
theorem rc6 (h : CR M.1 b b2) : rf 7 M 0 6 = some 120 := rf_eq h.2.1.2.2.2.2.2.1 rfl
theorem rc7 (h : CR M.1 b b2) : rf 7 M 0 7 = some 125 := rf_eq h.2.1.2.2.2.2.2.2.1 rfl
theorem rc8 (h : CR M.1 b b2) : rf 1 M 0 8 = some 130 := rf_eq h.2.1.2.2.2.2.2.2.2.1 rfl
theorem rc9 (h : CR M.1 b b2) : rf 6 M 0 9 = some 132 := rf_eq h.2.1.2.2.2.2.2.2.2.2.1 rfl
theorem rc10 (h : CR M.1 b b2) : rf 13 M 0 10 = some 136 := rf_eq h.2.1.2.2.2.2.2.2.2.2.2.1 rfl
theorem rc12 (h : CR M.1 b b2) : rf 10 M 0 12 = some 137 := rf_eq h.2.1.2.2.2.2.2.2.2.2.2.2 rfl
theorem rc25 (h : CR M.1 b b2) : rf 5 M 2 5 = some b2 := rf_eq h.2.2.1 (kS (cr_sb2 h)).1.1
theorem rc130 (h : CR M.1 b b2) : rf 10 M 130 0 = some 131 := rf_eq h.2.2.2.2.2.2.1 rfl
theorem rc132a (h : CR M.1 b b2) : rf 10 M 132 0 = some 133 := rf_eq h.2.2.2.2.2.2.2.1.1 rfl
theorem rc132b (h : CR M.1 b b2) : rf 10 M 132 1 = some 134 := rf_eq h.2.2.2.2.2.2.2.1.2.1 rfl
theorem rc132c (h : CR M.1 b b2) : rf 10 M 132 2 = some 135 := rf_eq h.2.2.2.2.2.2.2.1.2.2 rfl
theorem rc136a (h : CR M.1 b b2) : rr 2 M 136 (nI 0) = some 138 := rr_eq (by decide) (by omega) h.2.2.2.2.2.2.2.2.1 rfl
theorem rc136b (h : CR M.1 b b2) : rr 2 M 136 (nI 1) = some 141 := rr_eq (by decide) (by omega) h.2.2.2.2.2.2.2.2.2 rfl
/-- nine ints are copied -/
theorem cp9 {a c : Nat} (ha : ln a = 9) (hc : ln c = 9) : cpM M a 0 c 0 9 = some (M.1, fun j => if j = c then va_cpy (M.2 a) (M.2 c) 0 0 9 else M.2 j) := by
  unfold cpM
  have e0 : (0 : Int32).toNatClampNeg = 0 := by decide
  have e9 : (9 : Int32).toNatClampNeg = 9 := by decide
  rw [e0, e9, ha, hc, if_pos ⟨by decide, by decide, by decide, by omega, by omega⟩]
theorem rfM {T a j : Nat} {f : Nat → Nat → Int32} : rf T (M.1, f) a j = rf T M a j := rfl
theorem c_copy {k1 k2 : Nat} (h1 : LRf M.1 k1) (h2 : LRf M.1 k2) (l1 : LK k1) (l2 : LK k2) (hd : k1 + 2 < k2 ∨ k2 + 2 < k1) (hL : LkR M k2 S N) (hN : N ≤ 9) : ∃ M9, m_X1_copyFrom M k1 k2 = some M9 ∧ M9.1 = M.1 ∧ (∀ j, (j < k1 ∨ k1 + 2 < j) → M9.2 j = M.2 j) ∧ LkR M9 k1 S N := by
  unfold m_X1_copyFrom
  rw [rf_eq h2.1 l2.1, obs, rf_eq h1.1 l1.1, obs, cp9 l2.2.2.1 l1.2.2.1, obs, rfM, rf_eq h2.2 l2.2.1, obs, rfM, rf_eq h1.2 l1.2.1, obs, cp9 l2.2.2.2 l1.2.2.2, obs]
  refine ⟨_, rfl, rfl, fun j hj => ?_, fun n hn => ?_, ?_⟩
  · rw [wI2n (by omega)]
    simp only
    rw [if_neg (by omega), if_neg (by omega)]
  · rw [wI2n (by omega), wI2n (by omega)]
    simp only
    have q := hL.1 n hn
    rw [if_neg (show k1 + 1 ≠ k1 + 2 by omega), if_pos trivial, if_pos trivial, if_neg (show k2 + 2 ≠ k1 + 1 by omega), if_neg (show k1 + 2 ≠ k1 + 1 by omega)]
    unfold va_cpy
    rw [if_pos ⟨by omega, by omega⟩, if_pos ⟨by omega, by omega⟩]
    simpa using q
  · rw [wI2, if_pos rfl, if_pos rfl]
    simp only
    rw [if_neg (show k2 ≠ k1 + 2 by omega), if_neg (show k2 ≠ k1 + 1 by omega)]
    exact hL.2
/-- a look after a change -/
def ap (x : Nat) (S : Nat → Int32) : Nat → Int32 := fun i => if x < 100 then (if i = 9 + x / 4 then S i ^^^ ((1 : Int32) <<< (nI (x % 4) &&& 31)) else S i) else if x < 200 then (if i = 18 then S i ^^^ ((1 : Int32) <<< (nI (x - 100) &&& 31)) else S i) else (if i = (x - 200) / 4 then nI ((x - 200) % 4) else S i)
def CV (x N R : Nat) : Prop := x < 4 * N ∨ (100 ≤ x ∧ x < 100 + R) ∨ (200 ≤ x ∧ x < 200 + 4 * N)
theorem ap_c {x i : Nat} (h : x < 100) : ap x S i = if i = 9 + x / 4 then S i ^^^ ((1 : Int32) <<< (nI (x % 4) &&& 31)) else S i := by
  unfold ap
  rw [if_pos h]
theorem ap_s {x i : Nat} (h : 100 ≤ x) (h2 : x < 200) : ap x S i = if i = 18 then S i ^^^ ((1 : Int32) <<< (nI (x - 100) &&& 31)) else S i := by
  unfold ap
  rw [if_neg (by omega), if_pos h2]
theorem ap_t {x i : Nat} (h : 200 ≤ x) : ap x S i = if i = (x - 200) / 4 then nI ((x - 200) % 4) else S i := by
  unfold ap
  rw [if_neg (by omega), if_neg (by omega)]
theorem d4 : ∀ x, x < 40 → nI x / 4 = nI (x / 4) := by decide +kernel
theorem r4 : ∀ x, x < 40 → nI x - nI x / 4 * 4 = nI (x % 4) := by decide +kernel
theorem nz4 : nz 4 = some () := by decide
theorem c_apply (h1 : LRf M.1 k) (l1 : LK k) (hL : LkR M k S N) (hN : N ≤ 9) (hR : R ≤ 8) {x : Nat} (hx : CV x N R) : ∃ M9, m_X1_apply M k (nI x) = some M9 ∧ M9.1 = M.1 ∧ (∀ j, (j < k ∨ k + 2 < j) → M9.2 j = M.2 j) ∧ LkR M9 k (ap x S) N := by
  have hx2 : x < 236 := by rcases hx with h | h | h <;> omega
  unfold m_X1_apply
  simp (disch := omega) only [qlt2, qlt]
  rcases hx with h | h | h
  · rw [if_pos (by omega), if_pos (by omega), nz4, obs, obs, d4 x (by omega)]
    have hr := r4 x (by omega)
    rw [d4 x (by omega)] at hr
    rw [hr]
    unfold m_X1_flipClass
    simp (disch := omega) only [show (9 : Int32) = nI 9 from rfl, wi1, obs, rf_eq h1.2 l1.2.1, ra_eq (a := k + 2) (k := x / 4) (by rw [l1.2.2.2]; omega) (by omega), wa_eq (a := k + 2) (k := x / 4) (by rw [l1.2.2.2]; omega) (by omega)]
    rw [if_neg (by decide)]
    refine ⟨_, rfl, rfl, fun j hj => wI2n (by omega), fun n hn => ?_, ?_⟩
    · obtain ⟨e1, e2⟩ := hL.1 n hn
      rw [wI2n (by omega), wI2, if_pos rfl]
      rw [ap_c (i := n) (by omega), ap_c (i := 9 + n) (by omega), if_neg (show ¬ n = 9 + x / 4 by omega), (hL.1 (x / 4) (by omega)).2, e1, e2]
      refine ⟨rfl, ?_⟩
      by_cases hq : n = x / 4
      · rw [if_pos hq, if_pos (by omega), hq]
      · rw [if_neg hq, if_neg (by omega)]
    · rw [wI2n (by omega), ap_c (by omega), if_neg (by omega)]
      exact hL.2
  · rw [if_pos (by omega), if_neg (by omega), pIs]
    refine ⟨_, rfl, rfl, fun j hj => wI2n (by omega), fun n hn => ?_, ?_⟩
    · obtain ⟨e1, e2⟩ := hL.1 n hn
      rw [wI2n (by omega), wI2n (by omega)]
      rw [ap_s (i := n) (by omega) (by omega), ap_s (i := 9 + n) (by omega) (by omega), if_neg (show ¬ n = 18 by omega), if_neg (show ¬ 9 + n = 18 by omega)]
      exact ⟨e1, e2⟩
    · rw [wI2, if_pos rfl, if_pos rfl]
      rw [ap_s (by omega) (by omega), if_pos rfl, hL.2, show (100 : Int32) = nI 100 from rfl, qsub h.1]
  · rw [if_neg (by omega), nz4, obs, obs, show (200 : Int32) = nI 200 from rfl, qsub h.1, d4 (x - 200) (by omega)]
    have hr := r4 (x - 200) (by omega)
    rw [d4 (x - 200) (by omega)] at hr
    rw [hr]
    unfold m_X1_putTag
    simp (disch := omega) only [show (9 : Int32) = nI 9 from rfl, wi1, obs, rf_eq h1.1 l1.1, wa_eq (a := k + 1) (k := (x - 200) / 4) (by rw [l1.2.2.1]; omega) (by omega)]
    rw [if_neg (by decide)]
    refine ⟨_, rfl, rfl, fun j hj => wI2n (by omega), fun n hn => ?_, ?_⟩
    · obtain ⟨e1, e2⟩ := hL.1 n hn
      rw [wI2n (show k + 2 ≠ k + 1 by omega), wI2, if_pos rfl]
      rw [ap_t (i := n) (by omega), ap_t (i := 9 + n) (by omega), if_neg (show ¬ 9 + n = (x - 200) / 4 by omega), e1, e2]
      refine ⟨?_, rfl⟩
      by_cases hq : n = (x - 200) / 4
      · rw [if_pos hq]
      · rw [if_neg hq]
    · rw [wI2n (by omega), ap_t (by omega), if_neg (by omega)]
      exact hL.2
/-- what stays when a change is tried out -/
def Tx (M M2 : Mem) : Prop := M2.1 = M.1 ∧ ∀ j, j ≠ 117 → j ≠ 118 → j ≠ 119 → (j < 125 ∨ 129 < j) → M2.2 j = M.2 j
theorem c_tryOut (hC : CR M.1 b b2) (hW : WF T N R) (hS : ShR M b T N R) (hL : LkR M 114 S N) {x : Nat} (hx : CV x N R) : ∃ M9, m_X7_tryOut M 0 (nI x) = some M9 ∧ Tx M M9 ∧ StR M9 125 T (ap x S) N R := by
  have h9 := hW.2.1
  have h8 := hW.2.2.2.1
  have hb := sb_le (cr_sb hC)
  unfold m_X7_tryOut
  rw [rc5 hC, obs, rc4 hC, obs]
  obtain ⟨M1, e1, e2, e3, e4⟩ := c_copy (cr_117 hC) (cr_114 hC) lk_117 lk_114 (by omega) hL h9
  rw [e1, obs]
  have hC1 : CR M1.1 b b2 := by rw [e2]; exact hC
  rw [rc5 hC1, obs]
  obtain ⟨M2, f1, f2, f3, f4⟩ := c_apply (cr_117 hC1) lk_117 e4 h9 h8 hx
  rw [f1, obs]
  have hC2 : CR M2.1 b b2 := by rw [f2]; exact hC1
  rw [rc7 hC2, obs, rc3 hC2, obs, rc5 hC2, obs]
  have hS2 : ShR M2 b T N R := ShR_fr h8 (fun i h1 h2 => by rw [f3 i (by omega), e3 i (by omega)]) hS
  obtain ⟨M3, g1, g2, g3⟩ := c_resolve (cr_sb hC2) (cr_sr hC2) (cr_117 hC2) lk_117 (cr_125 hC2) yk_125 hW hS2 f4 (by omega) (by omega)
  rw [g1, obs]
  refine ⟨M3, rfl, ⟨by rw [g2.1, f2, e2], fun j h1 h2 h3 h4 => ?_⟩, g3⟩
  rw [g2.2 j (by omega), f3 j (by omega), e3 j (by omega)]
theorem c_refresh (hC : CR M.1 b b2) (hW : WF T N R) (hS : ShR M b T N R) (hL : LkR M 114 S N) : ∃ M9, m_X7_refresh M 0 = some M9 ∧ Fy M M9 120 ∧ StR M9 120 T S N R := by
  have hb := sb_le (cr_sb hC)
  unfold m_X7_refresh
  rw [rc6 hC, obs, rc3 hC, obs, rc4 hC, obs]
  obtain ⟨M3, g1, g2, g3⟩ := c_resolve (cr_sb hC) (cr_sr hC) (cr_114 hC) lk_114 (cr_120 hC) yk_120 hW hS hL (by omega) (by omega)
  rw [g1, obs]
  exact ⟨M3, rfl, g2, g3⟩
end CLS5
