/-! ===== reading in step: the draft ===== -/
def FreshR (T : Nat → Int32) (R : Nat) : Prop := ∀ r, R ≤ r → r < 8 → FrT T r 0 ∧ T (92 + r) = 0 ∧ T (100 + r) = 0 ∧ (∀ p, p < 4 → T (108 + 4 * r + p) = 0) ∧ bt (T 2) r = false
def DR (C D : Mem) (b2 N R : Nat) : Prop :=
  SRf C.1 b2 ∧ WF (D.2 147) N R ∧ ShR C b2 (D.2 147) N R ∧ (∀ n, n < N → C.2 (b2 + 4) n = D.2 148 n ∧ C.2 (b2 + 5) n = D.2 148 (9 + n)) ∧ C.2 (b2 + 3) 2 = bs R (fun _ => true) ∧ TV (D.2 148) N ∧ FreshR (D.2 147) R ∧ ∀ n, N ≤ n → n < 9 → D.2 148 (9 + n) = 0
theorem anF_ext {T T2 : Nat → Int32} {N R : Nat} (hW : WF T N R) (h : ∀ n, n < N → T2 (3 + n) = T (3 + n)) : ∀ d n, n < N → anF T2 d n = anF T d n := by
  intro d
  induction d with
  | zero => intro n _; rfl
  | succ d ih =>
    intro n hn
    have e : pa T2 n = pa T n := by unfold pa; rw [h n hn]
    have hp := (pa_ok hW hn).2
    unfold anF
    rw [e]
    cases hq : pa T n with
    | none => rfl
    | some q =>
      have := hp q hq
      simp only
      rw [ih q (by omega)]
theorem blB_ext {T T2 : Nat → Int32} {N R : Nat} (hW : WF T N R) (h : ∀ n, n < N → T2 (3 + n) = T (3 + n)) {a n : Nat} (hn : n < N) : blB T2 a n = blB T a n := by
  unfold blB AN
  rw [anF_ext hW h 10 n hn]
theorem RuR_ext {M M2 : Mem} {q r : Nat} {T T2 : Nat → Int32} {N R : Nat} (hW : WF T N R) (hr : r < R) (hM : ∀ j, q ≤ j → j ≤ q + 5 → M2.2 j = M.2 j) (hT : ∀ i, (i = 12 + r ∨ (20 + 3 * r ≤ i ∧ i ≤ 22 + 3 * r) ∨ (44 + 3 * r ≤ i ∧ i ≤ 46 + 3 * r) ∨ (68 + 3 * r ≤ i ∧ i ≤ 70 + 3 * r) ∨ i = 92 + r ∨ i = 100 + r ∨ (108 + 4 * r ≤ i ∧ i ≤ 111 + 4 * r)) → T2 i = T i) (hu : bt (T2 2) r = bt (T 2) r) (h : RuR M q T r) : RuR M2 q T2 r := by
  obtain ⟨k1, k2, k3⟩ := cn_ok hW hr
  have ec : cn T2 r = cn T r := by unfold cn; rw [hT (12 + r) (by omega)]
  have es : spec T2 r = spec T r := by
    unfold spec
    rw [ec]
    exact spN_ext (fun i hi => ⟨hT _ (by omega), hT _ (by omega)⟩)
  obtain ⟨a0, a1, a2, a3, a4, a5, a6⟩ := h
  unfold RuR
  rw [hM q (by omega) (by omega), hM (q + 1) (by omega) (by omega), hM (q + 2) (by omega) (by omega), hM (q + 3) (by omega) (by omega), hM (q + 4) (by omega) (by omega), hM (q + 5) (by omega) (by omega), hu, es, ec, hT (12 + r) (by omega), hT (92 + r) (by omega), hT (100 + r) (by omega)]
  refine ⟨a0, a1, a2, a3, a4, fun c hc => ?_, fun p hp hb => ?_⟩
  · rw [hT (20 + (3 * r + c)) (by omega), hT (44 + (3 * r + c)) (by omega), hT (68 + 3 * r + c) (by omega)]
    exact a5 c hc
  · have ew : wt T2 r p = wt T r p := by
      unfold wt
      rw [lvl_lv, lvl_lv, es, hu, hT (100 + r) (by omega)]
    rw [hT (108 + 4 * r + p) (by omega), ew]
    exact a6 p hp hb
/-- the model's rule, with its end -/
def mRu (M : Mem) : Option Mem := (m_X8_readsRule M 144).bind fun M14 => (m_X8_isThis M14 144 (59 : Int32)).bind fun r15 => b2 (m_X8_takes M14 144 r15) fun _ M16 => some M16
section READ10
variable {C D : Mem} {f : Nat → Nat} {L k s e b2 N R : Nat}
/-- the draft with one more rule -/
theorem DR_rule {C' D' : Mem} {dm c' : Nat} (hsb : SB b2) (hR : R < 8) (h : DR C D b2 N R) (e0 : C'.1 = C.1) (e1 : ∀ j, b2 < j → j ≤ b2 + 54 → j ≠ b2 + 3 → (j < b2 + 7 + 6 * R ∨ b2 + 7 + 6 * R + 5 < j) → C'.2 j = C.2 j) (e2 : C'.2 b2 0 = C.2 b2 0) (e3 : C'.2 b2 1 = nI (R + 1)) (e4 : C'.2 (b2 + 3) 2 = C.2 (b2 + 3) 2 ||| ((1 : Int32) <<< (nI R &&& 31))) (hP : DcP C' (b2 + 7 + 6 * R) (D'.2 147) R dm) (t1 : D'.2 147 1 = nI (R + 1)) (t2 : ∀ i, NR R i → i ≠ 1 → i ≠ 2 → D'.2 147 i = D.2 147 i) (t3 : ∀ r, r < 8 → r ≠ R → bt (D'.2 147 2) r = bt (D.2 147 2) r) (t4 : D'.2 147 (12 + R) = nI c') (t5 : 1 ≤ c' ∧ c' ≤ 3) (t6 : ∀ c, c < 3 → ∃ w, w < 16 ∧ D'.2 147 (44 + 3 * R + c) = nI w) (t7 : D'.2 148 = D.2 148) : DR C' D' b2 N (R + 1) := by
  obtain ⟨a1, hW, hS, a2, a3, a4, a5, a6⟩ := h
  have hW0 := hW
  have hb := sb_le hsb
  obtain ⟨w1, w2, w3, w4, w5, w6, w7, w8, w9⟩ := hW
  have nodes : ∀ n, n < N → D'.2 147 (3 + n) = D.2 147 (3 + n) := fun n hn => t2 _ (by unfold NR; omega) (by omega) (by omega)
  refine ⟨by rw [e0]; exact a1, ?_, ?_, fun n hn => ?_, ?_, by rw [t7]; exact a4, ?_, by rw [t7]; exact a6⟩
  · refine ⟨by rw [t2 0 (by unfold NR; omega) (by omega) (by omega)]; exact w1, w2, t1, by omega, fun h0 => by rw [show (3 : Nat) = 3 + 0 from rfl, nodes 0 h0]; exact w5 h0, fun n h0 hn => by rw [nodes n hn]; exact w6 n h0 hn, fun r hr => ?_, fun r c hr hc => ?_, fun r p hr hp => ?_⟩
    · by_cases hrR : r = R
      · subst hrR; exact ⟨c', t5.1, t5.2, t4⟩
      · rw [t2 _ (by unfold NR; omega) (by omega) (by omega)]; exact w7 r (by omega)
    · by_cases hrR : r = R
      · subst hrR; exact t6 c hc
      · rw [t2 _ (by unfold NR; omega) (by omega) (by omega)]; exact w8 r c (by omega) hc
    · by_cases hrR : r = R
      · subst hrR; exact hP.2.2.2.2.1 p hp
      · rw [t2 _ (by unfold NR; omega) (by omega) (by omega)]; exact w9 r p (by omega) hp
  · refine ⟨by rw [e2]; exact hS.1, e3, fun n hn => ?_, fun r hr => ?_⟩
    · obtain ⟨s1, s2⟩ := hS.2.2.1 n hn
      rw [e1 (b2 + 1) (by omega) (by omega) (by omega) (by omega), e1 (b2 + 2) (by omega) (by omega) (by omega) (by omega), nodes n hn, s1, s2]
      exact ⟨rfl, bs_ext (fun a ha => (blB_ext hW0 nodes hn).symm)⟩
    · by_cases hrR : r = R
      · subst hrR; exact hP.1
      · exact RuR_ext hW0 (by omega) (fun j j1 j2 => e1 j (by omega) (by omega) (by omega) (by omega)) (fun i hi => t2 i (by unfold NR; omega) (by omega) (by omega)) (t3 r (by omega) hrR) (hS.2.2.2 r (by omega))
  · rw [e1 (b2 + 4) (by omega) (by omega) (by omega) (by omega), e1 (b2 + 5) (by omega) (by omega) (by omega) (by omega), t7]
    exact a2 n hn
  · rw [e4, a3]
    exact bs_t (p := fun _ => true) rfl
  · intro r hr1 hr2
    obtain ⟨f1, f2, f3, f4, f5⟩ := a5 r (by omega) hr2
    refine ⟨fun i hi hi2 => ?_, ?_, ?_, fun p hp => ?_, ?_⟩
    · rw [t2 _ (by unfold NR; omega) (by omega) (by omega), t2 _ (by unfold NR; omega) (by omega) (by omega)]
      exact f1 i hi hi2
    · rw [t2 _ (by unfold NR; omega) (by omega) (by omega)]; exact f2
    · rw [t2 _ (by unfold NR; omega) (by omega) (by omega)]; exact f3
    · rw [t2 _ (by unfold NR; omega) (by omega) (by omega)]; exact f4 p hp
    · rw [t3 r hr2 (by omega)]; exact f5
theorem mRu_bad {D1 : Mem} (h : m_X8_readsRule D 144 = some D1) (hB : Bad D1 s) : mRu D = some D1 := by
  unfold mRu
  rw [h, obs, m_this0 hB, obs, m_takeB hB]
  rfl
theorem SelP_RuR {q r c : Nat} {T T2 : Nat → Int32} {C1 : Mem} (hq : 3 < q) (hS : SelP C q T r c) (hX : FC C C1) (hr : r < 8) (hc : c ≤ 3) (h1 : T2 (12 + r) = nI c) (hT : ∀ i, i ≠ 12 + r → T2 i = T i) (h92 : T (92 + r) = 0) (h100 : T (100 + r) = 0) (h108 : ∀ p, p < 4 → T (108 + 4 * r + p) = 0) : DcP C1 q T2 r 0 := by
  obtain ⟨a0, a1, a2, a3, a4, a5, a6⟩ := hS
  have hcn : cn T2 r = c := by unfold cn; rw [h1, qclamp (by omega)]
  have hsp : spec T2 r = spN T r c := by
    unfold spec
    rw [hcn]
    exact spN_ext (fun i hi => ⟨hT _ (by omega), hT _ (by omega)⟩)
  have x : ∀ j, j ≠ 2 → C1.2 j = C.2 j := hX.2.1
  have z92 : T2 (92 + r) = 0 := by rw [hT _ (by omega)]; exact h92
  have z100 : T2 (100 + r) = 0 := by rw [hT _ (by omega)]; exact h100
  refine ⟨⟨?_, ?_, ?_, ?_, ?_, fun i hi => ?_, fun p hp hb => ?_⟩, by rw [z92]; rfl, by omega, ⟨0, by omega, by rw [z100]; rfl⟩, fun p hp => ⟨0, by omega, by rw [hT _ (by omega), h108 p hp]; rfl⟩, by omega, fun p hp hb => by rw [z100]; exact b_0 p⟩
  · rw [x q (by omega), a0, hT 2 (by omega)]
  · rw [x q (by omega), a1, h1]
  · rw [x q (by omega), a2, hsp]
  · rw [x q (by omega), a3, z92]
  · rw [x q (by omega), a4, z100]
  · rw [hcn] at hi
    rw [x (q + 1) (by omega), x (q + 2) (by omega), x (q + 3) (by omega), hT (20 + (3 * r + i)) (by omega), hT (44 + (3 * r + i)) (by omega), hT (68 + 3 * r + i) (by omega)]
    exact a5 i hi
  · rw [z92, b_0] at hb; cases hb
end READ10
