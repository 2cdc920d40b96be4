/-! ===== reading in step: declarations ===== -/
def AgD (r : Nat) (T T2 : Nat → Int32) : Prop := ∀ i, i ≠ 92 + r → i ≠ 100 + r → (i < 108 + 4 * r ∨ 111 + 4 * r < i) → T2 i = T i
theorem AgD_refl (r : Nat) (T : Nat → Int32) : AgD r T T := fun _ _ _ _ => rfl
theorem AgD_trans {r : Nat} {T T1 T2 : Nat → Int32} (h : AgD r T T1) (g : AgD r T1 T2) : AgD r T T2 := fun i a b c => by rw [g i a b c, h i a b c]
theorem AgD_T {r : Nat} {T T1 : Nat → Int32} (h : AgD r T T1) : AgT r T T1 := fun i hi => h i hi.2.2.2.2.1 hi.2.2.2.2.2.1 hi.2.2.2.2.2.2
def DcP (M : Mem) (q : Nat) (T : Nat → Int32) (r dm : Nat) : Prop := RuR M q T r ∧ T (92 + r) = nI dm ∧ dm < 16 ∧ (∃ sm, sm < 16 ∧ T (100 + r) = nI sm) ∧ (∀ p, p < 4 → ∃ v, v < 10 ∧ T (108 + 4 * r + p) = nI v) ∧ cn T r ≤ 3 ∧ ∀ p, p < 4 → bt (T (92 + r)) p = false → bt (T (100 + r)) p = false
def lv (st u : Bool) : Nat := if st then (if u then 3 else 2) else (if u then 0 else 1)
def dcC (M : Mem) (q p v : Nat) (st u : Bool) (sp : Nat) : Mem := wI (wI (wI (wI M (q + 4) p (nI v)) q 3 (M.2 q 3 ||| ((1 : Int32) <<< (nI p &&& 31)))) q 4 (M.2 q 4 ||| (if st then ((1 : Int32) <<< (nI p &&& 31)) else 0))) (q + 5) p (nI (1000 * lv st u + sp))
section READ7
variable {C D : Mem} {f : Nat → Nat} {L k s e : Nat}
theorem c_dcC {q p v sp : Nat} {st u : Bool} (hq : URf C.1 q) (hk : QK q) (hp : p < 4) (h0 : C.2 q 0 = bi u) (h2 : C.2 q 2 = nI sp) : m_X3_declare C q (nI p) (nI v) (bi st) = some (dcC C q p v st u sp) := by
  obtain ⟨⟨-, -, -, k4, k5⟩, ⟨-, -, -, l4, l5⟩⟩ := hk
  have y4 : (wI (wI C (q + 4) p (nI v)) q 3 (C.2 q 3 ||| ((1 : Int32) <<< (nI p &&& 31)))).2 q 4 = C.2 q 4 := by rw [wI2, if_pos rfl, if_neg (by decide), wI2n (by omega)]
  have y3 : (wI C (q + 4) p (nI v)).2 q 3 = C.2 q 3 := by rw [wI2n (by omega)]
  have fin : ∀ x : Int32, m_X3_declare_L43 q (nI p) (nI v) (bi st) (wI (wI C (q + 4) p (nI v)) q 3 (C.2 q 3 ||| ((1 : Int32) <<< (nI p &&& 31)))) x (C.2 q 4) q = some (wI (wI (wI (wI C (q + 4) p (nI v)) q 3 (C.2 q 3 ||| ((1 : Int32) <<< (nI p &&& 31)))) q 4 (C.2 q 4 ||| x)) (q + 5) p (nI (1000 * lv st u + sp))) := by
    intro x
    have hq3 : URf (wI (wI (wI C (q + 4) p (nI v)) q 3 (C.2 q 3 ||| ((1 : Int32) <<< (nI p &&& 31)))) q 4 (C.2 q 4 ||| x)).1 q := hq
    have z0 : (wI (wI (wI C (q + 4) p (nI v)) q 3 (C.2 q 3 ||| ((1 : Int32) <<< (nI p &&& 31)))) q 4 (C.2 q 4 ||| x)).2 q 0 = bi u := by rw [wI2, if_pos rfl, if_neg (by decide), wI2, if_pos rfl, if_neg (by decide), wI2n (by omega)]; exact h0
    have z2 : (wI (wI (wI C (q + 4) p (nI v)) q 3 (C.2 q 3 ||| ((1 : Int32) <<< (nI p &&& 31)))) q 4 (C.2 q 4 ||| x)).2 q 2 = nI sp := by rw [wI2, if_pos rfl, if_neg (by decide), wI2, if_pos rfl, if_neg (by decide), wI2n (by omega)]; exact h2
    have lvl : m_X3_level (wI (wI (wI C (q + 4) p (nI v)) q 3 (C.2 q 3 ||| ((1 : Int32) <<< (nI p &&& 31)))) q 4 (C.2 q 4 ||| x)) q (bi st) = some (nI (lv st u)) := by
      unfold m_X3_level
      rw [z0]
      cases st <;> cases u <;> rfl
    unfold m_X3_declare_L43
    rw [pIs, rf_eq hq3.2.2.2.2 k5, obs, lvl, obs, z2, show (1000 : Int32) = nI 1000 from rfl, pk_mul, nI_add, wa_eq (by rw [l5]; omega) (by omega), obs]
  unfold m_X3_declare
  simp +decide (disch := omega) only [wL4, wi1, obs, ↓reduceIte, rf_eq hq.2.2.2.1 k4, wa_eq (a := q + 4) (k := p) (by rw [l4]; omega) (by omega), pIs, y3, y4, fin]
  unfold dcC
  cases st
  · rw [if_pos (by decide)]; rfl
  · rw [if_neg (by decide)]; rfl
theorem lvl_lv (T : Nat → Int32) (r p : Nat) : lvl T r p = lv (bt (T (100 + r)) p) (bt (T 2) r) := by
  unfold lvl lv
  cases bt (T (100 + r)) p <;> cases bt (T 2) r <;> rfl
theorem spec_ag {T T2 : Nat → Int32} {r : Nat} (hc : cn T r ≤ 3) (h : AgD r T T2) (hr : r < 8) : spec T2 r = spec T r ∧ cn T2 r = cn T r := by
  have e : cn T2 r = cn T r := by
    unfold cn
    rw [h (12 + r) (by omega) (by omega) (by omega)]
  refine ⟨?_, e⟩
  unfold spec
  rw [e]
  exact spN_ext (fun i hi => ⟨h _ (by omega) (by omega) (by omega), h _ (by omega) (by omega) (by omega)⟩)
/-- a rule with one more declaration -/
theorem DcP_add {C1 : Mem} {q r dm p v : Nat} {T T2 : Nat → Int32} {st : Bool} (hq3 : 3 < q) (hr : r < 8) (hX : FC C C1) (hP : DcP C q T r dm) (hp : p < 4) (hv : v < 10) (hnew : bt (nI dm) p = false) (hA : AgD r T T2) (t1 : T2 (92 + r) = T (92 + r) ||| ((1 : Int32) <<< (nI p &&& 31))) (t2 : T2 (100 + r) = T (100 + r) ||| (if st then ((1 : Int32) <<< (nI p &&& 31)) else 0)) (t3 : T2 (108 + 4 * r + p) = nI v) (t4 : ∀ p2, p2 < 4 → p2 ≠ p → T2 (108 + 4 * r + p2) = T (108 + 4 * r + p2)) : DcP (dcC C1 q p v st (bt (T 2) r) (spec T r)) q T2 r (dm ||| 2 ^ p) := by
  obtain ⟨⟨a0, a1, a2, a3, a4, a5, a6⟩, b1, bb2, ⟨sm, b3, b4⟩, b5, b6, b7⟩ := hP
  have hc : ∀ j, j ≠ 2 → C1.2 j = C.2 j := hX.2.1
  obtain ⟨sp, ecn⟩ := spec_ag b6 hA hr
  obtain ⟨o1, o2, o3, -, -⟩ := or16 dm bb2 p hp
  obtain ⟨s1, s2, -⟩ := or16 sm b3 p hp
  have e2 : T2 2 = T 2 := hA 2 (by omega) (by omega) (by omega)
  have e12 : T2 (12 + r) = T (12 + r) := hA _ (by omega) (by omega) (by omega)
  refine ⟨⟨?_, ?_, ?_, ?_, ?_, fun c hcn => ?_, fun p2 hp2 hb => ?_⟩, by rw [t1, b1, o1], o2, ?_, fun p2 hp2 => ?_, by rw [ecn]; exact b6, fun p2 hp2 hb => ?_⟩
  · unfold dcC
    rw [wI2n (by omega), wI2, if_pos rfl, if_neg (by decide), wI2, if_pos rfl, if_neg (by decide), wI2n (by omega), hc q (by omega), a0, e2]
  · unfold dcC
    rw [wI2n (by omega), wI2, if_pos rfl, if_neg (by decide), wI2, if_pos rfl, if_neg (by decide), wI2n (by omega), hc q (by omega), a1, e12]
  · unfold dcC
    rw [wI2n (by omega), wI2, if_pos rfl, if_neg (by decide), wI2, if_pos rfl, if_neg (by decide), wI2n (by omega), hc q (by omega), a2, sp]
  · unfold dcC
    rw [wI2n (by omega), wI2, if_pos rfl, if_neg (by decide), wI2, if_pos rfl, if_pos rfl, hc q (by omega), a3, t1]
  · unfold dcC
    rw [wI2n (by omega), wI2, if_pos rfl, if_pos rfl, hc q (by omega), a4, t2]
  · rw [ecn] at hcn
    obtain ⟨c1, c2, c3⟩ := a5 c hcn
    have g1 : (dcC C1 q p v st (bt (T 2) r) (spec T r)).2 (q + 1) = C.2 (q + 1) := by unfold dcC; rw [wI2n (by omega), wI2n (by omega), wI2n (by omega), wI2n (by omega), hc _ (by omega)]
    have g2 : (dcC C1 q p v st (bt (T 2) r) (spec T r)).2 (q + 2) = C.2 (q + 2) := by unfold dcC; rw [wI2n (by omega), wI2n (by omega), wI2n (by omega), wI2n (by omega), hc _ (by omega)]
    have g3 : (dcC C1 q p v st (bt (T 2) r) (spec T r)).2 (q + 3) = C.2 (q + 3) := by unfold dcC; rw [wI2n (by omega), wI2n (by omega), wI2n (by omega), wI2n (by omega), hc _ (by omega)]
    rw [g1, g2, g3, hA (20 + (3 * r + c)) (by omega) (by omega) (by omega), hA (44 + (3 * r + c)) (by omega) (by omega) (by omega), hA (68 + 3 * r + c) (by omega) (by omega) (by omega)]
    exact ⟨c1, c2, c3⟩
  · have g4 : (dcC C1 q p v st (bt (T 2) r) (spec T r)).2 (q + 4) p2 = if p2 = p then nI v else C.2 (q + 4) p2 := by unfold dcC; rw [wI2n (by omega), wI2n (by omega), wI2n (by omega), wI2, if_pos rfl, hc _ (by omega)]
    have g5 : (dcC C1 q p v st (bt (T 2) r) (spec T r)).2 (q + 5) p2 = if p2 = p then nI (1000 * lv st (bt (T 2) r) + spec T r) else C.2 (q + 5) p2 := by unfold dcC; rw [wI2, if_pos rfl, wI2n (by omega), wI2n (by omega), wI2n (by omega), hc _ (by omega)]
    rw [g4, g5]
    by_cases hpp : p2 = p
    · subst hpp
      rw [if_pos rfl, if_pos rfl, t3]
      refine ⟨rfl, ?_⟩
      unfold wt
      rw [lvl_lv, sp, e2]
      congr 3
      rw [t2]
      -- the strong bit of p2 was not there before: a rule's strong bits lie among its declared ones
      cases st
      · simp only [Bool.false_eq_true, if_false, qor0]
        rw [b7 p2 hp (by rw [b1]; exact hnew)]
      · simp only [if_true]
        rw [bt_or1 _ (by omega) (by omega)]
        simp
    · rw [if_neg hpp, if_neg hpp, t4 p2 hp2 hpp]
      have hb2 : bt (T (92 + r)) p2 = true := by
        rw [t1, bt_or1 _ (by omega) (by omega)] at hb
        simpa [hpp] using hb
      obtain ⟨c1, c2⟩ := a6 p2 hp2 hb2
      refine ⟨c1, ?_⟩
      rw [c2]
      have : bt (T2 (100 + r)) p2 = bt (T (100 + r)) p2 := by
        rw [t2]
        cases st
        · simp only [Bool.false_eq_true, if_false, qor0]
        · simp only [if_true]
          rw [bt_or1 _ (by omega) (by omega)]
          simp [hpp]
      unfold wt
      rw [lvl_lv, lvl_lv, sp, e2, this]
  · cases st
    · exact ⟨sm, b3, by rw [t2, b4]; simp [qor0]⟩
    · exact ⟨sm ||| 2 ^ p, s2, by rw [t2, b4]; simp only [if_true]; exact s1⟩
  · by_cases hpp : p2 = p
    · subst hpp; exact ⟨v, hv, t3⟩
    · rw [t4 p2 hp2 hpp]; exact b5 p2 hp2
  · rw [t1, bt_or1 _ (by omega) (by omega)] at hb
    have h1 : bt (T (92 + r)) p2 = false := by cases h : bt (T (92 + r)) p2 with
      | false => rfl
      | true => rw [h] at hb; simp at hb
    have h2 : p2 ≠ p := fun h => by rw [h1] at hb; simp [h] at hb
    rw [t2]
    cases st
    · simp only [Bool.false_eq_true, if_false, qor0]; exact b7 p2 hp2 h1
    · simp only [if_true]
      rw [bt_or1 _ (by omega) (by omega), b7 p2 hp2 h1]
      simp [h2]
end READ7
