/-! ===== reading in step: a whole node ===== -/
def anC (M : Mem) (bb N : Nat) (x1 ab tg : Int32) (w : Nat) : Mem := wI (wI (wI (wI (wI M (bb + 1) N x1) (bb + 2) N ab) (bb + 4) N tg) (bb + 5) N (nI w)) bb 0 (nI (N + 1))
def abO (M : Mem) (bb : Nat) (p : Option Nat) : Int32 := match p with
  | none => 0
  | some q => M.2 (bb + 2) q ||| ((1 : Int32) <<< (nI q &&& 31))
def blP (T : Nat → Int32) (a : Nat) (p : Option Nat) : Bool := match p with
  | none => false
  | some q => decide (q = a) || blB T a q
theorem rfW {T a j x y : Nat} {M : Mem} {v : Int32} : rf T (wI M a j v) x y = rf T M x y := rfl
def mNo (M : Mem) : Option Mem := (m_X8_readsNode M 144).bind mEnd
section READ15
variable {C D : Mem} {f : Nat → Nat} {L k s e N R bb : Nat}
theorem c_addNode {p : Option Nat} {tg : Int32} {w : Nat} (hs : SB bb) (hρ : SRf C.1 bb) (hN : N < 9) (h0 : C.2 bb 0 = nI N) (hp : ∀ q, p = some q → q < N) : m_X4_addNode C bb (enc p) tg (nI w) = some (anC C bb N (enc p) (abO C bb p) tg w) := by
  obtain ⟨k1, l1⟩ := kS hs
  have rl0 : C.1 (bb + 3) 0 = some (bb + 4) := hρ.2.2.2.2.1.1
  have rl1 : C.1 (bb + 3) 1 = some (bb + 5) := hρ.2.2.2.2.1.2
  have fin : ∀ ab : Int32, m_X4_addNode_L55 bb (enc p) tg (nI w) (wI C (bb + 1) N (enc p)) ab (nI N) (bb + 2) = some (anC C bb N (enc p) ab tg w) := by
    intro ab
    have y1 : (wI (wI C (bb + 1) N (enc p)) (bb + 2) N ab).2 bb 0 = nI N := by rw [wI2n (by omega), wI2n (by omega)]; exact h0
    have y2 : (wI (wI (wI C (bb + 1) N (enc p)) (bb + 2) N ab) (bb + 4) N tg).2 bb 0 = nI N := by rw [wI2n (by omega)]; exact y1
    have y3 : (wI (wI (wI (wI C (bb + 1) N (enc p)) (bb + 2) N ab) (bb + 4) N tg) (bb + 5) N (nI w)).2 bb 0 = nI N := by rw [wI2n (by omega)]; exact y2
    have e1 : rf 2 C bb 4 = some (bb + 3) := rf_eq hρ.2.2.1 k1.2.2.2.1
    have e2 : rf 10 C (bb + 3) 0 = some (bb + 4) := rf_eq rl0 k1.2.2.2.2.1
    have e3 : rf 10 C (bb + 3) 1 = some (bb + 5) := rf_eq rl1 k1.2.2.2.2.2.1
    unfold m_X4_addNode_L55
    simp (disch := omega) only [rfW, e1, e2, e3, obs, wa_eq (a := bb + 2) (k := N) (by rw [l1.2.1]; omega) (by omega), wa_eq (a := bb + 4) (k := N) (by rw [l1.2.2.1]; omega) (by omega), wa_eq (a := bb + 5) (k := N) (by rw [l1.2.2.2.1]; omega) (by omega), y1, y2, pIs, y3, nI_1]
    rfl
  have hρ1 : SRf (wI C (bb + 1) N (enc p)).1 bb := hρ
  have y0 : (wI C (bb + 1) N (enc p)).2 bb 0 = nI N := by rw [wI2n (by omega)]; exact h0
  unfold m_X4_addNode
  rw [h0, show (9 : Int32) = nI 9 from rfl, wi1 hN (by omega), obs, if_neg (by decide), rf_eq hρ.1 k1.2.1, obs, wa_eq (by rw [l1.1]; omega) (by omega), obs, rf_eq hρ1.2.1 k1.2.2.1, obs, y0]
  cases hpo : p with
  | none =>
    rw [hpo] at fin
    rw [encN, wi0m, obs, if_pos rfl, ← encN, fin]
    rfl
  | some q =>
    have hq := hp q hpo
    rw [hpo] at fin
    rw [encS, wi1 hq (by omega), obs, if_neg (by decide), obs, ra_eq (by rw [l1.2.1]; omega) (by omega), obs, wI2n (by omega), ← encS, fin]
    rfl
theorem DR_FC {C1 D1 : Mem} (hs : SB bb) (h1 : FC C C1) (h2 : FD D D1) (h : DR C D bb N R) : DR C1 D1 bb N R := by
  have hb := sb_le hs
  obtain ⟨a1, a2, a3, a4, a5, a6, a7, a8⟩ := h
  have t := h2.2.1 147 (by decide)
  have u := h2.2.1 148 (by decide)
  unfold DR
  rw [h1.1, t, u, h1.2.1 (bb + 3) (by omega), h1.2.1 (bb + 4) (by omega), h1.2.1 (bb + 5) (by omega)]
  exact ⟨a1, a2, ShR_fr a2.2.2.2.1 (fun i i1 i2 => h1.2.1 i (by omega)) a3, a4, a5, a6, a7, a8⟩
/-- the draft with one more node -/
theorem DR_node {C' D' : Mem} {p : Option Nat} {w t : Nat} (hs : SB bb) (hN : N < 9) (h : DR C D bb N R) (hp : ∀ q, p = some q → q < N) (hp0 : N = 0 → p = none) (hp1 : 0 < N → ∃ q, p = some q) (ht : t < 4) (hC' : ∀ j, 3 < j → C'.2 j = (anC C bb N (enc p) (abO C bb p) (nI t) w).2 j) (e0 : C'.1 = C.1) (hT : ∀ i, D'.2 147 i = if i = 0 then nI (N + 1) else if i = 3 + N then enc p else D.2 147 i) (hU : ∀ i, D'.2 148 i = if i = 9 + N then nI w else if i = N then nI t else D.2 148 i) : DR C' D' bb (N + 1) R := by
  have hb := sb_le hs
  obtain ⟨a1, hW, hS, a2, a3, a4, a5, a6⟩ := h
  have hW0 := hW
  obtain ⟨w1, w2, w3, w4, w5, w6, w7, w8, w9⟩ := hW
  have hT' : ∀ i, i ≠ 0 → i ≠ 3 + N → D'.2 147 i = D.2 147 i := fun i i1 i2 => by rw [hT, if_neg i1, if_neg i2]
  have nodes : ∀ n, n < N → D'.2 147 (3 + n) = D.2 147 (3 + n) := fun n hn => hT' _ (by omega) (by omega)
  have hpar : D'.2 147 (3 + N) = enc p := by rw [hT, if_neg (by omega), if_pos rfl]
  have hW' : WF (D'.2 147) (N + 1) R := by
    refine ⟨by rw [hT, if_pos rfl], by omega, by rw [hT' 1 (by omega) (by omega)]; exact w3, w4, fun _ => ?_, fun n h0 hn => ?_, fun r hr => ?_, fun r c hr hc => ?_, fun r q hr hq => ?_⟩
    · by_cases hN0 : N = 0
      · subst hN0
        have := hpar
        rw [hp0 rfl, encN] at this
        exact this
      · rw [show (3 : Nat) = 3 + 0 from rfl, nodes 0 (by omega)]; exact w5 (by omega)
    · by_cases hnN : n = N
      · subst hnN
        obtain ⟨q, hq⟩ := hp1 h0
        exact ⟨q, hp q hq, by rw [hpar, hq, encS]⟩
      · rw [nodes n (by omega)]; exact w6 n h0 (by omega)
    · rw [hT' _ (by omega) (by omega)]; exact w7 r hr
    · rw [hT' _ (by omega) (by omega)]; exact w8 r c hr hc
    · rw [hT' _ (by omega) (by omega)]; exact w9 r q hr hq
  have hpaN : pa (D'.2 147) N = p := by
    unfold pa
    rw [hpar]
    cases hpo : p with
    | none => rw [encN, if_pos rfl]
    | some q =>
      have := hp q hpo
      rw [encS, if_neg (qm9 (by omega)), qclamp (by omega)]
  have c1 : ∀ n, C'.2 (bb + 1) n = if n = N then enc p else C.2 (bb + 1) n := fun n => by
    rw [hC' _ (by omega)]
    unfold anC
    rw [wI2n (by omega), wI2n (by omega), wI2n (by omega), wI2n (by omega), wI2, if_pos rfl]
  have c2 : ∀ n, C'.2 (bb + 2) n = if n = N then abO C bb p else C.2 (bb + 2) n := fun n => by
    rw [hC' _ (by omega)]
    unfold anC
    rw [wI2n (by omega), wI2n (by omega), wI2n (by omega), wI2, if_pos rfl, wI2n (by omega)]
  have c4 : ∀ n, C'.2 (bb + 4) n = if n = N then nI t else C.2 (bb + 4) n := fun n => by
    rw [hC' _ (by omega)]
    unfold anC
    rw [wI2n (by omega), wI2n (by omega), wI2, if_pos rfl, wI2n (by omega), wI2n (by omega)]
  have c5 : ∀ n, C'.2 (bb + 5) n = if n = N then nI w else C.2 (bb + 5) n := fun n => by
    rw [hC' _ (by omega)]
    unfold anC
    rw [wI2n (by omega), wI2, if_pos rfl, wI2n (by omega), wI2n (by omega), wI2n (by omega)]
  have cX : ∀ j, 3 < j → j ≠ bb → j ≠ bb + 1 → j ≠ bb + 2 → j ≠ bb + 4 → j ≠ bb + 5 → C'.2 j = C.2 j := fun j j0 j1 j2 j3 j4 j5 => by
    rw [hC' _ j0]
    unfold anC
    rw [wI2n j1, wI2n j5, wI2n j4, wI2n j3, wI2n j2]
  refine ⟨by rw [e0]; exact a1, hW', ⟨?_, ?_, fun n hn => ?_, fun r hr => ?_⟩, fun n hn => ?_, ?_, fun n hn => ?_, fun r hr1 hr2 => ?_, fun n hn1 hn2 => ?_⟩
  · rw [hC' _ (by omega)]
    unfold anC
    rw [wI2, if_pos rfl, if_pos rfl]
  · rw [hC' _ (by omega)]
    unfold anC
    rw [wI2, if_pos rfl, if_neg (by decide), wI2n (by omega), wI2n (by omega), wI2n (by omega), wI2n (by omega)]
    exact hS.2.1
  · rw [c1, c2]
    by_cases hnN : n = N
    · subst hnN
      rw [if_pos rfl, if_pos rfl]
      refine ⟨hpar.symm, ?_⟩
      have hbl : ∀ a, blB (D'.2 147) a n = blP (D.2 147) a p := by
        intro a
        unfold blB
        rw [AN_eq hW' (by omega), hpaN]
        cases p with
        | none => rfl
        | some q =>
          have hq := hp q rfl
          have h2 := blB_ext hW0 nodes (a := a) hq
          unfold blB at h2
          show (decide (q = a) || (AN (D'.2 147) q).any fun x => decide (x = a)) = _
          rw [h2]
          rfl
      rw [bs_ext (fun a ha => hbl a)]
      clear hbl
      cases p with
      | none => exact (bs_f0 9).symm
      | some q =>
        have hq := hp q rfl
        show C.2 (bb + 2) q ||| ((1 : Int32) <<< (nI q &&& 31)) = _
        rw [(hS.2.2.1 q hq).2, bs_one (n := 9) (by omega) (by omega), bs_or (by omega)]
        exact bs_ext (fun a ha => by
          unfold blP
          by_cases hqa : q = a
          · simp [hqa]
          · simp [hqa, Ne.symm hqa])
    · rw [if_neg hnN, if_neg hnN, nodes n (by omega)]
      obtain ⟨s1, s2⟩ := hS.2.2.1 n (by omega)
      exact ⟨s1, by rw [s2]; exact bs_ext (fun a ha => (blB_ext hW0 nodes (by omega)).symm)⟩
  · exact RuR_ext hW0 hr (fun j j1 j2 => cX j (by omega) (by omega) (by omega) (by omega) (by omega) (by omega)) (fun i hi => hT' i (by omega) (by omega)) (by rw [hT' 2 (by omega) (by omega)]) (hS.2.2.2 r hr)
  · rw [c4, c5, hU, hU]
    by_cases hnN : n = N
    · subst hnN
      rw [if_pos rfl, if_pos rfl, if_neg (by omega), if_pos rfl, if_pos rfl]
      exact ⟨rfl, rfl⟩
    · rw [if_neg hnN, if_neg hnN, if_neg (by omega), if_neg hnN, if_neg (by omega), if_neg (by omega)]
      exact a2 n (by omega)
  · rw [cX _ (by omega) (by omega) (by omega) (by omega) (by omega) (by omega)]
    exact a3
  · rw [hU]
    by_cases hnN : n = N
    · subst hnN
      rw [if_neg (by omega), if_pos rfl]
      exact ⟨t, ht, rfl⟩
    · rw [if_neg (by omega), if_neg hnN]
      exact a4 n (by omega)
  · obtain ⟨f1, f2, f3, f4, f5⟩ := a5 r hr1 hr2
    refine ⟨fun i i1 i2 => ?_, ?_, ?_, fun q hq => ?_, ?_⟩
    · rw [hT' _ (by omega) (by omega), hT' _ (by omega) (by omega)]; exact f1 i i1 i2
    · rw [hT' _ (by omega) (by omega)]; exact f2
    · rw [hT' _ (by omega) (by omega)]; exact f3
    · rw [hT' _ (by omega) (by omega)]; exact f4 q hq
    · rw [hT' _ (by omega) (by omega)]; exact f5
  · rw [hU, if_neg (by omega), if_neg (by omega)]
    exact a6 n (by omega) hn2
end READ15
