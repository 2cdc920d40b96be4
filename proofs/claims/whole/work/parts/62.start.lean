/-! ===== the start ===== -/
theorem start_ok : m_start.isSome = true := by decide +kernel
def Mst : Mem := m_start.get start_ok
theorem start_eq : m_start = some Mst := by
  unfold Mst
  rw [Option.some_get]
theorem S4_st : SRf Mst.1 4 := by
  unfold SRf LRf URf
  refine ⟨?_, ?_, ?_, ?_, ?_, ?_⟩ <;> decide +kernel
theorem S59_st : SRf Mst.1 59 := by
  unfold SRf LRf URf
  refine ⟨?_, ?_, ?_, ?_, ?_, ?_⟩ <;> decide +kernel
theorem R0_st : Mst.1 0 0 = some 1 ∧ Mst.1 0 2 = some 2 ∧ Mst.1 0 3 = some 59 ∧ Mst.1 0 4 = some 114 ∧ Mst.1 0 5 = some 117 ∧ Mst.1 0 6 = some 120 ∧ Mst.1 0 7 = some 125 ∧ Mst.1 0 8 = some 130 ∧ Mst.1 0 9 = some 132 ∧ Mst.1 0 10 = some 136 ∧ Mst.1 0 12 = some 137 := by decide +kernel
theorem L_st : LRf Mst.1 114 ∧ LRf Mst.1 117 ∧ LRf Mst.1 138 ∧ LRf Mst.1 141 := by
  unfold LRf
  decide +kernel
theorem Y_st : YRf Mst.1 120 ∧ YRf Mst.1 125 := by
  unfold YRf
  decide +kernel
theorem Z_st : Mst.1 130 0 = some 131 ∧ (Mst.1 132 0 = some 133 ∧ Mst.1 132 1 = some 134 ∧ Mst.1 132 2 = some 135) ∧ Mst.1 136 0 = some 138 ∧ Mst.1 136 1 = some 141 := by decide +kernel
theorem Q_st : Mst.1 2 5 = some 4 := by decide +kernel
theorem CR_st : CR Mst.1 59 4 := ⟨Or.inr ⟨rfl, rfl⟩, R0_st, Q_st, ⟨S4_st, S59_st⟩, L_st, Y_st, Z_st⟩
theorem MR_st : MR Mst.1 := by
  unfold MR
  decide +kernel
theorem int_st : Mst.2 146 0 = nI 0 ∧ Mst.2 146 1 = nI 0 ∧ Mst.2 59 0 = nI 0 ∧ Mst.2 59 1 = nI 0 ∧ Mst.2 114 2 = Mst.2 149 18 ∧ Mst.2 120 0 = nI 0 ∧ Mst.2 0 1 = nI 0 ∧ Mst.2 144 2 = nI 0 ∧ Mst.2 130 1 = nI 0 ∧ Mst.2 144 13 = nI 0 ∧ Mst.2 132 3 = nI 0 ∧ Mst.2 144 19 = nI 0 ∧ Mst.2 0 11 = 0 ∧ Mst.2 152 0 = 0 ∧ Mst.2 152 1 = 0 := by decide +kernel
theorem Inv_st : Inv Mst := by
  obtain ⟨a1, a2, a3, a4, a5, a6, a7, a8, a9, a10, a11, a12, a13, a14, a15⟩ := int_st
  refine ⟨59, 4, 0, 0, 0, 0, 0, fun _ => 0, fun _ => 0, fun _ => 0, fun _ => 0, ⟨CR_st, MR_st⟩, ⟨a1, by omega, a2, by omega, fun h => by omega, fun n _ hn => by omega, fun r hr => by omega, fun r c hr => by omega, fun r p hr => by omega⟩, ⟨a3, a4, fun n hn => by omega, fun r hr => by omega⟩, ⟨fun n hn => by omega, a5⟩, ⟨a6, fun r hr => by omega, fun n hn => by omega, fun n p hn => by omega⟩, fun n hn => by omega, ⟨a7, a8, by omega, fun i hi => by omega⟩, ⟨a9, a10, by omega, fun i hi => by omega⟩, ⟨⟨a11, by omega, fun i hi => by omega⟩, a12, by omega, fun i hi => by omega⟩, fun x hx => ?_⟩
  rw [a13]
  refine ⟨?_, fun hz => by rw [b_0] at hz; cases hz⟩
  unfold hb
  rw [b_0]
  obtain rfl | rfl : x = 0 ∨ x = 1 := by omega
  · rw [a14]; rfl
  · rw [a15]; rfl
/-! ===== the law's loop, by the calls ===== -/
theorem sx_ok {L : Nat} {xs : Nat → Int32} {i : Nat} (h : i < L) (hi : i < 2 ^ 31) : sx L xs (nI i) = some (xs i) := by
  unfold sx
  rw [if_pos (by rw [qclamp hi]; intro q; rcases q with q | q; exact qneg hi q; omega), qclamp hi]
theorem al2 {o : Option (Int32 × Mem)} {q : Mem → Option (Int32 × Mem)} {k : Mem → Option Int32} (h : Alike2 o q) (hk : ∀ M, Inv M → k M = some 1) : (b2 o fun r M1 => b2 (q M1) fun r2 M2 => if r = r2 then k M2 else some 0) = some 1 := by
  obtain ⟨r, M1, M2, h1, h2, h3⟩ := h
  rw [h1, b2s, h2, b2s, if_pos rfl]
  exact hk M2 h3
theorem al1 {o : Option Int32} {q : Option (Int32 × Mem)} {k : Mem → Option Int32} (h : Alike o q) (hk : ∀ M, Inv M → k M = some 1) : (o.bind fun r => b2 q fun r2 M2 => if r = r2 then k M2 else some 0) = some 1 := by
  obtain ⟨r, M2, h1, h2, h3⟩ := h
  rw [h1, obs, h2, b2s, if_pos rfl]
  exact hk M2 h3
theorem law_L (hask : ∀ M, Inv M → Alike2 (m_X7_ask M 0) (fun M1 => m_X8_ask M1 144)) {L : Nat} (hL : L ≤ 2048) {xs : Nat → Int32} :
    ∀ (d i fu : Nat) (M : Mem), L < 4 * i + 4 * d + 4 → 4 * i ≤ L + 3 → d < fu → Inv M → m_L_law_L18 L xs fu M (nI (4 * i)) = some 1 := by
  intro d
  induction d with
  | zero =>
    intro i fu M hi hib hf hI
    obtain ⟨fu, rfl⟩ : ∃ f, fu = f + 1 := ⟨fu - 1, by omega⟩
    unfold m_L_law_L18
    rw [if_pos]
    by_cases h4 : 4 ≤ L
    · rw [show nI L - 4 = nI (L - 4) from qsub (b := 4) h4, qlt (by omega) (by omega)]
      omega
    · have hneg : nI L - 4 < 0 := by
        have : ∀ L, L < 4 → nI L - 4 < 0 := by decide
        exact this L (by omega)
      refine Int32.lt_of_lt_of_le hneg ?_
      rw [show (0 : Int32) = nI 0 from rfl, qle (by omega) (by omega)]
      omega
  | succ d ih =>
    intro i fu M hi hib hf hI
    obtain ⟨fu, rfl⟩ : ∃ f, fu = f + 1 := ⟨fu - 1, by omega⟩
    by_cases hend : L < 4 * i + 4
    · exact (fun hh => hh) (by
        unfold m_L_law_L18
        rw [if_pos]
        by_cases h4 : 4 ≤ L
        · rw [show nI L - 4 = nI (L - 4) from qsub (b := 4) h4, qlt (by omega) (by omega)]
          omega
        · have hneg : nI L - 4 < 0 := by
            have : ∀ L, L < 4 → nI L - 4 < 0 := by decide
            exact this L (by omega)
          refine Int32.lt_of_lt_of_le hneg ?_
          rw [show (0 : Int32) = nI 0 from rfl, qle (by omega) (by omega)]
          omega)
    · have e4 : nI (4 * i) + 4 = nI (4 * (i + 1)) := by
        rw [show (4 : Int32) = nI 4 from rfl, nI_add]
        rfl
      have next : ∀ M2, Inv M2 → m_L_law_L18 L xs fu M2 (nI (4 * (i + 1))) = some 1 := fun M2 h2 => ih (i + 1) fu M2 (by omega) (by omega) (by omega) h2
      have s0 : sx L xs (nI (4 * i)) = some (xs (4 * i)) := sx_ok (by omega) (by omega)
      have s1 : sx L xs (nI (4 * i) + 1) = some (xs (4 * i + 1)) := by rw [nI_1]; exact sx_ok (by omega) (by omega)
      have s2 : sx L xs (nI (4 * i) + 2) = some (xs (4 * i + 2)) := by rw [show (2 : Int32) = nI 2 from rfl, nI_add]; exact sx_ok (by omega) (by omega)
      have s3 : sx L xs (nI (4 * i) + 3) = some (xs (4 * i + 3)) := by rw [show (3 : Int32) = nI 3 from rfl, nI_add]; exact sx_ok (by omega) (by omega)
      have hI0 := hI
      obtain ⟨b, bb, N, R, L0, h, m, rem, sn, sp, sv, H⟩ := hI
      unfold m_L_law_L18
      rw [if_neg (by
        rw [show nI L - 4 = nI (L - 4) from qsub (b := 4) (by omega), qlt (by omega) (by omega)]
        omega)]
      simp only [s0, s1, s2, s3, obs, e4]
      by_cases h0 : xs (4 * i) &&& 31 = 0
      · rw [if_pos h0]
        exact al2 (op_type H _) next
      rw [if_neg h0]
      by_cases h1 : xs (4 * i) &&& 31 = 1
      · rw [if_pos h1]
        exact al2 (op_clear H) next
      rw [if_neg h1]
      by_cases h2 : xs (4 * i) &&& 31 = 2
      · rw [if_pos h2]
        exact al2 (op_page H) next
      rw [if_neg h2]
      by_cases h3 : xs (4 * i) &&& 31 = 3
      · rw [if_pos h3]
        exact al1 (op_node H _ _) next
      rw [if_neg h3]
      by_cases h4 : xs (4 * i) &&& 31 = 4
      · rw [if_pos h4]
        exact al1 (op_rule H _ _) next
      rw [if_neg h4]
      by_cases h5 : xs (4 * i) &&& 31 = 5
      · rw [if_pos h5]
        exact al2 (op_toggles H _ _) next
      rw [if_neg h5]
      by_cases h6 : xs (4 * i) &&& 31 = 6
      · rw [if_pos h6]
        exact al2 (op_tags H _ _) next
      rw [if_neg h6]
      by_cases h7 : xs (4 * i) &&& 31 = 7
      · rw [if_pos h7]
        exact al2 (op_switches H _) next
      rw [if_neg h7]
      by_cases h8 : xs (4 * i) &&& 31 = 8
      · rw [if_pos h8]
        exact al2 (op_undo H) next
      rw [if_neg h8]
      by_cases h9 : xs (4 * i) &&& 31 = 9
      · rw [if_pos h9]
        exact al1 (op_value H _ _) next
      rw [if_neg h9]
      by_cases h10 : xs (4 * i) &&& 31 = 10
      · rw [if_pos h10]
        exact al1 (op_winner H _ _ _) next
      rw [if_neg h10]
      by_cases h11 : xs (4 * i) &&& 31 = 11
      · rw [if_pos h11]
        exact al1 (op_source H _ _) next
      rw [if_neg h11]
      by_cases h12 : xs (4 * i) &&& 31 = 12
      · rw [if_pos h12]
        exact al2 (op_change H _ _ _) next
      rw [if_neg h12]
      by_cases h13 : xs (4 * i) &&& 31 = 13
      · rw [if_pos h13]
        exact al2 (op_wanted H _ _ _) next
      rw [if_neg h13]
      by_cases h14 : xs (4 * i) &&& 31 = 14
      · rw [if_pos h14]
        exact al2 (op_sees H _ _ _) next
      rw [if_neg h14]
      by_cases h15 : xs (4 * i) &&& 31 = 15
      · rw [if_pos h15]
        exact al2 (op_forget H) next
      rw [if_neg h15]
      by_cases h16 : xs (4 * i) &&& 31 = 16
      · rw [if_pos h16]
        exact al2 (op_unseen H) next
      rw [if_neg h16]
      by_cases h17 : xs (4 * i) &&& 31 = 17
      · rw [if_pos h17]
        exact al2 (hask M hI0) next
      rw [if_neg h17]
      by_cases h18 : xs (4 * i) &&& 31 = 18
      · rw [if_pos h18]
        exact al2 (op_keep H _) next
      rw [if_neg h18]
      by_cases h19 : xs (4 * i) &&& 31 = 19
      · rw [if_pos h19]
        exact al2 (op_back H _) next
      rw [if_neg h19]
      by_cases h20 : xs (4 * i) &&& 31 = 20
      · rw [if_pos h20]
        exact al1 (op_count H _) next
      rw [if_neg h20]
      exact next M hI0
theorem law_by_ask (hask : ∀ M, Inv M → Alike2 (m_X7_ask M 0) (fun M1 => m_X8_ask M1 144)) {L : Nat} {xs : Nat → Int32} (hL : L ≤ 2048) : m_law L xs = some 1 := by
  unfold m_law
  rw [start_eq, obs]
  exact law_L hask hL 513 0 FU Mst (by omega) (by omega) (by unfold FU; omega) Inv_st
