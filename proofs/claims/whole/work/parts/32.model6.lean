/-! ===== the model under a change ===== -/
/-- what stays when either side only computes -/
def SX (M M2 : Mem) : Prop := M2.1 = M.1 ∧ (∀ j, j ≠ 117 → j ≠ 118 → j ≠ 119 → (j < 125 ∨ 129 < j) → j ≠ 137 → j ≠ 144 → j ≠ 156 → j ≠ 157 → M2.2 j = M.2 j) ∧ ∀ i, i ≠ 0 → M2.2 144 i = M.2 144 i
theorem SX_refl (M : Mem) : SX M M := ⟨rfl, fun _ _ _ _ _ _ _ _ _ => rfl, fun _ _ => rfl⟩
theorem SX_trans {M M1 M2 : Mem} (h : SX M M1) (g : SX M1 M2) : SX M M2 := ⟨by rw [g.1, h.1], fun j a1 a2 a3 a4 a5 a6 a7 a8 => by rw [g.2.1 j a1 a2 a3 a4 a5 a6 a7 a8, h.2.1 j a1 a2 a3 a4 a5 a6 a7 a8], fun i hi => by rw [g.2.2 i hi, h.2.2 i hi]⟩
theorem Tx_SX {M M1 : Mem} (h : Tx M M1) : SX M M1 := ⟨h.1, fun j a1 a2 a3 a4 _ _ _ _ => h.2 j a1 a2 a3 a4, fun i _ => by rw [h.2 144 (by omega) (by omega) (by omega) (by omega)]⟩
theorem SX_157 {M M1 : Mem} (h1 : M1.1 = M.1) (h2 : ∀ k, k ≠ 157 → M1.2 k = M.2 k) : SX M M1 := ⟨h1, fun j _ _ _ _ _ _ _ a8 => h2 j a8, fun i _ => by rw [h2 144 (by omega)]⟩
theorem SX_z (M : Mem) (v : Int32) : SX M (wI M 144 0 v) := ⟨rfl, fun j _ _ _ _ _ a6 _ _ => wI2n a6, fun i hi => by rw [wI2, if_pos rfl, if_neg hi]⟩
theorem SX_156 (M : Mem) (i : Nat) (v : Int32) : SX M (wI M 156 i v) := ⟨rfl, fun j _ _ _ _ _ _ a7 _ => wI2n a7, fun i _ => by rw [wI2n (by omega)]⟩
theorem sx_146 {M M1 : Mem} (h : SX M M1) : M1.2 146 = M.2 146 := h.2.1 146 (by omega) (by omega) (by omega) (by omega) (by omega) (by omega) (by omega) (by omega)
theorem sx_149 {M M1 : Mem} (h : SX M M1) : M1.2 149 = M.2 149 := h.2.1 149 (by omega) (by omega) (by omega) (by omega) (by omega) (by omega) (by omega) (by omega)
theorem xor_xor32 (x y : Int32) : x ^^^ y ^^^ y = x := by
  apply b_ext
  intro i hi
  rw [b_xor, b_xor]
  cases bt x i <;> cases bt y i <;> rfl
theorem ap_ap {S : Nat → Int32} {x : Nat} (h : x < 200) : ap x (ap x S) = S := by
  funext i
  by_cases h1 : x < 100
  · rw [ap_c h1, ap_c h1]
    by_cases h2 : i = 9 + x / 4
    · rw [if_pos h2, if_pos h2, xor_xor32]
    · rw [if_neg h2, if_neg h2]
  · rw [ap_s (by omega) h, ap_s (by omega) h]
    by_cases h2 : i = 18
    · rw [if_pos h2, if_pos h2, xor_xor32]
    · rw [if_neg h2, if_neg h2]
/-- the model's look is written: a class of a node is turned -/
theorem w_cls {M : Mem} {x : Nat} (hx : x < 36) : (wI M 149 (9 + x / 4) (M.2 149 (9 + x / 4) ^^^ ((1 : Int32) <<< (nI (x % 4) &&& 31)))).2 149 = ap x (M.2 149) := by
  funext i
  rw [wI2, if_pos rfl, ap_c (by omega)]
  by_cases h : i = 9 + x / 4
  · rw [if_pos h, if_pos h, h]
  · rw [if_neg h, if_neg h]
theorem w_sw {M : Mem} {r : Nat} (hr : r < 8) : (wI M 149 18 (M.2 149 18 ^^^ ((1 : Int32) <<< (nI r &&& 31)))).2 149 = ap (100 + r) (M.2 149) := by
  funext i
  rw [wI2, if_pos rfl, ap_s (by omega) (by omega), show 100 + r - 100 = r by omega]
  by_cases h : i = 18
  · rw [if_pos h, if_pos h, h]
  · rw [if_neg h, if_neg h]
theorem wa_149e {M : Mem} {v : Int32} : wa M 149 18 v = some (wI M 149 18 v) := wa_149 (k := 18) (by omega)
section MODEL6
variable {M : Mem} {N R : Nat}
/-- the two turns of a cell of the look, something computed in between that keeps all but scratch -/
theorem SX_turn {M1 M2 : Mem} {i : Nat} {v : Int32} (h : SX (wI M 149 i v) M1) (h2 : ∀ j, j ≠ i → M2.2 149 j = M1.2 149 j) (h3 : M2.2 149 i = M.2 149 i) (h4 : M2.1 = M1.1) (h5 : ∀ k, k ≠ 149 → M2.2 k = M1.2 k) : SX M M2 := by
  refine ⟨by rw [h4, h.1]; rfl, fun j a1 a2 a3 a4 a5 a6 a7 a8 => ?_, fun j hj => ?_⟩
  · by_cases h9 : j = 149
    · subst h9
      funext q
      by_cases hq : q = i
      · rw [hq]; exact h3
      · rw [h2 q hq, sx_149 h, wI2, if_pos rfl, if_neg hq]
    · rw [h5 j h9, h.2.1 j a1 a2 a3 a4 a5 a6 a7 a8, wI2n h9]
  · rw [h5 144 (by omega), h.2.2 j hj, wI2n (by omega)]
theorem m_valueBy (hM : MR M.1) (hW : WF (M.2 146) N R) {r n p : Nat} (hr : r < R) (hn : n < N) (hp : p < 4) : ∃ M9, m_X8_valueBy M 144 (nI r) (nI n) (nI p) = some (valO (M.2 146) (ap (100 + r) (M.2 149)) R n p, M9) ∧ SX M M9 := by
  have h8 := hW.2.2.2.1
  unfold m_X8_valueBy
  simp only [rm11 hM, obs, ra_149e, wa_149e]
  have hM1 : MR (wI M 149 18 (M.2 149 18 ^^^ ((1 : Int32) <<< (nI r &&& 31)))).1 := hM
  have hW1 : WF ((wI M 149 18 (M.2 149 18 ^^^ ((1 : Int32) <<< (nI r &&& 31)))).2 146) N R := by rw [wI2n (by omega)]; exact hW
  obtain ⟨M2, e1, e2, e3, e4⟩ := m_fills hM1 hW1
  have hM2 : MR M2.1 := by rw [e2]; exact hM1
  have t2 : M2.2 146 = M.2 146 := by rw [e3 146 (by omega), wI2n (by omega)]
  have s2 : M2.2 149 = ap (100 + r) (M.2 149) := by rw [e3 149 (by omega), w_sw (by omega)]
  have hW2 : WF (M2.2 146) N R := by rw [t2]; exact hW
  have hF : FLD M2 N R := by
    intro j hj
    rw [e4 j hj, e3 146 (by omega), e3 149 (by omega)]
  rw [e1, obs, m_valueOf hM2 hW2 hF hn hp, obs]
  simp only [rm11 hM2, obs, ra_149e, wa_149e]
  rw [t2, s2]
  refine ⟨_, rfl, SX_turn (SX_157 e2 e3) (fun j hj => ?_) ?_ rfl (fun k hk => wI2n hk)⟩
  · rw [wI2, if_pos rfl, if_neg hj]
  · rw [wI2, if_pos rfl, if_pos rfl, ap_s (by omega) (by omega), if_pos rfl, show 100 + r - 100 = r by omega, xor_xor32]
/-- what was seen so far is so -/
def hld (T S : Nat → Int32) (R : Nat) (sn sp : Nat → Nat) (sv : Nat → Int32) : Nat → Bool
  | 0 => true
  | k + 1 => hld T S R sn sp sv k && decide (valO T S R (sn k) (sp k) = sv k)
def SeM (M : Mem) (N m : Nat) (sn sp : Nat → Nat) (sv : Nat → Int32) : Prop := M.2 144 19 = nI m ∧ m ≤ 6 ∧ ∀ k, k < m → sn k < N ∧ sp k < 4 ∧ M.2 153 k = nI (sn k) ∧ M.2 154 k = nI (sp k) ∧ M.2 155 k = sv k
theorem SeM_SX {M1 : Mem} {m : Nat} {sn sp : Nat → Nat} {sv : Nat → Int32} (h : SX M M1) (hs : SeM M N m sn sp sv) : SeM M1 N m sn sp sv := by
  obtain ⟨a, b, c⟩ := hs
  refine ⟨by rw [h.2.2 19 (by omega)]; exact a, b, fun k hk => ?_⟩
  rw [h.2.1 153 (by omega) (by omega) (by omega) (by omega) (by omega) (by omega) (by omega) (by omega), h.2.1 154 (by omega) (by omega) (by omega) (by omega) (by omega) (by omega) (by omega) (by omega), h.2.1 155 (by omega) (by omega) (by omega) (by omega) (by omega) (by omega) (by omega) (by omega)]
  exact c k hk
theorem MR_SX {M1 : Mem} (h : SX M M1) (hM : MR M.1) : MR M1.1 := by rw [h.1]; exact hM
theorem WF_SX {M1 : Mem} (h : SX M M1) (hW : WF (M.2 146) N R) : WF (M1.2 146) N R := by rw [sx_146 h]; exact hW
theorem us_L19 {M0 : Mem} (hM0 : MR M0.1) (hW0 : WF (M0.2 146) N R) {m : Nat} {sn sp : Nat → Nat} {sv : Nat → Int32} (hs0 : SeM M0 N m sn sp sv) {r : Nat} (hr : r < R) {k4 : Mem → Int32 → Int32 → Option (Int32 × Mem)} {x1 : Int32} :
    ∀ (d i fu : Nat) (M : Mem), i + d = m → d < fu → SX M0 M → ∃ M9, m_X8_unseenSet_L19 144 k4 fu M x1 (nI r) (bi (hld (M0.2 146) (ap (100 + r) (M0.2 149)) R sn sp sv i)) (nI i) = k4 M9 (orb x1 (hld (M0.2 146) (ap (100 + r) (M0.2 149)) R sn sp sv m) r) (nI (r + 1)) ∧ SX M0 M9 := by
  have h6 := hs0.2.1
  intro d
  induction d with
  | zero =>
    intro i fu M hi hf hX
    obtain ⟨fu, rfl⟩ : ∃ f, fu = f + 1 := ⟨fu - 1, by omega⟩
    refine ⟨M, ?_, hX⟩
    have hs := SeM_SX hX hs0
    have : i = m := by omega
    subst this
    unfold m_X8_unseenSet_L19
    simp (disch := omega) only [hs.1, qle, bi_0, nI_1, qor0]
    rw [if_pos (by omega)]
    cases hld (M0.2 146) (ap (100 + r) (M0.2 149)) R sn sp sv i <;> simp [orb]
  | succ d ih =>
    intro i fu M hi hf hX
    obtain ⟨fu, rfl⟩ : ∃ f, fu = f + 1 := ⟨fu - 1, by omega⟩
    have hs := SeM_SX hX hs0
    have hM := MR_SX hX hM0
    have hW := WF_SX hX hW0
    obtain ⟨q1, q2, q3, q4, q5⟩ := hs.2.2 i (by omega)
    have st : hld (M0.2 146) (ap (100 + r) (M0.2 149)) R sn sp sv (i + 1) = (hld (M0.2 146) (ap (100 + r) (M0.2 149)) R sn sp sv i && decide (valO (M0.2 146) (ap (100 + r) (M0.2 149)) R (sn i) (sp i) = sv i)) := rfl
    unfold m_X8_unseenSet_L19
    simp (disch := omega) only [hs.1, qle, bi_0, nI_1]
    rw [if_neg (by omega)]
    cases hh : hld (M0.2 146) (ap (100 + r) (M0.2 149)) R sn sp sv i with
    | false =>
      rw [if_pos rfl]
      have := ih (i + 1) fu M (by omega) (by omega) hX
      rw [st, hh] at this
      exact this
    | true =>
      rw [if_neg (by decide)]
      simp (disch := omega) only [rm16 hM, rm17 hM, obs, ra_153, ra_154, q3, q4]
      obtain ⟨M1, f1, f2⟩ := m_valueBy hM hW hr q1 q2
      have hX1 := SX_trans hX f2
      have q5b := ((SeM_SX hX1 hs0).2.2 i (by omega)).2.2.2.2
      rw [f1, b2s, rm18 (MR_SX hX1 hM0), obs, ra_155 (by omega), obs, q5b, sx_146 hX, sx_149 hX]
      have next := ih (i + 1) fu M1 (by omega) (by omega) hX1
      rw [st, hh, Bool.true_and] at next
      by_cases hv : valO (M0.2 146) (ap (100 + r) (M0.2 149)) R (sn i) (sp i) = sv i
      · rw [if_pos hv]
        simp only [hv, decide_true] at next
        exact next
      · rw [if_neg hv]
        simp only [hv, decide_false] at next
        exact next
def uns (T S : Nat → Int32) (R : Nat) (sn sp : Nat → Nat) (sv : Nat → Int32) (m r : Nat) : Bool := hld T (ap (100 + r) S) R sn sp sv m
theorem us_L4 {M0 : Mem} (hM0 : MR M0.1) (hW0 : WF (M0.2 146) N R) {m : Nat} {sn sp : Nat → Nat} {sv : Nat → Int32} (hs0 : SeM M0 N m sn sp sv) :
    ∀ (d i fu : Nat) (M : Mem), i + d = R → d < fu → SX M0 M → ∃ M9, m_X8_unseenSet_L4 144 fu M (bs i (uns (M0.2 146) (M0.2 149) R sn sp sv m)) (nI i) = some (bs R (uns (M0.2 146) (M0.2 149) R sn sp sv m), M9) ∧ SX M0 M9 := by
  have h8 := hW0.2.2.2.1
  have h6 := hs0.2.1
  intro d
  induction d with
  | zero =>
    intro i fu M hi hf hX
    obtain ⟨fu, rfl⟩ : ∃ f, fu = f + 1 := ⟨fu - 1, by omega⟩
    refine ⟨M, ?_, hX⟩
    have hM := MR_SX hX hM0
    have hW := WF_SX hX hW0
    unfold m_X8_unseenSet_L4
    simp (disch := omega) only [rm8 hM, obs, ra_146o, hW.2.2.1, qle]
    rw [if_pos (by omega), show i = R by omega]
  | succ d ih =>
    intro i fu M hi hf hX
    obtain ⟨fu, rfl⟩ : ∃ f, fu = f + 1 := ⟨fu - 1, by omega⟩
    have hM := MR_SX hX hM0
    have hW := WF_SX hX hW0
    unfold m_X8_unseenSet_L4
    simp (disch := omega) only [rm8 hM, obs, ra_146o, hW.2.2.1, qle]
    rw [if_neg (by omega)]
    obtain ⟨M1, e1, e2⟩ := us_L19 hM0 hW0 hs0 (show i < R by omega) (k4 := fun z0 z1 z2 => m_X8_unseenSet_L4 144 fu z0 z1 z2) (x1 := bs i (uns (M0.2 146) (M0.2 149) R sn sp sv m)) m 0 FU M (by omega) (by unfold FU; omega) hX
    rw [show nI 0 = 0 from rfl, show hld (M0.2 146) (ap (100 + i) (M0.2 149)) R sn sp sv 0 = true from rfl, show bi true = 1 from rfl] at e1
    rw [e1]
    exact ih (i + 1) fu M1 (by omega) (by omega) e2
theorem m_unseenSet (hM : MR M.1) (hW : WF (M.2 146) N R) {m : Nat} {sn sp : Nat → Nat} {sv : Nat → Int32} (hs : SeM M N m sn sp sv) : ∃ M9, m_X8_unseenSet M 144 = some (bs R (uns (M.2 146) (M.2 149) R sn sp sv m), M9) ∧ SX M M9 := by
  have h8 := hW.2.2.2.1
  exact us_L4 hM hW hs R 0 FU M (by omega) (by unfold FU; omega) (SX_refl M)
end MODEL6
