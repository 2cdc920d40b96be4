/-! ===== ask: what the class gathers ===== -/
/-- what stays while answers are gathered -/
def TA (M M2 : Mem) : Prop := M2.1 = M.1 ∧ ∀ j, j ≠ 117 → j ≠ 118 → j ≠ 119 → (j < 125 ∨ 129 < j) → j ≠ 137 → M2.2 j = M.2 j
theorem TA_refl (M : Mem) : TA M M := ⟨rfl, fun _ _ _ _ _ _ => rfl⟩
theorem TA_trans {M M1 M2 : Mem} (h : TA M M1) (g : TA M1 M2) : TA M M2 := ⟨by rw [g.1, h.1], fun j a1 a2 a3 a4 a5 => by rw [g.2 j a1 a2 a3 a4 a5, h.2 j a1 a2 a3 a4 a5]⟩
theorem Tx_TA {M M1 : Mem} (h : Tx M M1) : TA M M1 := ⟨h.1, fun j a1 a2 a3 a4 _ => h.2 j a1 a2 a3 a4⟩
theorem TA_SX {M M1 : Mem} (h : TA M M1) : SX M M1 := ⟨h.1, fun j a1 a2 a3 a4 a5 _ _ _ => h.2 j a1 a2 a3 a4 a5, fun i _ => by rw [h.2 144 (by omega) (by omega) (by omega) (by omega) (by omega)]⟩
section ASK2
variable {M : Mem} {N R b bb m : Nat} {T S S2 : Nat → Int32} {sn sp : Nat → Nat} {sv : Nat → Int32}
def orD (T S2 : Nat → Int32) (R x : Nat) (v : Int32) : Int32 := v ||| ((1 : Int32) <<< (nI (dig T S2 R (x / 4) (x % 4)) &&& 31))
theorem adA_L15 {M0 : Mem} (hC0 : CR M0.1 b bb) (hW : WF T N R) (hSt0 : StR M0 125 T S2 N R) {n : Nat} (hn : n < N) {k2 : Mem → Int32 → Option Mem} :
    ∀ (d p fu : Nat) (M : Mem), p + d = 4 → d < fu → M.1 = M0.1 → (∀ j, j ≠ 137 → M.2 j = M0.2 j) → (∀ x, M.2 137 x = if x < 4 * n + p then orD T S2 R x (M0.2 137 x) else M0.2 137 x) → ∃ M9, m_X7_addAnswers_L15 0 k2 fu M (nI n) (nI p) = k2 M9 (nI (n + 1)) ∧ M9.1 = M0.1 ∧ (∀ j, j ≠ 137 → M9.2 j = M0.2 j) ∧ ∀ x, M9.2 137 x = if x < 4 * (n + 1) then orD T S2 R x (M0.2 137 x) else M0.2 137 x := by
  have h9 := hW.2.1
  intro d
  induction d with
  | zero =>
    intro p fu M hi hf a1 a2 a3
    obtain ⟨fu, rfl⟩ : ∃ f, fu = f + 1 := ⟨fu - 1, by omega⟩
    refine ⟨M, ?_, a1, a2, fun x => ?_⟩
    · rw [m_X7_addAnswers_L15]
      simp (disch := omega) only [qle1, qle, nI_1]
      rw [if_pos (by omega)]
    · rw [a3 x, show 4 * n + p = 4 * (n + 1) by omega]
  | succ d ih =>
    intro p fu M hi hf a1 a2 a3
    obtain ⟨fu, rfl⟩ : ∃ f, fu = f + 1 := ⟨fu - 1, by omega⟩
    have hC : CR M.1 b bb := by rw [a1]; exact hC0
    have hSt : StR M 125 T S2 N R := StR_fr (fun i i1 i2 => a2 i (by omega)) hSt0
    have hd := (dig_ok (S := S2) hW (n := n) (p := p) (by omega)).1
    rw [m_X7_addAnswers_L15]
    simp (disch := omega) only [qle1, qle, nI_1, rc12 hC, obs, qmu, nI_add, ra_137, rc7 hC, c_valueAt (cr_125 hC) yk_125 h9 hSt hn (show p < 4 by omega), hd, wa_137]
    rw [if_neg (by omega)]
    refine ih (p + 1) fu _ (by omega) (by omega) a1 (fun j hj => by rw [wI2n hj]; exact a2 j hj) (fun x => ?_)
    rw [wI2, if_pos rfl]
    by_cases hx : x = 4 * n + p
    · rw [if_pos hx, if_pos (by omega), a3, if_neg (by omega), hx]
      unfold orD
      rw [show (4 * n + p) / 4 = n by omega, show (4 * n + p) % 4 = p by omega]
    · rw [if_neg hx, a3 x]
      by_cases hlt : x < 4 * n + p
      · rw [if_pos hlt, if_pos (by omega)]
      · rw [if_neg hlt, if_neg (by omega)]
theorem c_addA {M0 : Mem} (hC0 : CR M0.1 b bb) (hW : WF T N R) (hS0 : ShR M0 b T N R) (hSt0 : StR M0 125 T S2 N R) : ∃ M9, m_X7_addAnswers M0 0 = some M9 ∧ M9.1 = M0.1 ∧ (∀ j, j ≠ 137 → M9.2 j = M0.2 j) ∧ ∀ x, x < 4 * N → M9.2 137 x = orD T S2 R x (M0.2 137 x) := by
  have h9 := hW.2.1
  have hbl := sb_le (cr_sb hC0)
  have key : ∀ (d n fu : Nat) (M : Mem), n + d = N → d < fu → M.1 = M0.1 → (∀ j, j ≠ 137 → M.2 j = M0.2 j) → (∀ x, M.2 137 x = if x < 4 * n then orD T S2 R x (M0.2 137 x) else M0.2 137 x) → ∃ M9, m_X7_addAnswers_L2 0 fu M (nI n) = some M9 ∧ M9.1 = M0.1 ∧ (∀ j, j ≠ 137 → M9.2 j = M0.2 j) ∧ ∀ x, x < 4 * N → M9.2 137 x = orD T S2 R x (M0.2 137 x) := by
    intro d
    induction d with
    | zero =>
      intro n fu M hi hf a1 a2 a3
      obtain ⟨fu, rfl⟩ : ∃ f, fu = f + 1 := ⟨fu - 1, by omega⟩
      have hC : CR M.1 b bb := by rw [a1]; exact hC0
      refine ⟨M, ?_, a1, a2, fun x hx => by rw [a3 x, if_pos (by omega)]⟩
      rw [m_X7_addAnswers_L2]
      simp (disch := omega) only [rc3 hC, obs, a2 b (by omega), hS0.1, qle]
      rw [if_pos (by omega)]
    | succ d ih =>
      intro n fu M hi hf a1 a2 a3
      obtain ⟨fu, rfl⟩ : ∃ f, fu = f + 1 := ⟨fu - 1, by omega⟩
      have hC : CR M.1 b bb := by rw [a1]; exact hC0
      rw [m_X7_addAnswers_L2]
      simp (disch := omega) only [rc3 hC, obs, a2 b (by omega), hS0.1, qle]
      rw [if_neg (by omega)]
      obtain ⟨M1, e1, e2, e3, e4⟩ := adA_L15 (M0 := M0) hC0 hW hSt0 (n := n) (by omega) (k2 := fun z0 z1 => m_X7_addAnswers_L2 0 fu z0 z1) 4 0 FU M (by omega) (by unfold FU; omega) a1 a2 (fun x => a3 x)
      rw [show nI 0 = 0 from rfl] at e1
      rw [e1]
      exact ih (n + 1) fu M1 (by omega) (by omega) e2 e3 e4
  exact key N 0 FU M0 (by omega) (by unfold FU; omega) rfl (fun _ _ => rfl) (fun x => by rw [if_neg (by omega)])
theorem gat_L26 {M0 : Mem} (hC0 : CR M0.1 b bb) (hW : WF T N R) (hS0 : ShR M0 b T N R) (hL0 : LkR M0 114 S N) {U : Nat → Bool} :
    ∀ (d r fu : Nat) (M : Mem), r + d = R → d < fu → TA M0 M → (∀ x, x < 4 * N → M.2 137 x = vset T S R (x / 4) (x % 4) U r) → ∃ M9, m_X7_gatherAnswers_L26 0 (bs R U) fu M (nI r) = some M9 ∧ TA M0 M9 ∧ ∀ x, x < 4 * N → M9.2 137 x = vset T S R (x / 4) (x % 4) U R := by
  have h9 := hW.2.1
  have h8 := hW.2.2.2.1
  have hbl := sb_le (cr_sb hC0)
  intro d
  induction d with
  | zero =>
    intro r fu M hi hf hX a3
    obtain ⟨fu, rfl⟩ : ∃ f, fu = f + 1 := ⟨fu - 1, by omega⟩
    have hC : CR M.1 b bb := by rw [hX.1]; exact hC0
    have hb1 : M.2 b = M0.2 b := hX.2 b (by omega) (by omega) (by omega) (by omega) (by omega)
    refine ⟨M, ?_, hX, fun x hx => by rw [a3 x hx, show r = R by omega]⟩
    rw [m_X7_gatherAnswers_L26]
    simp (disch := omega) only [rc3 hC, obs, hb1, hS0.2.1, qle]
    rw [if_pos (by omega)]
  | succ d ih =>
    intro r fu M hi hf hX a3
    obtain ⟨fu, rfl⟩ : ∃ f, fu = f + 1 := ⟨fu - 1, by omega⟩
    have hC : CR M.1 b bb := by rw [hX.1]; exact hC0
    have hbb : M.2 b = M0.2 b := hX.2 b (by omega) (by omega) (by omega) (by omega) (by omega)
    have hS : ShR M b T N R := ShR_fr h8 (fun i i1 i2 => hX.2 i (by omega) (by omega) (by omega) (by omega) (by omega)) hS0
    have hL : LkR M 114 S N := LkR_fr (fun i i1 i2 => hX.2 i (by omega) (by omega) (by omega) (by omega) (by omega)) hL0
    have hbit : bt (bs R U) r = U r := by rw [b_bs (by omega) (by omega)]; simp [show r < R by omega]
    rw [m_X7_gatherAnswers_L26]
    simp (disch := omega) only [rc3 hC, obs, hbb, hS0.2.1, qle, hb1, nI_1, qa1]
    rw [if_neg (by omega)]
    by_cases hU : U r = true
    · rw [if_neg (by rw [hb_0, hbit, hU]; simp)]
      obtain ⟨M2, e1, e2, e3⟩ := c_tryOut hC hW hS hL (x := 100 + r) (Or.inr (Or.inl ⟨by omega, by omega⟩))
      have hC2 : CR M2.1 b bb := by rw [e2.1]; exact hC
      have hS2 : ShR M2 b T N R := ShR_Tx e2 (cr_sb hC) h8 hS
      obtain ⟨M3, f1, f2, f3, f4⟩ := c_addA hC2 hW hS2 e3
      rw [e1, obs, f1, obs]
      refine ih (r + 1) fu M3 (by omega) (by omega) (TA_trans hX (TA_trans (Tx_TA e2) ⟨f2, fun j _ _ _ _ a5 => f3 j a5⟩)) (fun x hx => ?_)
      rw [f4 x hx, e2.2 137 (by omega) (by omega) (by omega) (by omega), a3 x hx]
      show _ = if U r then _ else _
      rw [if_pos hU]
      rfl
    · rw [if_pos (by rw [hb_0, hbit]; simpa using hU)]
      refine ih (r + 1) fu M (by omega) (by omega) hX (fun x hx => ?_)
      rw [a3 x hx]
      show _ = if U r then _ else _
      rw [if_neg hU]
theorem c_gather {M0 : Mem} (hC0 : CR M0.1 b bb) (hW : WF T N R) (hS0 : ShR M0 b T N R) (hL0 : LkR M0 114 S N) {U : Nat → Bool} : ∃ M9, m_X7_gatherAnswers M0 0 (bs R U) = some M9 ∧ TA M0 M9 ∧ ∀ x, x < 4 * N → M9.2 137 x = vset T S R (x / 4) (x % 4) U R := by
  have h9 := hW.2.1
  have h8 := hW.2.2.2.1
  have hln : ln 137 = 36 := rfl
  have key : ∀ (d i fu : Nat) (M : Mem), i + d = 36 → d < fu → TA M0 M → (∀ x, x < i → M.2 137 x = 0) → ∃ M9, m_X7_gatherAnswers_L2 0 (bs R U) fu M (nI i) = m_X7_gatherAnswers_L26 0 (bs R U) FU M9 0 ∧ TA M0 M9 ∧ ∀ x, x < 36 → M9.2 137 x = 0 := by
    intro d
    induction d with
    | zero =>
      intro i fu M hi hf hX a3
      obtain ⟨fu, rfl⟩ : ∃ f, fu = f + 1 := ⟨fu - 1, by omega⟩
      have hC : CR M.1 b bb := by rw [hX.1]; exact hC0
      refine ⟨M, ?_, hX, fun x hx => a3 x (by omega)⟩
      rw [m_X7_gatherAnswers_L2]
      simp (disch := omega) only [rc12 hC, obs, hln, qle]
      rw [if_pos (by omega)]
    | succ d ih =>
      intro i fu M hi hf hX a3
      obtain ⟨fu, rfl⟩ : ∃ f, fu = f + 1 := ⟨fu - 1, by omega⟩
      have hC : CR M.1 b bb := by rw [hX.1]; exact hC0
      rw [m_X7_gatherAnswers_L2]
      simp (disch := omega) only [rc12 hC, obs, hln, qle, wa_137, nI_1]
      rw [if_neg (by omega)]
      refine ih (i + 1) fu _ (by omega) (by omega) (TA_trans hX ⟨rfl, fun j _ _ _ _ a5 => wI2n a5⟩) (fun x hx => ?_)
      rw [wI2, if_pos rfl]
      by_cases hxi : x = i
      · rw [if_pos hxi]
      · rw [if_neg hxi]; exact a3 x (by omega)
  obtain ⟨M1, e1, e2, e3⟩ := key 36 0 FU M0 (by omega) (by unfold FU; omega) (TA_refl M0) (fun x hx => by omega)
  rw [show nI 0 = 0 from rfl] at e1
  have hC1 : CR M1.1 b bb := by rw [e2.1]; exact hC0
  have hbl := sb_le (cr_sb hC0)
  obtain ⟨M2, f1, f2, f3⟩ := gat_L26 (U := U) hC1 hW (ShR_fr h8 (fun i i1 i2 => e2.2 i (by omega) (by omega) (by omega) (by omega) (by omega)) hS0) (LkR_fr (fun i i1 i2 => e2.2 i (by omega) (by omega) (by omega) (by omega) (by omega)) hL0) R 0 FU M1 (by omega) (by unfold FU; omega) (TA_refl M1) (fun x hx => by rw [e3 x (by omega)]; rfl)
  rw [show nI 0 = 0 from rfl] at f1
  refine ⟨M2, ?_, TA_trans e2 f2, f3⟩
  unfold m_X7_gatherAnswers
  rw [e1, f1]
end ASK2
