/-! ===== the class: unseen, wanted ===== -/
theorem Tx_refl (M : Mem) : Tx M M := ⟨rfl, fun _ _ _ _ _ => rfl⟩
theorem Tx_trans {M M1 M2 : Mem} (h : Tx M M1) (g : Tx M1 M2) : Tx M M2 := ⟨by rw [g.1, h.1], fun j a1 a2 a3 a4 => by rw [g.2 j a1 a2 a3 a4, h.2 j a1 a2 a3 a4]⟩
section CLS6
variable {M M1 : Mem} {N R b b2 k y m : Nat} {T S : Nat → Int32} {sn sp : Nat → Nat} {sv : Nat → Int32}
theorem CR_Tx (h : Tx M M1) (hC : CR M.1 b b2) : CR M1.1 b b2 := by rw [h.1]; exact hC
theorem ShR_Tx (h : Tx M M1) (hb : SB b) (hR : R ≤ 8) (hS : ShR M b T N R) : ShR M1 b T N R := by
  have := sb_le hb
  exact ShR_fr hR (fun i h1 h2 => h.2 i (by omega) (by omega) (by omega) (by omega)) hS
theorem LkR_Tx (h : Tx M M1) (hL : LkR M 114 S N) : LkR M1 114 S N := LkR_fr (fun i h1 h2 => h.2 i (by omega) (by omega) (by omega) (by omega)) hL
def SeC (M : Mem) (N m : Nat) (sn sp : Nat → Nat) (sv : Nat → Int32) : Prop := M.2 132 3 = nI m ∧ m ≤ 6 ∧ ∀ k, k < m → sn k < N ∧ sp k < 4 ∧ M.2 133 k = nI (sn k) ∧ M.2 134 k = nI (sp k) ∧ M.2 135 k = sv k
theorem SeC_Tx (h : Tx M M1) (hs : SeC M N m sn sp sv) : SeC M1 N m sn sp sv := by
  obtain ⟨a, b, c⟩ := hs
  refine ⟨by rw [h.2 132 (by omega) (by omega) (by omega) (by omega)]; exact a, b, fun k hk => ?_⟩
  rw [h.2 133 (by omega) (by omega) (by omega) (by omega), h.2 134 (by omega) (by omega) (by omega) (by omega), h.2 135 (by omega) (by omega) (by omega) (by omega)]
  exact c k hk
theorem hld_no {i : Nat} (h : hld T S R sn sp sv i = false) : ∀ d, hld T S R sn sp sv (i + d) = false := by
  intro d
  induction d with
  | zero => exact h
  | succ d ih =>
    show (hld T S R sn sp sv (i + d) && _) = false
    rw [ih]; rfl
theorem c_hold_L (hC : CR M.1 b b2) (hW : WF T N R) (hSt : StR M 125 T S N R) (hs : SeC M N m sn sp sv) :
    ∀ (d i fu : Nat), i + d = m → d < fu → hld T S R sn sp sv i = true → m_X5_holdIn_L2 M 132 125 fu (nI i) = some (bi (hld T S R sn sp sv m)) := by
  have h9 := hW.2.1
  have h6 := hs.2.1
  intro d
  induction d with
  | zero =>
    intro i fu hi hf hh
    obtain ⟨fu, rfl⟩ : ∃ f, fu = f + 1 := ⟨fu - 1, by omega⟩
    unfold m_X5_holdIn_L2
    simp (disch := omega) only [hs.1, qle]
    rw [if_pos (by omega), ← show i = m by omega, hh]
    rfl
  | succ d ih =>
    intro i fu hi hf hh
    obtain ⟨fu, rfl⟩ : ∃ f, fu = f + 1 := ⟨fu - 1, by omega⟩
    obtain ⟨q1, q2, q3, q4, q5⟩ := hs.2.2 i (by omega)
    have st : hld T S R sn sp sv (i + 1) = (hld T S R sn sp sv i && decide (valO T S R (sn i) (sp i) = sv i)) := rfl
    unfold m_X5_holdIn_L2
    simp (disch := omega) only [hs.1, qle, rc132a hC, rc132b hC, rc132c hC, obs, ra_133, ra_134, ra_135, q3, q4, q5, c_valueAt (cr_125 hC) yk_125 h9 hSt q1 q2, nI_1]
    rw [if_neg (by omega)]
    by_cases hv : valO T S R (sn i) (sp i) = sv i
    · rw [if_pos hv]
      exact ih (i + 1) fu (by omega) (by omega) (by rw [st, hh]; simp [hv])
    · rw [if_neg hv]
      have := hld_no (show hld T S R sn sp sv (i + 1) = false by rw [st]; simp [hv]) d
      rw [show i + 1 + d = m by omega] at this
      rw [this]
      rfl
theorem c_holdIn (hC : CR M.1 b b2) (hW : WF T N R) (hSt : StR M 125 T S N R) (hs : SeC M N m sn sp sv) : m_X5_holdIn M 132 125 = some (bi (hld T S R sn sp sv m)) := by
  have h6 := hs.2.1
  exact c_hold_L hC hW hSt hs m 0 FU (by omega) (by unfold FU; omega) rfl
theorem c_uns_L {M0 : Mem} (hC0 : CR M0.1 b b2) (hW : WF T N R) (hS0 : ShR M0 b T N R) (hL0 : LkR M0 114 S N) (hs0 : SeC M0 N m sn sp sv) :
    ∀ (d i fu : Nat) (M : Mem), i + d = R → d < fu → Tx M0 M → ∃ M9, m_X7_unseen_L4 0 fu M (bs i (uns T S R sn sp sv m)) (nI i) = some (bs R (uns T S R sn sp sv m), M9) ∧ Tx M0 M9 := by
  have h9 := hW.2.1
  have h8 := hW.2.2.2.1
  intro d
  induction d with
  | zero =>
    intro i fu M hi hf hX
    obtain ⟨fu, rfl⟩ : ∃ f, fu = f + 1 := ⟨fu - 1, by omega⟩
    refine ⟨M, ?_, hX⟩
    have hC := CR_Tx hX hC0
    have hS := ShR_Tx hX (cr_sb hC0) h8 hS0
    unfold m_X7_unseen_L4
    simp (disch := omega) only [rc3 hC, obs, hS.2.1, qle]
    rw [if_pos (by omega), show i = R by omega]
  | succ d ih =>
    intro i fu M hi hf hX
    obtain ⟨fu, rfl⟩ : ∃ f, fu = f + 1 := ⟨fu - 1, by omega⟩
    have hC := CR_Tx hX hC0
    have hS := ShR_Tx hX (cr_sb hC0) h8 hS0
    obtain ⟨M2, e1, e2, e3⟩ := c_tryOut hC hW hS (LkR_Tx hX hL0) (x := 100 + i) (Or.inr (Or.inl ⟨by omega, by omega⟩))
    have hX2 := Tx_trans hX e2
    have hC2 := CR_Tx hX2 hC0
    unfold m_X7_unseen_L4
    simp (disch := omega) only [rc3 hC, obs, hS.2.1, qle, qa1, e1, rc9 hC2, rc7 hC2, c_holdIn hC2 hW e3 (SeC_Tx hX2 hs0), bi_0, nI_1]
    rw [if_neg (by omega)]
    have next := ih (i + 1) fu M2 (by omega) (by omega) hX2
    by_cases hu : uns T S R sn sp sv m i = true
    · rw [if_neg (by unfold uns at hu; simp [hu]), bs_t hu]
      exact next
    · rw [if_pos (by unfold uns at hu; simpa using hu), bs_f (n := i) (p := uns T S R sn sp sv m) (by simpa using hu)]
      exact next
theorem c_unseen (hC : CR M.1 b b2) (hW : WF T N R) (hS : ShR M b T N R) (hL : LkR M 114 S N) (hs : SeC M N m sn sp sv) : ∃ M9, m_X7_unseen M 0 = some (bs R (uns T S R sn sp sv m), M9) ∧ Tx M M9 := by
  have h8 := hW.2.2.2.1
  exact c_uns_L hC hW hS hL hs R 0 FU M (by omega) (by unfold FU; omega) (Tx_refl M)
theorem c_wt_L84 {M0 : Mem} (hC0 : CR M0.1 b b2) (hW : WF T N R) (hS0 : ShR M0 b T N R) (hL0 : LkR M0 114 S N) {n p : Nat} (hn : n < N) (hp : p < 4) {v : Int32} :
    ∀ (d i fu : Nat) (M : Mem), i + d = R → d < fu → Tx M0 M → ∃ M9, m_X7_wanted_L84 0 (nI n) (nI p) v fu M (nI i) = some (match frs (dW T S R n p v 100) d i with
      | some r => nI (100 + r)
      | none => -9, M9) ∧ Tx M0 M9 := by
  have h9 := hW.2.1
  have h8 := hW.2.2.2.1
  intro d
  induction d with
  | zero =>
    intro i fu M hi hf hX
    obtain ⟨fu, rfl⟩ : ∃ f, fu = f + 1 := ⟨fu - 1, by omega⟩
    refine ⟨M, ?_, hX⟩
    have hC := CR_Tx hX hC0
    have hS := ShR_Tx hX (cr_sb hC0) h8 hS0
    unfold m_X7_wanted_L84 frs
    simp (disch := omega) only [rc3 hC, obs, hS.2.1, qle]
    rw [if_pos (by omega)]
  | succ d ih =>
    intro i fu M hi hf hX
    obtain ⟨fu, rfl⟩ : ∃ f, fu = f + 1 := ⟨fu - 1, by omega⟩
    have hC := CR_Tx hX hC0
    have hS := ShR_Tx hX (cr_sb hC0) h8 hS0
    obtain ⟨M2, e1, e2, e3⟩ := c_tryOut hC hW hS (LkR_Tx hX hL0) (x := 100 + i) (Or.inr (Or.inl ⟨by omega, by omega⟩))
    have hX2 := Tx_trans hX e2
    have hC2 := CR_Tx hX2 hC0
    rw [m_X7_wanted_L84]
    simp (disch := omega) only [rc3 hC, obs, hS.2.1, qle, qa1, e1, rc7 hC2, c_valueAt (cr_125 hC2) yk_125 h9 e3 hn hp, nI_1]
    rw [if_neg (by omega)]
    unfold frs
    by_cases hv : valO T (ap (100 + i) S) R n p = v
    · rw [if_pos hv]
      refine ⟨M2, ?_, hX2⟩
      simp [dW, hv]
    · rw [if_neg hv]
      obtain ⟨M3, g1, g2⟩ := ih (i + 1) fu M2 (by omega) (by omega) hX2
      refine ⟨M3, ?_, g2⟩
      rw [g1]
      simp [dW, hv]
theorem c_wt_L39 {M0 : Mem} (hC0 : CR M0.1 b b2) (hW : WF T N R) (hS0 : ShR M0 b T N R) (hL0 : LkR M0 114 S N) {n p : Nat} (hn : n < N) (hp : p < 4) {v : Int32} :
    ∀ (d i fu : Nat) (M : Mem), i + d = 4 * N → d < fu → Tx M0 M → ∃ M9, m_X7_wanted_L39 0 (nI n) (nI p) v fu M (nI i) = some (match frs (dW T S R n p v 0) d i with
      | some x => nI x
      | none => match frs (dW T S R n p v 100) R 0 with
        | some r => nI (100 + r)
        | none => -9, M9) ∧ Tx M0 M9 := by
  have h9 := hW.2.1
  have h8 := hW.2.2.2.1
  intro d
  induction d with
  | zero =>
    intro i fu M hi hf hX
    obtain ⟨fu, rfl⟩ : ∃ f, fu = f + 1 := ⟨fu - 1, by omega⟩
    have hC := CR_Tx hX hC0
    have hS := ShR_Tx hX (cr_sb hC0) h8 hS0
    rw [m_X7_wanted_L39]
    simp (disch := omega) only [rc3 hC, obs, hS.1, qmu, qle]
    rw [if_pos (by omega)]
    have := c_wt_L84 hC0 hW hS0 hL0 hn hp (v := v) R 0 FU M (by omega) (by unfold FU; omega) hX
    rw [show nI 0 = 0 from rfl] at this
    exact this
  | succ d ih =>
    intro i fu M hi hf hX
    obtain ⟨fu, rfl⟩ : ∃ f, fu = f + 1 := ⟨fu - 1, by omega⟩
    have hC := CR_Tx hX hC0
    have hS := ShR_Tx hX (cr_sb hC0) h8 hS0
    obtain ⟨M2, e1, e2, e3⟩ := c_tryOut hC hW hS (LkR_Tx hX hL0) (x := i) (Or.inl (by omega))
    have hX2 := Tx_trans hX e2
    have hC2 := CR_Tx hX2 hC0
    rw [m_X7_wanted_L39]
    simp (disch := omega) only [rc3 hC, obs, hS.1, qmu, qle, e1, rc7 hC2, c_valueAt (cr_125 hC2) yk_125 h9 e3 hn hp, nI_1]
    rw [if_neg (by omega), frs]
    by_cases hv : valO T (ap i S) R n p = v
    · rw [if_pos hv]
      refine ⟨M2, ?_, hX2⟩
      simp [dW, hv]
    · rw [if_neg hv]
      obtain ⟨M3, g1, g2⟩ := ih (i + 1) fu M2 (by omega) (by omega) hX2
      refine ⟨M3, ?_, g2⟩
      rw [g1]
      simp [dW, hv]
theorem c_wanted (hC : CR M.1 b b2) (hW : WF T N R) (hS : ShR M b T N R) (hL : LkR M 114 S N) {n p : Nat} (hn : n < N) (hp : p < 4) {v : Int32} : ∃ M9, m_X7_wanted_L39 0 (nI n) (nI p) v FU M 0 = some (wtd T S N R n p v, M9) ∧ Tx M M9 := by
  have h9 := hW.2.1
  exact c_wt_L39 hC hW hS hL hn hp (v := v) (4 * N) 0 FU M (by omega) (by unfold FU; omega) (Tx_refl M)
end CLS6
