/-! ===== the model: different, wanted ===== -/
theorem ra_149c {M : Mem} {x : Nat} (hx : x < 36) : ra M 149 (nI (9 + x / 4)) = some (M.2 149 (9 + x / 4)) := ra_149 (by omega)
theorem wa_149c {M : Mem} {x : Nat} {v : Int32} (hx : x < 36) : wa M 149 (nI (9 + x / 4)) v = some (wI M 149 (9 + x / 4) v) := wa_149 (by omega)
def acc (D : Nat → Bool) : Nat → Nat → Bool
  | 0, _ => false
  | x + 1, n => acc D x n || (D x && decide (n = x / 4))
theorem acc_iff {D : Nat → Bool} {n : Nat} : ∀ x, acc D x n = true ↔ ∃ q, q < x ∧ D q = true ∧ n = q / 4 := by
  intro x
  induction x with
  | zero => simp [acc]
  | succ x ih =>
    unfold acc
    rw [Bool.or_eq_true, ih, Bool.and_eq_true, decide_eq_true_eq]
    constructor
    · rintro (⟨q, h1, h2, h3⟩ | ⟨h1, h2⟩)
      · exact ⟨q, by omega, h2, h3⟩
      · exact ⟨x, by omega, h1, h2⟩
    · rintro ⟨q, h1, h2, h3⟩
      by_cases h : q = x
      · subst h; exact Or.inr ⟨h2, h3⟩
      · exact Or.inl ⟨q, by omega, h2, h3⟩
section MODEL7
variable {M : Mem} {N R : Nat}
def DD (T S S2 : Nat → Int32) (R x : Nat) : Bool := !decide (valO T S2 R (x / 4) (x % 4) = valO T S R (x / 4) (x % 4))
theorem acc_df {T S S2 : Nat → Int32} (hW : WF T N R) {n : Nat} (hn : n < N) : acc (DD T S S2 R) (4 * N) n = dfB T S S2 R n := by
  have key : acc (DD T S S2 R) (4 * N) n = true ↔ dfB T S S2 R n = true := by
    rw [acc_iff]
    unfold dfB
    rw [Bool.not_eq_true', decide_eq_false_iff_not, sty_like hW hW]
    constructor
    · rintro ⟨q, h1, h2, h3⟩ ⟨a0, a1, a2, a3⟩
      unfold DD at h2
      rw [Bool.not_eq_true', decide_eq_false_iff_not, ← h3] at h2
      apply h2
      rcases (show q % 4 = 0 ∨ q % 4 = 1 ∨ q % 4 = 2 ∨ q % 4 = 3 by omega) with h | h | h | h
      · rw [h]; exact a0.symm
      · rw [h]; exact a1.symm
      · rw [h]; exact a2.symm
      · rw [h]; exact a3.symm
    · intro h
      have pick : ∀ p, p < 4 → valO T S R n p ≠ valO T S2 R n p → ∃ q, q < 4 * N ∧ DD T S S2 R q = true ∧ n = q / 4 := by
        intro p hp hv
        refine ⟨4 * n + p, by omega, ?_, by omega⟩
        unfold DD
        rw [show (4 * n + p) / 4 = n by omega, show (4 * n + p) % 4 = p by omega]
        simp [Ne.symm hv]
      by_cases v0 : valO T S R n 0 = valO T S2 R n 0
      · by_cases v1 : valO T S R n 1 = valO T S2 R n 1
        · by_cases v2 : valO T S R n 2 = valO T S2 R n 2
          · by_cases v3 : valO T S R n 3 = valO T S2 R n 3
            · exact absurd ⟨v0, v1, v2, v3⟩ h
            · exact pick 3 (by omega) v3
          · exact pick 2 (by omega) v2
        · exact pick 1 (by omega) v1
      · exact pick 0 (by omega) v0
  cases h1 : acc (DD T S S2 R) (4 * N) n <;> cases h2 : dfB T S S2 R n <;> simp_all
theorem df_L64 (hM : MR M.1) (hW : WF (M.2 146) N R) (hF : FLD M N R) {S0 : Nat → Int32} {x : Nat} (hx : x < 4 * N) (hwas : ∀ q, q < 4 * N → M.2 156 q = valO (M.2 146) S0 R (q / 4) (q % 4)) :
    ∀ (d i fu : Nat), i + d = 4 * N → d < fu → m_X8_different_L64 144 (nI (x / 4)) (nI (x % 4)) fu M (bs N (acc (DD (M.2 146) S0 (M.2 149) R) i)) (nI i) = some (bs N (acc (DD (M.2 146) S0 (M.2 149) R) (4 * N)), wI M 149 (9 + x / 4) (M.2 149 (9 + x / 4) ^^^ ((1 : Int32) <<< (nI (x % 4) &&& 31)))) := by
  have h9 := hW.2.1
  intro d
  induction d with
  | zero =>
    intro i fu hi hf
    obtain ⟨fu, rfl⟩ : ∃ f, fu = f + 1 := ⟨fu - 1, by omega⟩
    unfold m_X8_different_L64
    simp (disch := omega) only [rm8 hM, rm11 hM, obs, ra_146z, hW.1, qmu, qle, qa1, ra_149c, wa_149c]
    rw [if_pos (by omega), show i = 4 * N by omega]
  | succ d ih =>
    intro i fu hi hf
    obtain ⟨fu, rfl⟩ : ∃ f, fu = f + 1 := ⟨fu - 1, by omega⟩
    have next := ih (i + 1) fu (by omega) (by omega)
    have hr := r4 i (by omega)
    rw [d4 i (by omega)] at hr
    unfold m_X8_different_L64
    simp (disch := omega) only [rm8 hM, rm20 hM, obs, ra_146z, hW.1, qmu, qle, nz4, d4, hr, m_valueOf hM hW hF, ra_156, qor0, nI_1]
    rw [if_neg (by omega), hwas i (by omega)]
    by_cases hv : valO (M.2 146) (M.2 149) R (i / 4) (i % 4) = valO (M.2 146) S0 R (i / 4) (i % 4)
    · rw [if_pos hv]
      have e : bs N (acc (DD (M.2 146) S0 (M.2 149) R) i) = bs N (acc (DD (M.2 146) S0 (M.2 149) R) (i + 1)) := bs_ext (fun n hn => by simp [acc, DD, hv])
      rw [e]
      exact next
    · rw [if_neg hv, bs_one (n := N) (by omega) (show i / 4 < N by omega), bs_or (by omega)]
      have e : bs N (fun n => acc (DD (M.2 146) S0 (M.2 149) R) i n || decide (n = i / 4)) = bs N (acc (DD (M.2 146) S0 (M.2 149) R) (i + 1)) := bs_ext (fun n hn => by simp [acc, DD, hv])
      rw [e]
      exact next
theorem df_L6 {M0 : Mem} (hM0 : MR M0.1) (hW0 : WF (M0.2 146) N R) (hF0 : FLD M0 N R) {x : Nat} (hx : x < 4 * N) :
    ∀ (d i fu : Nat) (M : Mem), i + d = 4 * N → d < fu → M.1 = M0.1 → (∀ k, k ≠ 156 → M.2 k = M0.2 k) → (∀ q, q < i → M.2 156 q = valO (M0.2 146) (M0.2 149) R (q / 4) (q % 4)) → ∃ M9, m_X8_different_L6 144 (nI (x / 4)) (nI (x % 4)) fu M (nI i) = some (bs N (dfB (M0.2 146) (M0.2 149) (ap x (M0.2 149)) R), M9) ∧ SX M0 M9 := by
  have h9 := hW0.2.1
  have h8 := hW0.2.2.2.1
  intro d
  induction d with
  | zero =>
    intro i fu M hi hf h1 h2 h3
    obtain ⟨fu, rfl⟩ : ∃ f, fu = f + 1 := ⟨fu - 1, by omega⟩
    have hM : MR M.1 := by rw [h1]; exact hM0
    have t1 := h2 146 (by omega)
    have hW : WF (M.2 146) N R := by rw [t1]; exact hW0
    unfold m_X8_different_L6
    simp (disch := omega) only [rm8 hM, rm11 hM, obs, ra_146z, hW.1, qmu, qle, qa1, ra_149c, wa_149c]
    rw [if_pos (by omega)]
    have s1 := w_cls (M := M) (x := x) (by omega)
    have hW1 : WF ((wI M 149 (9 + x / 4) (M.2 149 (9 + x / 4) ^^^ ((1 : Int32) <<< (nI (x % 4) &&& 31)))).2 146) N R := by rw [wI2n (by omega)]; exact hW
    obtain ⟨M2, e1, e2, e3, e4⟩ := m_fills (M := wI M 149 (9 + x / 4) (M.2 149 (9 + x / 4) ^^^ ((1 : Int32) <<< (nI (x % 4) &&& 31)))) hM hW1
    rw [e1, obs]
    have hM2 : MR M2.1 := by rw [e2]; exact hM
    have t2 : M2.2 146 = M0.2 146 := by rw [e3 146 (by omega), wI2n (by omega), t1]
    have s2 : M2.2 149 = ap x (M0.2 149) := by rw [e3 149 (by omega), s1, h2 149 (by omega)]
    have hW2 : WF (M2.2 146) N R := by rw [t2]; exact hW0
    have hF2 : FLD M2 N R := by
      intro j hj
      rw [e4 j hj, e3 146 (by omega), e3 149 (by omega)]
    have hL := df_L64 hM2 hW2 hF2 (S0 := M0.2 149) hx (fun q hq => by rw [e3 156 (by omega), wI2n (by omega), h3 q (by omega), t2]) (4 * N) 0 FU (by omega) (by unfold FU; omega)
    rw [show bs N (acc (DD (M2.2 146) (M0.2 149) (M2.2 149) R) 0) = 0 from bs_f0 N, show nI 0 = 0 from rfl] at hL
    rw [hL, t2, s2, bs_ext (fun n hn => acc_df hW0 hn)]
    refine ⟨_, rfl, ?_⟩
    refine ⟨by rw [wI1, e2]; exact h1, fun j a1 a2 a3 a4 a5 a6 a7 a8 => ?_, fun j hj => ?_⟩
    · by_cases h9 : j = 149
      · subst h9
        have hz := w_cls (M := M2) (x := x) (by omega)
        rw [s2] at hz
        rw [hz, ap_ap (by omega)]
      · rw [wI2n h9, e3 j a8, wI2n h9, h2 j a7]
    · rw [wI2n (by omega), e3 144 (by omega), wI2n (by omega), h2 144 (by omega)]
  | succ d ih =>
    intro i fu M hi hf h1 h2 h3
    obtain ⟨fu, rfl⟩ : ∃ f, fu = f + 1 := ⟨fu - 1, by omega⟩
    have hM : MR M.1 := by rw [h1]; exact hM0
    have t1 := h2 146 (by omega)
    have hW : WF (M.2 146) N R := by rw [t1]; exact hW0
    have hF : FLD M N R := by
      intro j hj
      rw [h2 157 (by omega), t1, h2 149 (by omega)]
      exact hF0 j hj
    have hr := r4 i (by omega)
    rw [d4 i (by omega)] at hr
    unfold m_X8_different_L6
    simp (disch := omega) only [rm8 hM, rm20 hM, obs, ra_146z, hW.1, qmu, qle, nz4, d4, hr, m_valueOf hM hW hF, wa_156, nI_1]
    rw [if_neg (by omega)]
    refine ih (i + 1) fu _ (by omega) (by omega) h1 (fun k hk => by rw [wI2n hk]; exact h2 k hk) (fun q hq => ?_)
    rw [wI2, if_pos rfl]
    by_cases hqi : q = i
    · rw [if_pos hqi, hqi, t1, h2 149 (by omega)]
    · rw [if_neg hqi]; exact h3 q (by omega)
theorem m_different (hM : MR M.1) (hW : WF (M.2 146) N R) {n c : Nat} (hn : n < N) (hc : c < 4) : ∃ M9, m_X8_different M 144 (nI n) (nI c) = some (bs N (dfB (M.2 146) (M.2 149) (ap (4 * n + c) (M.2 149)) R), M9) ∧ SX M M9 := by
  have h9 := hW.2.1
  unfold m_X8_different
  obtain ⟨M2, e1, e2, e3, e4⟩ := m_fills hM hW
  rw [e1, obs]
  have hM2 : MR M2.1 := by rw [e2]; exact hM
  have t2 : M2.2 146 = M.2 146 := e3 146 (by omega)
  have s2 : M2.2 149 = M.2 149 := e3 149 (by omega)
  have hW2 : WF (M2.2 146) N R := by rw [t2]; exact hW
  have hF2 : FLD M2 N R := by
    intro j hj
    rw [e4 j hj, t2, s2]
  obtain ⟨M3, f1, f2⟩ := df_L6 hM2 hW2 hF2 (x := 4 * n + c) (by omega) (4 * N) 0 FU M2 (by omega) (by unfold FU; omega) rfl (fun _ _ => rfl) (fun q hq => by omega)
  rw [show (4 * n + c) / 4 = n by omega, show (4 * n + c) % 4 = c by omega, show nI 0 = 0 from rfl, t2, s2] at f1
  exact ⟨M3, f1, SX_trans (SX_157 e2 e3) f2⟩
/-! wanted -/
def frs (D : Nat → Bool) : Nat → Nat → Option Nat
  | 0, _ => none
  | d + 1, x => if D x then some x else frs D d (x + 1)
theorem frs_lt {D : Nat → Bool} : ∀ {d x q : Nat}, frs D d x = some q → q < x + d := by
  intro d
  induction d with
  | zero => intro x q h; simp [frs] at h
  | succ d ih =>
    intro x q h
    unfold frs at h
    split at h
    · cases h; omega
    · have := ih h; omega
def dW (T S : Nat → Int32) (R n p : Nat) (v : Int32) (o x : Nat) : Bool := decide (valO T (ap (o + x) S) R n p = v)
/-- what wanted answers when the value isn't there yet -/
def wtd (T S : Nat → Int32) (N R n p : Nat) (v : Int32) : Int32 := match frs (dW T S R n p v 0) (4 * N) 0 with
  | some x => nI x
  | none => match frs (dW T S R n p v 100) R 0 with
    | some r => nI (100 + r)
    | none => -9
theorem wt_L144a {M0 : Mem} (hM0 : MR M0.1) (hW0 : WF (M0.2 146) N R) {x1 x2 x3 x4 : Int32} (hX : SX M0 M) (h4 : x4 ≠ -9) {i fu : Nat} : m_X8_wanted_L144 144 x1 x2 x3 (fu + 1) M x4 (nI i) = some (x4, M) := by
  have hM := MR_SX hX hM0
  unfold m_X8_wanted_L144
  simp only [rm8 hM, obs, ra_146o]
  rw [if_neg h4]
  split <;> rfl
theorem wt_L144 {M0 : Mem} (hM0 : MR M0.1) (hW0 : WF (M0.2 146) N R) {n p : Nat} (hn : n < N) (hp : p < 4) {v : Int32} :
    ∀ (d i fu : Nat) (M : Mem), i + d = R → d + 1 < fu → SX M0 M → ∃ M9, m_X8_wanted_L144 144 (nI n) (nI p) v fu M (-9) (nI i) = some (match frs (dW (M0.2 146) (M0.2 149) R n p v 100) d i with
      | some r => nI (100 + r)
      | none => -9, M9) ∧ SX M0 M9 := by
  have h8 := hW0.2.2.2.1
  intro d
  induction d with
  | zero =>
    intro i fu M hi hf hX
    obtain ⟨fu, rfl⟩ : ∃ f, fu = f + 1 := ⟨fu - 1, by omega⟩
    refine ⟨M, ?_, hX⟩
    have hM := MR_SX hX hM0
    have hW := WF_SX hX hW0
    unfold m_X8_wanted_L144 frs
    simp (disch := omega) only [rm8 hM, obs, ra_146o, hW.2.2.1, qle]
    rw [if_pos (by omega)]
  | succ d ih =>
    intro i fu M hi hf hX
    obtain ⟨fu, rfl⟩ : ∃ f, fu = f + 1 := ⟨fu - 1, by omega⟩
    obtain ⟨fu, rfl⟩ : ∃ f, fu = f + 1 := ⟨fu - 1, by omega⟩
    have hM := MR_SX hX hM0
    have hW := WF_SX hX hW0
    obtain ⟨M1, f1, f2⟩ := m_valueBy hM hW (show i < R by omega) hn hp
    rw [sx_146 hX, sx_149 hX] at f1
    have hX1 := SX_trans hX f2
    rw [m_X8_wanted_L144]
    simp (disch := omega) only [rm8 hM, obs, ra_146o, hW.2.2.1, qle, if_true, f1, b2s, nI_1, qa1]
    rw [if_neg (by omega)]
    unfold frs
    by_cases hv : valO (M0.2 146) (ap (100 + i) (M0.2 149)) R n p = v
    · rw [if_pos hv, wt_L144a hM0 hW0 hX1 (qm9 (by omega))]
      refine ⟨M1, ?_, hX1⟩
      simp [dW, hv]
    · rw [if_neg hv]
      obtain ⟨M2, g1, g2⟩ := ih (i + 1) (fu + 1) M1 (by omega) (by omega) hX1
      refine ⟨M2, ?_, g2⟩
      rw [g1]
      simp [dW, hv]
theorem wt_L65 {M0 : Mem} (hM0 : MR M0.1) (hW0 : WF (M0.2 146) N R) {n p : Nat} (hn : n < N) (hp : p < 4) {v : Int32} :
    ∀ (i d fu : Nat) (M : Mem), i + d = 4 * N → i < fu → SX M0 M → ∃ M9, m_X8_wanted_L65 144 (nI n) (nI p) v fu M (enc (frs (dW (M0.2 146) (M0.2 149) R n p v 0) d i)) (nI i - 1) = some (wtd (M0.2 146) (M0.2 149) N R n p v, M9) ∧ SX M0 M9 := by
  have h8 := hW0.2.2.2.1
  have h9 := hW0.2.1
  intro i
  induction i with
  | zero =>
    intro d fu M hi hf hX
    obtain ⟨fu, rfl⟩ : ∃ f, fu = f + 1 := ⟨fu - 1, by omega⟩
    have hd : d = 4 * N := by omega
    subst hd
    unfold m_X8_wanted_L65
    rw [if_pos (by decide)]
    unfold wtd
    cases hq : frs (dW (M0.2 146) (M0.2 149) R n p v 0) (4 * N) 0 with
    | some x =>
      have := frs_lt hq
      rw [encS, FU1]
      have := wt_L144a hM0 hW0 (x1 := nI n) (x2 := nI p) (x3 := v) hX (qm9 (show x < 2 ^ 31 by omega)) (i := 0) (fu := 999)
      rw [show nI 0 = 0 from rfl] at this
      rw [this]
      exact ⟨M, rfl, hX⟩
    | none =>
      rw [encN]
      have := wt_L144 hM0 hW0 hn hp (v := v) R 0 FU M (by omega) (by unfold FU; omega) hX
      rw [show nI 0 = 0 from rfl] at this
      exact this
  | succ i ih =>
    intro d fu M hi hf hX
    obtain ⟨fu, rfl⟩ : ∃ f, fu = f + 1 := ⟨fu - 1, by omega⟩
    have hM := MR_SX hX hM0
    have hW := WF_SX hX hW0
    have hr := r4 i (by omega)
    rw [d4 i (by omega)] at hr
    have pr : nI (i + 1) - 1 = nI i := by rw [qs_1 (by omega)]; rfl
    have pr2 : nI i + (-1) = nI i - 1 := by
      have : ∀ i, i < 40 → nI i + (-1) = nI i - 1 := by decide +kernel
      exact this i (by omega)
    unfold m_X8_wanted_L65
    rw [pr, if_neg (qneg (by omega))]
    simp (disch := omega) only [rm11 hM, obs, nz4, d4, hr, qa1, ra_149c, wa_149c]
    have s1 := w_cls (M := M) (x := i) (by omega)
    have hW1 : WF ((wI M 149 (9 + i / 4) (M.2 149 (9 + i / 4) ^^^ ((1 : Int32) <<< (nI (i % 4) &&& 31)))).2 146) N R := by rw [wI2n (by omega)]; exact hW
    obtain ⟨M2, e1, e2, e3, e4⟩ := m_fills (M := wI M 149 (9 + i / 4) (M.2 149 (9 + i / 4) ^^^ ((1 : Int32) <<< (nI (i % 4) &&& 31)))) hM hW1
    have hM2 : MR M2.1 := by rw [e2]; exact hM
    have t2 : M2.2 146 = M0.2 146 := by rw [e3 146 (by omega), wI2n (by omega), sx_146 hX]
    have s2 : M2.2 149 = ap i (M0.2 149) := by rw [e3 149 (by omega), s1, sx_149 hX]
    have hW2 : WF (M2.2 146) N R := by rw [t2]; exact hW0
    have hF2 : FLD M2 N R := by
      intro j hj
      rw [e4 j hj, e3 146 (by omega), e3 149 (by omega)]
    rw [e1, obs, m_valueOf hM2 hW2 hF2 hn hp, obs, t2, s2]
    have hX9 : SX M0 (wI M2 149 (9 + i / 4) (M2.2 149 (9 + i / 4) ^^^ ((1 : Int32) <<< (nI (i % 4) &&& 31)))) := by
      refine SX_trans hX (SX_turn (SX_157 e2 e3) (fun j hj => ?_) ?_ rfl (fun k hk => wI2n hk))
      · rw [wI2, if_pos rfl, if_neg hj]
      · rw [wI2, if_pos rfl, if_pos rfl, e3 149 (by omega), wI2, if_pos rfl, if_pos rfl, xor_xor32]
    have out : ∀ s0 : Int32, s0 = enc (frs (dW (M0.2 146) (M0.2 149) R n p v 0) (d + 1) i) → ∃ M9, m_X8_wanted_L112 144 (nI n) (nI p) v (fun z0 z1 z2 => m_X8_wanted_L65 144 (nI n) (nI p) v fu z0 z1 z2) M2 (nI i) s0 = some (wtd (M0.2 146) (M0.2 149) N R n p v, M9) ∧ SX M0 M9 := by
      intro s0 hs
      unfold m_X8_wanted_L112
      simp (disch := omega) only [rm11 hM2, obs, nz4, d4, hr, qa1, ra_149c, wa_149c]
      rw [hs, pr2]
      exact ih (d + 1) fu _ (by omega) (by omega) hX9
    by_cases hv : valO (M0.2 146) (ap i (M0.2 149)) R n p = v
    · rw [if_pos hv]
      refine out _ ?_
      unfold frs
      rw [if_pos (by simp [dW, hv]), encS]
    · rw [if_neg hv]
      refine out _ ?_
      conv => rhs; unfold frs
      rw [if_neg (by simp [dW, hv])]
end MODEL7
