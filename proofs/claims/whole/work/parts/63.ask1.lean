/-! ===== ask: the model's part ===== -/
def cN10 (x : Int32) : Nat := cntB 10 (fun i => bt x i)
theorem cN10_le (x : Int32) : cN10 x ≤ 10 := cntB_le _ 10
theorem ones10 : ∀ y, y < 1024 → m_X8_ones (nI y) = some (nI (cN10 (nI y))) := by decide +kernel
theorem bitc10 : ∀ y, y < 1024 → m_J6_bitCount_0f7a4 (nI y) = some (nI (cN10 (nI y))) := by decide +kernel
theorem add10 : ∀ n, n < 10 → ∀ y, y < 2 ^ n → nI y ||| ((1 : Int32) <<< (nI n &&& 31)) = nI (y + 2 ^ n) := by decide +kernel
theorem bs_nat (p : Nat → Bool) : ∀ n, n ≤ 10 → ∃ y, y < 2 ^ n ∧ bs n p = nI y := by
  intro n
  induction n with
  | zero => intro _; exact ⟨0, by decide, rfl⟩
  | succ n ih =>
    intro hn
    obtain ⟨y, h1, h2⟩ := ih (by omega)
    unfold bs
    by_cases hp : p n
    · rw [if_pos hp, h2, add10 n (by omega) y h1]
      exact ⟨y + 2 ^ n, by rw [Nat.pow_succ]; omega, rfl⟩
    · rw [if_neg hp]
      exact ⟨y, by rw [Nat.pow_succ]; omega, h2⟩
theorem small10 {x : Int32} (h : ∀ i, 10 ≤ i → i < 32 → bt x i = false) : ∃ y, y < 1024 ∧ x = nI y := by
  obtain ⟨y, h1, h2⟩ := bs_nat (fun i => bt x i) 10 (Nat.le_refl 10)
  refine ⟨y, h1, ?_⟩
  rw [← h2]
  apply b_ext
  intro i hi
  rw [b_bs (by omega) hi]
  by_cases h10 : i < 10
  · simp [h10]
  · rw [h i (by omega) hi]; simp [h10]
theorem ones_ok {x : Int32} (h : ∀ i, 10 ≤ i → i < 32 → bt x i = false) : m_X8_ones x = some (nI (cN10 x)) := by
  obtain ⟨y, h1, rfl⟩ := small10 h
  exact ones10 y h1
theorem bitc_ok {x : Int32} (h : ∀ i, 10 ≤ i → i < 32 → bt x i = false) : m_J6_bitCount_0f7a4 x = some (nI (cN10 x)) := by
  obtain ⟨y, h1, rfl⟩ := small10 h
  exact bitc10 y h1
/-- the values that the rules of U below r give at a place, as bits -/
def vset (T S : Nat → Int32) (R n p : Nat) (U : Nat → Bool) : Nat → Int32
  | 0 => 0
  | r + 1 => if U r then vset T S R n p U r ||| ((1 : Int32) <<< (nI (dig T (ap (100 + r) S) R n p) &&& 31)) else vset T S R n p U r
theorem vset_hi {T S : Nat → Int32} {N R n p : Nat} {U : Nat → Bool} (hW : WF T N R) (hp : p < 4) : ∀ r i, 10 ≤ i → i < 32 → bt (vset T S R n p U r) i = false := by
  intro r
  induction r with
  | zero => intro i _ _; exact b_0 i
  | succ r ih =>
    intro i h1 h2
    unfold vset
    have hd := (dig_ok (S := ap (100 + r) S) hW (n := n) hp).2
    by_cases hU : U r
    · rw [if_pos hU, bt_or1 _ (by omega) h2, ih i h1 h2]
      simp; omega
    · rw [if_neg hU]; exact ih i h1 h2
def askF (cnt : Nat → Nat) : Nat → Int32 × Nat
  | 0 => (-9, 0)
  | x + 1 => if cnt x ≤ (askF cnt x).2 then askF cnt x else (nI x, cnt x)
theorem askF_le {cnt : Nat → Nat} (h : ∀ x, cnt x ≤ 10) : ∀ x, (askF cnt x).2 ≤ 10 := by
  intro x
  induction x with
  | zero => simp [askF]
  | succ x ih =>
    unfold askF
    split
    · exact ih
    · exact h x
def aCnt (T S : Nat → Int32) (R : Nat) (U : Nat → Bool) (x : Nat) : Nat := cN10 (vset T S R (x / 4) (x % 4) U R)
def askV (T S : Nat → Int32) (N R : Nat) (U : Nat → Bool) : Int32 := if cntB R U ≤ 1 then -9 else (askF (aCnt T S R U) (4 * N)).1
section ASK1
variable {M : Mem} {N R : Nat}
theorem bs_hi {n : Nat} {p : Nat → Bool} (hn : n ≤ 10) : ∀ i, 10 ≤ i → i < 32 → bt (bs n p) i = false := by
  intro i h1 h2
  rw [b_bs (by omega) h2]
  have : ¬ i < n := by omega
  simp [this]
theorem cN10_bs {p : Nat → Bool} : ∀ {n : Nat}, n ≤ 10 → cN10 (bs n p) = cntB n p := by
  intro n hn
  have key : ∀ k, k ≤ 10 → cntB k (fun i => bt (bs n p) i) = cntB (min k n) p := by
    intro k
    induction k with
    | zero => intro _; simp [cntB]
    | succ k ih =>
      intro hk
      show cntB k (fun i => bt (bs n p) i) + (if bt (bs n p) k = true then 1 else 0) = cntB (min (k + 1) n) p
      rw [ih (by omega), b_bs (by omega) (by omega)]
      by_cases hkn : k < n
      · rw [Nat.min_eq_left (by omega), Nat.min_eq_left (by omega)]
        show _ = cntB k p + if p k = true then 1 else 0
        simp [hkn]
      · rw [Nat.min_eq_right (by omega), Nat.min_eq_right (by omega)]
        simp [hkn]
  unfold cN10
  rw [key 10 (Nat.le_refl 10), Nat.min_eq_right hn]
theorem ask_L45 {M0 : Mem} (hM0 : MR M0.1) (hW0 : WF (M0.2 146) N R) {U : Nat → Bool} {x : Nat} (hx : x < 4 * N) {k18 : Mem → Int32 → Int32 → Int32 → Int32 → Option (Int32 × Mem)} {x2 : Int32} {x3 : Nat} (h3 : x3 ≤ 10) :
    ∀ (d i fu : Nat) (M : Mem), i + d = R → d < fu → SX M0 M → ∃ M9, m_X8_ask_L45 144 k18 fu M (bs R U) x2 (nI x3) (nI x) (vset (M0.2 146) (M0.2 149) R (x / 4) (x % 4) U i) (nI i) = (if aCnt (M0.2 146) (M0.2 149) R U x ≤ x3 then k18 M9 (bs R U) x2 (nI x3) (nI (x + 1)) else k18 M9 (bs R U) (nI x) (nI (aCnt (M0.2 146) (M0.2 149) R U x)) (nI (x + 1))) ∧ SX M0 M9 := by
  have h8 := hW0.2.2.2.1
  have h9 := hW0.2.1
  intro d
  induction d with
  | zero =>
    intro i fu M hi hf hX
    obtain ⟨fu, rfl⟩ : ∃ f, fu = f + 1 := ⟨fu - 1, by omega⟩
    have hM := MR_SX hX hM0
    have hW := WF_SX hX hW0
    have hiR : i = R := by omega
    subst hiR
    have hc := cN10_le (vset (M0.2 146) (M0.2 149) i (x / 4) (x % 4) U i)
    have ho := ones_ok (vset_hi (S := M0.2 149) (n := x / 4) (U := U) hW0 (show x % 4 < 4 by omega) i)
    refine ⟨M, ?_, hX⟩
    rw [m_X8_ask_L45]
    unfold m_X8_ask_L111 aCnt
    simp (disch := omega) only [rm8 hM, obs, ra_146o, hW.2.2.1, qle, ho, nI_1]
    rw [if_pos (by omega)]
    by_cases hle : cN10 (vset (M0.2 146) (M0.2 149) i (x / 4) (x % 4) U i) ≤ x3
    · rw [if_pos hle, if_pos hle]
      simp only [hle, if_true]
    · rw [if_neg hle, if_neg hle]
      simp only [hle, if_false]
  | succ d ih =>
    intro i fu M hi hf hX
    obtain ⟨fu, rfl⟩ : ∃ f, fu = f + 1 := ⟨fu - 1, by omega⟩
    have hM := MR_SX hX hM0
    have hW := WF_SX hX hW0
    have hr := r4 x (by omega)
    rw [d4 x (by omega)] at hr
    have hbit : bt (bs R U) i = U i := by rw [b_bs (by omega) (by omega)]; simp [show i < R by omega]
    have st : vset (M0.2 146) (M0.2 149) R (x / 4) (x % 4) U (i + 1) = if U i then vset (M0.2 146) (M0.2 149) R (x / 4) (x % 4) U i ||| ((1 : Int32) <<< (nI (dig (M0.2 146) (ap (100 + i) (M0.2 149)) R (x / 4) (x % 4)) &&& 31)) else vset (M0.2 146) (M0.2 149) R (x / 4) (x % 4) U i := rfl
    rw [m_X8_ask_L45]
    simp (disch := omega) only [rm8 hM, obs, ra_146o, hW.2.2.1, qle, hb8, qor0, nI_1, nz4, d4, hr]
    rw [if_neg (by omega)]
    by_cases hU : U i = true
    · obtain ⟨M1, f1, f2⟩ := m_valueBy hM hW (show i < R by omega) (show x / 4 < N by omega) (show x % 4 < 4 by omega)
      rw [sx_146 hX, sx_149 hX] at f1
      have hX1 := SX_trans hX f2
      have hd := (dig_ok (S := ap (100 + i) (M0.2 149)) hW0 (n := x / 4) (p := x % 4) (by omega)).1
      rw [hd] at f1
      rw [if_neg (by rw [hb_0, hbit, hU]; simp), f1, b2s]
      have next := ih (i + 1) fu M1 (by omega) (by omega) hX1
      rw [st, if_pos hU] at next
      exact next
    · rw [if_pos (by rw [hb_0, hbit]; simpa using hU)]
      have next := ih (i + 1) fu M (by omega) (by omega) hX
      rw [st, if_neg hU] at next
      exact next
theorem ask_L18 {M0 : Mem} (hM0 : MR M0.1) (hW0 : WF (M0.2 146) N R) {U : Nat → Bool} (h2 : 1 < cntB R U) :
    ∀ (d x fu : Nat) (M : Mem), x + d = 4 * N → d < fu → SX M0 M → ∃ M9, m_X8_ask_L18 144 fu M (bs R U) (askF (aCnt (M0.2 146) (M0.2 149) R U) x).1 (nI (askF (aCnt (M0.2 146) (M0.2 149) R U) x).2) (nI x) = some ((askF (aCnt (M0.2 146) (M0.2 149) R U) (4 * N)).1, M9) ∧ SX M0 M9 := by
  have h8 := hW0.2.2.2.1
  have h9 := hW0.2.1
  intro d
  induction d with
  | zero =>
    intro x fu M hi hf hX
    obtain ⟨fu, rfl⟩ : ∃ f, fu = f + 1 := ⟨fu - 1, by omega⟩
    have hM := MR_SX hX hM0
    have hW := WF_SX hX hW0
    refine ⟨M, ?_, hX⟩
    rw [m_X8_ask_L18]
    simp (disch := omega) only [rm8 hM, obs, ra_146z, hW.1, qmu, qle]
    rw [if_pos (by omega), show x = 4 * N by omega]
  | succ d ih =>
    intro x fu M hi hf hX
    obtain ⟨fu, rfl⟩ : ∃ f, fu = f + 1 := ⟨fu - 1, by omega⟩
    have hM := MR_SX hX hM0
    have hW := WF_SX hX hW0
    have hU := cntB_le U R
    have ho : m_X8_ones (bs R U) = some (nI (cntB R U)) := by
      rw [ones_ok (bs_hi (by omega)), cN10_bs (by omega)]
    rw [m_X8_ask_L18]
    simp (disch := omega) only [rm8 hM, obs, ra_146z, hW.1, qmu, qle, ho, qle_1]
    rw [if_neg (by omega), if_neg (by omega)]
    obtain ⟨M1, e1, e2⟩ := ask_L45 hM0 hW0 (U := U) (x := x) (by omega) (k18 := fun z0 z1 z2 z3 z4 => m_X8_ask_L18 144 fu z0 z1 z2 z3 z4) (x2 := (askF (aCnt (M0.2 146) (M0.2 149) R U) x).1) (askF_le (cnt := aCnt (M0.2 146) (M0.2 149) R U) (fun x => cN10_le _) x) R 0 FU M (by omega) (by unfold FU; omega) hX
    rw [show vset (M0.2 146) (M0.2 149) R (x / 4) (x % 4) U 0 = 0 from rfl, show nI 0 = 0 from rfl] at e1
    rw [e1]
    have next := ih (x + 1) fu M1 (by omega) (by omega) e2
    have st : askF (aCnt (M0.2 146) (M0.2 149) R U) (x + 1) = if aCnt (M0.2 146) (M0.2 149) R U x ≤ (askF (aCnt (M0.2 146) (M0.2 149) R U) x).2 then askF (aCnt (M0.2 146) (M0.2 149) R U) x else (nI x, aCnt (M0.2 146) (M0.2 149) R U x) := rfl
    rw [st] at next
    by_cases hle : aCnt (M0.2 146) (M0.2 149) R U x ≤ (askF (aCnt (M0.2 146) (M0.2 149) R U) x).2
    · rw [if_pos hle] at next ⊢
      exact next
    · rw [if_neg hle] at next ⊢
      exact next
/-- the model's answer -/
theorem m_ask {m : Nat} {sn sp : Nat → Nat} {sv : Nat → Int32} (hM : MR M.1) (hW : WF (M.2 146) N R) (hs : SeM M N m sn sp sv) : ∃ M9, m_X8_ask M 144 = some (askV (M.2 146) (M.2 149) N R (uns (M.2 146) (M.2 149) R sn sp sv m), M9) ∧ SX M M9 := by
  have h8 := hW.2.2.2.1
  have h9 := hW.2.1
  have hz := SX_z M 0
  obtain ⟨M1, e1, e2⟩ := m_unseenSet (MR_SX hz hM) (WF_SX hz hW) (SeM_SX hz hs)
  have hX1 := SX_trans hz e2
  rw [sx_146 hz, sx_149 hz] at e1
  unfold m_X8_ask askV
  rw [pIs, e1, b2s]
  by_cases hc : cntB R (uns (M.2 146) (M.2 149) R sn sp sv m) ≤ 1
  · rw [if_pos hc]
    refine ⟨M1, ?_, hX1⟩
    have hM1 := MR_SX hX1 hM
    have hW1 := WF_SX hX1 hW
    have ho : m_X8_ones (bs R (uns (M.2 146) (M.2 149) R sn sp sv m)) = some (nI (cntB R (uns (M.2 146) (M.2 149) R sn sp sv m))) := by
      rw [ones_ok (bs_hi (by omega)), cN10_bs (by omega)]
    rw [FU1, m_X8_ask_L18]
    simp (disch := omega) only [rm8 hM1, obs, ra_146z, hW1.1, qmu, qle_0, ho, qle_1]
    by_cases hN : 4 * N = 0
    · rw [if_pos hN]
    · rw [if_neg hN, if_pos hc]
  · rw [if_neg hc]
    obtain ⟨M2, f1, f2⟩ := ask_L18 (MR_SX hX1 hM) (WF_SX hX1 hW) (U := uns (M.2 146) (M.2 149) R sn sp sv m) (by omega) (4 * N) 0 FU M1 (by omega) (by unfold FU; omega) (SX_refl M1)
    rw [sx_146 hX1, sx_149 hX1] at f1
    exact ⟨M2, f1, SX_trans hX1 f2⟩
end ASK1
