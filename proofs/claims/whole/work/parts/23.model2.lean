theorem ra_146t {M : Mem} : ra M 146 2 = some (M.2 146 2) := ra_146 (k := 2) (by omega)
theorem ra_149e {M : Mem} : ra M 149 18 = some (M.2 149 18) := ra_149 (k := 18) (by omega)
section MODEL2
variable {M : Mem} {N R : Nat}
/-- what the c-th turn makes of the set P before it -/
def nextM (T S : Nat → Int32) (r c : Nat) (P : Nat → Bool) (n : Nat) : Bool := (if c = 0 then true else (cand T r c n).any P) && fitB T S (3 * r + c) n
theorem mt_L38 (hM : MR M.1) (hW : WF (M.2 146) N R) {r c n : Nat} (hr : r < 8) (hc : c < 3) (hn : n < N) {k5 : Int32 → Int32 → Option Int32} {k17 : Int32 → Int32 → Int32 → Int32 → Option Int32} {P : Nat → Bool} {x2 x5 : Int32} :
    m_X8_matching_L38 M 144 (nI r) x2 k5 k17 (bs N P) (nI c) x5 (nI n) (bi (decide (c = 0))) = if nextM (M.2 146) (M.2 149) r c P n then k17 (bs N P) (nI c) (x5 ||| ((1 : Int32) <<< (nI n &&& 31))) (nI n + 1) else k17 (bs N P) (nI c) x5 (nI n + 1) := by
  have h9 := hW.2.1
  unfold m_X8_matching_L38
  simp (disch := omega) only [qeq_0, rm8 hM, obs, qa1, ra_146]
  by_cases h0 : c = 0
  · subst h0
    simp only [if_true, decide_true]
    rw [FU1, mt_out hM hr hc (by omega)]
    simp only [exM, nextM, if_true, Bool.true_and, qor0]
  · rw [if_neg h0, (pa_ok hW hn).1]
    have hd : decide (c = 0) = false := by simp [h0]
    rw [hd]
    unfold nextM cand
    rw [if_neg h0]
    cases hp : pa (M.2 146) n with
    | none =>
      show m_X8_matching_L61 M 144 (nI r) x2 k5 k17 FU (bs N P) (nI c) x5 (nI n) (bi false) (-9) = _
      rw [FU1, mt_out hM hr hc (by omega), AN_eq hW hn, hp]
      simp [exM, qor0]
    | some q =>
      have hq := (pa_ok hW hn).2 q hp
      show m_X8_matching_L61 M 144 (nI r) x2 k5 k17 FU (bs N P) (nI c) x5 (nI n) (bi false) (nI q) = _
      rw [mt_in hM hW hr hc (by omega) q FU (by omega) (by unfold FU; omega) false, AN_eq hW hn, hp]
      simp only [exM, qor0, Bool.false_or]
      by_cases hg : M.2 146 (68 + 3 * r + c) = 62
      · simp [hg]
      · simp [hg]
theorem mt_L17 (hM : MR M.1) (hW : WF (M.2 146) N R) {r c : Nat} (hr : r < 8) (hc : c < 3) {k5 : Int32 → Int32 → Option Int32} {P : Nat → Bool} {x2 : Int32} :
    ∀ (d i fu : Nat), i + d = N → d < fu → m_X8_matching_L17 M 144 (nI r) x2 k5 fu (bs N P) (nI c) (bs i (nextM (M.2 146) (M.2 149) r c P)) (nI i) = k5 (bs N (nextM (M.2 146) (M.2 149) r c P)) (nI c + 1) := by
  have h9 := hW.2.1
  intro d
  induction d with
  | zero =>
    intro i fu hi hf
    obtain ⟨fu, rfl⟩ : ∃ f, fu = f + 1 := ⟨fu - 1, by omega⟩
    unfold m_X8_matching_L17
    simp (disch := omega) only [rm8 hM, obs, ra_146z, hW.1, qle]
    rw [if_pos (by omega), show i = N by omega]
  | succ d ih =>
    intro i fu hi hf
    obtain ⟨fu, rfl⟩ : ∃ f, fu = f + 1 := ⟨fu - 1, by omega⟩
    unfold m_X8_matching_L17
    simp (disch := omega) only [rm8 hM, obs, ra_146z, hW.1, qle, qeq_0]
    rw [if_neg (by omega)]
    have hs : (if c = 0 then m_X8_matching_L38 M 144 (nI r) x2 k5 (fun z0 z1 z2 z3 => m_X8_matching_L17 M 144 (nI r) x2 k5 fu z0 z1 z2 z3) (bs N P) (nI c) (bs i (nextM (M.2 146) (M.2 149) r c P)) (nI i) 1 else m_X8_matching_L38 M 144 (nI r) x2 k5 (fun z0 z1 z2 z3 => m_X8_matching_L17 M 144 (nI r) x2 k5 fu z0 z1 z2 z3) (bs N P) (nI c) (bs i (nextM (M.2 146) (M.2 149) r c P)) (nI i) 0) = m_X8_matching_L38 M 144 (nI r) x2 k5 (fun z0 z1 z2 z3 => m_X8_matching_L17 M 144 (nI r) x2 k5 fu z0 z1 z2 z3) (bs N P) (nI c) (bs i (nextM (M.2 146) (M.2 149) r c P)) (nI i) (bi (decide (c = 0))) := by
      by_cases h0 : c = 0 <;> simp [h0, bi]
    rw [hs, mt_L38 hM hW hr hc (by omega)]
    by_cases hq : nextM (M.2 146) (M.2 149) r c P i = true
    · rw [if_pos hq, bs_t hq, nI_1]
      exact ih (i + 1) fu (by omega) (by omega)
    · rw [if_neg hq, bs_f (n := i) (p := nextM (M.2 146) (M.2 149) r c P) (by simpa using hq), nI_1]
      exact ih (i + 1) fu (by omega) (by omega)
/-- the set before turn c -/
def setM (T S : Nat → Int32) (r : Nat) : Nat → Nat → Bool
  | 0 => fun _ => false
  | c + 1 => mt T S r c
theorem next_set (T S : Nat → Int32) (r c : Nat) : nextM T S r c (setM T S r c) = setM T S r (c + 1) := by
  funext n
  cases c with
  | zero => simp [nextM, setM, mt]
  | succ c => simp [nextM, setM, mt]
theorem mt_L5 (hM : MR M.1) (hW : WF (M.2 146) N R) {r k : Nat} (hr : r < 8) (hk : k ≤ 3) :
    ∀ (d c fu : Nat), c + d = k → d < fu → m_X8_matching_L5 M 144 (nI r) (nI k) fu (bs N (setM (M.2 146) (M.2 149) r c)) (nI c) = some (bs N (setM (M.2 146) (M.2 149) r k)) := by
  have h9 := hW.2.1
  intro d
  induction d with
  | zero =>
    intro c fu hi hf
    obtain ⟨fu, rfl⟩ : ∃ f, fu = f + 1 := ⟨fu - 1, by omega⟩
    unfold m_X8_matching_L5
    simp (disch := omega) only [qle]
    rw [if_pos (by omega), show c = k by omega]
  | succ d ih =>
    intro c fu hi hf
    obtain ⟨fu, rfl⟩ : ∃ f, fu = f + 1 := ⟨fu - 1, by omega⟩
    unfold m_X8_matching_L5
    simp (disch := omega) only [qle]
    rw [if_neg (by omega)]
    have h := mt_L17 hM hW hr (show c < 3 by omega) (P := setM (M.2 146) (M.2 149) r c) (x2 := nI k) (k5 := fun z0 z1 => m_X8_matching_L5 M 144 (nI r) (nI k) fu z0 z1) N 0 FU (by omega) (by unfold FU; omega)
    rw [show bs 0 (nextM (M.2 146) (M.2 149) r c (setM (M.2 146) (M.2 149) r c)) = 0 from rfl, show nI 0 = 0 from rfl] at h
    rw [h, next_set, nI_1]
    exact ih (c + 1) fu (by omega) (by omega)
theorem m_matching (hM : MR M.1) (hW : WF (M.2 146) N R) {r : Nat} (hr : r < R) : m_X8_matching M 144 (nI r) (M.2 146 (12 + r)) = some (bs N (mt (M.2 146) (M.2 149) r (cn (M.2 146) r - 1))) := by
  have h8 := hW.2.2.2.1
  obtain ⟨h1, h2, h3⟩ := cn_ok hW hr
  rw [h1]
  unfold m_X8_matching
  have h := mt_L5 hM hW (show r < 8 by omega) h3 (cn (M.2 146) r) 0 FU (by omega) (by unfold FU; omega)
  rw [show nI 0 = 0 from rfl, show bs N (setM (M.2 146) (M.2 149) r 0) = 0 from bs_f0 N] at h
  rw [h]
  obtain ⟨c, hc⟩ : ∃ c, cn (M.2 146) r = c + 1 := ⟨cn (M.2 146) r - 1, by omega⟩
  rw [hc]
  rfl
/-- the model's row of matches, as far as rule r -/
def matF (T S : Nat → Int32) (N r : Nat) : Int32 := bs N (mtch T S r)
theorem fills_L2 {M0 : Mem} (hM : MR M0.1) (hW : WF (M0.2 146) N R) :
    ∀ (d i fu : Nat) (M : Mem), i + d = R → d < fu → M.1 = M0.1 → (∀ k, k ≠ 157 → M.2 k = M0.2 k) → (∀ j, j < i → M.2 157 j = matF (M0.2 146) (M0.2 149) N j) → ∃ M9, m_X8_fills_L2 144 fu M (nI i) = some M9 ∧ M9.1 = M0.1 ∧ (∀ k, k ≠ 157 → M9.2 k = M0.2 k) ∧ ∀ j, j < R → M9.2 157 j = matF (M0.2 146) (M0.2 149) N j := by
  have h8 := hW.2.2.2.1
  intro d
  induction d with
  | zero =>
    intro i fu M hi hf h1 h2 h3
    obtain ⟨fu, rfl⟩ : ∃ f, fu = f + 1 := ⟨fu - 1, by omega⟩
    refine ⟨M, ?_, h1, h2, fun j hj => h3 j (by omega)⟩
    unfold m_X8_fills_L2
    have hM2 : MR M.1 := by rw [h1]; exact hM
    have e146 := h2 146 (by omega)
    simp (disch := omega) only [rm8 hM2, obs, ra_146o, e146, hW.2.2.1, qle]
    rw [if_pos (by omega)]
  | succ d ih =>
    intro i fu M hi hf h1 h2 h3
    obtain ⟨fu, rfl⟩ : ∃ f, fu = f + 1 := ⟨fu - 1, by omega⟩
    have hM2 : MR M.1 := by rw [h1]; exact hM
    have e146 := h2 146 (by omega)
    have e149 := h2 149 (by omega)
    have hW2 : WF (M.2 146) N R := by rw [e146]; exact hW
    unfold m_X8_fills_L2
    simp (disch := omega) only [rm8 hM2, rm21 hM2, rm11 hM2, obs, ra_146o, ra_149e, hb8, qa1, ra_146, wa_157, m_matching hM2 hW2 (show i < R by omega), hW2.2.2.1, qle]
    rw [if_neg (by omega), nI_1]
    have go : ∀ v : Int32, v = matF (M0.2 146) (M0.2 149) N i → ∃ M9, m_X8_fills_L2 144 fu (wI M 157 i v) (nI (i + 1)) = some M9 ∧ M9.1 = M0.1 ∧ (∀ k, k ≠ 157 → M9.2 k = M0.2 k) ∧ ∀ j, j < R → M9.2 157 j = matF (M0.2 146) (M0.2 149) N j := by
      intro v hv
      refine ih (i + 1) fu (wI M 157 i v) (by omega) (by omega) h1 (fun k hk => by rw [wI2n hk]; exact h2 k hk) (fun j hj => ?_)
      rw [wI2, if_pos rfl]
      by_cases hj2 : j = i
      · rw [if_pos hj2, hv, hj2]
      · rw [if_neg hj2]; exact h3 j (by omega)
    by_cases hon : bt (M.2 149 18) i = true
    · rw [if_neg (by rw [hb_0]; simp [hon])]
      refine go _ ?_
      unfold matF
      rw [e146, e149]
      refine bs_ext (fun n _ => ?_)
      simp [mtch, ← e149, hon]
    · rw [if_pos (by rw [hb_0]; simpa using hon)]
      refine go _ ?_
      unfold matF
      rw [bs_ext (q := fun _ => false) (fun n _ => ?_), bs_f0]
      rw [e149] at hon
      simp [mtch, hon]
/-- fills: the row of matches alone changes -/
theorem m_fills (hM : MR M.1) (hW : WF (M.2 146) N R) : ∃ M9, m_X8_fills M 144 = some M9 ∧ M9.1 = M.1 ∧ (∀ k, k ≠ 157 → M9.2 k = M.2 k) ∧ ∀ j, j < R → M9.2 157 j = matF (M.2 146) (M.2 149) N j := by
  have h8 := hW.2.2.2.1
  exact fills_L2 hM hW R 0 FU M (by omega) (by unfold FU; omega) rfl (fun _ _ => rfl) (fun j hj => by omega)
end MODEL2
