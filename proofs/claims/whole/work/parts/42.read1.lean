/-! ===== reading: the next token ===== -/
def skp (f : Nat → Nat) : Nat → Nat → Nat
  | 0, e => e
  | d + 1, e => if f e = 32 then skp f d (e + 1) else e
def dgB (c : Nat) : Bool := decide (48 ≤ c ∧ c ≤ 57)
def dgr (f : Nat → Nat) : Nat → Nat → Nat
  | 0, e => e
  | d + 1, e => if dgB (f e) then dgr f d (e + 1) else e
theorem skp_le (f : Nat → Nat) : ∀ d e, e ≤ skp f d e ∧ skp f d e ≤ e + d := by
  intro d
  induction d with
  | zero => intro e; simp [skp]
  | succ d ih =>
    intro e
    unfold skp
    split
    · have := ih (e + 1); omega
    · omega
theorem dgr_le (f : Nat → Nat) : ∀ d e, e ≤ dgr f d e ∧ dgr f d e ≤ e + d := by
  intro d
  induction d with
  | zero => intro e; simp [dgr]
  | succ d ih =>
    intro e
    unfold dgr
    split
    · have := ih (e + 1); omega
    · omega
/-- where the token begins -/
def aS (f : Nat → Nat) (L e : Nat) : Nat := skp f (L - e) e
/-- what it is: a letter, 256 the end, 257 a number of more digits -/
def aK (f : Nat → Nat) (L e : Nat) : Nat := if L ≤ aS f L e then 256 else if dgB (f (aS f L e)) then (if dgr f (L - (aS f L e + 1)) (aS f L e + 1) = aS f L e + 1 then f (aS f L e) else 257) else f (aS f L e)
/-- where the next begins -/
def aE (f : Nat → Nat) (L e : Nat) : Nat := if L ≤ aS f L e then aS f L e else if dgB (f (aS f L e)) then dgr f (L - (aS f L e + 1)) (aS f L e + 1) else aS f L e + 1
def tk (k : Nat) : Int32 := if k < 256 then nI k else if k = 256 then -1 else -2
def TxC (M : Mem) (f : Nat → Nat) (L : Nat) : Prop := M.1 2 0 = some 1 ∧ M.2 2 1 = nI L ∧ L ≤ 120 ∧ ∀ i, i < L → f i < 256 ∧ M.2 1 i = nI (f i)
def TxD (M : Mem) (f : Nat → Nat) (L : Nat) : Prop := M.2 144 2 = nI L ∧ L ≤ 120 ∧ ∀ i, i < L → f i < 256 ∧ M.2 145 i = nI (f i)
/-- what a reading of the class keeps: all but three fields of the reader -/
def FC (M M2 : Mem) : Prop := M2.1 = M.1 ∧ (∀ j, j ≠ 2 → M2.2 j = M.2 j) ∧ ∀ i, i ≠ 2 → i ≠ 3 → i ≠ 4 → M2.2 2 i = M.2 2 i
def FD (M M2 : Mem) : Prop := M2.1 = M.1 ∧ (∀ j, j ≠ 144 → M2.2 j = M.2 j) ∧ ∀ i, i ≠ 3 → i ≠ 4 → i ≠ 5 → i ≠ 6 → M2.2 144 i = M.2 144 i
theorem FC_refl (M : Mem) : FC M M := ⟨rfl, fun _ _ => rfl, fun _ _ _ _ => rfl⟩
theorem FC_trans {M M1 M2 : Mem} (h : FC M M1) (g : FC M1 M2) : FC M M2 := ⟨by rw [g.1, h.1], fun j hj => by rw [g.2.1 j hj, h.2.1 j hj], fun i a b c => by rw [g.2.2 i a b c, h.2.2 i a b c]⟩
theorem FD_refl (M : Mem) : FD M M := ⟨rfl, fun _ _ => rfl, fun _ _ _ _ _ => rfl⟩
theorem FD_trans {M M1 M2 : Mem} (h : FD M M1) (g : FD M1 M2) : FD M M2 := ⟨by rw [g.1, h.1], fun j hj => by rw [g.2.1 j hj, h.2.1 j hj], fun i a b c d => by rw [g.2.2 i a b c d, h.2.2 i a b c d]⟩
theorem FC_w (M : Mem) {i : Nat} (v : Int32) (hi : i = 2 ∨ i = 3 ∨ i = 4) : FC M (wI M 2 i v) := ⟨rfl, fun j hj => wI2n hj, fun q a b c => by rw [wI2, if_pos rfl, if_neg (by omega)]⟩
theorem FD_w (M : Mem) {i : Nat} (v : Int32) (hi : i = 3 ∨ i = 4 ∨ i = 5 ∨ i = 6) : FD M (wI M 144 i v) := ⟨rfl, fun j hj => wI2n hj, fun q a b c d => by rw [wI2, if_pos rfl, if_neg (by omega)]⟩
theorem TxC_FC {M M2 : Mem} {f : Nat → Nat} {L : Nat} (h : FC M M2) (t : TxC M f L) : TxC M2 f L := by
  obtain ⟨a, b, c, d⟩ := t
  refine ⟨by rw [h.1]; exact a, by rw [h.2.2 1 (by omega) (by omega) (by omega)]; exact b, c, fun i hi => ?_⟩
  rw [h.2.1 1 (by omega)]
  exact d i hi
theorem TxD_FD {M M2 : Mem} {f : Nat → Nat} {L : Nat} (h : FD M M2) (t : TxD M f L) : TxD M2 f L := by
  obtain ⟨a, b, c⟩ := t
  refine ⟨by rw [h.2.2 2 (by omega) (by omega) (by omega) (by omega)]; exact a, b, fun i hi => ?_⟩
  rw [h.2.1 145 (by omega)]
  exact c i hi
def CP (M : Mem) (k s e : Nat) : Prop := M.2 2 2 = nI e ∧ M.2 2 3 = nI s ∧ M.2 2 4 = tk k
def sgB (k : Nat) : Bool := decide (k = 78 ∨ k = 82 ∨ k = 85 ∨ (97 ≤ k ∧ k ≤ 100) ∨ (112 ≤ k ∧ k ≤ 115) ∨ (119 ≤ k ∧ k ≤ 122) ∨ k = 62 ∨ k = 47 ∨ k = 46 ∨ k = 58 ∨ k = 33 ∨ k = 59)
def md (k : Nat) : Int32 := if k = 256 then 0 else if sgB k then 1 else if dgB k then 2 else 3
def DP (M : Mem) (k s e : Nat) : Prop := M.2 144 3 = nI e ∧ M.2 144 5 = nI s ∧ M.2 144 4 = md k ∧ (sgB k = true → M.2 144 6 = nI k) ∧ (dgB k = true → M.2 144 6 = nI (k - 48))
theorem dg256 : ∀ c, c < 256 → (if nI c < 48 then some (0 : Int32) else if (57 : Int32) < nI c then some 0 else some 1) = some (bi (dgB c)) := by decide +kernel
theorem in256 : ∀ c, c < 256 → m_X8_in (nI c) 48 57 = some (bi (dgB c)) := by decide +kernel
theorem sg256 : ∀ c, c < 256 → m_X8_isSign (nI c) = some (bi (sgB c)) := by decide +kernel
section READ1
variable {M M1 : Mem} {f : Nat → Nat} {L : Nat}
theorem r11 (t : TxC M f L) : rf 11 M 2 0 = some 1 := rf_eq t.1 rfl
theorem c_digAt (t : TxC M f L) {i : Nat} (hi : i < L) : m_X2_isDigitAt M 2 (nI i) = some (bi (dgB (f i))) := by
  have r := r11 t
  obtain ⟨a, b, c, d⟩ := t
  obtain ⟨d1, d2⟩ := d i hi
  have e := dg256 (f i) d1
  unfold m_X2_isDigitAt
  simp (disch := omega) only [b, qle, r, obs, ra_1, d2]
  rw [if_neg (by omega)]
  exact e
theorem c_L86 {M0 : Mem} (t : TxC M0 f L) {s : Nat} (hs : s < L) :
    ∀ (d e fu : Nat) (M : Mem), e + d = L → d < fu → s < e → FC M0 M → M.2 2 2 = nI e → M.2 2 3 = nI s → M.2 2 4 = tk (if e = s + 1 then f s else 257) → ∃ M9, m_X2_advance_L86 2 fu M = some M9 ∧ FC M0 M9 ∧ (dgB (f s) = true → CP M9 (if dgr f d e = s + 1 then f s else 257) s (dgr f d e)) ∧ (dgB (f s) = false → CP M9 (if e = s + 1 then f s else 257) s e) := by
  intro d
  induction d with
  | zero =>
    intro e fu M hi hf hse hX a1 a2 a3
    obtain ⟨fu, rfl⟩ : ∃ f, fu = f + 1 := ⟨fu - 1, by omega⟩
    have l120 := t.2.2.1
    refine ⟨M, ?_, hX, fun _ => ⟨a1, a2, a3⟩, fun _ => ⟨a1, a2, a3⟩⟩
    unfold m_X2_advance_L86
    simp (disch := omega) only [(TxC_FC hX t).2.1, a1, qle]
    rw [if_pos (by omega)]
  | succ d ih =>
    intro e fu M hi hf hse hX a1 a2 a3
    obtain ⟨fu, rfl⟩ : ∃ f, fu = f + 1 := ⟨fu - 1, by omega⟩
    have l120 := t.2.2.1
    have t1 := TxC_FC hX t
    unfold m_X2_advance_L86
    simp (disch := omega) only [t1.2.1, a1, a2, qle, c_digAt t1, obs, bi_0]
    rw [if_neg (by omega)]
    by_cases h1 : dgB (f s) = true
    · rw [if_neg (by simp [h1])]
      unfold dgr
      by_cases h2 : dgB (f e) = true
      · rw [if_neg (by simp [h2]), if_pos h2, pIs, pIs]
        have x2 : (wI M 2 4 (-2)).2 2 2 = nI e := by rw [wI2, if_pos rfl, if_neg (by decide)]; exact a1
        rw [x2, nI_1]
        obtain ⟨M9, g1, g2, g3, g4⟩ := ih (e + 1) fu (wI (wI M 2 4 (-2)) 2 2 (nI (e + 1))) (by omega) (by omega) (by omega) (FC_trans hX (FC_trans (FC_w M _ (by omega)) (FC_w _ _ (by omega)))) (by rw [wI2, if_pos rfl, if_pos rfl]) (by rw [wI2, if_pos rfl, if_neg (by decide), wI2, if_pos rfl, if_neg (by decide)]; exact a2) (by rw [wI2, if_pos rfl, if_neg (by decide), wI2, if_pos rfl, if_pos rfl, if_neg (by omega)]; rfl)
        exact ⟨M9, g1, g2, g3, fun h => by rw [h1] at h; cases h⟩
      · rw [if_pos (by simpa using h2), if_neg h2]
        exact ⟨M, rfl, hX, fun _ => ⟨a1, a2, a3⟩, fun _ => ⟨a1, a2, a3⟩⟩
    · rw [if_pos (by simpa using h1)]
      exact ⟨M, rfl, hX, fun h => absurd h h1, fun _ => ⟨a1, a2, a3⟩⟩
theorem c_L38 {M0 : Mem} (t : TxC M0 f L) {s : Nat} (hs : s ≤ L) (hX : FC M0 M) (a1 : M.2 2 2 = nI s) : ∃ M9, m_X2_advance_L38 2 M = some M9 ∧ FC M0 M9 ∧ CP M9 (if L ≤ s then 256 else if dgB (f s) then (if dgr f (L - (s + 1)) (s + 1) = s + 1 then f s else 257) else f s) s (if L ≤ s then s else if dgB (f s) then dgr f (L - (s + 1)) (s + 1) else s + 1) := by
  have l120 := t.2.2.1
  have hX1 : FC M0 (wI M 2 3 (nI s)) := FC_trans hX (FC_w M _ (by omega))
  have t1 := TxC_FC hX1 t
  have x2 : (wI M 2 3 (nI s)).2 2 2 = nI s := by rw [wI2, if_pos rfl, if_neg (by decide)]; exact a1
  unfold m_X2_advance_L38
  rw [a1, pIs]
  simp (disch := omega) only [x2, t1.2.1, qlt]
  by_cases h : s < L
  · obtain ⟨d1, d2⟩ := t1.2.2.2 s h
    rw [if_pos h, r11 t1, obs, ra_1 (by omega), obs, d2, pIs, pIs]
    have hLs : ¬ L ≤ s := by omega
    simp only [hLs, if_false]
    have x3 : (wI (wI M 2 3 (nI s)) 2 4 (nI (f s))).2 2 2 = nI s := by rw [wI2, if_pos rfl, if_neg (by decide)]; exact x2
    rw [x3, nI_1]
    have tkf : tk (f s) = nI (f s) := by unfold tk; rw [if_pos d1]
    obtain ⟨M9, g1, g2, g3, g4⟩ := c_L86 t h (L - (s + 1)) (s + 1) FU (wI (wI (wI M 2 3 (nI s)) 2 4 (nI (f s))) 2 2 (nI (s + 1))) (by omega) (by unfold FU; omega) (by omega) (FC_trans hX1 (FC_trans (FC_w _ _ (by omega)) (FC_w _ _ (by omega)))) (by rw [wI2, if_pos rfl, if_pos rfl]) (by rw [wI2, if_pos rfl, if_neg (by decide), wI2, if_pos rfl, if_neg (by decide), wI2, if_pos rfl, if_pos rfl]) (by rw [wI2, if_pos rfl, if_neg (by decide), wI2, if_pos rfl, if_pos rfl, if_pos rfl, tkf])
    refine ⟨M9, g1, g2, ?_⟩
    by_cases hd : dgB (f s) = true
    · simp only [hd, if_true]; exact g3 hd
    · simp only [hd, if_false]
      have := g4 (by simpa using hd)
      rw [if_pos rfl] at this
      exact this
  · rw [if_neg h, pIs, if_pos (by omega), if_pos (by omega)]
    refine ⟨_, rfl, FC_trans hX1 (FC_w _ _ (by omega)), ?_, ?_, ?_⟩
    · rw [wI2, if_pos rfl, if_neg (by decide)]; exact x2
    · rw [wI2, if_pos rfl, if_neg (by decide), wI2, if_pos rfl, if_pos rfl]
    · rw [wI2, if_pos rfl, if_pos rfl]; rfl
theorem c_advance (t : TxC M f L) {e : Nat} (he : e ≤ L) (a1 : M.2 2 2 = nI e) : ∃ M9, m_X2_advance M 2 = some M9 ∧ FC M M9 ∧ CP M9 (aK f L e) (aS f L e) (aE f L e) := by
  have l120 := t.2.2.1
  have key : ∀ (d e fu : Nat) (M2 : Mem), e + d = L → d < fu → FC M M2 → M2.2 2 2 = nI e → ∃ M9, m_X2_advance_L0 2 fu M2 = some M9 ∧ FC M M9 ∧ CP M9 (if L ≤ skp f d e then 256 else if dgB (f (skp f d e)) then (if dgr f (L - (skp f d e + 1)) (skp f d e + 1) = skp f d e + 1 then f (skp f d e) else 257) else f (skp f d e)) (skp f d e) (if L ≤ skp f d e then skp f d e else if dgB (f (skp f d e)) then dgr f (L - (skp f d e + 1)) (skp f d e + 1) else skp f d e + 1) := by
    intro d
    induction d with
    | zero =>
      intro e fu M2 hi hf hX a2
      obtain ⟨fu, rfl⟩ : ∃ f, fu = f + 1 := ⟨fu - 1, by omega⟩
      unfold m_X2_advance_L0
      simp (disch := omega) only [(TxC_FC hX t).2.1, a2, qle]
      rw [if_pos (by omega)]
      unfold skp
      exact c_L38 t (by omega) hX a2
    | succ d ih =>
      intro e fu M2 hi hf hX a2
      obtain ⟨fu, rfl⟩ : ∃ f, fu = f + 1 := ⟨fu - 1, by omega⟩
      have t1 := TxC_FC hX t
      obtain ⟨d1, d2⟩ := t1.2.2.2 e (by omega)
      unfold m_X2_advance_L0
      simp (disch := omega) only [t1.2.1, a2, qle, r11 t1, obs, ra_1, d2, qeq1, qeq, pIs, nI_1]
      rw [if_neg (by omega)]
      unfold skp
      by_cases h : f e = 32
      · rw [if_pos h]
        simp only [h, if_true]
        exact ih (e + 1) fu _ (by omega) (by omega) (FC_trans hX (FC_w _ _ (by omega))) (by rw [wI2, if_pos rfl, if_pos rfl])
      · rw [if_neg h]
        simp only [h, if_false]
        exact c_L38 t (by omega) hX a2
  exact key (L - e) e FU M (by omega) (by unfold FU; omega) (FC_refl M) a1
end READ1
