/-! ===== reading in step: words ===== -/
def RdC (M : Mem) (f : Nat → Nat) (L k s e : Nat) : Prop := TxC M f L ∧ CP M k s e ∧ e ≤ L ∧ s ≤ e ∧ k < 258 ∧ (k ≠ 256 → s < e)
def RdD (M : Mem) (f : Nat → Nat) (L k s e : Nat) : Prop := TxD M f L ∧ MR M.1 ∧ DP M k s e ∧ M.2 144 7 = -1
def Bad (M : Mem) (s : Nat) : Prop := M.2 144 7 = nI s ∧ s ≤ 120
theorem tk_eq {k c : Nat} (hk : k < 258) (hc : c < 256) : (tk k = nI c) = (k = c) := by
  unfold tk
  split
  · rw [qeq (by omega) (by omega)]
  · split
    · have e : ¬ (-1 : Int32) = nI c := fun h => by
        have h1 := congrArg Int32.toInt h
        rw [nI_toInt (by omega)] at h1
        have h2 : (-1 : Int32).toInt = -1 := by decide
        omega
      simp only [e, false_iff, eq_iff_iff]; omega
    · have e : ¬ (-2 : Int32) = nI c := fun h => by
        have h1 := congrArg Int32.toInt h
        rw [nI_toInt (by omega)] at h1
        have h2 : (-2 : Int32).toInt = -2 := by decide
        omega
      simp only [e, false_iff, eq_iff_iff]; omega
theorem tk_end {k : Nat} (hk : k < 258) : (tk k = -1) = (k = 256) := by
  unfold tk
  split
  · have e : ¬ nI k = -1 := fun h => by
      have h1 := congrArg Int32.toInt h
      rw [nI_toInt (by omega)] at h1
      have h2 : (-1 : Int32).toInt = -1 := by decide
      omega
    simp only [e, false_iff, eq_iff_iff]; omega
  · split
    · simp_all
    · simp only [eq_iff_iff]; constructor
      · intro h; exact absurd h (by decide)
      · omega
theorem r258a : ∀ k, k < 258 → (if tk k < 48 then some (0 : Int32) else if (57 : Int32) < tk k then some 0 else some 1) = some (bi (dgB k)) := by decide +kernel
theorem r258b : ∀ k, k < 258 → (if tk k < 97 then some (0 : Int32) else if (100 : Int32) < tk k then some 0 else some 1) = some (bi (decide (97 ≤ k ∧ k ≤ 100))) := by decide +kernel
theorem r258c : ∀ k, k < 258 → (if tk k < 112 then some (0 : Int32) else if (115 : Int32) < tk k then some 0 else some 1) = some (bi (decide (112 ≤ k ∧ k ≤ 115))) := by decide +kernel
theorem r258d : ∀ k, k < 258 → (if tk k < 119 then some (0 : Int32) else if (122 : Int32) < tk k then some 0 else some 1) = some (bi (decide (119 ≤ k ∧ k ≤ 122))) := by decide +kernel
theorem s258 : ∀ k, k < 258 → (md k = 1 → sgB k = true) ∧ (sgB k = true → md k = 1) ∧ (md k = 2 ↔ dgB k = true) ∧ (md k = 0 ↔ k = 256) := by decide +kernel
theorem in258 : ∀ k, k < 256 → m_X8_in (nI k) 97 100 = some (bi (decide (97 ≤ k ∧ k ≤ 100))) ∧ m_X8_in (nI k) 112 115 = some (bi (decide (112 ≤ k ∧ k ≤ 115))) ∧ m_X8_in (nI k) 119 122 = some (bi (decide (119 ≤ k ∧ k ≤ 122))) := by decide +kernel
theorem sgr : ∀ k, k < 258 → (97 ≤ k ∧ k ≤ 100 → sgB k = true) ∧ (112 ≤ k ∧ k ≤ 115 → sgB k = true) ∧ (119 ≤ k ∧ k ≤ 122 → sgB k = true) ∧ (sgB k = true → k < 256) := by decide +kernel
section READ3
variable {C D : Mem} {f : Nat → Nat} {L k s e : Nat}
theorem c_isDigit (h : RdC C f L k s e) : m_X2_isDigit C 2 = some (bi (dgB k)) := by
  unfold m_X2_isDigit
  rw [h.2.1.2.2]
  exact r258a k h.2.2.2.2.1
theorem c_isTag (h : RdC C f L k s e) : m_X2_isTag C 2 = some (bi (decide (97 ≤ k ∧ k ≤ 100))) := by
  unfold m_X2_isTag
  rw [h.2.1.2.2]
  exact r258b k h.2.2.2.2.1
theorem c_isClass (h : RdC C f L k s e) : m_X2_isClass C 2 = some (bi (decide (112 ≤ k ∧ k ≤ 115))) := by
  unfold m_X2_isClass
  rw [h.2.1.2.2]
  exact r258c k h.2.2.2.2.1
theorem c_isProperty (h : RdC C f L k s e) : m_X2_isProperty C 2 = some (bi (decide (119 ≤ k ∧ k ≤ 122))) := by
  unfold m_X2_isProperty
  rw [h.2.1.2.2]
  exact r258d k h.2.2.2.2.1
theorem c_tok (h : RdC C f L k s e) {c : Nat} (hc : c < 256) : (C.2 2 4 = nI c) = (k = c) := by
  rw [h.2.1.2.2, tk_eq h.2.2.2.2.1 hc]
theorem c_tokv (h : RdC C f L k s e) (hk : k < 256) : C.2 2 4 = nI k := by
  rw [h.2.1.2.2]
  unfold tk
  rw [if_pos hk]
theorem c_adv (h : RdC C f L k s e) : ∃ C', m_X2_advance C 2 = some C' ∧ FC C C' ∧ RdC C' f L (aK f L e) (aS f L e) (aE f L e) := by
  obtain ⟨t, p, h1, h2, h3, h4⟩ := h
  obtain ⟨C', e1, e2, e3⟩ := c_advance t h1 p.1
  have q := aE_le (f := f) h1
  exact ⟨C', e1, e2, TxC_FC e2 t, e3, q.2, q.1, aK_lt h1 (fun i hi => (t.2.2.2 i hi).1), fun hk => aK_e h1 hk⟩
theorem m_well1 (h : RdD D f L k s e) : m_X8_isWell D 144 = some 1 := by
  unfold m_X8_isWell
  rw [h.2.2.2]
  rfl
theorem m_well0 (h : Bad D s) : m_X8_isWell D 144 = some 0 := by
  unfold m_X8_isWell
  have h2 := h.2
  rw [h.1, if_pos]
  rw [show (0 : Int32) = nI 0 from rfl, qle (by omega) (by omega)]
  omega
theorem m_this1 (h : RdD D f L k s e) (hk : k < 258) {c : Nat} (hc : c < 256) (hs : sgB c = true) : m_X8_isThis D 144 (nI c) = some (bi (decide (k = c))) := by
  obtain ⟨q1, q2, q3, q4⟩ := s258 k hk
  unfold m_X8_isThis
  rw [m_well1 h, obs, if_neg (by decide), h.2.2.1.2.2.1]
  by_cases hm : md k = 1
  · have hsk := q1 hm
    have hk2 := (sgr k hk).2.2.2 hsk
    rw [if_pos hm, h.2.2.1.2.2.2.1 hsk]
    simp (disch := omega) only [qeq]
    by_cases hkc : k = c
    · rw [if_pos hkc]; simp [hkc, bi]
    · rw [if_neg hkc]; simp [hkc, bi]
  · rw [if_neg hm]
    have : k ≠ c := fun h => hm (q2 (by rw [h]; exact hs))
    simp [this, bi]
theorem m_this0 (h : Bad D s) (c : Int32) : m_X8_isThis D 144 c = some 0 := by
  unfold m_X8_isThis
  rw [m_well0 h, obs, if_pos rfl]
theorem m_from0 (h : Bad D s) (a b : Int32) : m_X8_isFrom D 144 a b = some 0 := by
  unfold m_X8_isFrom
  rw [m_well0 h, obs, if_pos rfl]
theorem from_aux (h : RdD D f L k s e) (hk : k < 258) {a b : Int32} {P : Nat → Prop} [DecidablePred P] (h1 : k < 256 → m_X8_in (nI k) a b = some (bi (decide (P k)))) (h2 : P k → sgB k = true) : m_X8_isFrom D 144 a b = some (bi (decide (P k))) := by
  obtain ⟨q1, q2, q3, q4⟩ := s258 k hk
  unfold m_X8_isFrom
  rw [m_well1 h, obs, if_neg (by decide), h.2.2.1.2.2.1]
  by_cases hm : md k = 1
  · have hsk := q1 hm
    have hk2 := (sgr k hk).2.2.2 hsk
    rw [if_pos hm, h.2.2.1.2.2.2.1 hsk, h1 hk2, obs]
    by_cases hP : P k
    · simp [hP, bi]
    · simp [hP, bi]
  · rw [if_neg hm]
    have : ¬ P k := fun h => hm (q2 (h2 h))
    simp [this, bi]
theorem m_fromT (h : RdD D f L k s e) (hk : k < 258) : m_X8_isFrom D 144 97 100 = some (bi (decide (97 ≤ k ∧ k ≤ 100))) := from_aux h hk (P := fun k => 97 ≤ k ∧ k ≤ 100) (fun h => (in258 k h).1) (sgr k hk).1
theorem m_fromC (h : RdD D f L k s e) (hk : k < 258) : m_X8_isFrom D 144 112 115 = some (bi (decide (112 ≤ k ∧ k ≤ 115))) := from_aux h hk (P := fun k => 112 ≤ k ∧ k ≤ 115) (fun h => (in258 k h).2.1) (sgr k hk).2.1
theorem m_fromP (h : RdD D f L k s e) (hk : k < 258) : m_X8_isFrom D 144 119 122 = some (bi (decide (119 ≤ k ∧ k ≤ 122))) := from_aux h hk (P := fun k => 119 ≤ k ∧ k ≤ 122) (fun h => (in258 k h).2.2) (sgr k hk).2.2.1
theorem m_adv (h : RdD D f L k s e) (he : e ≤ L) : ∃ D', m_X8_advances D 144 = some D' ∧ FD D D' ∧ RdD D' f L (aK f L e) (aS f L e) (aE f L e) := by
  obtain ⟨t, hM, p, w⟩ := h
  obtain ⟨D', e1, e2, e3⟩ := m_advances hM t he p.1
  exact ⟨D', e1, e2, TxD_FD e2 t, MR_FD e2 hM, e3, by rw [e2.2.2 7 (by omega) (by omega) (by omega) (by omega)]; exact w⟩
theorem m_take1 (h : RdD D f L k s e) (he : e ≤ L) : ∃ D', m_X8_takes D 144 1 = some (D.2 144 6, D') ∧ FD D D' ∧ RdD D' f L (aK f L e) (aS f L e) (aE f L e) := by
  obtain ⟨D', e1, e2, e3⟩ := m_adv h he
  refine ⟨D', ?_, e2, e3⟩
  unfold m_X8_takes
  rw [m_well1 h, obs, if_neg (by decide), if_neg (by decide), e1, obs]
theorem m_take0 (h : RdD D f L k s e) : m_X8_takes D 144 0 = some (0, wI D 144 7 (nI s)) := by
  unfold m_X8_takes
  rw [m_well1 h, obs, if_neg (by decide), if_pos rfl, h.2.2.1.2.1, pIs]
theorem m_takeB (h : Bad D s) (x : Int32) : m_X8_takes D 144 x = some (0, D) := by
  unfold m_X8_takes
  rw [m_well0 h, obs, if_pos rfl]
/-- frames of a whole reading -/
def GC (b2 : Nat) (M M2 : Mem) : Prop := M2.1 = M.1 ∧ (∀ j, j ≠ 2 → (j < b2 ∨ b2 + 54 < j) → M2.2 j = M.2 j) ∧ ∀ i, i ≠ 2 → i ≠ 3 → i ≠ 4 → M2.2 2 i = M.2 2 i
def GD (M M2 : Mem) : Prop := M2.1 = M.1 ∧ (∀ j, j ≠ 144 → j ≠ 147 → j ≠ 148 → M2.2 j = M.2 j) ∧ ∀ i, (i < 3 ∨ 7 < i) → M2.2 144 i = M.2 144 i
theorem GC_refl (b2 : Nat) (M : Mem) : GC b2 M M := ⟨rfl, fun _ _ _ => rfl, fun _ _ _ _ => rfl⟩
theorem GC_trans {b2 : Nat} {M M1 M2 : Mem} (h : GC b2 M M1) (g : GC b2 M1 M2) : GC b2 M M2 := ⟨by rw [g.1, h.1], fun j a b => by rw [g.2.1 j a b, h.2.1 j a b], fun i a b c => by rw [g.2.2 i a b c, h.2.2 i a b c]⟩
theorem GD_refl (M : Mem) : GD M M := ⟨rfl, fun _ _ _ _ => rfl, fun _ _ => rfl⟩
theorem GD_trans {M M1 M2 : Mem} (h : GD M M1) (g : GD M1 M2) : GD M M2 := ⟨by rw [g.1, h.1], fun j a b c => by rw [g.2.1 j a b c, h.2.1 j a b c], fun i a => by rw [g.2.2 i a, h.2.2 i a]⟩
theorem FC_GC {b2 : Nat} {M M2 : Mem} (h : FC M M2) : GC b2 M M2 := ⟨h.1, fun j a _ => h.2.1 j a, h.2.2⟩
theorem FD_GD {M M2 : Mem} (h : FD M M2) : GD M M2 := ⟨h.1, fun j a _ _ => h.2.1 j a, fun i a => h.2.2 i (by omega) (by omega) (by omega) (by omega)⟩
theorem GC_w {b2 : Nat} (M : Mem) {j i : Nat} (v : Int32) (h1 : b2 ≤ j) (h2 : j ≤ b2 + 54) (h3 : j ≠ 2) : GC b2 M (wI M j i v) := ⟨rfl, fun q _ b => wI2n (by omega), fun q _ _ _ => by rw [wI2n (by omega)]⟩
theorem GD_w (M : Mem) {j i : Nat} (v : Int32) (h : j = 147 ∨ j = 148) : GD M (wI M j i v) := ⟨rfl, fun q a b c => wI2n (by omega), fun q _ => by rw [wI2n (by omega)]⟩
theorem GD_7 (M : Mem) (v : Int32) : GD M (wI M 144 7 v) := ⟨rfl, fun q a b c => wI2n (by omega), fun q a => by rw [wI2, if_pos rfl, if_neg (by omega)]⟩
theorem Bad_7 (M : Mem) {s : Nat} (h : s ≤ 120) : Bad (wI M 144 7 (nI s)) s := ⟨by rw [wI2, if_pos rfl, if_pos rfl], h⟩
theorem Bad_w {M : Mem} {s j i : Nat} {v : Int32} (h : Bad M s) (hj : j ≠ 144) : Bad (wI M j i v) s := ⟨by rw [wI2n (Ne.symm hj)]; exact h.1, h.2⟩
theorem RdD_w {j i : Nat} {v : Int32} (h : RdD D f L k s e) (hj : j = 147 ∨ j = 148) : RdD (wI D j i v) f L k s e := by
  obtain ⟨t, hM, p, w⟩ := h
  have e1 : (wI D j i v).2 144 = D.2 144 := wI2n (by omega)
  have e2 : (wI D j i v).2 145 = D.2 145 := wI2n (by omega)
  refine ⟨?_, hM, ?_, by rw [e1]; exact w⟩
  · unfold TxD; rw [e1, e2]; exact t
  · unfold DP; rw [e1]; exact p
theorem RdC_w {j i : Nat} {v : Int32} (h : RdC C f L k s e) (hj : 3 < j) : RdC (wI C j i v) f L k s e := by
  obtain ⟨t, p, r⟩ := h
  have e1 : (wI C j i v).2 2 = C.2 2 := wI2n (by omega)
  have e2 : (wI C j i v).2 1 = C.2 1 := wI2n (by omega)
  refine ⟨?_, ?_, r⟩
  · unfold TxC; rw [e1, e2]; exact t
  · unfold CP; rw [e1]; exact p
theorem RdC_s (h : RdC C f L k s e) : s ≤ 120 := by
  have := h.1.2.2.1
  have := h.2.2.1
  have := h.2.2.2.1
  omega
end READ3
