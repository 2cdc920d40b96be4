/-! ===== reading in step: a selector ===== -/
def HC (q : Nat) (M M2 : Mem) : Prop := M2.1 = M.1 ∧ (∀ j, j ≠ 2 → (j < q ∨ q + 5 < j) → M2.2 j = M.2 j) ∧ ∀ i, i ≠ 2 → i ≠ 3 → i ≠ 4 → M2.2 2 i = M.2 2 i
theorem HC_refl (q : Nat) (M : Mem) : HC q M M := ⟨rfl, fun _ _ _ => rfl, fun _ _ _ _ => rfl⟩
theorem HC_trans {q : Nat} {M M1 M2 : Mem} (h : HC q M M1) (g : HC q M1 M2) : HC q M M2 := ⟨by rw [g.1, h.1], fun j a b => by rw [g.2.1 j a b, h.2.1 j a b], fun i a b c => by rw [g.2.2 i a b c, h.2.2 i a b c]⟩
theorem FC_HC {q : Nat} {M M2 : Mem} (h : FC M M2) : HC q M M2 := ⟨h.1, fun j a _ => h.2.1 j a, h.2.2⟩
theorem HC_GC {q b2 : Nat} {M M2 : Mem} (h : HC q M M2) (h1 : b2 ≤ q) (h2 : q + 5 ≤ b2 + 54) : GC b2 M M2 := ⟨h.1, fun j a b => h.2.1 j a (by omega), h.2.2⟩
theorem HC_w {q : Nat} (M : Mem) {j i : Nat} (v : Int32) (h1 : q ≤ j) (h2 : j ≤ q + 5) (h3 : j ≠ 2) : HC q M (wI M j i v) := ⟨rfl, fun p _ b => wI2n (by omega), fun p _ _ _ => by rw [wI2n (by omega)]⟩
def NR (r i : Nat) : Prop := i ≠ 12 + r ∧ (i < 20 + 3 * r ∨ 22 + 3 * r < i) ∧ (i < 44 + 3 * r ∨ 46 + 3 * r < i) ∧ (i < 68 + 3 * r ∨ 70 + 3 * r < i) ∧ i ≠ 92 + r ∧ i ≠ 100 + r ∧ (i < 108 + 4 * r ∨ 111 + 4 * r < i)
def AgT (r : Nat) (T T2 : Nat → Int32) : Prop := ∀ i, NR r i → T2 i = T i
theorem AgT_refl (r : Nat) (T : Nat → Int32) : AgT r T T := fun _ _ => rfl
theorem AgT_trans {r : Nat} {T T1 T2 : Nat → Int32} (h : AgT r T T1) (g : AgT r T1 T2) : AgT r T T2 := fun i hi => by rw [g i hi, h i hi]
def SelP (M : Mem) (q : Nat) (T : Nat → Int32) (r c : Nat) : Prop :=
  M.2 q 0 = bi (bt (T 2) r) ∧ M.2 q 1 = nI c ∧ M.2 q 2 = nI (spN T r c) ∧ M.2 q 3 = 0 ∧ M.2 q 4 = 0 ∧ (∀ i, i < c → M.2 (q + 1) i = T (20 + (3 * r + i)) ∧ M.2 (q + 2) i = T (44 + (3 * r + i)) ∧ (0 < i → M.2 (q + 3) i = bi (decide (T (68 + 3 * r + i) = 62)))) ∧ ∀ i, i < c → ∃ w, w < 16 ∧ T (44 + (3 * r + i)) = nI w
def FrT (T : Nat → Int32) (r c : Nat) : Prop := ∀ i, c ≤ i → i < 3 → T (20 + (3 * r + i)) = -9 ∧ T (44 + (3 * r + i)) = 0
section READ5
variable {C D : Mem} {f : Nat → Nat} {L k s e : Nat}
theorem spN_ext {T T2 : Nat → Int32} {r : Nat} : ∀ {c : Nat}, (∀ i, i < c → T2 (20 + (3 * r + i)) = T (20 + (3 * r + i)) ∧ T2 (44 + (3 * r + i)) = T (44 + (3 * r + i))) → spN T2 r c = spN T r c := by
  intro c
  induction c with
  | zero => intro _; rfl
  | succ c ih =>
    intro h
    have h1 := h c (by omega)
    unfold spN
    rw [ih (fun i hi => h i (by omega)), Nat.add_assoc 44, Nat.add_assoc 20, h1.1, h1.2]
theorem RdC_addC {q c w : Nat} {tg : Int32} {ch : Bool} (hq : 3 < q) (h : RdC C f L k s e) : RdC (addC C q c tg w ch) f L k s e := RdC_w (RdC_w (RdC_w (RdC_w (RdC_w h (by omega)) (by omega)) (by omega)) (by omega)) (by omega)
theorem HC_addC {q c w : Nat} {tg : Int32} {ch : Bool} (hq : 3 < q) : HC q C (addC C q c tg w ch) := HC_trans (HC_w _ _ (by omega) (by omega) (by omega)) (HC_trans (HC_w _ _ (by omega) (by omega) (by omega)) (HC_trans (HC_w _ _ (by omega) (by omega) (by omega)) (HC_trans (HC_w _ _ (by omega) (by omega) (by omega)) (HC_w _ _ (by omega) (by omega) (by omega)))))
theorem SelP_add {C1 : Mem} {q r c w : Nat} {T T2 : Nat → Int32} {tg : Int32} {ch : Bool} (hq : 3 < q) (hS : SelP C q T r c) (hX : FC C C1) (hw : w < 16) (t0 : T2 2 = T 2) (t1 : T2 (20 + (3 * r + c)) = tg) (t2 : T2 (44 + (3 * r + c)) = nI w) (t3 : 0 < c → ch = decide (T2 (68 + 3 * r + c) = 62)) (t4 : ∀ i, i < c → T2 (20 + (3 * r + i)) = T (20 + (3 * r + i)) ∧ T2 (44 + (3 * r + i)) = T (44 + (3 * r + i)) ∧ T2 (68 + 3 * r + i) = T (68 + 3 * r + i)) : SelP (addC C1 q c tg w ch) q T2 r (c + 1) := by
  obtain ⟨a0, a1, a2, a3, a4, a5, a6⟩ := hS
  have hc : ∀ j, j ≠ 2 → C1.2 j = C.2 j := hX.2.1
  have sp : spN T2 r (c + 1) = spN T r c + sp1 tg w := by
    show spN T2 r c + (10 * on4 (T2 (44 + 3 * r + c)).toNatClampNeg + if T2 (20 + 3 * r + c) = -9 then 0 else 1) = _
    rw [spN_ext (fun i hi => ⟨(t4 i hi).1, (t4 i hi).2.1⟩), Nat.add_assoc 44, Nat.add_assoc 20, t1, t2, qclamp (by omega)]
    rfl
  refine ⟨?_, ?_, ?_, ?_, ?_, fun i hi => ?_, fun i hi => ?_⟩
  · unfold addC
    rw [wI2, if_pos rfl, if_neg (by decide), wI2, if_pos rfl, if_neg (by decide), wI2n (by omega), wI2n (by omega), wI2n (by omega), hc q (by omega), a0, t0]
  · unfold addC
    rw [wI2, if_pos rfl, if_neg (by decide), wI2, if_pos rfl, if_pos rfl]
  · unfold addC
    rw [wI2, if_pos rfl, if_pos rfl, hc q (by omega), a2, nI_add, sp]
  · unfold addC
    rw [wI2, if_pos rfl, if_neg (by decide), wI2, if_pos rfl, if_neg (by decide), wI2n (by omega), wI2n (by omega), wI2n (by omega), hc q (by omega), a3]
  · unfold addC
    rw [wI2, if_pos rfl, if_neg (by decide), wI2, if_pos rfl, if_neg (by decide), wI2n (by omega), wI2n (by omega), wI2n (by omega), hc q (by omega), a4]
  · have e1 : (addC C1 q c tg w ch).2 (q + 1) i = if i = c then tg else C.2 (q + 1) i := by
      unfold addC
      rw [wI2n (by omega), wI2n (by omega), wI2n (by omega), wI2n (by omega), wI2, if_pos rfl, hc (q + 1) (by omega)]
    have e2 : (addC C1 q c tg w ch).2 (q + 2) i = if i = c then nI w else C.2 (q + 2) i := by
      unfold addC
      rw [wI2n (by omega), wI2n (by omega), wI2n (by omega), wI2, if_pos rfl, wI2n (by omega), hc (q + 2) (by omega)]
    have e3 : (addC C1 q c tg w ch).2 (q + 3) i = if i = c then bi ch else C.2 (q + 3) i := by
      unfold addC
      rw [wI2n (by omega), wI2n (by omega), wI2, if_pos rfl, wI2n (by omega), wI2n (by omega), hc (q + 3) (by omega)]
    rw [e1, e2, e3]
    by_cases hic : i = c
    · subst hic
      rw [if_pos rfl, if_pos rfl, if_pos rfl, t1, t2]
      exact ⟨rfl, rfl, fun h0 => by rw [t3 h0]⟩
    · obtain ⟨b1, b2, b3⟩ := a5 i (by omega)
      obtain ⟨c1, c2, c3⟩ := t4 i (by omega)
      rw [if_neg hic, if_neg hic, if_neg hic, c1, c2, c3]
      exact ⟨b1, b2, b3⟩
  · by_cases hic : i = c
    · subst hic; exact ⟨w, hw, t2⟩
    · rw [(t4 i (by omega)).2.1]; exact a6 i (by omega)
theorem cmp_all {q c cell : Nat} {ch : Bool} (hqk : QK q) (hc : c < 3) (hcell : cell < 24) (hC : RdC C f L k s e) (hD : RdD D f L k s e) (v20 : D.2 147 (20 + cell) = -9) (v44 : D.2 147 (44 + cell) = 0) (hq : URf C.1 q) (h1 : C.2 q 1 = nI c) (hq3 : 3 < q) :
    (∃ C1 D1 k' s' e' tg w, w < 16 ∧ FC C C1 ∧ m_X2_readCompound C 2 q (bi ch) = some (1, addC C1 q c tg w ch) ∧ m_X8_readsCompound D 144 (nI cell) = some D1 ∧ RdC C1 f L k' s' e' ∧ RdD D1 f L k' s' e' ∧ s < s' ∧ D1.2 147 = (fun i => if i = 20 + cell then tg else if i = 44 + cell then nI w else D.2 147 i) ∧ D1.2 148 = D.2 148 ∧ GD D D1)
    ∨ (∃ C1 D1 s', FC C C1 ∧ m_X2_readCompound C 2 q (bi ch) = some (0, C1) ∧ m_X8_readsCompound D 144 (nI cell) = some D1 ∧ C1.2 2 3 = nI s' ∧ Bad D1 s' ∧ GD D D1) := by
  have hk := hC.2.2.2.2.1
  have hs := RdC_s hC
  by_cases ht : 97 ≤ k ∧ k ≤ 100
  · obtain ⟨C1, a1, a2, a3⟩ := c_adv hC
    obtain ⟨D1, g1, g2, g3⟩ := m_take1 hD hC.2.2.1
    have q97 : C.2 2 4 - 97 = nI (k - 97) := by rw [c_tokv hC (by omega)]; exact qsub (b := 97) (by omega)
    have hsg : sgB k = true := (sgr _ hk).1 ht
    have q97d : D.2 144 6 - 97 = nI (k - 97) := by rw [hD.2.2.1.2.2.2.1 hsg]; exact qsub (b := 97) (by omega)
    have hq1 : URf C1.1 q := by rw [a2.1]; exact hq
    have hp1 := hC.2.2.2.2.2 (by omega)
    have hp2 := aS_le (f := f) hC.2.2.1
    have key := cmp_L (ch := ch) (tg := nI (k - 97)) (q := q) (c := c) (cell := cell) hqk hc hcell 4 0 FU FU _ _ _ C1 (wI D1 147 (20 + cell) (nI (k - 97))) 1 rfl (by omega) (by unfold FU; omega) (by unfold FU; omega) a3 (RdD_w g3 (by omega)) (by rw [wI2, if_pos rfl, if_neg (by omega), g2.2.1 147 (by omega), v44]; rfl) hq1 (by rw [a2.2.1 q (by omega)]; exact h1) hq3 (Or.inl (by decide))
    have r1 : m_X2_readCompound C 2 q (bi ch) = m_X2_readCompound_L42 2 q (bi ch) FU C1 (nI (k - 97)) (nI 0) (nI (on4 0)) := by
      unfold m_X2_readCompound
      rw [c_isTag hC, obs, if_neg (by rw [bi_0]; simp [ht]), a1, obs, q97]
      rfl
    have r2 : m_X8_readsCompound D 144 (nI cell) = m_X8_readsCompound_L30 144 (nI cell) FU (wI D1 147 (20 + cell) (nI (k - 97))) 1 := by
      have hb1 : bi (decide (97 ≤ k ∧ k ≤ 100)) = 1 := by simp [ht, bi]
      unfold m_X8_readsCompound
      rw [m_fromT hD hk, obs, hb1, if_neg (by decide), rm9 hD.2.1, obs, g1, b2s, q97d, show (20 : Int32) = nI 20 from rfl, nI_add, wa_147 (by omega), obs]
    rw [r1, r2]
    rcases key with ⟨C3, D3, k', s', e', w', x1, x2, x3, x4, x5, x6, x7, x8, x9, x10, x11⟩ | ⟨C3, D3, s', x1, x2, x3, x4, x5, x6⟩
    · left
      refine ⟨C3, D3, k', s', e', nI (k - 97), w', x1, FC_trans a2 x2, x3, x4, x5, x6, by omega, ?_, ?_, GD_trans (FD_GD g2) (GD_trans (GD_w _ _ (by omega)) x11)⟩
      · rw [x9]
        funext i
        by_cases hi : i = 44 + cell
        · rw [if_pos hi, if_neg (by omega), if_pos hi]
        · rw [if_neg hi, wI2, if_pos rfl]
          by_cases hi2 : i = 20 + cell
          · rw [if_pos hi2, if_pos hi2]
          · rw [if_neg hi2, if_neg hi2, if_neg hi, g2.2.1 147 (by omega)]
      · rw [x10, wI2n (by decide), g2.2.1 148 (by omega)]
    · right
      exact ⟨C3, D3, s', FC_trans a2 x1, x2, x3, x4, x5, GD_trans (FD_GD g2) (GD_trans (GD_w _ _ (by omega)) x6)⟩
  · have hb0 : bi (decide (97 ≤ k ∧ k ≤ 100)) = 0 := by rw [bi_0]; simp [ht]
    have c46 : (C.2 2 4 = 46) = (k = 46) := c_tok hC (c := 46) (by omega)
    by_cases h46 : k = 46
    · have key := cmp_L (ch := ch) (tg := -9) (q := q) (c := c) (cell := cell) hqk hc hcell 4 0 FU FU _ _ _ C D 0 rfl (by omega) (by unfold FU; omega) (by unfold FU; omega) hC hD (by rw [v44]; rfl) hq h1 hq3 (Or.inr h46)
      have r1 : m_X2_readCompound C 2 q (bi ch) = m_X2_readCompound_L42 2 q (bi ch) FU C (-9) (nI 0) (nI (on4 0)) := by
        unfold m_X2_readCompound
        simp only [c_isTag hC, obs, hb0, if_true, c46, h46]
        rfl
      have r2 : m_X8_readsCompound D 144 (nI cell) = m_X8_readsCompound_L30 144 (nI cell) FU D 0 := by
        unfold m_X8_readsCompound
        rw [m_fromT hD hk, obs, hb0, if_pos rfl]
      rw [r1, r2]
      rcases key with ⟨C3, D3, k', s', e', w', x1, x2, x3, x4, x5, x6, x7, x8, x9, x10, x11⟩ | ⟨C3, D3, s', x1, x2, x3, x4, x5, x6⟩
      · left
        refine ⟨C3, D3, k', s', e', -9, w', x1, x2, x3, x4, x5, x6, x8 h46, ?_, x10, x11⟩
        rw [x9]
        funext i
        by_cases hi : i = 44 + cell
        · rw [if_pos hi, if_neg (by omega)]
        · rw [if_neg hi]
          by_cases hi2 : i = 20 + cell
          · rw [if_pos hi2, hi2, v20]
          · rw [if_neg hi2]
      · right
        exact ⟨C3, D3, s', x1, x2, x3, x4, x5, x6⟩
    · right
      refine ⟨C, wI D 144 7 (nI s), s, FC_refl C, ?_, ?_, hC.2.1.2.1, Bad_7 D hs, GD_7 _ _⟩
      · unfold m_X2_readCompound
        simp only [c_isTag hC, obs, hb0, if_true, c46, h46, if_false]
      · have t46 : m_X8_isThis D 144 46 = some (bi (decide (k = 46))) := m_this1 hD hk (c := 46) (by omega) (by decide)
        unfold m_X8_readsCompound
        rw [m_fromT hD hk, obs, hb0, if_pos rfl, FU1, m_X8_readsCompound_L30, t46, obs, if_pos (by rw [bi_0]; simp [h46]), if_pos rfl, m_take0 hD, b2s]
/-- the model behind a selector -/
def m_rest (M : Mem) (x1 x2 : Int32) : Option Mem :=
  (rf 10 M 144 9).bind fun a13 =>
  (wa M a13 ((12 : Int32) + x1) x2).bind fun M14 =>
  (m_X8_isThis M14 144 (58 : Int32)).bind fun r15 =>
  b2 (m_X8_takes M14 144 r15) fun r16 M16 =>
  (m_X8_isWell M16 144).bind fun r17 =>
  if r17 = 0 then
    (rf 10 M16 144 9).bind fun a18 =>
    (ra M16 a18 (1 : Int32)).bind fun v19 =>
    (wa M16 a18 (1 : Int32) (v19 + (1 : Int32))).bind fun M20 =>
    some M20
  else
  (m_X8_readsDeclarations M16 144 x1).bind fun M21 =>
  (rf 10 M21 144 9).bind fun a22 =>
  (ra M21 a22 (1 : Int32)).bind fun v23 =>
  (wa M21 a22 (1 : Int32) (v23 + (1 : Int32))).bind fun M24 =>
  some M24
theorem L46_eq (fu : Nat) (M : Mem) (x1 x2 : Int32) : m_X8_readsRule_L46 144 (fu + 1) M x1 x2 = ((m_X8_isThis M 144 (62 : Int32)).bind fun r11 =>
    if r11 = 0 then
      (m_X8_isThis M 144 (47 : Int32)).bind fun r12 =>
      if r12 = 0 then m_rest M x1 x2
      else
      if (3 : Int32) ≤ x2 then
        m_X8_readsRule_L75 144 (fun z0 z1 z2 => m_X8_readsRule_L46 144 fu z0 z1 z2) M x1 x2 (0 : Int32) 144
      else
      m_X8_readsRule_L75 144 (fun z0 z1 z2 => m_X8_readsRule_L46 144 fu z0 z1 z2) M x1 x2 (1 : Int32) 144
    else
    if (3 : Int32) ≤ x2 then
      m_X8_readsRule_L75 144 (fun z0 z1 z2 => m_X8_readsRule_L46 144 fu z0 z1 z2) M x1 x2 (0 : Int32) 144
    else
    m_X8_readsRule_L75 144 (fun z0 z1 z2 => m_X8_readsRule_L46 144 fu z0 z1 z2) M x1 x2 (1 : Int32) 144) := rfl
theorem ra_147o {M : Mem} : ra M 147 1 = some (M.2 147 1) := ra_147 (k := 1) (by omega)
theorem wa_147o {M : Mem} {v : Int32} : wa M 147 1 v = some (wI M 147 1 v) := wa_147 (k := 1) (by omega)
theorem rest_bad (hM : MR D.1) (hB : Bad D s) {r : Nat} (hr : r < 8) (x2 : Int32) : ∃ D1, m_rest D (nI r) x2 = some D1 ∧ Bad D1 s ∧ GD D D1 := by
  have hM1 : MR (wI D 147 (12 + r) x2).1 := hM
  have hB1 : Bad (wI D 147 (12 + r) x2) s := Bad_w hB (by omega)
  refine ⟨_, ?_, Bad_w (i := 1) (v := (wI D 147 (12 + r) x2).2 147 1 + 1) hB1 (show 147 ≠ 144 by omega), GD_trans (GD_w _ _ (by omega)) (GD_w _ _ (by omega))⟩
  unfold m_rest
  simp (disch := omega) only [rm9 hM, obs, qa1, wa_147, m_this0 hB1, m_takeB hB1, b2s, m_well0 hB1, if_true, rm9 hM1, ra_147o, wa_147o]
theorem L46_bad (hM : MR D.1) (hB : Bad D s) {r fu : Nat} (hr : r < 8) (x2 : Int32) : ∃ D1, m_X8_readsRule_L46 144 (fu + 1) D (nI r) x2 = some D1 ∧ Bad D1 s ∧ GD D D1 := by
  rw [L46_eq, m_this0 hB, obs, if_pos rfl, m_this0 hB, obs, if_pos rfl]
  exact rest_bad hM hB hr x2
end READ5
