/-! ===== reading in step: a rule ===== -/
def bgC (M : Mem) (q : Nat) (u : Bool) : Mem := wI (wI (wI (wI (wI M q 0 (bi u)) q 1 0) q 2 0) q 3 0) q 4 0
/-- the class behind the declarations, behind the selector, behind the head of a rule -/
def cE (M : Mem) : Option (Int32 × Mem) := b2 (m_X2_take M 2 (59 : Int32)) fun r23 M23 => if r23 = 0 then some ((0 : Int32), M23) else (rf 5 M23 2 5).bind fun a24 => (m_X4_addRule M23 a24).bind fun M25 => some ((1 : Int32), M25)
def cD (M : Mem) (q : Nat) : Option (Int32 × Mem) := b2 (m_X2_readDeclarations M 2 q) fun r22 M22 => if r22 = 0 then some ((0 : Int32), M22) else cE M22
def cR (M : Mem) (q : Nat) : Option (Int32 × Mem) := b2 (m_X2_take M 2 (58 : Int32)) fun r21 M21 => if r21 = 0 then some ((0 : Int32), M21) else cD M21 q
def cS (M : Mem) (q : Nat) : Option (Int32 × Mem) := b2 (m_X2_readSelector M 2 q) fun r20 M20 => if r20 = 0 then some ((0 : Int32), M20) else cR M20 q
/-- the model at the same places -/
def mEnd (M : Mem) : Option Mem := (m_X8_isThis M 144 (59 : Int32)).bind fun r15 => b2 (m_X8_takes M 144 r15) fun _ M16 => some M16
def mE (M : Mem) : Option Mem := (rf 10 M 144 9).bind fun a22 => (ra M a22 (1 : Int32)).bind fun v23 => (wa M a22 (1 : Int32) (v23 + (1 : Int32))).bind fun M24 => mEnd M24
theorem mRu_end (M : Mem) : mRu M = (m_X8_readsRule M 144).bind mEnd := rfl
theorem mEnd_bad {M : Mem} {s : Nat} (hB : Bad M s) : mEnd M = some M := by
  unfold mEnd
  rw [m_this0 hB, obs, m_takeB hB]
  rfl
theorem mE_bad {M : Mem} {s : Nat} (hM : MR M.1) (hB : Bad M s) : ∃ M1, mE M = some M1 ∧ Bad M1 s ∧ GD M M1 := by
  refine ⟨wI M 147 1 (M.2 147 1 + 1), ?_, Bad_w hB (by decide), GD_w _ _ (by omega)⟩
  unfold mE
  rw [rm9 hM, obs, ra_147o, obs, wa_147o, obs, mEnd_bad (Bad_w hB (by decide))]
/-- what a whole rule has changed -/
def Eff (C C1 D D1 : Mem) (bb R c' : Nat) : Prop := (C1.1 = C.1 ∧ (∀ j, j ≠ 2 → j ≠ bb → j ≠ bb + 3 → (j < bb + 7 + 6 * R ∨ bb + 7 + 6 * R + 5 < j) → C1.2 j = C.2 j) ∧ (∀ i, i ≠ 2 → i ≠ 3 → i ≠ 4 → C1.2 2 i = C.2 2 i) ∧ C1.2 bb 0 = C.2 bb 0 ∧ C1.2 bb 1 = nI (R + 1) ∧ C1.2 (bb + 3) 2 = C.2 (bb + 3) 2 ||| ((1 : Int32) <<< (nI R &&& 31))) ∧ (D1.2 147 1 = nI (R + 1) ∧ (∀ i, NR R i → i ≠ 1 → D1.2 147 i = D.2 147 i) ∧ D1.2 147 (12 + R) = nI c' ∧ (1 ≤ c' ∧ c' ≤ 3) ∧ (∀ c, c < 3 → ∃ w, w < 16 ∧ D1.2 147 (44 + 3 * R + c) = nI w) ∧ D1.2 148 = D.2 148 ∧ GD D D1)
theorem Eff_pre {C0 C C1 D0 D D1 : Mem} {bb R c' : Nat} (h : HC (bb + 7 + 6 * R) C0 C) (hbb : bb ≠ 2 ∧ bb + 3 ≠ 2) (g : AgT R (D0.2 147) (D.2 147)) (g2 : D.2 148 = D0.2 148) (g3 : GD D0 D) (he : Eff C C1 D D1 bb R c') : Eff C0 C1 D0 D1 bb R c' := by
  obtain ⟨⟨a1, a2, a3, a4, a5, a6⟩, b1, b2, b3, b4, b5, b6, b7⟩ := he
  refine ⟨⟨by rw [a1, h.1], fun j j1 j2 j3 j4 => by rw [a2 j j1 j2 j3 j4, h.2.1 j j1 j4], fun i i1 i2 i3 => by rw [a3 i i1 i2 i3, h.2.2 i i1 i2 i3], by rw [a4, h.2.1 bb hbb.1 (by omega)], a5, by rw [a6, h.2.1 (bb + 3) hbb.2 (by omega)]⟩, b1, fun i i1 i2 => by rw [b2 i i1 i2, g i i1], b3, b4, b5, by rw [b6, g2], GD_trans g3 b7⟩
/-- how a part of a rule comes out -/
def Out (C D : Mem) (bb R : Nat) (f : Nat → Nat) (L s : Nat) (oc : Option (Int32 × Mem)) (od : Option Mem) : Prop :=
  (∃ C1 D1 k' s' e' dm c', oc = some (1, C1) ∧ od = some D1 ∧ RdC C1 f L k' s' e' ∧ RdD D1 f L k' s' e' ∧ s ≤ s' ∧ DcP C1 (bb + 7 + 6 * R) (D1.2 147) R dm ∧ Eff C C1 D D1 bb R c')
  ∨ (∃ C1 D1 s', oc = some (0, C1) ∧ od = some D1 ∧ C1.2 2 3 = nI s' ∧ Bad D1 s' ∧ HC (bb + 7 + 6 * R) C C1 ∧ GD D D1)
theorem Out_pre {C0 C D0 D : Mem} {bb R L s s0 : Nat} {f : Nat → Nat} {oc : Option (Int32 × Mem)} {od : Option Mem} (h : HC (bb + 7 + 6 * R) C0 C) (hbb : bb ≠ 2 ∧ bb + 3 ≠ 2) (g : AgT R (D0.2 147) (D.2 147)) (g2 : D.2 148 = D0.2 148) (g3 : GD D0 D) (hs : s0 ≤ s) (ho : Out C D bb R f L s oc od) : Out C0 D0 bb R f L s0 oc od := by
  rcases ho with ⟨C1, D1, k', s', e', dm, c', x1, x2, x3, x4, x5, x6, x7⟩ | ⟨C1, D1, s', x1, x2, x3, x4, x5, x6⟩
  · left
    exact ⟨C1, D1, k', s', e', dm, c', x1, x2, x3, x4, by omega, x6, Eff_pre h hbb g g2 g3 x7⟩
  · right
    exact ⟨C1, D1, s', x1, x2, x3, x4, HC_trans h x5, GD_trans g3 x6⟩
section READ11
variable {C D : Mem} {f : Nat → Nat} {L k s e N R bb : Nat}
theorem c_bgC {q : Nat} {u : Bool} : m_X3_begin C q (bi u) = some (bgC C q u) := by
  unfold m_X3_begin pZ
  have : bi u = 0 ∨ bi u = 1 := by cases u <;> simp [bi]
  rw [if_pos this]
  rfl
theorem HC_bgC {q : Nat} {u : Bool} (hq : 3 < q) : HC q C (bgC C q u) := HC_trans (HC_w _ _ (by omega) (by omega) (by omega)) (HC_trans (HC_w _ _ (by omega) (by omega) (by omega)) (HC_trans (HC_w _ _ (by omega) (by omega) (by omega)) (HC_trans (HC_w _ _ (by omega) (by omega) (by omega)) (HC_w _ _ (by omega) (by omega) (by omega)))))
theorem RdC_bgC {q : Nat} {u : Bool} (hq : 3 < q) (h : RdC C f L k s e) : RdC (bgC C q u) f L k s e := RdC_w (RdC_w (RdC_w (RdC_w (RdC_w h (by omega)) (by omega)) (by omega)) (by omega)) (by omega)
theorem c_take1 (h : RdC C f L k s e) {c : Nat} (hc : c < 256) (hk : k = c) : ∃ C', m_X2_take C 2 (nI c) = some (1, C') ∧ FC C C' ∧ RdC C' f L (aK f L e) (aS f L e) (aE f L e) := by
  obtain ⟨C', a1, a2, a3⟩ := c_adv h
  refine ⟨C', ?_, a2, a3⟩
  unfold m_X2_take
  simp only [c_tok h hc, hk, if_true, a1, obs]
theorem c_take0 (h : RdC C f L k s e) {c : Nat} (hc : c < 256) (hk : k ≠ c) : m_X2_take C 2 (nI c) = some (0, C) := by
  unfold m_X2_take
  simp only [c_tok h hc, hk, if_false]
theorem prog (h : RdC C f L k s e) (hk : k ≠ 256) : s < aS f L e := by
  have h1 := h.2.2.2.2.2 hk
  have h2 := aS_le (f := f) h.2.2.1
  omega
/-- both after the letter R and a letter U, if there is one -/
theorem rule_u {q : Nat} (hq3 : 3 < q) (hR : R < 8) (hC : RdC C f L k s e) (hD : RdD D f L k s e) (hT1 : D.2 147 1 = nI R) (hu0 : bt (D.2 147 2) R = false) :
    ∃ u C2 D2 k2 s2 e2, m_X2_take C 2 85 = some (bi u, C2) ∧ FC C C2 ∧ m_X8_readsRule D 144 = ((m_X8_readsCompound D2 144 (nI (3 * R))).bind fun M => m_X8_readsRule_L46 144 FU M (nI R) (nI 1)) ∧ RdC C2 f L k2 s2 e2 ∧ RdD D2 f L k2 s2 e2 ∧ s ≤ s2 ∧ GD D D2 ∧ (∀ i, i ≠ 2 → D2.2 147 i = D.2 147 i) ∧ (∀ r, r < 8 → bt (D2.2 147 2) r = (bt (D.2 147 2) r || (u && decide (r = R)))) ∧ D2.2 148 = D.2 148 := by
  have hk := hC.2.2.2.2.1
  have t85 : m_X8_isThis D 144 85 = some (bi (decide (k = 85))) := m_this1 hD hk (c := 85) (by omega) (by decide)
  have e01 : (0 : Int32) + 1 = nI 1 := by decide
  by_cases h85 : k = 85
  · obtain ⟨C2, a1, a2, a3⟩ := c_take1 hC (c := 85) (by omega) h85
    obtain ⟨D1, g1, g2, g3⟩ := m_take1 hD hC.2.2.1
    have hp := prog hC (by omega)
    have hM1 := g3.2.1
    have w2 : ∀ {M : Mem} {v : Int32}, wa M 147 2 v = some (wI M 147 2 v) := fun {M v} => wa_147 (k := 2) (by omega)
    have r2 : ∀ {M : Mem}, ra M 147 2 = some (M.2 147 2) := fun {M} => ra_147 (k := 2) (by omega)
    refine ⟨true, C2, wI D1 147 2 (D.2 147 2 ||| ((1 : Int32) <<< (nI R &&& 31))), _, _, _, a1, a2, ?_, a3, RdD_w g3 (by omega), by omega, GD_trans (FD_GD g2) (GD_w _ _ (by omega)), fun i hi => ?_, fun r hr => ?_, ?_⟩
    · unfold m_X8_readsRule
      rw [rm9 hD.2.1, obs, ra_147o, obs, hT1, t85, obs, if_neg (by rw [bi_0]; simp [h85]), g1, b2s]
      simp (disch := omega) only [rm9 hM1, obs, r2, w2, g2.2.1 147 (show 147 ≠ 144 by decide), qmu, e01]
    · rw [wI2, if_pos rfl, if_neg hi, g2.2.1 147 (by decide)]
    · rw [wI2, if_pos rfl, if_pos rfl, bt_or1 _ (by omega) (by omega)]
      simp
    · rw [wI2n (by decide), g2.2.1 148 (by decide)]
  · refine ⟨false, C, D, k, s, e, c_take0 hC (c := 85) (by omega) h85, FC_refl C, ?_, hC, hD, Nat.le_refl _, GD_refl D, fun _ _ => rfl, fun r hr => by simp, rfl⟩
    unfold m_X8_readsRule
    rw [rm9 hD.2.1, obs, ra_147o, obs, hT1, t85, obs, if_pos (by rw [bi_0]; simp [h85])]
    simp (disch := omega) only [qmu, e01]
theorem HC_URf {q : Nat} {C1 : Mem} (h : HC q C C1) (hq : URf C.1 q) : URf C1.1 q := by rw [h.1]; exact hq
theorem QK_of (hs : SB bb) (hR : R < 8) : QK (bb + 7 + 6 * R) := by
  obtain ⟨k1, k2⟩ := kR hs R hR
  exact ⟨k1.2, k2⟩
theorem c_addRule (hs : SB bb) (hρ : SRf C.1 bb) (hR : R < 8) (h1 : C.2 bb 1 = nI R) : m_X4_addRule C bb = some (wI (wI C (bb + 3) 2 (C.2 (bb + 3) 2 ||| ((1 : Int32) <<< (nI R &&& 31)))) bb 1 (nI (R + 1))) := by
  have y : (wI C (bb + 3) 2 (C.2 (bb + 3) 2 ||| ((1 : Int32) <<< (nI R &&& 31)))).2 bb 1 = nI R := by rw [wI2n (by omega)]; exact h1
  unfold m_X4_addRule
  simp +decide (disch := omega) only [h1, wL8, wi1, obs, ↓reduceIte, rf_eq hρ.2.2.1 (kS hs).1.2.2.2.1, pIs, y, nI_1]
/-- behind the declarations -/
theorem out_E {dm c' : Nat} (hs : SB bb) (hR : R < 8) (h25 : C.1 2 5 = some bb) (hρ : SRf C.1 bb) (hC : RdC C f L k s e) (hD : RdD D f L k s e) (hP : DcP C (bb + 7 + 6 * R) (D.2 147) R dm) (h1 : C.2 bb 1 = nI R) (t1 : D.2 147 1 = nI R) (t2 : D.2 147 (12 + R) = nI c') (t3 : 1 ≤ c' ∧ c' ≤ 3) (t4 : ∀ c, c < 3 → ∃ w, w < 16 ∧ D.2 147 (44 + 3 * R + c) = nI w) : Out C D bb R f L s (cE C) (mE D) := by
  have hb := sb_le hs
  have hk := hC.2.2.2.2.1
  have hD1 : RdD (wI D 147 1 (nI (R + 1))) f L k s e := RdD_w hD (by omega)
  have t59 : m_X8_isThis (wI D 147 1 (nI (R + 1))) 144 59 = some (bi (decide (k = 59))) := m_this1 hD1 hk (c := 59) (by omega) (by decide)
  have m0 : mE D = mEnd (wI D 147 1 (nI (R + 1))) := by
    unfold mE
    rw [rm9 hD.2.1, obs, ra_147o, obs, t1, nI_1, wa_147o, obs]
  rw [m0]
  unfold cE mEnd
  rw [t59, obs]
  by_cases h59 : k = 59
  · left
    obtain ⟨C1, a1, a2, a3⟩ := c_take1 hC (c := 59) (by omega) h59
    obtain ⟨D2, g1, g2, g3⟩ := m_take1 hD1 hC.2.2.1
    have hbi : bi (decide (k = 59)) = 1 := by simp [h59, bi]
    have h25' : rf 5 C1 2 5 = some bb := rf_eq (by rw [a2.1]; exact h25) (kS hs).1.1
    have hρ1 : SRf C1.1 bb := by rw [a2.1]; exact hρ
    have hp := prog hC (by omega)
    have add := c_addRule hs hρ1 hR (by rw [a2.2.1 bb (by omega)]; exact h1)
    have z2 : C1.2 (bb + 3) = C.2 (bb + 3) := a2.2.1 _ (by omega)
    rw [z2] at add
    refine ⟨wI (wI C1 (bb + 3) 2 (C.2 (bb + 3) 2 ||| ((1 : Int32) <<< (nI R &&& 31)))) bb 1 (nI (R + 1)), D2, _, _, _, dm, c', ?_, ?_, RdC_w (RdC_w a3 (by omega)) (by omega), g3, by omega, ?_, ⟨?_, ?_⟩⟩
    · rw [show (59 : Int32) = nI 59 from rfl, a1, b2s, if_neg (by decide), h25', obs, add, obs]
    · rw [hbi, g1, b2s]
    · rw [g2.2.1 147 (by decide)]
      have hq : ∀ j, bb + 7 + 6 * R ≤ j → j ≤ bb + 7 + 6 * R + 5 → (wI (wI C1 (bb + 3) 2 (C.2 (bb + 3) 2 ||| ((1 : Int32) <<< (nI R &&& 31)))) bb 1 (nI (R + 1))).2 j = C.2 j := fun j j1 j2 => by rw [wI2n (by omega), wI2n (by omega), a2.2.1 j (by omega)]
      have hT : ∀ i, i ≠ 1 → (wI D 147 1 (nI (R + 1))).2 147 i = D.2 147 i := fun i hi => by rw [wI2, if_pos rfl, if_neg hi]
      obtain ⟨p1, p2, p3, ⟨sm, p4, p5⟩, p6, p7, p8⟩ := hP
      have ec : cn ((wI D 147 1 (nI (R + 1))).2 147) R = cn (D.2 147) R := by unfold cn; rw [hT _ (by omega)]
      have es : spec ((wI D 147 1 (nI (R + 1))).2 147) R = spec (D.2 147) R := by
        unfold spec
        rw [ec]
        exact spN_ext (fun i hi => ⟨hT _ (by omega), hT _ (by omega)⟩)
      refine ⟨?_, by rw [hT _ (by omega)]; exact p2, p3, ⟨sm, p4, by rw [hT _ (by omega)]; exact p5⟩, fun p hp => by rw [hT _ (by omega)]; exact p6 p hp, by rw [ec]; exact p7, fun p hp hb => by rw [hT _ (by omega)] at hb ⊢; exact p8 p hp hb⟩
      obtain ⟨a0, b1, b2, b3, b4, b5, b6⟩ := p1
      unfold RuR
      rw [hq _ (by omega) (by omega), hq _ (by omega) (by omega), hq _ (by omega) (by omega), hq _ (by omega) (by omega), hq _ (by omega) (by omega), hq _ (by omega) (by omega), hT 2 (by omega), es, ec, hT (12 + R) (by omega), hT (92 + R) (by omega), hT (100 + R) (by omega)]
      refine ⟨a0, b1, b2, b3, b4, fun c hc => ?_, fun p hp hb => ?_⟩
      · rw [hT _ (by omega), hT _ (by omega), hT _ (by omega)]
        exact b5 c hc
      · have ew : wt ((wI D 147 1 (nI (R + 1))).2 147) R p = wt (D.2 147) R p := by
          unfold wt
          rw [lvl_lv, lvl_lv, es, hT 2 (by omega), hT (100 + R) (by omega)]
        rw [hT _ (by omega), ew]
        exact b6 p hp hb
    · refine ⟨by rw [wI1, wI1, a2.1], fun j j1 j2 j3 j4 => by rw [wI2n j2, wI2n j3, a2.2.1 j j1], fun i i1 i2 i3 => by rw [wI2n (by omega), wI2n (by omega), a2.2.2 i i1 i2 i3], ?_, by rw [wI2, if_pos rfl, if_pos rfl], ?_⟩
      · rw [wI2, if_pos rfl, if_neg (by decide), wI2n (by omega), a2.2.1 bb (by omega)]
      · rw [wI2n (by omega), wI2, if_pos rfl, if_pos rfl]
    · have hT : ∀ i, i ≠ 1 → D2.2 147 i = D.2 147 i := fun i hi => by rw [g2.2.1 147 (by decide), wI2, if_pos rfl, if_neg hi]
      refine ⟨by rw [g2.2.1 147 (by decide), wI2, if_pos rfl, if_pos rfl], fun i _ i2 => hT i i2, by rw [hT _ (by omega)]; exact t2, t3, fun c hc => by rw [hT _ (by omega)]; exact t4 c hc, by rw [g2.2.1 148 (by decide), wI2n (by decide)], GD_trans (GD_w _ _ (by omega)) (FD_GD g2)⟩
  · right
    have hbi : bi (decide (k = 59)) = 0 := by simp [h59, bi]
    refine ⟨C, wI (wI D 147 1 (nI (R + 1))) 144 7 (nI s), s, ?_, ?_, hC.2.1.2.1, Bad_7 _ (RdC_s hC), HC_refl _ _, GD_trans (GD_w _ _ (by omega)) (GD_7 _ _)⟩
    · rw [show (59 : Int32) = nI 59 from rfl, c_take0 hC (by omega) h59, b2s, if_pos rfl]
    · rw [hbi, m_take0 hD1, b2s]
end READ11
