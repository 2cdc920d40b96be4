/-! ===== calls: undo, keep, back ===== -/
section OPS6
variable {M M1 : Mem} {b b2 N R L h m : Nat} {rem sn sp : Nat → Nat} {sv : Nat → Int32}
/-- nineteen cells over a row -/
def ov (f g : Nat → Int32) : Nat → Int32 := fun j => if j < 19 then f j else g j
theorem ud_L27 {M0 : Mem} (hM0 : MR M0.1) {g : Nat} (hg : g ≤ 9) (h1 : M0.2 144 13 = nI g) :
    ∀ (d i fu : Nat) (M : Mem), i + d = 19 → d < fu → M.1 = M0.1 → (∀ j, j ≠ 149 → M.2 j = M0.2 j) → (∀ j, M.2 149 j = if j < i then M0.2 150 (19 * g + j) else M0.2 149 j) → ∃ M9, m_X8_undo_L27 144 fu M (nI i) = some (nI g, M9) ∧ M9.1 = M0.1 ∧ (∀ j, j ≠ 149 → M9.2 j = M0.2 j) ∧ M9.2 149 = ov (fun j => M0.2 150 (19 * g + j)) (M0.2 149) := by
  intro d
  induction d with
  | zero =>
    intro i fu M hi hf a1 a2 a3
    obtain ⟨fu, rfl⟩ : ∃ f, fu = f + 1 := ⟨fu - 1, by omega⟩
    refine ⟨M, ?_, a1, a2, ?_⟩
    · unfold m_X8_undo_L27
      simp (disch := omega) only [qle1, qle, a2 144 (by omega), h1]
      rw [if_pos (by omega)]
    · funext j
      rw [a3 j, show i = 19 by omega]
      rfl
  | succ d ih =>
    intro i fu M hi hf a1 a2 a3
    obtain ⟨fu, rfl⟩ : ∃ f, fu = f + 1 := ⟨fu - 1, by omega⟩
    have hM : MR M.1 := by rw [a1]; exact hM0
    unfold m_X8_undo_L27
    simp (disch := omega) only [qle1, qle, rm12 hM, rm11 hM, obs, a2 144 (show 144 ≠ 149 by omega), h1, qmu, nI_add, ra_150, wa_149, nI_1, a2 150 (show 150 ≠ 149 by omega)]
    rw [if_neg (by omega)]
    refine ih (i + 1) fu _ (by omega) (by omega) a1 (fun j hj => by rw [wI2n hj]; exact a2 j hj) (fun j => ?_)
    rw [wI2, if_pos rfl]
    by_cases hji : j = i
    · rw [if_pos hji, if_pos (by omega), hji]
    · rw [if_neg hji, a3 j]
      by_cases h2 : j < i
      · rw [if_pos h2, if_pos (by omega)]
      · rw [if_neg h2, if_neg (by omega)]
theorem LkR_cells {k : Nat} {S S2 : Nat → Int32} (hN : N ≤ 9) (e : ∀ j, j < 19 → S2 j = S j) (hL : LkR M k S N) : LkR M k S2 N := ⟨fun n hn => by rw [e n (by omega), e (9 + n) (by omega)]; exact hL.1 n hn, by rw [e 18 (by omega)]; exact hL.2⟩
theorem TV_cells {S S2 : Nat → Int32} (hN : N ≤ 9) (e : ∀ j, j < 19 → S2 j = S j) (hT : TV S N) : TV S2 N := fun n hn => by rw [e n (by omega)]; exact hT n hn
theorem op_undo (H : Iv M b b2 N R L h m rem sn sp sv) : Alike2 (m_X7_undo M 0) (fun M1 => m_X8_undo M1 144) := by
  have H0 := H
  obtain ⟨⟨hC, hM⟩, hW, hS, hL, hSt, hT, hTx, hH, ⟨hc, hm⟩, hK⟩ := H
  have h9 := hW.2.1
  have h8 := hW.2.2.2.1
  have hbl := sb_le (cr_sb hC)
  have h10 := hH.2.2.1
  by_cases h0 : h = 0
  · subst h0
    refine ⟨-3, M, wI M 144 0 0, ?_, ?_, Inv_SX (SX_z M 0) H0⟩
    · unfold m_X7_undo m_X0_takeLatest
      have e : m_X7_within (nI 0 - 1) 10 = some 0 := by decide
      simp +decide (disch := omega) only [rc8 hC, obs, hH.1, e, ↓reduceIte, b2s]
    · unfold m_X8_undo
      have e : (wI M 144 0 0).2 144 13 = nI 0 := by rw [wI2, if_pos rfl, if_neg (by decide)]; exact hH.2.1
      simp +decide (disch := omega) only [pIs, e, ↓reduceIte]
  · obtain ⟨g, rfl⟩ : ∃ g, h = g + 1 := ⟨h - 1, by omega⟩
    obtain ⟨q1, q2, q3⟩ := hH.2.2.2 g (by omega)
    have rem_lt : rem g < 236 := by rcases q1 with h | h | h <;> omega
    have hC1 : CR (wI M 130 1 (nI g)).1 b b2 := hC
    have hL1 : LkR (wI M 130 1 (nI g)) 114 (M.2 149) N := LkR_fr (fun i a1 a2 => wI2n (by omega)) hL
    obtain ⟨M2, e1, e2, e3, e4⟩ := c_apply (cr_114 hC1) lk_114 hL1 h9 h8 q1
    have hC2 : CR M2.1 b b2 := by rw [e2]; exact hC
    have hcell : ∀ j, j < 19 → ov (fun j => M.2 150 (19 * g + j)) (M.2 149) j = ap (rem g) (M.2 149) j := by
      intro j hj
      unfold ov
      rw [if_pos hj]
      show M.2 150 (19 * g + j) = _
      rw [q3 j hj, uS_ge (Nat.le_refl _)]
    have e5 : LkR M2 114 (ov (fun j => M.2 150 (19 * g + j)) (M.2 149)) N := LkR_cells h9 hcell e4
    have hS2 : ShR M2 b (M.2 146) N R := ShR_fr h8 (fun i a1 a2 => by rw [e3 i (by omega), wI2n (by omega)]) hS
    obtain ⟨M3, f1, f2, f3⟩ := c_refresh hC2 hW hS2 e5
    have hC3 : CR M3.1 b b2 := by rw [f2.1]; exact hC2
    have k3 : ∀ j, (j < 114 ∨ (116 < j ∧ j < 120) ∨ (124 < j ∧ j < 130) ∨ 130 < j) → M3.2 j = M.2 j := fun j hj => by rw [f2.2 j (by omega), e3 j (by omega), wI2n (by omega)]
    have s3 : M3.2 130 1 = nI g := by rw [f2.2 130 (by omega), e3 130 (by omega), wI2, if_pos rfl, if_pos rfl]
    have ra1 : ra (wI M 130 1 (nI g)) 131 (nI g) = some (nI (rem g)) := by rw [ra_131 (by omega), wI2n (by decide), q2]
    have y1 : (wI M 130 1 (nI g)).2 130 1 = nI g := by rw [wI2, if_pos rfl, if_pos rfl]
    have r1 : m_X7_undo M 0 = some (nI g, M3) := by
      unfold m_X7_undo m_X0_takeLatest
      have e : nI (g + 1) - 1 = nI g := nI_pred g
      simp +decide (disch := omega) only [rc8 hC, obs, hH.1, e, wL10, wi1, ↓reduceIte, pIs, rc130 hC1, y1, ra1, b2s, qm9, rc4 hC1, e1, f1, rc8 hC3, s3]
    have hM5 : MR (wI (wI M3 144 0 0) 144 13 (nI g)).1 := by rw [wI1, wI1, f2.1, e2]; exact hM
    obtain ⟨M6, g1, g2, g3, g4⟩ := ud_L27 (M0 := wI (wI M3 144 0 0) 144 13 (nI g)) hM5 (g := g) (by omega) (by rw [wI2, if_pos rfl, if_pos rfl]) 19 0 FU _ (by omega) (by unfold FU; omega) rfl (fun _ _ => rfl) (fun j => by rw [if_neg (by omega)])
    rw [show nI 0 = 0 from rfl] at g1
    have r2 : m_X8_undo M3 144 = some (nI g, M6) := by
      unfold m_X8_undo
      have e : (wI M3 144 0 0).2 144 13 = nI (g + 1) := by rw [wI2, if_pos rfl, if_neg (by decide), k3 144 (by omega)]; exact hH.2.1
      have e2 : nI (g + 1) - 1 = nI g := nI_pred g
      have e3 : ¬ nI (g + 1) = 0 := by rw [qeq_0 (by omega)]; omega
      simp +decide (disch := omega) only [pIs, e, e2, e3, ↓reduceIte, g1]
    have p3 : ∀ j, (j < 114 ∨ (116 < j ∧ j < 120) ∨ (124 < j ∧ j < 130) ∨ (130 < j ∧ j < 144) ∨ (144 < j ∧ j < 149) ∨ 149 < j) → M6.2 j = M.2 j := fun j hj => by rw [g3 j (by omega), wI2n (by omega), wI2n (by omega), k3 j (by omega)]
    have p144 : ∀ j, j ≠ 0 → j ≠ 13 → M6.2 144 j = M.2 144 j := fun j j1 j2 => by rw [g3 144 (by decide), wI2, if_pos rfl, if_neg j2, wI2, if_pos rfl, if_neg j1, k3 144 (by omega)]
    have p149 : M6.2 149 = ov (fun j => M.2 150 (19 * g + j)) (M.2 149) := by
      have z1 : (wI (wI M3 144 0 0) 144 13 (nI g)).2 149 = M.2 149 := by rw [wI2n (by decide), wI2n (by decide), k3 149 (by omega)]
      have z2 : (wI (wI M3 144 0 0) 144 13 (nI g)).2 150 = M.2 150 := by rw [wI2n (by decide), wI2n (by decide), k3 150 (by omega)]
      rw [g4, z1, z2]
    have pS : ∀ j, (114 ≤ j ∧ j ≤ 130) → M6.2 j = M3.2 j := fun j hj => by rw [g3 j (by omega), wI2n (by omega), wI2n (by omega)]
    have t := p3 146 (by omega)
    refine ⟨_, _, _, r1, r2, b, b2, N, R, L, g, m, rem, sn, sp, sv, ⟨by rw [g2, wI1, wI1]; exact hC3, by rw [g2]; exact hM5⟩, by rw [t]; exact hW, ?_, ?_, ?_, ?_, ?_, ?_, ⟨?_, ?_⟩, ?_⟩
    · rw [t]; exact ShR_fr h8 (fun i a1 a2 => p3 i (by omega)) hS
    · rw [p149]
      exact LkR_fr (fun i a1 a2 => by rw [pS i (by omega), f2.2 i (by omega)]) e5
    · rw [t, p149]
      exact StR_fr (fun i a1 a2 => pS i (by omega)) f3
    · rw [p149]
      exact TV_cells h9 hcell (TV_ap h9 q1 hT h8)
    · exact TxtR_fr (by rw [p3 0 (by omega)]) (p3 1 (by omega)) (p144 2 (by omega) (by omega)) (p3 145 (by omega)) hTx
    · refine ⟨by rw [pS 130 (by omega)]; exact s3, by rw [g3 144 (by decide), wI2, if_pos rfl, if_pos rfl], by omega, fun i hi => ?_⟩
      obtain ⟨w1, w2, w3⟩ := hH.2.2.2 i (by omega)
      refine ⟨w1, by rw [p3 131 (by omega)]; exact w2, fun j hj => ?_⟩
      rw [p3 150 (by omega), w3 j hj]
      apply ap_cell
      rw [uS_lt (show i + 1 < g + 1 by omega)]
      by_cases hlast : i + 1 < g
      · rw [uS_lt hlast, p3 150 (by omega)]
      · rw [uS_ge (by omega), p149, show i + 1 = g by omega]
        unfold ov
        rw [if_pos hj]
    · exact SeC_fr (by rw [p3 132 (by omega)]) (p3 133 (by omega)) (p3 134 (by omega)) (p3 135 (by omega)) hc
    · exact SeM_fr (p144 19 (by omega) (by omega)) (p3 153 (by omega)) (p3 154 (by omega)) (p3 155 (by omega)) hm
    · exact KpR_fr (by rw [p3 0 (by omega)]) (p3 152 (by omega)) (p3 151 (by omega)) (fun j a1 a2 => p3 j (by omega)) hK
theorem kp_L19 {M0 : Mem} (hM0 : MR M0.1) {x : Nat} (hx : x < 2) {v0 : Int32} (h1 : M0.2 146 0 = v0) :
    ∀ (d i fu : Nat) (M : Mem), i + d = 19 → d < fu → M.1 = M0.1 → (∀ j, j ≠ 151 → M.2 j = M0.2 j) → (∀ j, j < i → M.2 151 (19 * x + j) = M0.2 149 j) → (∀ q, (q < 19 * x ∨ 19 * x + 19 ≤ q) → M.2 151 q = M0.2 151 q) → ∃ M9, m_X8_keep_L19 144 (nI x) fu M (nI i) = some (v0, M9) ∧ M9.1 = M0.1 ∧ (∀ j, j ≠ 151 → j ≠ 152 → M9.2 j = M0.2 j) ∧ (∀ j, j < 19 → M9.2 151 (19 * x + j) = M0.2 149 j) ∧ (∀ q, (q < 19 * x ∨ 19 * x + 19 ≤ q) → M9.2 151 q = M0.2 151 q) ∧ M9.2 152 x = 1 ∧ ∀ q, q ≠ x → M9.2 152 q = M0.2 152 q := by
  intro d
  induction d with
  | zero =>
    intro i fu M hi hf a1 a2 a3 a4
    obtain ⟨fu, rfl⟩ : ∃ f, fu = f + 1 := ⟨fu - 1, by omega⟩
    have hM : MR M.1 := by rw [a1]; exact hM0
    have nar : vp_nar .boolean (1 : Int32) = 1 := by decide
    have hM2 : MR (wI M 152 x 1).1 := hM
    unfold m_X8_keep_L19
    simp (disch := omega) only [qle1, qle, rm15 hM, obs, wa_152, nar, rm8 hM2, ra_146z]
    rw [if_pos (by omega), wI2n (by decide), a2 146 (by decide), h1]
    refine ⟨_, rfl, a1, fun j j1 j2 => by rw [wI2n j2]; exact a2 j j1, fun j hj => ?_, fun q hq => ?_, ?_, fun q hq => ?_⟩
    · rw [wI2n (by decide)]; exact a3 j (by omega)
    · rw [wI2n (by decide)]; exact a4 q hq
    · rw [wI2, if_pos rfl, if_pos rfl]
    · rw [wI2, if_pos rfl, if_neg hq, a2 152 (by decide)]
  | succ d ih =>
    intro i fu M hi hf a1 a2 a3 a4
    obtain ⟨fu, rfl⟩ : ∃ f, fu = f + 1 := ⟨fu - 1, by omega⟩
    have hM : MR M.1 := by rw [a1]; exact hM0
    unfold m_X8_keep_L19
    simp (disch := omega) only [qle1, qle, rm14 hM, rm11 hM, obs, ra_149, qmu, nI_add, wa_151, nI_1]
    rw [if_neg (by omega)]
    refine ih (i + 1) fu _ (by omega) (by omega) a1 (fun j hj => by rw [wI2n hj]; exact a2 j hj) (fun j hj => ?_) (fun q hq => ?_)
    · rw [wI2, if_pos rfl]
      by_cases hji : j = i
      · rw [if_pos (by omega), a2 149 (by omega), hji]
      · rw [if_neg (by omega)]; exact a3 j (by omega)
    · rw [wI2, if_pos rfl, if_neg (by omega)]; exact a4 q hq
theorem bt_or1 (k : Int32) {x y : Nat} (hx : x < 32) (hy : y < 32) : bt (k ||| ((1 : Int32) <<< (nI x &&& 31))) y = (bt k y || decide (y = x)) := by
  rw [b_or, b_one hx hy]
theorem lk_im {x : Nat} (hx : x < 2) : LK (138 + 3 * x) := by
  obtain rfl | rfl : x = 0 ∨ x = 1 := by omega
  · exact lk_138
  · exact lk_141
theorem cr_im {ρ : Nat → Nat → Option Nat} (hC : CR ρ b b2) {x : Nat} (hx : x < 2) : LRf ρ (138 + 3 * x) := by
  obtain rfl | rfl : x = 0 ∨ x = 1 := by omega
  · exact cr_138 hC
  · exact cr_141 hC
theorem rc136 (hC : CR M.1 b b2) {x : Nat} (hx : x < 2) : rr 2 M 136 (nI x) = some (138 + 3 * x) := by
  obtain rfl | rfl : x = 0 ∨ x = 1 := by omega
  · exact rc136a hC
  · exact rc136b hC
theorem op_keep (H : Iv M b b2 N R L h m rem sn sp sv) (x1 : Int32) : Alike2 (m_X7_keep M 0 x1) (fun M1 => m_X8_keep M1 144 x1) := by
  have H0 := H
  obtain ⟨⟨hC, hM⟩, hW, hS, hL, hSt, hT, hTx, hH, ⟨hc, hm⟩, hK⟩ := H
  have h9 := hW.2.1
  have h8 := hW.2.2.2.1
  have hbl := sb_le (cr_sb hC)
  rcases qix x1 2 (by omega) with ⟨x, hx2, rfl⟩ | hx
  · obtain ⟨M2, e1, e2, e3, e4⟩ := c_copy (cr_im hC hx2) (cr_114 hC) (lk_im hx2) lk_114 (by omega) hL h9
    have hC2 : CR M2.1 b b2 := by rw [e2]; exact hC
    have z0 : M2.2 0 11 = M.2 0 11 := by rw [e3 0 (by omega)]
    have hC3 : CR (wI M2 0 11 (M.2 0 11 ||| ((1 : Int32) <<< (nI x &&& 31)))).1 b b2 := hC2
    have hS3 : (wI M2 0 11 (M.2 0 11 ||| ((1 : Int32) <<< (nI x &&& 31)))).2 b 0 = nI N := by rw [wI2n (by omega), e3 b (by omega)]; exact hS.1
    have r1 : m_X7_keep M 0 (nI x) = some (nI N, wI M2 0 11 (M.2 0 11 ||| ((1 : Int32) <<< (nI x &&& 31)))) := by
      unfold m_X7_keep
      simp +decide (disch := omega) only [wL2, wi1, obs, ↓reduceIte, rc10 hC, rc136 hC hx2, rc4 hC, e1, pIs, z0, rc3 hC3, hS3]
    have hM4 : MR (wI (wI M2 0 11 (M.2 0 11 ||| ((1 : Int32) <<< (nI x &&& 31)))) 144 0 0).1 := by rw [wI1, wI1, e2]; exact hM
    obtain ⟨M5, f1, f2, f3, f4, f5, f6, f7⟩ := kp_L19 (M0 := wI (wI M2 0 11 (M.2 0 11 ||| ((1 : Int32) <<< (nI x &&& 31)))) 144 0 0) hM4 hx2 (v0 := nI N) (by rw [wI2n (by decide), wI2n (by decide), e3 146 (by omega)]; exact hW.1) 19 0 FU _ (by omega) (by unfold FU; omega) rfl (fun _ _ => rfl) (fun j hj => by omega) (fun _ _ => rfl)
    rw [show nI 0 = 0 from rfl] at f1
    have r2 : m_X8_keep (wI M2 0 11 (M.2 0 11 ||| ((1 : Int32) <<< (nI x &&& 31)))) 144 (nI x) = some (nI N, M5) := by
      unfold m_X8_keep
      simp +decide (disch := omega) only [pIs, iL1, in1, obs, ↓reduceIte, f1]
    have p : ∀ j, j ≠ 0 → (j < 138 + 3 * x ∨ 138 + 3 * x + 2 < j) → j ≠ 144 → j ≠ 151 → j ≠ 152 → M5.2 j = M.2 j := fun j j0 j1 j2 j3 j4 => by rw [f3 j j3 j4, wI2n j2, wI2n j0, e3 j (by omega)]
    have p0 : ∀ i, i ≠ 11 → M5.2 0 i = M.2 0 i := fun i hi => by rw [f3 0 (by decide) (by decide), wI2n (by decide), wI2, if_pos rfl, if_neg hi, e3 0 (by omega)]
    have p11 : M5.2 0 11 = M.2 0 11 ||| ((1 : Int32) <<< (nI x &&& 31)) := by rw [f3 0 (by decide) (by decide), wI2n (by decide), wI2, if_pos rfl, if_pos rfl]
    have p144 : ∀ i, i ≠ 0 → M5.2 144 i = M.2 144 i := fun i hi => by rw [f3 144 (by decide) (by decide), wI2, if_pos rfl, if_neg hi, wI2n (by decide), e3 144 (by omega)]
    have s149 : ∀ j, j < 19 → M5.2 151 (19 * x + j) = M.2 149 j := fun j hj => by rw [f4 j hj, wI2n (by decide), wI2n (by decide), e3 149 (by omega)]
    have o151 : ∀ q, (q < 19 * x ∨ 19 * x + 19 ≤ q) → M5.2 151 q = M.2 151 q := fun q hq => by rw [f5 q hq, wI2n (by decide), wI2n (by decide), e3 151 (by omega)]
    have o152 : ∀ q, q ≠ x → M5.2 152 q = M.2 152 q := fun q hq => by rw [f7 q hq, wI2n (by decide), wI2n (by decide), e3 152 (by omega)]
    refine ⟨_, _, _, r1, r2, Iv_step (L2 := L) (h2 := h) (rem2 := rem) (m2 := m) (sn2 := sn) (sp2 := sp) (sv2 := sv) H0 (by rw [f2, wI1, wI1, e2]) (fun j hj => p j (by omega) (by omega) (by omega) (by omega) (by omega)) ?_ ?_ ?_ ?_ ?_⟩
    · exact TxtR_fr (p0 1 (by omega)) (p 1 (by omega) (by omega) (by omega) (by omega) (by omega)) (p144 2 (by omega)) (p 145 (by omega) (by omega) (by omega) (by omega) (by omega)) hTx
    · exact HiR_fr (by rw [p 130 (by omega) (by omega) (by omega) (by omega) (by omega)]) (p144 13 (by omega)) (p 131 (by omega) (by omega) (by omega) (by omega) (by omega)) (p 150 (by omega) (by omega) (by omega) (by omega) (by omega)) (p 149 (by omega) (by omega) (by omega) (by omega) (by omega)) hH
    · exact SeC_fr (by rw [p 132 (by omega) (by omega) (by omega) (by omega) (by omega)]) (p 133 (by omega) (by omega) (by omega) (by omega) (by omega)) (p 134 (by omega) (by omega) (by omega) (by omega) (by omega)) (p 135 (by omega) (by omega) (by omega) (by omega) (by omega)) hc
    · exact SeM_fr (p144 19 (by omega)) (p 153 (by omega) (by omega) (by omega) (by omega) (by omega)) (p 154 (by omega) (by omega) (by omega) (by omega) (by omega)) (p 155 (by omega) (by omega) (by omega) (by omega) (by omega)) hm
    · intro y hy
      rw [p11]
      obtain ⟨k1, k2⟩ := hK y hy
      by_cases hyx : y = x
      · subst hyx
        refine ⟨?_, fun _ => ⟨?_, ?_⟩⟩
        · rw [f6]
          unfold hb
          rw [bt_or1 _ (by omega) (by omega)]
          simp
        · refine LkR_cells h9 s149 (LkR_fr (fun i a1 a2 => ?_) e4)
          rw [f3 i (by omega) (by omega), wI2n (by omega), wI2n (by omega)]
        · exact TV_cells h9 s149 hT
      · have hrow : ∀ j, j < 19 → M5.2 151 (19 * y + j) = M.2 151 (19 * y + j) := fun j hj => o151 _ (by omega)
        refine ⟨?_, fun hbit => ?_⟩
        · rw [o152 y hyx, k1]
          unfold hb
          rw [bt_or1 _ (by omega) (by omega)]
          simp [hyx]
        · rw [bt_or1 _ (by omega) (by omega)] at hbit
          obtain ⟨w1, w2⟩ := k2 (by simpa [hyx] using hbit)
          exact ⟨LkR_cells h9 hrow (LkR_fr (fun i a1 a2 => p i (by omega) (by omega) (by omega) (by omega) (by omega)) w1), TV_cells h9 hrow w2⟩
  · refine ⟨-2, M, wI M 144 0 0, ?_, ?_, Inv_SX (SX_z M 0) H0⟩
    · unfold m_X7_keep
      simp +decide (disch := omega) only [wL2, wi0 hx, obs, ↓reduceIte]
    · unfold m_X8_keep
      simp +decide (disch := omega) only [pIs, iL1, in0n (n := 1) (by omega) hx, obs, ↓reduceIte]
theorem bk_L31 {M0 : Mem} (hM0 : MR M0.1) {x : Nat} (hx : x < 2) {v0 : Int32} (h1 : M0.2 146 0 = v0) :
    ∀ (d i fu : Nat) (M : Mem), i + d = 19 → d < fu → M.1 = M0.1 → (∀ j, j ≠ 149 → M.2 j = M0.2 j) → (∀ j, M.2 149 j = if j < i then M0.2 151 (19 * x + j) else M0.2 149 j) → ∃ M9, m_X8_back_L31 144 (nI x) fu M (nI i) = some (v0, wI M9 144 13 0) ∧ M9.1 = M0.1 ∧ (∀ j, j ≠ 149 → M9.2 j = M0.2 j) ∧ M9.2 149 = ov (fun j => M0.2 151 (19 * x + j)) (M0.2 149) := by
  intro d
  induction d with
  | zero =>
    intro i fu M hi hf a1 a2 a3
    obtain ⟨fu, rfl⟩ : ∃ f, fu = f + 1 := ⟨fu - 1, by omega⟩
    have hM : MR (wI M 144 13 0).1 := by rw [wI1, a1]; exact hM0
    refine ⟨M, ?_, a1, a2, ?_⟩
    · unfold m_X8_back_L31
      simp (disch := omega) only [qle1, qle, pIs, rm8 hM, obs, ra_146z]
      rw [if_pos (by omega), wI2n (by decide), a2 146 (by decide), h1]
    · funext j
      rw [a3 j, show i = 19 by omega]
      rfl
  | succ d ih =>
    intro i fu M hi hf a1 a2 a3
    obtain ⟨fu, rfl⟩ : ∃ f, fu = f + 1 := ⟨fu - 1, by omega⟩
    have hM : MR M.1 := by rw [a1]; exact hM0
    unfold m_X8_back_L31
    simp (disch := omega) only [qle1, qle, rm14 hM, rm11 hM, obs, qmu, nI_add, ra_151, wa_149, nI_1, a2 151 (show 151 ≠ 149 by omega)]
    rw [if_neg (by omega)]
    refine ih (i + 1) fu _ (by omega) (by omega) a1 (fun j hj => by rw [wI2n hj]; exact a2 j hj) (fun j => ?_)
    rw [wI2, if_pos rfl]
    by_cases hji : j = i
    · rw [if_pos hji, if_pos (by omega), hji]
    · rw [if_neg hji, a3 j]
      by_cases h2 : j < i
      · rw [if_pos h2, if_pos (by omega)]
      · rw [if_neg h2, if_neg (by omega)]
theorem op_back (H : Iv M b b2 N R L h m rem sn sp sv) (x1 : Int32) : Alike2 (m_X7_back M 0 x1) (fun M1 => m_X8_back M1 144 x1) := by
  have H0 := H
  obtain ⟨⟨hC, hM⟩, hW, hS, hL, hSt, hT, hTx, hH, ⟨hc, hm⟩, hK⟩ := H
  have h9 := hW.2.1
  have h8 := hW.2.2.2.1
  have hbl := sb_le (cr_sb hC)
  have hz := SX_z M 0
  have hMz := MR_SX hz hM
  rcases qix x1 2 (by omega) with ⟨x, hx2, rfl⟩ | hx
  · obtain ⟨k1, k2⟩ := hK x hx2
    by_cases hbit : bt (M.2 0 11) x = true
    · obtain ⟨w1, w2⟩ := k2 hbit
      obtain ⟨M2, e1, e2, e3, e4⟩ := c_copy (cr_114 hC) (cr_im hC hx2) lk_114 (lk_im hx2) (by omega) w1 h9
      have hC2 : CR (wI M2 130 1 0).1 b b2 := by rw [wI1, e2]; exact hC
      have hC2b : CR M2.1 b b2 := by rw [e2]; exact hC
      have hcell : ∀ j, j < 19 → ov (fun j => M.2 151 (19 * x + j)) (M.2 149) j = M.2 151 (19 * x + j) := by
        intro j hj
        unfold ov
        rw [if_pos hj]
      have e5 : LkR (wI M2 130 1 0) 114 (ov (fun j => M.2 151 (19 * x + j)) (M.2 149)) N := LkR_cells h9 hcell (LkR_fr (fun i a1 a2 => wI2n (by omega)) e4)
      have hS2 : ShR (wI M2 130 1 0) b (M.2 146) N R := ShR_fr h8 (fun i a1 a2 => by rw [wI2n (by omega), e3 i (by omega)]) hS
      obtain ⟨M3, f1, f2, f3⟩ := c_refresh hC2 hW hS2 e5
      have hC3 : CR M3.1 b b2 := by rw [f2.1]; exact hC2
      have k3 : ∀ j, (j < 114 ∨ (116 < j ∧ j < 120) ∨ (124 < j ∧ j < 130) ∨ 130 < j) → M3.2 j = M.2 j := fun j hj => by rw [f2.2 j (by omega), wI2n (by omega), e3 j (by omega)]
      have s3 : M3.2 130 1 = 0 := by rw [f2.2 130 (by omega), wI2, if_pos rfl, if_pos rfl]
      have s3b : M3.2 b 0 = nI N := by rw [k3 b (by omega)]; exact hS.1
      have hbn : ¬ hb (M.2 0 11) x = 0 := by rw [hb_0]; simp [hbit]
      have r1 : m_X7_back M 0 (nI x) = some (nI N, M3) := by
        unfold m_X7_back m_X0_empty
        simp +decide (disch := omega) only [wL2, wi1, obs, ↓reduceIte, hb1, hbn, rc4 hC, rc10 hC, rc136 hC hx2, e1, rc8 hC2b, pIs, f1, rc3 hC3, s3b]
      have hM5 : MR (wI M3 144 0 0).1 := by rw [wI1, f2.1, wI1, e2]; exact hM
      obtain ⟨M6, g1, g2, g3, g4⟩ := bk_L31 (M0 := wI M3 144 0 0) hM5 hx2 (v0 := nI N) (by rw [wI2n (by decide), k3 146 (by omega)]; exact hW.1) 19 0 FU _ (by omega) (by unfold FU; omega) rfl (fun _ _ => rfl) (fun j => by rw [if_neg (by omega)])
      rw [show nI 0 = 0 from rfl] at g1
      have v15 : (wI M3 144 0 0).2 152 x = hb (M.2 0 11) x := by rw [wI2n (by decide), k3 152 (by omega)]; exact k1
      have r2 : m_X8_back M3 144 (nI x) = some (nI N, wI M6 144 13 0) := by
        unfold m_X8_back
        simp +decide (disch := omega) only [pIs, iL1, in1, obs, ↓reduceIte, rm15 hM5, ra_152, v15, hbn, g1]
      have p3 : ∀ j, (j < 114 ∨ (116 < j ∧ j < 120) ∨ (124 < j ∧ j < 130) ∨ (130 < j ∧ j < 144) ∨ (144 < j ∧ j < 149) ∨ 149 < j) → (wI M6 144 13 0).2 j = M.2 j := fun j hj => by rw [wI2n (by omega), g3 j (by omega), wI2n (by omega), k3 j (by omega)]
      have p144 : ∀ j, j ≠ 0 → j ≠ 13 → (wI M6 144 13 0).2 144 j = M.2 144 j := fun j j1 j2 => by rw [wI2, if_pos rfl, if_neg j2, g3 144 (by decide), wI2, if_pos rfl, if_neg j1, k3 144 (by omega)]
      have p149 : (wI M6 144 13 0).2 149 = ov (fun j => M.2 151 (19 * x + j)) (M.2 149) := by
        have z1 : (wI M3 144 0 0).2 149 = M.2 149 := by rw [wI2n (by decide), k3 149 (by omega)]
        have z2 : (wI M3 144 0 0).2 151 = M.2 151 := by rw [wI2n (by decide), k3 151 (by omega)]
        rw [wI2n (by decide), g4, z1, z2]
      have pS : ∀ j, (114 ≤ j ∧ j ≤ 130) → (wI M6 144 13 0).2 j = M3.2 j := fun j hj => by rw [wI2n (by omega), g3 j (by omega), wI2n (by omega)]
      have t := p3 146 (by omega)
      refine ⟨_, _, _, r1, r2, b, b2, N, R, L, 0, m, rem, sn, sp, sv, ⟨by rw [wI1, g2, wI1]; exact hC3, by rw [wI1, g2]; exact hM5⟩, by rw [t]; exact hW, ?_, ?_, ?_, ?_, ?_, ?_, ⟨?_, ?_⟩, ?_⟩
      · rw [t]; exact ShR_fr h8 (fun i a1 a2 => p3 i (by omega)) hS
      · rw [p149]
        exact LkR_fr (fun i a1 a2 => by rw [pS i (by omega), f2.2 i (by omega)]) e5
      · rw [t, p149]
        exact StR_fr (fun i a1 a2 => pS i (by omega)) f3
      · rw [p149]
        exact TV_cells h9 hcell w2
      · exact TxtR_fr (by rw [p3 0 (by omega)]) (p3 1 (by omega)) (p144 2 (by omega) (by omega)) (p3 145 (by omega)) hTx
      · exact ⟨by rw [pS 130 (by omega)]; exact s3, by rw [wI2, if_pos rfl, if_pos rfl]; rfl, by omega, fun i hi => by omega⟩
      · exact SeC_fr (by rw [p3 132 (by omega)]) (p3 133 (by omega)) (p3 134 (by omega)) (p3 135 (by omega)) hc
      · exact SeM_fr (p144 19 (by omega) (by omega)) (p3 153 (by omega)) (p3 154 (by omega)) (p3 155 (by omega)) hm
      · exact KpR_fr (by rw [p3 0 (by omega)]) (p3 152 (by omega)) (p3 151 (by omega)) (fun j a1 a2 => p3 j (by omega)) hK
    · have hb0 : hb (M.2 0 11) x = 0 := by rw [hb_0]; simpa using hbit
      have v15 : (wI M 144 0 0).2 152 x = 0 := by rw [wI2n (by decide), k1, hb0]
      refine ⟨-3, M, wI M 144 0 0, ?_, ?_, Inv_SX hz H0⟩
      · unfold m_X7_back
        simp +decide (disch := omega) only [wL2, wi1, obs, ↓reduceIte, hb1, hb0]
      · unfold m_X8_back
        simp +decide (disch := omega) only [pIs, iL1, in1, obs, ↓reduceIte, rm15 hMz, ra_152, v15]
  · refine ⟨-2, M, wI M 144 0 0, ?_, ?_, Inv_SX hz H0⟩
    · unfold m_X7_back
      simp +decide (disch := omega) only [wL2, wi0 hx, obs, ↓reduceIte]
    · unfold m_X8_back
      simp +decide (disch := omega) only [pIs, iL1, in0n (n := 1) (by omega) hx, obs, ↓reduceIte]
end OPS6
