/-! ===== calls: type, clear, sees, forget ===== -/
theorem nar256 : ∀ c, c < 256 → vp_nar .char (((nI c).toUInt32 % 65536).toInt32) = nI c := by decide +kernel
section OPS3
variable {M M1 : Mem} {b b2 N R L h m L2 h2 m2 : Nat} {rem sn sp rem2 sn2 sp2 : Nat → Nat} {sv sv2 : Nat → Int32}
theorem Iv_step (H : Iv M b b2 N R L h m rem sn sp sv) (e : M1.1 = M.1) (f : ∀ j, ((4 ≤ j ∧ j ≤ 116) ∨ (120 ≤ j ∧ j ≤ 124) ∨ j = 146 ∨ j = 149) → M1.2 j = M.2 j) (hx : TxtR M1 L2) (hh : HiR M1 N R h2 rem2) (h1 : SeC M1 N m2 sn2 sp2 sv2) (h2 : SeM M1 N m2 sn2 sp2 sv2) (h3 : KpR M1 N) : Inv M1 := by
  obtain ⟨⟨hC, hM⟩, hW, hS, hL, hSt, hT, -⟩ := H
  have hb := sb_le (cr_sb hC)
  have g := f 146 (by omega)
  have g2 := f 149 (by omega)
  refine ⟨b, b2, N, R, _, _, _, _, _, _, _, ⟨by rw [e]; exact hC, by rw [e]; exact hM⟩, by rw [g]; exact hW, ?_, ?_, ?_, by rw [g2]; exact hT, hx, hh, ⟨h1, h2⟩, h3⟩
  · rw [g]; exact ShR_fr hW.2.2.2.1 (fun i a1 a2 => f i (by omega)) hS
  · rw [g2]; exact LkR_fr (fun i a1 a2 => f i (by omega)) hL
  · rw [g, g2]; exact StR_fr (fun i a1 a2 => f i (by omega)) hSt
theorem op_type (H : Iv M b b2 N R L h m rem sn sp sv) (x1 : Int32) : Alike2 (m_X7_type M 0 x1) (fun M1 => m_X8_type M1 144 x1) := by
  have H0 := H
  obtain ⟨⟨hC, hM⟩, hW, hS, hL, hSt, hT, hTx, hH, ⟨hc, hm⟩, hK⟩ := H
  have hz := SX_z M 0
  have iz := Inv_SX hz H0
  have z2 : (wI M 144 0 0).2 144 2 = nI L := by rw [hz.2.2 2 (by omega)]; exact hTx.2.1
  have l120 := hTx.2.2.1
  rcases qix x1 256 (by omega) with ⟨c, hc2, rfl⟩ | hx
  · by_cases hl : L < 120
    · have e1 : m_X7_type M 0 (nI c) = some (nI (L + 1), wI (wI M 1 L (nI c)) 0 1 (nI (L + 1))) := by
        unfold m_X7_type
        simp +decide (disch := omega) only [wL256, wi1, obs, ↓reduceIte, hTx.1, wL120, rc0 hC, nar256, wa_1, pIs]
        simp [wI2, hTx.1, nI_1]
      have hM1 : MR (wI (wI (wI M 1 L (nI c)) 0 1 (nI (L + 1))) 144 0 0).1 := hM
      have e2 : m_X8_type (wI (wI M 1 L (nI c)) 0 1 (nI (L + 1))) 144 (nI c) = some (nI (L + 1), wI (wI (wI (wI (wI M 1 L (nI c)) 0 1 (nI (L + 1))) 144 0 0) 145 L (nI c)) 144 2 (nI (L + 1))) := by
        have y2 : (wI (wI (wI M 1 L (nI c)) 0 1 (nI (L + 1))) 144 0 0).2 144 2 = nI L := by
          simp [wI2, hTx.2.1]
        unfold m_X8_type
        simp +decide (disch := omega) only [pIs, iL255, in1, obs, ↓reduceIte, y2, qeq1, qeq, rm1 hM1, wa_145]
        rw [if_neg (by omega)]
        simp [wI2, hTx.2.1, nI_1]
      refine ⟨_, _, _, e1, e2, Iv_step (L2 := L + 1) (h2 := h) (rem2 := rem) (m2 := m) (sn2 := sn) (sp2 := sp) (sv2 := sv) H0 rfl (fun j hj => ?_) ?_ ?_ ?_ ?_ ?_⟩
      · rw [wI2n (by omega), wI2n (by omega), wI2n (by omega), wI2n (by omega), wI2n (by omega)]
      · refine ⟨by simp [wI2], by simp [wI2], by omega, fun i hi => ?_⟩
        by_cases hiL : i = L
        · exact ⟨c, hc2, by simp [wI2, hiL], by simp [wI2, hiL]⟩
        · obtain ⟨c2, g1, g2, g3⟩ := hTx.2.2.2 i (by omega)
          exact ⟨c2, g1, by simp [wI2, hiL, g2], by simp [wI2, hiL, g3]⟩
      · exact HiR_fr (by simp [wI2]) (by simp [wI2]) (by funext i; simp [wI2]) (by funext i; simp [wI2]) (by funext i; simp [wI2]) hH
      · exact SeC_fr (by simp [wI2]) (by funext i; simp [wI2]) (by funext i; simp [wI2]) (by funext i; simp [wI2]) hc
      · exact SeM_fr (by simp [wI2]) (by funext i; simp [wI2]) (by funext i; simp [wI2]) (by funext i; simp [wI2]) hm
      · exact KpR_fr (by simp [wI2]) (by funext i; simp [wI2]) (by funext i; simp [wI2]) (fun j a1 a2 => by rw [wI2n (by omega), wI2n (by omega), wI2n (by omega), wI2n (by omega), wI2n (by omega)]) hK
    · refine ⟨-4, M, _, ?_, ?_, iz⟩
      · unfold m_X7_type
        simp +decide (disch := omega) only [wL256, wi1, obs, ↓reduceIte, hTx.1, wL120, wi0n]
      · unfold m_X8_type
        simp +decide (disch := omega) only [pIs, iL255, in1, obs, ↓reduceIte, z2, qeq1, qeq]
        rw [if_pos (by omega)]
  · refine ⟨-2, M, _, ?_, ?_, iz⟩
    · unfold m_X7_type
      simp +decide (disch := omega) only [wL256, wi0 hx, obs, ↓reduceIte]
    · unfold m_X8_type
      simp +decide (disch := omega) only [pIs, iL255, in0n (n := 255) (by omega) hx, obs, ↓reduceIte]
theorem op_clear (H : Iv M b b2 N R L h m rem sn sp sv) : Alike2 (m_X7_clear M 0) (fun M1 => m_X8_clear M1 144) := by
  have H0 := H
  obtain ⟨⟨hC, hM⟩, hW, hS, hL, hSt, hT, hTx, hH, ⟨hc, hm⟩, hK⟩ := H
  have e1 : m_X7_clear M 0 = some (nI L, wI M 0 1 (nI 0)) := by
    unfold m_X7_clear
    rw [pIs, hTx.1]
    rfl
  have e2 : m_X8_clear (wI M 0 1 (nI 0)) 144 = some (nI L, wI (wI (wI M 0 1 (nI 0)) 144 0 0) 144 2 (nI 0)) := by
    have y2 : (wI (wI M 0 1 (nI 0)) 144 0 0).2 144 2 = nI L := by simp [wI2, hTx.2.1]
    unfold m_X8_clear
    rw [pIs, pIs, y2]
    rfl
  refine ⟨_, _, _, e1, e2, Iv_step (L2 := 0) (h2 := h) (rem2 := rem) (m2 := m) (sn2 := sn) (sp2 := sp) (sv2 := sv) H0 rfl (fun j hj => ?_) ?_ ?_ ?_ ?_ ?_⟩
  · rw [wI2n (by omega), wI2n (by omega), wI2n (by omega)]
  · exact ⟨by simp [wI2], by simp [wI2], by omega, fun i hi => by omega⟩
  · exact HiR_fr (by simp [wI2]) (by simp [wI2]) (by funext i; simp [wI2]) (by funext i; simp [wI2]) (by funext i; simp [wI2]) hH
  · exact SeC_fr (by simp [wI2]) (by funext i; simp [wI2]) (by funext i; simp [wI2]) (by funext i; simp [wI2]) hc
  · exact SeM_fr (by simp [wI2]) (by funext i; simp [wI2]) (by funext i; simp [wI2]) (by funext i; simp [wI2]) hm
  · exact KpR_fr (by simp [wI2]) (by funext i; simp [wI2]) (by funext i; simp [wI2]) (fun j a1 a2 => by rw [wI2n (by omega), wI2n (by omega), wI2n (by omega)]) hK
theorem op_forget (H : Iv M b b2 N R L h m rem sn sp sv) : Alike2 (m_X7_forget M 0) (fun M1 => m_X8_forget M1 144) := by
  have H0 := H
  obtain ⟨⟨hC, hM⟩, hW, hS, hL, hSt, hT, hTx, hH, ⟨hc, hm⟩, hK⟩ := H
  have e1 : m_X7_forget M 0 = some (nI m, wI M 132 3 (nI 0)) := by
    unfold m_X7_forget m_X5_empty
    simp only [rc9 hC, obs, pIs, hc.1]
    rfl
  have e2 : m_X8_forget (wI M 132 3 (nI 0)) 144 = some (nI m, wI (wI (wI M 132 3 (nI 0)) 144 0 0) 144 19 (nI 0)) := by
    have y2 : (wI (wI M 132 3 (nI 0)) 144 0 0).2 144 19 = nI m := by simp [wI2, hm.1]
    unfold m_X8_forget
    rw [pIs, pIs, y2]
    rfl
  refine ⟨_, _, _, e1, e2, Iv_step (L2 := L) (h2 := h) (rem2 := rem) (m2 := 0) (sn2 := sn) (sp2 := sp) (sv2 := sv) H0 rfl (fun j hj => ?_) ?_ ?_ ?_ ?_ ?_⟩
  · rw [wI2n (by omega), wI2n (by omega), wI2n (by omega)]
  · exact TxtR_fr (by simp [wI2]) (by funext i; simp [wI2]) (by simp [wI2]) (by funext i; simp [wI2]) hTx
  · exact HiR_fr (by simp [wI2]) (by simp [wI2]) (by funext i; simp [wI2]) (by funext i; simp [wI2]) (by funext i; simp [wI2]) hH
  · exact ⟨by simp [wI2], by omega, fun k hk => by omega⟩
  · exact ⟨by simp [wI2], by omega, fun k hk => by omega⟩
  · exact KpR_fr (by simp [wI2]) (by funext i; simp [wI2]) (by funext i; simp [wI2]) (fun j a1 a2 => by rw [wI2n (by omega), wI2n (by omega), wI2n (by omega)]) hK
theorem op_sees (H : Iv M b b2 N R L h m rem sn sp sv) (x1 x2 x3 : Int32) : Alike2 (m_X7_sees M 0 x1 x2 x3) (fun M1 => m_X8_sees M1 144 x1 x2 x3) := by
  have H0 := H
  obtain ⟨⟨hC, hM⟩, hW, hS, hL, hSt, hT, hTx, hH, ⟨hc, hm⟩, hK⟩ := H
  have h9 := hW.2.1
  have h6 := hc.2.1
  have hz := SX_z M 0
  have hMz := MR_SX hz hM
  have hWz := WF_SX hz hW
  have iz := Inv_SX hz H0
  have z19 : (wI M 144 0 0).2 144 19 = nI m := by rw [hz.2.2 19 (by omega)]; exact hm.1
  rcases qix x1 N (by omega) with ⟨n, hn, rfl⟩ | hx
  · rcases qix x2 4 (by omega) with ⟨p, hp, rfl⟩ | hx
    · rcases qix x3 10 (by omega) with ⟨v, hv, rfl⟩ | hx
      · by_cases hm6 : m < 6
        · have e1 : m_X7_sees M 0 (nI n) (nI p) (nI v) = some (nI (m + 1), wI (wI (wI (wI M 133 m (nI n)) 134 m (nI p)) 135 m (nI v)) 132 3 (nI (m + 1))) := by
            have c1 : CR (wI M 133 m (nI n)).1 b b2 := hC
            have c2 : CR (wI (wI M 133 m (nI n)) 134 m (nI p)).1 b b2 := hC
            have c3 : CR (wI (wI (wI (wI M 133 m (nI n)) 134 m (nI p)) 135 m (nI v)) 132 3 (nI (m + 1))).1 b b2 := hC
            have y1 : (wI M 133 m (nI n)).2 132 3 = nI m := by simp [wI2, hc.1]
            have y2 : (wI (wI M 133 m (nI n)) 134 m (nI p)).2 132 3 = nI m := by simp [wI2, hc.1]
            have y3 : (wI (wI (wI M 133 m (nI n)) 134 m (nI p)) 135 m (nI v)).2 132 3 = nI m := by simp [wI2, hc.1]
            unfold m_X7_sees m_X5_add
            simp +decide (disch := omega) only [c_isPlace1 hC hW hS hn hp, obs, ↓reduceIte, wL10, wi1, rc9 hC, hc.1, wL6, rc132a hC, wa_133, rc132b c1, y1, wa_134, rc132c c2, y2, wa_135, pIs, y3, nI_1, b2s, rc9 c3]
            simp [wI2]
          have hM1 : MR (wI (wI (wI (wI (wI M 133 m (nI n)) 134 m (nI p)) 135 m (nI v)) 132 3 (nI (m + 1))) 144 0 0).1 := hM
          have hM2 : MR (wI (wI (wI (wI (wI (wI M 133 m (nI n)) 134 m (nI p)) 135 m (nI v)) 132 3 (nI (m + 1))) 144 0 0) 153 m (nI n)).1 := hM
          have hM3 : MR (wI (wI (wI (wI (wI (wI (wI M 133 m (nI n)) 134 m (nI p)) 135 m (nI v)) 132 3 (nI (m + 1))) 144 0 0) 153 m (nI n)) 154 m (nI p)).1 := hM
          have hW1 : WF ((wI (wI (wI (wI (wI M 133 m (nI n)) 134 m (nI p)) 135 m (nI v)) 132 3 (nI (m + 1))) 144 0 0).2 146) N R := hW
          have e2 : m_X8_sees (wI (wI (wI (wI M 133 m (nI n)) 134 m (nI p)) 135 m (nI v)) 132 3 (nI (m + 1))) 144 (nI n) (nI p) (nI v) = some (nI (m + 1), wI (wI (wI (wI (wI (wI (wI (wI (wI M 133 m (nI n)) 134 m (nI p)) 135 m (nI v)) 132 3 (nI (m + 1))) 144 0 0) 153 m (nI n)) 154 m (nI p)) 155 m (nI v)) 144 19 (nI (m + 1))) := by
            have y1 : (wI (wI (wI (wI (wI M 133 m (nI n)) 134 m (nI p)) 135 m (nI v)) 132 3 (nI (m + 1))) 144 0 0).2 144 19 = nI m := by simp [wI2, hm.1]
            have y2 : (wI (wI (wI (wI (wI (wI M 133 m (nI n)) 134 m (nI p)) 135 m (nI v)) 132 3 (nI (m + 1))) 144 0 0) 153 m (nI n)).2 144 19 = nI m := by simp [wI2, hm.1]
            have y3 : (wI (wI (wI (wI (wI (wI (wI M 133 m (nI n)) 134 m (nI p)) 135 m (nI v)) 132 3 (nI (m + 1))) 144 0 0) 153 m (nI n)) 154 m (nI p)).2 144 19 = nI m := by simp [wI2, hm.1]
            have y4 : (wI (wI (wI (wI (wI (wI (wI (wI M 133 m (nI n)) 134 m (nI p)) 135 m (nI v)) 132 3 (nI (m + 1))) 144 0 0) 153 m (nI n)) 154 m (nI p)) 155 m (nI v)).2 144 19 = nI m := by simp [wI2, hm.1]
            unfold m_X8_sees
            simp +decide (disch := omega) only [pIs, obs, m_isNode1 hM1 hW1 hn, m_isFour1 hp, iL9, in1, ↓reduceIte, y1, qeq1, qeq, rm16 hM1, wa_153, rm17 hM2, y2, wa_154, rm18 hM3, y3, wa_155, y4, nI_1]
            rw [if_neg (by omega)]
            simp [wI2]
          refine ⟨_, _, _, e1, e2, Iv_step (L2 := L) (h2 := h) (rem2 := rem) (m2 := m + 1) (sn2 := fun k => if k = m then n else sn k) (sp2 := fun k => if k = m then p else sp k) (sv2 := fun k => if k = m then nI v else sv k) H0 rfl (fun j hj => ?_) ?_ ?_ ?_ ?_ ?_⟩
          · rw [wI2n (by omega), wI2n (by omega), wI2n (by omega), wI2n (by omega), wI2n (by omega), wI2n (by omega), wI2n (by omega), wI2n (by omega), wI2n (by omega)]
          · exact TxtR_fr (by simp [wI2]) (by funext i; simp [wI2]) (by simp [wI2]) (by funext i; simp [wI2]) hTx
          · exact HiR_fr (by simp [wI2]) (by simp [wI2]) (by funext i; simp [wI2]) (by funext i; simp [wI2]) (by funext i; simp [wI2]) hH
          · refine ⟨by simp [wI2], by omega, fun k hk => ?_⟩
            by_cases hkm : k = m
            · simp [hkm, wI2, hn, hp]
            · have := hc.2.2 k (by omega)
              simp [hkm, wI2, this]
          · refine ⟨by simp [wI2], by omega, fun k hk => ?_⟩
            by_cases hkm : k = m
            · simp [hkm, wI2, hn, hp]
            · have := hm.2.2 k (by omega)
              simp [hkm, wI2, this]
          · exact KpR_fr (by simp [wI2]) (by funext i; simp [wI2]) (by funext i; simp [wI2]) (fun j a1 a2 => by rw [wI2n (by omega), wI2n (by omega), wI2n (by omega), wI2n (by omega), wI2n (by omega), wI2n (by omega), wI2n (by omega), wI2n (by omega), wI2n (by omega)]) hK
        · refine ⟨-4, M, _, ?_, ?_, iz⟩
          · unfold m_X7_sees m_X5_add
            simp +decide (disch := omega) only [c_isPlace1 hC hW hS hn hp, obs, ↓reduceIte, wL10, wi1, rc9 hC, hc.1, wL6, wi0n, b2s]
          · unfold m_X8_sees
            simp +decide (disch := omega) only [pIs, obs, m_isNode1 hMz hWz hn, m_isFour1 hp, iL9, in1, ↓reduceIte, z19, qeq1, qeq]
            rw [if_pos (by omega)]
      · refine ⟨-2, M, _, ?_, ?_, iz⟩
        · unfold m_X7_sees
          simp +decide (disch := omega) only [c_isPlace1 hC hW hS hn hp, obs, wL10, wi0 hx, ↓reduceIte]
        · unfold m_X8_sees
          simp +decide (disch := omega) only [pIs, obs, m_isNode1 hMz hWz hn, m_isFour1 hp, iL9, in0n (n := 9) (by omega) hx, ↓reduceIte]
    · refine ⟨-2, M, _, ?_, ?_, iz⟩
      · unfold m_X7_sees
        simp +decide (disch := omega) only [c_isPlace0b hC hW hS hn hx, obs, ↓reduceIte]
      · unfold m_X8_sees
        simp +decide (disch := omega) only [pIs, obs, m_isNode1 hMz hWz hn, m_isFour0 hx, ↓reduceIte]
  · refine ⟨-2, M, _, ?_, ?_, iz⟩
    · unfold m_X7_sees
      simp +decide (disch := omega) only [c_isPlace0a hC hS hx, obs, ↓reduceIte]
    · unfold m_X8_sees
      simp +decide (disch := omega) only [pIs, obs, m_isNode0 hMz hWz hx, ↓reduceIte]
end OPS3
