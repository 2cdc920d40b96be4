/-! ===== calls: toggles, tags, switches ===== -/
section OPS5
variable {M M1 : Mem} {b b2 N R L h m : Nat} {rem sn sp : Nat → Nat} {sv : Nat → Int32}
theorem TV_c {S : Nat → Int32} {x : Nat} (hN : N ≤ 9) (hx : x < 200) (hT : TV S N) : TV (ap x S) N := by
  intro n hn
  obtain ⟨t, h1, h2⟩ := hT n hn
  refine ⟨t, h1, ?_⟩
  by_cases h100 : x < 100
  · rw [ap_c h100, if_neg (by omega)]; exact h2
  · rw [ap_s (by omega) hx, if_neg (by omega)]; exact h2
theorem TV_ap {S : Nat → Int32} {x : Nat} (hN : N ≤ 9) (hx : CV x N R) (hT : TV S N) (hR : R ≤ 8) : TV (ap x S) N := by
  rcases hx with h | h | h
  · exact TV_c hN (by omega) hT
  · exact TV_c hN (by omega) hT
  · intro n hn
    rw [ap_t (by omega)]
    by_cases hq : n = (x - 200) / 4
    · rw [if_pos hq]; exact ⟨_, by omega, rfl⟩
    · rw [if_neg hq]; exact hT n hn
theorem op_toggles (H : Iv M b b2 N R L h m rem sn sp sv) (x1 x2 : Int32) : Alike2 (m_X7_toggles M 0 x1 x2) (fun M1 => m_X8_toggles M1 144 x1 x2) := by
  have H0 := H
  obtain ⟨⟨hC, hM⟩, hW, hS, hL, hSt, hT, hTx, hH, ⟨hc, hm⟩, hK⟩ := H
  have h9 := hW.2.1
  have hz := SX_z M 0
  have hMz := MR_SX hz hM
  have hWz := WF_SX hz hW
  have iz := Inv_SX hz H0
  rcases qix x1 N (by omega) with ⟨n, hn, rfl⟩ | hx
  · rcases qix x2 4 (by omega) with ⟨c, hc4, rfl⟩ | hx
    · have hcv : CV (4 * n + c) N R := Or.inl (by omega)
      obtain ⟨M9, c0, c1, c2, c3, c4, c5, c6, c7⟩ := c_perform H0 (cx := 4 * n + c) (x := 4 * n + c) hcv
      have hC9 : CR M9.1 b b2 := by rw [c1]; exact hC
      have hM9 : MR (wI M9 144 0 0).1 := by rw [wI1, c1]; exact hM
      have t9 : (wI M9 144 0 0).2 146 = M.2 146 := by rw [wI2n (by decide), c2 146 (by omega)]
      have s9 : (wI M9 144 0 0).2 149 = M.2 149 := by rw [wI2n (by decide), c2 149 (by omega)]
      have hW9 : WF ((wI M9 144 0 0).2 146) N R := by rw [t9]; exact hW
      obtain ⟨M4, g1, g2, g3, g4, g5, g6, g7⟩ := m_notes (h := h) hM9 hH.2.2.1 (by rw [wI2, if_pos rfl, if_neg (by decide), c2 144 (by omega)]; exact hH.2.1)
      have hM4 : MR M4.1 := by rw [g2]; exact hM9
      have s4 : M4.2 149 = M.2 149 := by rw [g3 149 (by decide) (by decide), s9]
      have hw := w_cls (M := M4) (x := 4 * n + c) (by omega)
      rw [show (4 * n + c) / 4 = n by omega, show (4 * n + c) % 4 = c by omega] at hw
      have hM5 : MR (wI M4 149 (9 + n) (M4.2 149 (9 + n) ^^^ ((1 : Int32) <<< (nI c &&& 31)))).1 := hM4
      have v9 : M9.2 116 n = ap (4 * n + c) (M.2 149) (9 + n) := (c3.1 n hn).2
      refine ⟨ap (4 * n + c) (M.2 149) (9 + n), M9, wI M4 149 (9 + n) (M4.2 149 (9 + n) ^^^ ((1 : Int32) <<< (nI c &&& 31))), ?_, ?_, ?_⟩
      · unfold m_X7_toggles
        simp +decide (disch := omega) only [rc3 hC, obs, hS.1, wi1, wL4, ↓reduceIte, qmu, nI_add, c0, rc4 hC9, rl1 hC9, ra_116, v9]
      · unfold m_X8_toggles
        simp +decide (disch := omega) only [pIs, obs, m_isNode1 hM9 hW9 hn, m_isFour1 hc4, ↓reduceIte, g1, rm11 hM4, qa1, ra_149, wa_149, rm11 hM5]
        rw [hw, s4]
      · refine Iv_perform H0 (M9 := M9) (cx := 4 * n + c) (x := 4 * n + c) hcv (fun j hj => by rw [ap_ap (by omega)]) (TV_c h9 (by omega) hT) c1 c2 c3 c4 c5 c6 c7 (by rw [wI1, g2]; rfl) (fun j j1 j2 j3 => ?_) (fun j j1 j2 => ?_) ?_ (fun j hj => ?_) (fun i j hi hj => ?_) ?_
        · rw [wI2n j2, g3 j j3 j1, wI2n j1]
        · rw [wI2n (by decide), g4 j j2, wI2, if_pos rfl, if_neg j1]
        · rw [wI2n (by decide)]; exact g5
        · rw [wI2n (by decide), g6 j hj, s9]
        · rw [wI2n (by decide), g7 i j hi hj, wI2n (by decide), c2 150 (by omega)]
        · rw [hw, s4]
    · refine ⟨-2, M, _, ?_, ?_, iz⟩
      · unfold m_X7_toggles
        simp +decide (disch := omega) only [rc3 hC, obs, hS.1, wi1, wL4, wi0 hx, ↓reduceIte]
      · unfold m_X8_toggles
        simp +decide (disch := omega) only [pIs, obs, m_isNode1 hMz hWz hn, m_isFour0 hx, ↓reduceIte]
  · refine ⟨-2, M, _, ?_, ?_, iz⟩
    · unfold m_X7_toggles
      simp +decide (disch := omega) only [rc3 hC, obs, hS.1, wi0 hx, ↓reduceIte]
    · unfold m_X8_toggles
      simp +decide (disch := omega) only [pIs, obs, m_isNode0 hMz hWz hx, ↓reduceIte]
theorem op_switches (H : Iv M b b2 N R L h m rem sn sp sv) (x1 : Int32) : Alike2 (m_X7_switches M 0 x1) (fun M1 => m_X8_switches M1 144 x1) := by
  have H0 := H
  obtain ⟨⟨hC, hM⟩, hW, hS, hL, hSt, hT, hTx, hH, ⟨hc, hm⟩, hK⟩ := H
  have h9 := hW.2.1
  have h8 := hW.2.2.2.1
  have hz := SX_z M 0
  have hMz := MR_SX hz hM
  have hWz := WF_SX hz hW
  have iz := Inv_SX hz H0
  rcases qix x1 R (by omega) with ⟨r, hr, rfl⟩ | hx
  · have hcv : CV (100 + r) N R := Or.inr (Or.inl ⟨by omega, by omega⟩)
    obtain ⟨M9, c0, c1, c2, c3, c4, c5, c6, c7⟩ := c_perform H0 (cx := 100 + r) (x := 100 + r) hcv
    have hC9 : CR M9.1 b b2 := by rw [c1]; exact hC
    have hM9 : MR (wI M9 144 0 0).1 := by rw [wI1, c1]; exact hM
    have t9 : (wI M9 144 0 0).2 146 = M.2 146 := by rw [wI2n (by decide), c2 146 (by omega)]
    have s9 : (wI M9 144 0 0).2 149 = M.2 149 := by rw [wI2n (by decide), c2 149 (by omega)]
    have hW9 : WF ((wI M9 144 0 0).2 146) N R := by rw [t9]; exact hW
    obtain ⟨M4, g1, g2, g3, g4, g5, g6, g7⟩ := m_notes (h := h) hM9 hH.2.2.1 (by rw [wI2, if_pos rfl, if_neg (by decide), c2 144 (by omega)]; exact hH.2.1)
    have hM4 : MR M4.1 := by rw [g2]; exact hM9
    have s4 : M4.2 149 = M.2 149 := by rw [g3 149 (by decide) (by decide), s9]
    have hw := w_sw (M := M4) (r := r) (by omega)
    have hM5 : MR (wI M4 149 18 (M4.2 149 18 ^^^ ((1 : Int32) <<< (nI r &&& 31)))).1 := hM4
    refine ⟨bi (bt (ap (100 + r) (M.2 149) 18) r), M9, wI M4 149 18 (M4.2 149 18 ^^^ ((1 : Int32) <<< (nI r &&& 31))), ?_, ?_, ?_⟩
    · unfold m_X7_switches
      simp +decide (disch := omega) only [rc3 hC, obs, hS.2.1, wi1, ↓reduceIte, qa1, c0, rc4 hC9, c_hasOn c3.2 (show r < 32 by omega), hb_bi]
      cases bt (ap (100 + r) (M.2 149) 18) r <;> rfl
    · unfold m_X8_switches
      simp +decide (disch := omega) only [pIs, obs, m_isRule1 hM9 hW9 hr, ↓reduceIte, g1, rm11 hM4, ra_149e, wa_149e, rm11 hM5]
      rw [hw, s4, shr1 _ (by omega), hb_bi]
    · refine Iv_perform H0 (M9 := M9) (cx := 100 + r) (x := 100 + r) hcv (fun j hj => by rw [ap_ap (by omega)]) (TV_c h9 (by omega) hT) c1 c2 c3 c4 c5 c6 c7 (by rw [wI1, g2]; rfl) (fun j j1 j2 j3 => ?_) (fun j j1 j2 => ?_) ?_ (fun j hj => ?_) (fun i j hi hj => ?_) ?_
      · rw [wI2n j2, g3 j j3 j1, wI2n j1]
      · rw [wI2n (by decide), g4 j j2, wI2, if_pos rfl, if_neg j1]
      · rw [wI2n (by decide)]; exact g5
      · rw [wI2n (by decide), g6 j hj, s9]
      · rw [wI2n (by decide), g7 i j hi hj, wI2n (by decide), c2 150 (by omega)]
      · rw [hw, s4]
  · refine ⟨-2, M, _, ?_, ?_, iz⟩
    · unfold m_X7_switches
      simp +decide (disch := omega) only [rc3 hC, obs, hS.2.1, wi0 hx, ↓reduceIte]
    · unfold m_X8_switches
      simp +decide (disch := omega) only [pIs, obs, m_isRule0 hMz hWz hx, ↓reduceIte]
theorem wa_149z {n : Nat} {v : Int32} (hn : n < 9) : wa M 149 (0 + nI n) v = some (wI M 149 n v) := by rw [q0a, wa_149 (by omega)]
theorem op_tags (H : Iv M b b2 N R L h m rem sn sp sv) (x1 x2 : Int32) : Alike2 (m_X7_tags M 0 x1 x2) (fun M1 => m_X8_tags M1 144 x1 x2) := by
  have H0 := H
  obtain ⟨⟨hC, hM⟩, hW, hS, hL, hSt, hT, hTx, hH, ⟨hc, hm⟩, hK⟩ := H
  have h9 := hW.2.1
  have h8 := hW.2.2.2.1
  have hz := SX_z M 0
  have hMz := MR_SX hz hM
  have hWz := WF_SX hz hW
  have iz := Inv_SX hz H0
  rcases qix x1 N (by omega) with ⟨n, hn, rfl⟩ | hx
  · rcases qix x2 4 (by omega) with ⟨t, ht4, rfl⟩ | hx
    · obtain ⟨o, ho4, ho⟩ := hT n hn
      have vM : M.2 115 n = nI o := by rw [(hL.1 n hn).1]; exact ho
      have vz : (wI M 144 0 0).2 149 n = nI o := by rw [sx_149 hz]; exact ho
      by_cases hto : o = t
      · subst hto
        refine ⟨-3, M, _, ?_, ?_, iz⟩
        · unfold m_X7_tags
          simp +decide (disch := omega) only [rc3 hC, obs, hS.1, wi1, wL4, ↓reduceIte, rc4 hC, rl0 hC, ra_115, vM]
        · unfold m_X8_tags
          simp +decide (disch := omega) only [pIs, obs, m_isNode1 hMz hWz hn, m_isFour1 ht4, ↓reduceIte, rm11 hMz, ra_149z, vz]
      · have hcv : CV (200 + 4 * n + t) N R := Or.inr (Or.inr ⟨by omega, by omega⟩)
        have hcv2 : CV (200 + 4 * n + o) N R := Or.inr (Or.inr ⟨by omega, by omega⟩)
        obtain ⟨M9, c0, c1, c2, c3, c4, c5, c6, c7⟩ := c_perform H0 (cx := 200 + 4 * n + t) (x := 200 + 4 * n + o) hcv
        have hC9 : CR M9.1 b b2 := by rw [c1]; exact hC
        have hM9 : MR (wI M9 144 0 0).1 := by rw [wI1, c1]; exact hM
        have t9 : (wI M9 144 0 0).2 146 = M.2 146 := by rw [wI2n (by decide), c2 146 (by omega)]
        have s9 : (wI M9 144 0 0).2 149 = M.2 149 := by rw [wI2n (by decide), c2 149 (by omega)]
        have hW9 : WF ((wI M9 144 0 0).2 146) N R := by rw [t9]; exact hW
        obtain ⟨M4, g1, g2, g3, g4, g5, g6, g7⟩ := m_notes (h := h) hM9 hH.2.2.1 (by rw [wI2, if_pos rfl, if_neg (by decide), c2 144 (by omega)]; exact hH.2.1)
        have hM4 : MR M4.1 := by rw [g2]; exact hM9
        have s4 : M4.2 149 = M.2 149 := by rw [g3 149 (by decide) (by decide), s9]
        have v9 : (wI M9 144 0 0).2 149 n = nI o := by rw [s9]; exact ho
        have hw : (wI M4 149 n (nI t)).2 149 = ap (200 + 4 * n + t) (M.2 149) := by
          funext i
          rw [wI2, if_pos rfl, ap_t (by omega), show (200 + 4 * n + t - 200) / 4 = n by omega, show (200 + 4 * n + t - 200) % 4 = t by omega, s4]
        have neq : ¬ nI o = nI t := by rw [qeq (by omega) (by omega)]; exact hto
        refine ⟨nI o, M9, wI M4 149 n (nI t), ?_, ?_, ?_⟩
        · unfold m_X7_tags
          simp +decide (disch := omega) only [rc3 hC, obs, hS.1, wi1, wL4, ↓reduceIte, rc4 hC, rl0 hC, ra_115, vM, neq, qmu, qa1, nI_add, c0]
        · unfold m_X8_tags
          simp +decide (disch := omega) only [pIs, obs, m_isNode1 hM9 hW9 hn, m_isFour1 ht4, ↓reduceIte, rm11 hM9, ra_149z, v9, neq, g1, rm11 hM4, wa_149z]
        · refine Iv_perform H0 (M9 := M9) (cx := 200 + 4 * n + t) (x := 200 + 4 * n + o) hcv2 (fun j hj => ?_) (TV_ap h9 hcv hT h8) c1 c2 c3 c4 c5 c6 c7 (by rw [wI1, g2]; rfl) (fun j j1 j2 j3 => ?_) (fun j j1 j2 => ?_) ?_ (fun j hj => ?_) (fun i j hi hj => ?_) hw
          · rw [ap_t (by omega), ap_t (by omega), show (200 + 4 * n + o - 200) / 4 = n by omega, show (200 + 4 * n + o - 200) % 4 = o by omega, show (200 + 4 * n + t - 200) / 4 = n by omega]
            by_cases hjn : j = n
            · rw [if_pos hjn, hjn, ho]
            · rw [if_neg hjn, if_neg hjn]
          · rw [wI2n j2, g3 j j3 j1, wI2n j1]
          · rw [wI2n (by decide), g4 j j2, wI2, if_pos rfl, if_neg j1]
          · rw [wI2n (by decide)]; exact g5
          · rw [wI2n (by decide), g6 j hj, s9]
          · rw [wI2n (by decide), g7 i j hi hj, wI2n (by decide), c2 150 (by omega)]
    · refine ⟨-2, M, _, ?_, ?_, iz⟩
      · unfold m_X7_tags
        simp +decide (disch := omega) only [rc3 hC, obs, hS.1, wi1, wL4, wi0 hx, ↓reduceIte]
      · unfold m_X8_tags
        simp +decide (disch := omega) only [pIs, obs, m_isNode1 hMz hWz hn, m_isFour0 hx, ↓reduceIte]
  · refine ⟨-2, M, _, ?_, ?_, iz⟩
    · unfold m_X7_tags
      simp +decide (disch := omega) only [rc3 hC, obs, hS.1, wi0 hx, ↓reduceIte]
    · unfold m_X8_tags
      simp +decide (disch := omega) only [pIs, obs, m_isNode0 hMz hWz hx, ↓reduceIte]
end OPS5
