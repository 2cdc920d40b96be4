/-! ===== calls that only read ===== -/
theorem qpos {x : Int32} (h : ¬ x < 0) : ∃ w, w < 2 ^ 31 ∧ x = nI w := by
  have h1 : 0 ≤ x.toInt := by
    rw [Int32.lt_iff_toInt_lt] at h
    have e : (0 : Int32).toInt = 0 := by decide
    omega
  have h2 := x.toInt_lt
  refine ⟨x.toInt.toNat, by omega, ?_⟩
  apply Int32.toInt_inj.mp
  rw [nI_toInt (by omega)]
  omega
section OPS1
variable {M M1 : Mem} {b b2 N R L h m : Nat} {rem sn sp : Nat → Nat} {sv : Nat → Int32}
theorem bi_ite (x : Bool) : (if bi x = 0 then some (0 : Int32) else some 1) = some (bi x) := by cases x <;> rfl
theorem hb_bi (x : Int32) (k : Nat) : hb x k = bi (bt x k) := rfl
theorem op_rule (H : Iv M b b2 N R L h m rem sn sp sv) (x1 x2 : Int32) : Alike (m_X7_rule M 0 x1 x2) (m_X8_rule M 144 x1 x2) := by
  have H0 := H
  obtain ⟨⟨hC, hM⟩, hW, hS, hL, hSt, hT, hTx, hH, ⟨hc, hm⟩, hK⟩ := H
  have h9 := hW.2.1
  have h8 := hW.2.2.2.1
  have hz := SX_z M 0
  have hMz := MR_SX hz hM
  have hWz := WF_SX hz hW
  obtain ⟨kS1, kS2⟩ := kS (cr_sb hC)
  have hsr := cr_sr hC
  have iz := Inv_SX hz H0
  rcases qix x1 R (by omega) with ⟨r, hr, rfl⟩ | hx
  · rcases qix x2 7 (by omega) with ⟨j, hj, rfl⟩ | hx
    · obtain ⟨M3, f1, f2, f3⟩ := m_fill2 hM hW
      have hM3 := MR_SX f2 hM
      have hW3 := WF_SX f2 hW
      have i3 := Inv_SX f2 H0
      have hqr := hsr.2.2.2.2.2 r (by omega)
      obtain ⟨kR1, kR2⟩ := kR (cr_sb hC) r (by omega)
      obtain ⟨e0, e1, e2, e3, e4, -⟩ := hS.2.2.2 r hr
      have rr1 : rr 4 M (b + 6) (nI r) = some (b + 7 + 6 * r) := rr_eq (by rw [kS2.2.2.2.2]; omega) (by omega) hqr.1 kR1.1
      have rf1 := rf_eq hsr.2.2.2.1 kS1.2.2.2.2.2.2
      obtain rfl | rfl | rfl | rfl | rfl | rfl | rfl : j = 0 ∨ j = 1 ∨ j = 2 ∨ j = 3 ∨ j = 4 ∨ j = 5 ∨ j = 6 := by omega
      · refine ⟨bi (bt (M.2 146 2) r), _, ?_, ?_, iz⟩
        · unfold m_X7_rule
          simp +decide (disch := omega) only [rc3 hC, obs, hS.2.1, wi1, wL7, ↓reduceIte, rf1, rr1, e0, bi_ite]
        · unfold m_X8_rule
          simp +decide (disch := omega) only [pIs, m_isRule1 hMz hWz hr, obs, iL6, in1, ↓reduceIte, rm8 hMz, ra_146t, sx_146 hz, shr1, hb_bi]
      · refine ⟨M.2 146 (12 + r), _, ?_, ?_, iz⟩
        · unfold m_X7_rule
          simp +decide (disch := omega) only [rc3 hC, obs, hS.2.1, wi1, wL7, ↓reduceIte, rf1, rr1, e1]
        · unfold m_X8_rule
          simp +decide (disch := omega) only [pIs, m_isRule1 hMz hWz hr, obs, iL6, in1, ↓reduceIte, rm8 hMz, qa1, ra_146, sx_146 hz]
      · refine ⟨nI (spec (M.2 146) r), _, ?_, ?_, iz⟩
        · unfold m_X7_rule
          simp +decide (disch := omega) only [rc3 hC, obs, hS.2.1, wi1, wL7, ↓reduceIte, rf1, rr1, e2]
        · unfold m_X8_rule
          simp +decide (disch := omega) only [pIs, m_isRule1 hMz hWz hr, obs, iL6, in1, ↓reduceIte, m_specific hMz hWz hr, sx_146 hz]
      · refine ⟨M.2 146 (92 + r), _, ?_, ?_, iz⟩
        · unfold m_X7_rule
          simp +decide (disch := omega) only [rc3 hC, obs, hS.2.1, wi1, wL7, ↓reduceIte, rf1, rr1, e3]
        · unfold m_X8_rule
          simp +decide (disch := omega) only [pIs, m_isRule1 hMz hWz hr, obs, iL6, in1, ↓reduceIte, rm8 hMz, qa1, ra_146, sx_146 hz]
      · refine ⟨M.2 146 (100 + r), _, ?_, ?_, iz⟩
        · unfold m_X7_rule
          simp +decide (disch := omega) only [rc3 hC, obs, hS.2.1, wi1, wL7, ↓reduceIte, rf1, rr1, e4]
        · unfold m_X8_rule
          simp +decide (disch := omega) only [pIs, m_isRule1 hMz hWz hr, obs, iL6, in1, ↓reduceIte, rm8 hMz, qa1, ra_146, sx_146 hz]
      · refine ⟨bi (bt (M.2 149 18) r), _, ?_, ?_, i3⟩
        · unfold m_X7_rule
          simp +decide (disch := omega) only [rc3 hC, obs, hS.2.1, wi1, wL7, ↓reduceIte, rf1, rr1, rc4 hC, c_hasOn hL.2 (show r < 32 by omega), hb_bi, bi_ite]
        · unfold m_X8_rule
          simp +decide (disch := omega) only [pIs, m_isRule1 hMz hWz hr, obs, iL6, in1, ↓reduceIte, f1, rm11 hM3, ra_149e, sx_149 f2, shr1, hb_bi]
      · refine ⟨matF (M.2 146) (M.2 149) N r, _, ?_, ?_, i3⟩
        · unfold m_X7_rule
          simp +decide (disch := omega) only [rc3 hC, obs, hS.2.1, wi1, wL7, ↓reduceIte, rf1, rr1, rc6 hC, c_nodesOf (cr_120 hC) yk_120 h8 hSt hr]
        · unfold m_X8_rule
          simp +decide (disch := omega) only [pIs, m_isRule1 hMz hWz hr, obs, iL6, in1, ↓reduceIte, f1, rm21 hM3, ra_157, f3 r hr, sx_146 f2, sx_149 f2]
    · refine ⟨-2, _, ?_, ?_, iz⟩
      · unfold m_X7_rule
        simp +decide (disch := omega) only [rc3 hC, obs, hS.2.1, wi1, wL7, wi0 hx, ↓reduceIte]
      · unfold m_X8_rule
        simp +decide (disch := omega) only [pIs, m_isRule1 hMz hWz hr, obs, iL6, in0n (n := 6) (by omega) hx, ↓reduceIte]
  · refine ⟨-2, _, ?_, ?_, iz⟩
    · unfold m_X7_rule
      simp +decide (disch := omega) only [rc3 hC, obs, hS.2.1, wi0 hx, ↓reduceIte]
    · unfold m_X8_rule
      simp +decide (disch := omega) only [pIs, m_isRule0 hMz hWz hx, obs, ↓reduceIte]
theorem c_isPlace1 (hC : CR M.1 b b2) {T : Nat → Int32} (hW : WF T N R) (hS : ShR M b T N R) {n p : Nat} (hn : n < N) (hp : p < 4) : m_X7_isPlace M 0 (nI n) (nI p) = some 1 := by
  have h9 := hW.2.1
  unfold m_X7_isPlace
  simp +decide (disch := omega) only [rc3 hC, obs, hS.1, wi1, wL4, ↓reduceIte]
theorem c_isPlace0a (hC : CR M.1 b b2) {T : Nat → Int32} (hS : ShR M b T N R) {x1 x2 : Int32} (hx : x1 < 0 ∨ nI N ≤ x1) : m_X7_isPlace M 0 x1 x2 = some 0 := by
  unfold m_X7_isPlace
  simp +decide (disch := omega) only [rc3 hC, obs, hS.1, wi0 hx, ↓reduceIte]
theorem c_isPlace0b (hC : CR M.1 b b2) {T : Nat → Int32} (hW : WF T N R) (hS : ShR M b T N R) {n : Nat} (hn : n < N) {x2 : Int32} (hx : x2 < 0 ∨ nI 4 ≤ x2) : m_X7_isPlace M 0 (nI n) x2 = some 0 := by
  have h9 := hW.2.1
  unfold m_X7_isPlace
  simp +decide (disch := omega) only [rc3 hC, obs, hS.1, wi1, wL4, wi0 hx, ↓reduceIte]
theorem op_value (H : Iv M b b2 N R L h m rem sn sp sv) (x1 x2 : Int32) : Alike (m_X7_value M 0 x1 x2) (m_X8_value M 144 x1 x2) := by
  have H0 := H
  obtain ⟨⟨hC, hM⟩, hW, hS, hL, hSt, hT, hTx, hH, ⟨hc, hm⟩, hK⟩ := H
  have h9 := hW.2.1
  obtain ⟨M3, f1, f2, f3⟩ := m_fill2 hM hW
  have hM3 := MR_SX f2 hM
  have hW3 := WF_SX f2 hW
  have i3 := Inv_SX f2 H0
  rcases qix x1 N (by omega) with ⟨n, hn, rfl⟩ | hx
  · rcases qix x2 4 (by omega) with ⟨p, hp, rfl⟩ | hx
    · refine ⟨valO (M.2 146) (M.2 149) R n p, _, ?_, ?_, i3⟩
      · unfold m_X7_value
        simp +decide (disch := omega) only [c_isPlace1 hC hW hS hn hp, obs, ↓reduceIte, rc6 hC, c_valueAt (cr_120 hC) yk_120 h9 hSt hn hp]
      · unfold m_X8_value
        simp +decide (disch := omega) only [pIs, f1, obs, m_isNode1 hM3 hW3 hn, m_isFour1 hp, ↓reduceIte, m_valueOf hM3 hW3 f3 hn hp, sx_146 f2, sx_149 f2]
    · refine ⟨-2, _, ?_, ?_, i3⟩
      · unfold m_X7_value
        simp +decide (disch := omega) only [c_isPlace0b hC hW hS hn hx, obs, ↓reduceIte]
      · unfold m_X8_value
        simp +decide (disch := omega) only [pIs, f1, obs, m_isNode1 hM3 hW3 hn, m_isFour0 hx, ↓reduceIte]
  · refine ⟨-2, _, ?_, ?_, i3⟩
    · unfold m_X7_value
      simp +decide (disch := omega) only [c_isPlace0a hC hS hx, obs, ↓reduceIte]
    · unfold m_X8_value
      simp +decide (disch := omega) only [pIs, f1, obs, m_isNode0 hM3 hW3 hx, ↓reduceIte]
theorem op_source (H : Iv M b b2 N R L h m rem sn sp sv) (x1 x2 : Int32) : Alike (m_X7_source M 0 x1 x2) (m_X8_source M 144 x1 x2) := by
  have H0 := H
  obtain ⟨⟨hC, hM⟩, hW, hS, hL, hSt, hT, hTx, hH, ⟨hc, hm⟩, hK⟩ := H
  have h9 := hW.2.1
  obtain ⟨M3, f1, f2, f3⟩ := m_fill2 hM hW
  have hM3 := MR_SX f2 hM
  have hW3 := WF_SX f2 hW
  have i3 := Inv_SX f2 H0
  rcases qix x1 N (by omega) with ⟨n, hn, rfl⟩ | hx
  · rcases qix x2 4 (by omega) with ⟨p, hp, rfl⟩ | hx
    · refine ⟨enc (srcO (M.2 146) (M.2 149) R n p), _, ?_, ?_, i3⟩
      · unfold m_X7_source
        simp +decide (disch := omega) only [c_isPlace1 hC hW hS hn hp, obs, ↓reduceIte, rc6 hC, c_sourceAt (cr_120 hC) yk_120 h9 hSt hn hp]
      · unfold m_X8_source
        simp +decide (disch := omega) only [pIs, f1, obs, m_isNode1 hM3 hW3 hn, m_isFour1 hp, ↓reduceIte, m_sourceOf hM3 hW3 f3 hn hp, sx_146 f2, sx_149 f2]
    · refine ⟨-2, _, ?_, ?_, i3⟩
      · unfold m_X7_source
        simp +decide (disch := omega) only [c_isPlace0b hC hW hS hn hx, obs, ↓reduceIte]
      · unfold m_X8_source
        simp +decide (disch := omega) only [pIs, f1, obs, m_isNode1 hM3 hW3 hn, m_isFour0 hx, ↓reduceIte]
  · refine ⟨-2, _, ?_, ?_, i3⟩
    · unfold m_X7_source
      simp +decide (disch := omega) only [c_isPlace0a hC hS hx, obs, ↓reduceIte]
    · unfold m_X8_source
      simp +decide (disch := omega) only [pIs, f1, obs, m_isNode0 hM3 hW3 hx, ↓reduceIte]
theorem op_winner (H : Iv M b b2 N R L h m rem sn sp sv) (x1 x2 x3 : Int32) : Alike (m_X7_winner M 0 x1 x2 x3) (m_X8_winner M 144 x1 x2 x3) := by
  have H0 := H
  obtain ⟨⟨hC, hM⟩, hW, hS, hL, hSt, hT, hTx, hH, ⟨hc, hm⟩, hK⟩ := H
  have h9 := hW.2.1
  have h8 := hW.2.2.2.1
  obtain ⟨M3, f1, f2, f3⟩ := m_fill2 hM hW
  have hM3 := MR_SX f2 hM
  have hW3 := WF_SX f2 hW
  have i3 := Inv_SX f2 H0
  rcases qix x1 N (by omega) with ⟨n, hn, rfl⟩ | hx
  · rcases qix x2 4 (by omega) with ⟨p, hp, rfl⟩ | hx
    · by_cases h0 : x3 < 0
      · refine ⟨-2, _, ?_, ?_, i3⟩
        · unfold m_X7_winner
          simp +decide (disch := omega) only [c_isPlace1 hC hW hS hn hp, obs, ↓reduceIte]
          rw [if_neg (Int32.not_le.mpr h0)]
        · unfold m_X8_winner
          simp +decide (disch := omega) only [pIs, f1, obs, m_isNode1 hM3 hW3 hn, m_isFour1 hp, ↓reduceIte]
          rw [if_pos h0]
      · obtain ⟨w, hw, rfl⟩ := qpos h0
        refine ⟨if w ≤ 8 then enc (wn (M.2 146) p R (dcl (M.2 146) (M.2 149) p n) w) else -9, _, ?_, ?_, i3⟩
        · unfold m_X7_winner
          simp +decide (disch := omega) only [c_isPlace1 hC hW hS hn hp, obs, ↓reduceIte]
          rw [if_pos (Int32.not_lt.mp h0), rc6 hC, obs, c_rulesOf (cr_120 hC) yk_120 h9 hSt hn, obs, rc3 hC, obs, c_strongest (cr_sb hC) (cr_sr hC) hW hS hp, obs]
          have hwl := c_win_L (cr_sb hC) (cr_sr hC) (rc3 hC) hW hS hp hw (L := dcl (M.2 146) (M.2 149) p n) (x1 := nI n) (min w 8) 0 FU (fun r => mtch (M.2 146) (M.2 149) r n) (by omega) (by unfold FU; omega) (fun i hi => rfl)
          have e1 : wn (M.2 146) p R (dcl (M.2 146) (M.2 149) p n) 0 = best (M.2 146) p R (fun r => mtch (M.2 146) (M.2 149) r n && bt (M.2 146 (92 + r)) p) := rfl
          rw [e1, show nI 0 = 0 from rfl] at hwl
          rw [hwl]
          by_cases hw8 : w ≤ 8
          · rw [if_pos hw8, Nat.min_eq_left hw8]
          · rw [if_neg hw8, Nat.min_eq_right (by omega), wn_8 h8, encN]
        · unfold m_X8_winner
          simp +decide (disch := omega) only [pIs, f1, obs, m_isNode1 hM3 hW3 hn, m_isFour1 hp, ↓reduceIte]
          rw [if_neg h0, m_winnerOf hM3 hW3 f3 hn hp hw, obs, sx_146 f2, sx_149 f2]
    · refine ⟨-2, _, ?_, ?_, i3⟩
      · unfold m_X7_winner
        simp +decide (disch := omega) only [c_isPlace0b hC hW hS hn hx, obs, ↓reduceIte]
      · unfold m_X8_winner
        simp +decide (disch := omega) only [pIs, f1, obs, m_isNode1 hM3 hW3 hn, m_isFour0 hx, ↓reduceIte]
  · refine ⟨-2, _, ?_, ?_, i3⟩
    · unfold m_X7_winner
      simp +decide (disch := omega) only [c_isPlace0a hC hS hx, obs, ↓reduceIte]
    · unfold m_X8_winner
      simp +decide (disch := omega) only [pIs, f1, obs, m_isNode0 hM3 hW3 hx, ↓reduceIte]
end OPS1
