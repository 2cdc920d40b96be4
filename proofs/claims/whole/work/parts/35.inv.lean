/-! ===== what holds between two calls ===== -/
def TV (S : Nat → Int32) (N : Nat) : Prop := ∀ n, n < N → ∃ t, t < 4 ∧ S n = nI t
def TxtR (M : Mem) (L : Nat) : Prop := M.2 0 1 = nI L ∧ M.2 144 2 = nI L ∧ L ≤ 120 ∧ ∀ i, i < L → ∃ c, c < 256 ∧ M.2 1 i = nI c ∧ M.2 145 i = nI c
/-- the look after the i-th of h changes -/
def uS (M : Mem) (h i : Nat) : Nat → Int32 := if i < h then fun j => M.2 150 (19 * i + j) else M.2 149
def HiR (M : Mem) (N R h : Nat) (rem : Nat → Nat) : Prop := M.2 130 1 = nI h ∧ M.2 144 13 = nI h ∧ h ≤ 10 ∧ ∀ i, i < h → CV (rem i) N R ∧ M.2 131 i = nI (rem i) ∧ ∀ j, j < 19 → M.2 150 (19 * i + j) = ap (rem i) (uS M h (i + 1)) j
def KpR (M : Mem) (N : Nat) : Prop := ∀ x, x < 2 → M.2 152 x = hb (M.2 0 11) x ∧ (bt (M.2 0 11) x = true → LkR M (138 + 3 * x) (fun j => M.2 151 (19 * x + j)) N ∧ TV (fun j => M.2 151 (19 * x + j)) N)
def Iv (M : Mem) (b b2 N R L h m : Nat) (rem sn sp : Nat → Nat) (sv : Nat → Int32) : Prop :=
  (CR M.1 b b2 ∧ MR M.1) ∧ WF (M.2 146) N R ∧ ShR M b (M.2 146) N R ∧ LkR M 114 (M.2 149) N ∧ StR M 120 (M.2 146) (M.2 149) N R ∧ TV (M.2 149) N ∧ TxtR M L ∧ HiR M N R h rem ∧ (SeC M N m sn sp sv ∧ SeM M N m sn sp sv) ∧ KpR M N
def Inv (M : Mem) : Prop := ∃ (b b2 N R L h m : Nat) (rem sn sp : Nat → Nat) (sv : Nat → Int32), Iv M b b2 N R L h m rem sn sp sv
theorem wL2 (x : Int32) : m_X7_within x 2 = m_X7_within x (nI 2) := rfl
theorem wL4 (x : Int32) : m_X7_within x 4 = m_X7_within x (nI 4) := rfl
theorem wL6 (x : Int32) : m_X7_within x 6 = m_X7_within x (nI 6) := rfl
theorem wL7 (x : Int32) : m_X7_within x 7 = m_X7_within x (nI 7) := rfl
theorem wL8 (x : Int32) : m_X7_within x 8 = m_X7_within x (nI 8) := rfl
theorem wL9 (x : Int32) : m_X7_within x 9 = m_X7_within x (nI 9) := rfl
theorem wL10 (x : Int32) : m_X7_within x 10 = m_X7_within x (nI 10) := rfl
theorem wL120 (x : Int32) : m_X7_within x 120 = m_X7_within x (nI 120) := rfl
theorem wL256 (x : Int32) : m_X7_within x 256 = m_X7_within x (nI 256) := rfl
theorem iL1 (x : Int32) : m_X8_in x 0 1 = m_X8_in x 0 (nI 1) := rfl
theorem iL3 (x : Int32) : m_X8_in x 0 3 = m_X8_in x 0 (nI 3) := rfl
theorem iL5 (x : Int32) : m_X8_in x 0 5 = m_X8_in x 0 (nI 5) := rfl
theorem iL6 (x : Int32) : m_X8_in x 0 6 = m_X8_in x 0 (nI 6) := rfl
theorem iL9 (x : Int32) : m_X8_in x 0 9 = m_X8_in x 0 (nI 9) := rfl
theorem iL255 (x : Int32) : m_X8_in x 0 255 = m_X8_in x 0 (nI 255) := rfl
section INV
variable {M M1 : Mem} {b b2 N R L h m : Nat} {rem sn sp : Nat → Nat} {sv : Nat → Int32}
theorem TxtR_fr (e0 : M1.2 0 1 = M.2 0 1) (e1 : M1.2 1 = M.2 1) (e2 : M1.2 144 2 = M.2 144 2) (e3 : M1.2 145 = M.2 145) (H : TxtR M L) : TxtR M1 L := by
  unfold TxtR
  rw [e0, e1, e2, e3]
  exact H
theorem uS_fr {i : Nat} (e0 : M1.2 150 = M.2 150) (e1 : M1.2 149 = M.2 149) : uS M1 h i = uS M h i := by
  unfold uS
  rw [e0, e1]
theorem HiR_fr (e0 : M1.2 130 1 = M.2 130 1) (e1 : M1.2 144 13 = M.2 144 13) (e2 : M1.2 131 = M.2 131) (e3 : M1.2 150 = M.2 150) (e4 : M1.2 149 = M.2 149) (H : HiR M N R h rem) : HiR M1 N R h rem := by
  unfold HiR
  rw [e0, e1, e2, e3]
  refine ⟨H.1, H.2.1, H.2.2.1, fun i hi => ?_⟩
  rw [uS_fr e3 e4]
  exact H.2.2.2 i hi
theorem KpR_fr (e0 : M1.2 0 11 = M.2 0 11) (e1 : M1.2 152 = M.2 152) (e2 : M1.2 151 = M.2 151) (e3 : ∀ j, 138 ≤ j → j ≤ 143 → M1.2 j = M.2 j) (H : KpR M N) : KpR M1 N := by
  intro x hx
  obtain ⟨h1, h2⟩ := H x hx
  rw [e0, e1, e2]
  refine ⟨h1, fun hb => ⟨?_, (h2 hb).2⟩⟩
  exact LkR_fr (fun i a1 a2 => e3 i (by omega) (by omega)) (h2 hb).1
theorem SeC_fr (e0 : M1.2 132 3 = M.2 132 3) (e1 : M1.2 133 = M.2 133) (e2 : M1.2 134 = M.2 134) (e3 : M1.2 135 = M.2 135) (H : SeC M N m sn sp sv) : SeC M1 N m sn sp sv := by
  unfold SeC
  rw [e0, e1, e2, e3]
  exact H
theorem SeM_fr (e0 : M1.2 144 19 = M.2 144 19) (e1 : M1.2 153 = M.2 153) (e2 : M1.2 154 = M.2 154) (e3 : M1.2 155 = M.2 155) (H : SeM M N m sn sp sv) : SeM M1 N m sn sp sv := by
  unfold SeM
  rw [e0, e1, e2, e3]
  exact H
theorem Iv_SX (hX : SX M M1) (H : Iv M b b2 N R L h m rem sn sp sv) : Iv M1 b b2 N R L h m rem sn sp sv := by
  obtain ⟨⟨hC, hM⟩, hW, hS, hL, hSt, hT, hTx, hH, ⟨hc, hm⟩, hK⟩ := H
  have hb := sb_le (cr_sb hC)
  have e : ∀ j, j ≠ 117 → j ≠ 118 → j ≠ 119 → (j < 125 ∨ 129 < j) → j ≠ 137 → (j < 144 ∨ (144 < j ∧ j < 156)) → M1.2 j = M.2 j := fun j a1 a2 a3 a4 a5 a6 => hX.2.1 j a1 a2 a3 a4 a5 (by omega) (by omega) (by omega)
  have t := sx_146 hX
  have s := sx_149 hX
  have g : ∀ j, (j < 117 ∨ (119 < j ∧ j < 125) ∨ (129 < j ∧ j < 137) ∨ (137 < j ∧ j < 144) ∨ (144 < j ∧ j < 156)) → M1.2 j = M.2 j := fun j hj => e j (by omega) (by omega) (by omega) (by omega) (by omega) (by omega)
  unfold Iv
  rw [hX.1, t, s]
  refine ⟨⟨hC, hM⟩, hW, ?_, ?_, ?_, hT, ?_, ?_, ⟨?_, ?_⟩, ?_⟩
  · exact ShR_fr hW.2.2.2.1 (fun i h1 h2 => g i (by omega)) hS
  · exact LkR_fr (fun i h1 h2 => g i (by omega)) hL
  · exact StR_fr (fun i h1 h2 => g i (by omega)) hSt
  · exact TxtR_fr (by rw [g 0 (by omega)]) (g 1 (by omega)) (hX.2.2 2 (by omega)) (g 145 (by omega)) hTx
  · exact HiR_fr (by rw [g 130 (by omega)]) (hX.2.2 13 (by omega)) (g 131 (by omega)) (g 150 (by omega)) (g 149 (by omega)) hH
  · exact SeC_fr (by rw [g 132 (by omega)]) (g 133 (by omega)) (g 134 (by omega)) (g 135 (by omega)) hc
  · exact SeM_fr (hX.2.2 19 (by omega)) (g 153 (by omega)) (g 154 (by omega)) (g 155 (by omega)) hm
  · exact KpR_fr (by rw [g 0 (by omega)]) (g 152 (by omega)) (g 151 (by omega)) (fun j h1 h2 => g j (by omega)) hK
theorem Inv_SX (hX : SX M M1) (H : Iv M b b2 N R L h m rem sn sp sv) : Inv M1 := ⟨b, b2, N, R, L, h, m, rem, sn, sp, sv, Iv_SX hX H⟩
/-- the row of matches is filled, the told and the look as they were -/
theorem m_fill2 (hM : MR M.1) (hW : WF (M.2 146) N R) : ∃ M9, m_X8_fills (wI M 144 0 0) 144 = some M9 ∧ SX M M9 ∧ FLD M9 N R := by
  have hX := SX_z M 0
  obtain ⟨M2, e1, e2, e3, e4⟩ := m_fills (MR_SX hX hM) (WF_SX hX hW)
  refine ⟨M2, e1, SX_trans hX (SX_157 e2 e3), fun j hj => ?_⟩
  rw [e4 j hj, e3 146 (by omega), e3 149 (by omega)]
/-- both answer alike, the second on what the first left -/
def Alike (o : Option Int32) (q : Option (Int32 × Mem)) : Prop := ∃ r M2, o = some r ∧ q = some (r, M2) ∧ Inv M2
def Alike2 (o : Option (Int32 × Mem)) (q : Mem → Option (Int32 × Mem)) : Prop := ∃ r M1 M2, o = some (r, M1) ∧ q M1 = some (r, M2) ∧ Inv M2
theorem rl0 (h : CR M.1 b b2) : rf 10 M 114 0 = some 115 := rf_eq (cr_114 h).1 rfl
theorem rl1 (h : CR M.1 b b2) : rf 10 M 114 1 = some 116 := rf_eq (cr_114 h).2 rfl
theorem ra_149z {M : Mem} {n : Nat} (hn : n < 9) : ra M 149 (0 + nI n) = some (M.2 149 n) := by rw [q0a, ra_149 (by omega)]
theorem op_node (H : Iv M b b2 N R L h m rem sn sp sv) (x1 x2 : Int32) : Alike (m_X7_node M 0 x1 x2) (m_X8_node M 144 x1 x2) := by
  have H0 := H
  obtain ⟨⟨hC, hM⟩, hW, hS, hL, hSt, hT, hTx, hH, ⟨hc, hm⟩, hK⟩ := H
  have h9 := hW.2.1
  have hz := SX_z M 0
  have hMz := MR_SX hz hM
  have hWz := WF_SX hz hW
  obtain ⟨kS1, kS2⟩ := kS (cr_sb hC)
  have hsr := cr_sr hC
  have iz := Inv_SX hz H0
  rcases qix x1 N (by omega) with ⟨n, hn, rfl⟩ | hx
  · rcases qix x2 6 (by omega) with ⟨j, hj, rfl⟩ | hx
    · obtain ⟨M3, f1, f2, f3⟩ := m_fill2 hM hW
      have hM3 := MR_SX f2 hM
      have hW3 := WF_SX f2 hW
      have i3 := Inv_SX f2 H0
      have s1 : M.2 (b + 1) n = M.2 146 (3 + n) := (hS.2.2.1 n hn).1
      have s2 : M.2 115 n = M.2 149 n := (hL.1 n hn).1
      have s3 : M.2 116 n = M.2 149 (9 + n) := (hL.1 n hn).2
      obtain rfl | rfl | rfl | rfl | rfl | rfl : j = 0 ∨ j = 1 ∨ j = 2 ∨ j = 3 ∨ j = 4 ∨ j = 5 := by omega
      · refine ⟨M.2 146 (3 + n), _, ?_, ?_, iz⟩
        · unfold m_X7_node
          simp +decide (disch := omega) only [rc3 hC, obs, hS.1, wi1, wL6, ↓reduceIte, rf_eq hsr.1 kS1.2.1, ra_eq (a := b + 1) (k := n) (by rw [kS2.1]; omega) (by omega), s1]
        · unfold m_X8_node
          simp +decide (disch := omega) only [pIs, m_isNode1 hMz hWz hn, obs, iL5, in1, ↓reduceIte, rm8 hMz, qa1, ra_146, sx_146 hz]
      · refine ⟨M.2 149 n, _, ?_, ?_, iz⟩
        · unfold m_X7_node
          simp +decide (disch := omega) only [rc3 hC, obs, hS.1, wi1, wL6, ↓reduceIte, rc4 hC, rl0 hC, ra_115, s2]
        · unfold m_X8_node
          simp +decide (disch := omega) only [pIs, m_isNode1 hMz hWz hn, obs, iL5, in1, ↓reduceIte, rm11 hMz, ra_149z, sx_149 hz]
      · refine ⟨M.2 149 (9 + n), _, ?_, ?_, iz⟩
        · unfold m_X7_node
          simp +decide (disch := omega) only [rc3 hC, obs, hS.1, wi1, wL6, ↓reduceIte, rc4 hC, rl1 hC, ra_116, s3]
        · unfold m_X8_node
          simp +decide (disch := omega) only [pIs, m_isNode1 hMz hWz hn, obs, iL5, in1, ↓reduceIte, rm11 hMz, qa1, ra_149, sx_149 hz]
      · refine ⟨bs R (fun r => mtch (M.2 146) (M.2 149) r n), _, ?_, ?_, i3⟩
        · unfold m_X7_node
          simp +decide (disch := omega) only [rc3 hC, obs, hS.1, wi1, wL6, ↓reduceIte, rc6 hC, c_rulesOf (cr_120 hC) yk_120 h9 hSt hn]
        · unfold m_X8_node
          simp +decide (disch := omega) only [pIs, m_isNode1 hMz hWz hn, obs, iL5, in1, ↓reduceIte, f1, m_rulesOf hM3 hW3 f3 hn, sx_146 f2, sx_149 f2]
      · refine ⟨nI (rcG (M.2 146) (M.2 149) R n), _, ?_, ?_, i3⟩
        · unfold m_X7_node
          simp +decide (disch := omega) only [rc3 hC, obs, hS.1, wi1, wL6, ↓reduceIte, rc6 hC, c_recordOf (cr_120 hC) yk_120 hW hSt hn]
        · unfold m_X8_node
          simp +decide (disch := omega) only [pIs, m_isNode1 hMz hWz hn, obs, iL5, in1, ↓reduceIte, f1, m_recordOf hM3 hW3 f3 hn, sx_146 f2, sx_149 f2]
      · refine ⟨bs N (blB (M.2 146) n), _, ?_, ?_, i3⟩
        · unfold m_X7_node
          simp +decide (disch := omega) only [rc3 hC, obs, hS.1, wi1, wL6, ↓reduceIte, c_below (cr_sb hC) hsr hW hS hn]
        · unfold m_X8_node
          simp +decide (disch := omega) only [pIs, m_isNode1 hMz hWz hn, obs, iL5, in1, ↓reduceIte, f1, m_below hM3 hW3 hn, sx_146 f2]
    · refine ⟨-2, _, ?_, ?_, iz⟩
      · unfold m_X7_node
        simp +decide (disch := omega) only [rc3 hC, obs, hS.1, wi1, wL6, wi0 hx, ↓reduceIte]
      · unfold m_X8_node
        simp +decide (disch := omega) only [pIs, m_isNode1 hMz hWz hn, obs, iL5, in0n (n := 5) (by omega) hx, ↓reduceIte]
  · refine ⟨-2, _, ?_, ?_, iz⟩
    · unfold m_X7_node
      simp +decide (disch := omega) only [rc3 hC, obs, hS.1, wi0 hx, ↓reduceIte]
    · unfold m_X8_node
      simp +decide (disch := omega) only [pIs, m_isNode0 hMz hWz hx, obs, ↓reduceIte]
end INV
