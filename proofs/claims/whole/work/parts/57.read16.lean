/-! ===== reading in step: a node, put together ===== -/
def OutN (C D : Mem) (bb N R : Nat) (f : Nat → Nat) (L s : Nat) (oc : Option (Int32 × Mem)) (od : Option Mem) : Prop :=
  (∃ C1 D1 k' s' e', oc = some (1, C1) ∧ od = some D1 ∧ RdC C1 f L k' s' e' ∧ RdD D1 f L k' s' e' ∧ s ≤ s' ∧ DR C1 D1 bb N R ∧ GC bb C C1 ∧ GD D D1)
  ∨ (∃ C1 D1 s', oc = some (0, C1) ∧ od = some D1 ∧ C1.2 2 3 = nI s' ∧ Bad D1 s' ∧ GC bb C C1 ∧ GD D D1)
theorem OutN_pre {C0 C D0 D : Mem} {bb N R L s s0 : Nat} {f : Nat → Nat} {oc : Option (Int32 × Mem)} {od : Option Mem} (h : GC bb C0 C) (g : GD D0 D) (hs : s0 ≤ s) (ho : OutN C D bb N R f L s oc od) : OutN C0 D0 bb N R f L s0 oc od := by
  rcases ho with ⟨C1, D1, k', s', e', x1, x2, x3, x4, x5, x6, x7, x8⟩ | ⟨C1, D1, s', x1, x2, x3, x4, x5, x6⟩
  · left
    exact ⟨C1, D1, k', s', e', x1, x2, x3, x4, by omega, x6, GC_trans h x7, GD_trans g x8⟩
  · right
    exact ⟨C1, D1, s', x1, x2, x3, x4, GC_trans h x5, GD_trans g x6⟩
section READ16
variable {C D : Mem} {f : Nat → Nat} {L k s e N R bb : Nat}
theorem wa_148z {M : Mem} {n : Nat} {v : Int32} (hn : n < 9) : wa M 148 (0 + nI n) v = some (wI M 148 n v) := by rw [q0a, wa_148 (by omega)]
theorem L48_bad (hM : MR D.1) (hB : Bad D s) (hN : N < 9) (x : Int32) : ∃ D1, m_X8_readsNode_L48 144 D (nI N) x (nI (3 + N)) 147 = some D1 ∧ Bad D1 s ∧ GD D D1 := by
  have hB1 : Bad (wI D 147 (3 + N) x) s := Bad_w hB (by decide)
  have hM1 : MR (wI D 147 (3 + N) x).1 := hM
  have hB2 : Bad (wI (wI D 147 (3 + N) x) 148 N (0 - 97)) s := Bad_w hB1 (by decide)
  obtain ⟨D1, a1, a2, a3⟩ := L72_bad (D := wI (wI D 147 (3 + N) x) 148 N (0 - 97)) hM hB2 (fu := 999) (nI N)
  refine ⟨D1, ?_, a2, GD_trans (GD_w _ _ (by omega)) (GD_trans (GD_w _ _ (by omega)) a3)⟩
  unfold m_X8_readsNode_L48
  rw [wa_147 (by omega), obs, rm10 hM1, obs, m_from0 hB1, obs, m_takeB hB1, b2s, wa_148z hN, obs]
  exact a1
theorem nod_T {p : Option Nat} (hs : SB bb) (h25 : C.1 2 5 = some bb) (hC : RdC C f L k s e) (hD : RdD D f L k s e) (hDR : DR C D bb N R) (hN : N < 9) (hp : ∀ q, p = some q → q < N) (hp0 : N = 0 → p = none) (hp1 : 0 < N → ∃ q, p = some q) : OutN C D bb (N + 1) R f L s (m_X2_readNode_L72 2 C (enc p)) ((m_X8_readsNode_L48 144 D (nI N) (enc p) (nI (3 + N)) 147).bind mEnd) := by
  have hb := sb_le hs
  have hk := hC.2.2.2.2.1
  have hsl := RdC_s hC
  have hD1 : RdD (wI D 147 (3 + N) (enc p)) f L k s e := RdD_w hD (by omega)
  have hM1 := hD1.2.1
  unfold m_X2_readNode_L72 m_X8_readsNode_L48
  rw [c_isTag hC, obs, wa_147 (by omega), obs, rm10 hM1, obs, m_fromT hD1 hk, obs]
  by_cases ht : 97 ≤ k ∧ k ≤ 100
  · have hbi : bi (decide (97 ≤ k ∧ k ≤ 100)) = 1 := by simp [ht, bi]
    obtain ⟨C1, a1, a2, a3⟩ := c_adv hC
    obtain ⟨D2, g1, g2, g3⟩ := m_take1 hD1 hC.2.2.1
    have hsg : sgB k = true := (sgr _ hk).1 ht
    have v6 : (wI D 147 (3 + N) (enc p)).2 144 6 = nI k := hD1.2.2.1.2.2.2.1 hsg
    have q97 : nI k - 97 = nI (k - 97) := qsub (b := 97) (by omega)
    have hp1' := prog hC (by omega)
    rw [v6] at g1
    rw [hbi, if_neg (by decide), a1, obs, c_tokv hC (by omega), q97, g1, b2s, q97, wa_148z hN, obs]
    have hU2 : ∀ i, i ≠ N → (wI D2 148 N (nI (k - 97))).2 148 i = D.2 148 i := fun i hi => by rw [wI2, if_pos rfl, if_neg hi, g2.2.1 148 (by decide), wI2n (by decide)]
    have hT2 : ∀ i, (wI D2 148 N (nI (k - 97))).2 147 i = if i = 3 + N then enc p else D.2 147 i := fun i => by rw [wI2n (by decide), g2.2.1 147 (by decide), wI2, if_pos rfl]
    have GD2 : GD D (wI D2 148 N (nI (k - 97))) := GD_trans (GD_w _ _ (by omega)) (GD_trans (FD_GD g2) (GD_w _ _ (by omega)))
    have key := nod_L (x1 := enc p) (x2 := nI (k - 97)) hN 4 0 FU FU _ _ _ C1 (wI D2 148 N (nI (k - 97))) rfl (by omega) (by unfold FU; omega) (by unfold FU; omega) a3 (RdD_w g3 (by omega)) (by rw [hU2 _ (by omega)]; exact hDR.2.2.2.2.2.2.2 N (Nat.le_refl N) hN) (by rw [hT2, if_neg (by omega)]; exact hDR.2.1.1)
    rw [show nI 0 = 0 from rfl, show nI (on4 0) = 0 from rfl] at key
    rcases key with ⟨C3, D3, k', s', e', w', z1, z2, z3, z4, z5, z6, z7, z8, z9, z10⟩ | ⟨C3, D3, s', z1, z2, z3, z4, z5, z6⟩ | ⟨C3, D3, k', s', e', w', z1, z2, z3, z4, z5, z6, z7⟩
    · have hk3 := z5.2.2.2.2.1
      have t59 : m_X8_isThis D3 144 59 = some (bi (decide (k' = 59))) := m_this1 z6 hk3 (c := 59) (by omega) (by decide)
      have hX3 : FC C C3 := FC_trans a2 z2
      rw [z3, z4, obs]
      unfold m_X2_readNode_L146 mEnd
      rw [t59, obs]
      by_cases h59 : k' = 59
      · left
        have hbi9 : bi (decide (k' = 59)) = 1 := by simp [h59, bi]
        obtain ⟨C4, b1, bb2, b3⟩ := c_take1 z5 (c := 59) (by omega) h59
        obtain ⟨D4, j1, j2, j3⟩ := m_take1 z6 z5.2.2.1
        have hX4 : FC C C4 := FC_trans hX3 bb2
        have h25' : rf 5 C4 2 5 = some bb := rf_eq (by rw [hX4.1]; exact h25) (kS hs).1.1
        have hcell : ∀ j, j ≠ 2 → C4.2 j = C.2 j := hX4.2.1
        have add := c_addNode (C := C4) (p := p) (tg := nI (k - 97)) (w := w') hs (by rw [hX4.1]; exact hDR.1) hN (by rw [hcell bb (by omega)]; exact hDR.2.2.1.1) hp
        have hp2 := prog z5 (by omega)
        have eab : abO C4 bb p = abO C bb p := by unfold abO; rw [hcell (bb + 2) (by omega)]
        rw [eab] at add
        refine ⟨anC C4 bb N (enc p) (abO C bb p) (nI (k - 97)) w', D4, _, _, _, ?_, ?_, ?_, j3, by omega, ?_, ?_, GD_trans GD2 (GD_trans z10 (FD_GD j2))⟩
        · rw [show (59 : Int32) = nI 59 from rfl, b1, b2s, if_neg (by decide), h25', obs, add, obs]
        · rw [hbi9, j1, b2s]
        · exact RdC_w (RdC_w (RdC_w (RdC_w (RdC_w b3 (by omega)) (by omega)) (by omega)) (by omega)) (by omega)
        · refine DR_node (p := p) (w := w') (t := k - 97) hs hN hDR hp hp0 hp1 (by omega) (fun j hj => ?_) ?_ (fun i => ?_) (fun i => ?_)
          · funext i
            unfold anC
            simp only [wI2, hcell j (by omega)]
          · exact hX4.1
          · rw [j2.2.1 147 (by decide), z9]
            simp only
            rw [hT2]
          · rw [j2.2.1 148 (by decide), z8]
            simp only
            by_cases hi : i = 9 + N
            · rw [if_pos hi, if_pos hi]
            · rw [if_neg hi, if_neg hi]
              by_cases hi2 : i = N
              · rw [if_pos hi2, hi2, wI2, if_pos rfl, if_pos rfl]
              · rw [if_neg hi2, hU2 i hi2]
        · exact GC_trans (FC_GC hX4) (GC_trans (GC_w _ _ (by omega) (by omega) (by omega)) (GC_trans (GC_w _ _ (by omega) (by omega) (by omega)) (GC_trans (GC_w _ _ (by omega) (by omega) (by omega)) (GC_trans (GC_w _ _ (by omega) (by omega) (by omega)) (GC_w _ _ (by omega) (by omega) (by omega))))))
      · right
        have hbi9 : bi (decide (k' = 59)) = 0 := by simp [h59, bi]
        refine ⟨C3, wI D3 144 7 (nI s'), s', ?_, ?_, z5.2.1.2.1, Bad_7 _ (RdC_s z5), FC_GC hX3, GD_trans GD2 (GD_trans z10 (GD_7 _ _))⟩
        · rw [show (59 : Int32) = nI 59 from rfl, c_take0 z5 (by omega) h59, b2s, if_pos rfl]
        · rw [hbi9, m_take0 z6, b2s]
    · right
      refine ⟨C3, D3, s', z2, ?_, z4, z5, FC_GC (FC_trans a2 z1), GD_trans GD2 z6⟩
      rw [z3, obs, mEnd_bad z5]
    · right
      refine ⟨C3, D3, s', ?_, ?_, z3.2.1.2.1, z6, FC_GC (FC_trans a2 z1), GD_trans GD2 z7⟩
      · rw [z2]
        unfold m_X2_readNode_L146
        rw [show (59 : Int32) = nI 59 from rfl, c_take0 z3 (by omega) z4, b2s, if_pos rfl]
      · rw [z5, obs, mEnd_bad z6]
  · right
    have hbi : bi (decide (97 ≤ k ∧ k ≤ 100)) = 0 := by simp [ht, bi]
    have hB := Bad_7 (wI D 147 (3 + N) (enc p)) hsl
    have hB2 : Bad (wI (wI (wI D 147 (3 + N) (enc p)) 144 7 (nI s)) 148 N (0 - 97)) s := Bad_w hB (by decide)
    obtain ⟨D1, y1, y2, y3⟩ := L72_bad (D := wI (wI (wI D 147 (3 + N) (enc p)) 144 7 (nI s)) 148 N (0 - 97)) hD.2.1 hB2 (fu := 999) (nI N)
    refine ⟨C, D1, s, ?_, ?_, hC.2.1.2.1, y2, GC_refl _ _, GD_trans (GD_w _ _ (by omega)) (GD_trans (GD_7 _ _) (GD_trans (GD_w _ _ (by omega)) y3))⟩
    · rw [hbi, if_pos rfl]
    · rw [hbi, m_take0 hD1, b2s, wa_148z hN, obs, show m_X8_readsNode_L72 144 FU (wI (wI (wI D 147 (3 + N) (enc p)) 144 7 (nI s)) 148 N (0 - 97)) (nI N) = some D1 from y1, obs, mEnd_bad y2]
theorem node_all (hs : SB bb) (h25 : C.1 2 5 = some bb) (hC : RdC C f L k s e) (hD : RdD D f L k s e) (hk78 : k = 78) (hDR : DR C D bb N R) (hN : N < 9) : ∃ D0, m_X8_takes D 144 1 = some (nI 78, D0) ∧ D0.2 144 7 = -1 ∧ OutN C D bb (N + 1) R f L (s + 1) (m_X2_readNode C 2) (mNo D0) := by
  have hb := sb_le hs
  obtain ⟨kS1, kS2⟩ := kS hs
  have v6 : D.2 144 6 = nI 78 := by rw [hD.2.2.1.2.2.2.1 (by rw [hk78]; decide), hk78]
  obtain ⟨C1, a1, a2, a3⟩ := c_adv hC
  obtain ⟨D0, g1, g2, g3⟩ := m_take1 hD hC.2.2.1
  rw [v6] at g1
  refine ⟨D0, g1, g3.2.2.2, ?_⟩
  have hp0 := prog hC (by omega)
  have hk1 := a3.2.2.2.2.1
  have hs1 := RdC_s a3
  have hDR1 : DR C1 D0 bb N R := DR_FC hs a2 g2 hDR
  have c78 : (C.2 2 4 = 78) = (k = 78) := c_tok hC (c := 78) (by omega)
  have rc25 : rf 5 C 2 5 = some bb := rf_eq h25 kS1.1
  have h25' : C1.1 2 5 = some bb := by rw [a2.1]; exact h25
  have rc25' : rf 5 C1 2 5 = some bb := rf_eq h25' kS1.1
  have n9 : (nI N < 9) = True := by
    simp (disch := omega) only [qlt2, qlt]
    simp [hN]
  have T0 : D0.2 147 0 = nI N := hDR1.2.1.1
  have S0 : C1.2 bb 0 = nI N := hDR1.2.2.1.1
  have e3N : (3 : Int32) + nI N = nI (3 + N) := nI_add 3 N
  have c0 : m_X2_readNode C 2 = if N = 0 then m_X2_readNode_L72 2 C1 (-9) else if dgB (aK f L e) then (if C1.2 2 4 - 48 < nI N then (m_X2_advance C1 2).bind fun M16 => m_X2_readNode_L72 2 M16 (C1.2 2 4 - 48) else some (0, C1)) else some (0, C1) := by
    unfold m_X2_readNode
    simp (disch := omega) only [c78, hk78, if_true, rc25, obs, hDR.2.2.1.1, n9, a1, rc25', S0, qle_0, c_isDigit a3]
    cases dgB (aK f L e) <;> rfl
  have m0 : mNo D0 = if N = 0 then (m_X8_readsNode_L48 144 D0 (nI N) (-9) (nI (3 + N)) 147).bind mEnd else if dgB (aK f L e) then (if nI N ≤ D0.2 144 6 then b2 (m_X8_takes D0 144 (0 : Int32)) fun r14 M14 => (m_X8_readsNode_L48 144 M14 (nI N) r14 (nI (3 + N)) 147).bind mEnd else b2 (m_X8_takes D0 144 (1 : Int32)) fun r15 M15 => (m_X8_readsNode_L48 144 M15 (nI N) r15 (nI (3 + N)) 147).bind mEnd) else b2 (m_X8_takes D0 144 (0 : Int32)) fun r16 M16 => (m_X8_readsNode_L48 144 M16 (nI N) r16 (nI (3 + N)) 147).bind mEnd := by
    have d2 : (D0.2 144 4 = 2) = (dgB (aK f L e) = true) := by rw [g3.2.2.1.2.2.1]; exact propext (s258 _ hk1).2.2.1
    unfold mNo m_X8_readsNode
    simp (disch := omega) only [rm9 g3.2.1, obs, ra_147z, T0, qeq_0, d2, e3N]
    by_cases hN0 : N = 0
    · rw [if_pos hN0, if_pos hN0]
    · rw [if_neg hN0, if_neg hN0]
      cases hdg : dgB (aK f L e) with
      | false =>
        simp only [Bool.false_eq_true, if_false]
        rw [m_take0 g3, b2s, b2s]
      | true =>
        simp only [if_true]
        by_cases hle : nI N ≤ D0.2 144 6
        · rw [if_pos hle, if_pos hle, m_take0 g3, b2s, b2s]
        · rw [if_neg hle, if_neg hle]
          obtain ⟨D5, y1, -, -⟩ := m_take1 g3 a3.2.2.1
          rw [y1, b2s, b2s]
  have bad : (b2 (m_X8_takes D0 144 (0 : Int32)) fun r14 M14 => (m_X8_readsNode_L48 144 M14 (nI N) r14 (nI (3 + N)) 147).bind mEnd) = (m_X8_readsNode_L48 144 (wI D0 144 7 (nI (aS f L e))) (nI N) 0 (nI (3 + N)) 147).bind mEnd := by
    rw [m_take0 g3, b2s]
  obtain ⟨DB, z1, z2, z3⟩ := L48_bad (D := wI D0 144 7 (nI (aS f L e))) g3.2.1 (Bad_7 D0 hs1) hN 0
  have badO : OutN C D bb (N + 1) R f L (s + 1) (some (0, C1)) ((m_X8_readsNode_L48 144 (wI D0 144 7 (nI (aS f L e))) (nI N) 0 (nI (3 + N)) 147).bind mEnd) := by
    right
    exact ⟨C1, DB, aS f L e, rfl, by rw [z1, obs, mEnd_bad z2], a3.2.1.2.1, z2, FC_GC a2, GD_trans (FD_GD g2) (GD_trans (GD_7 _ _) z3)⟩
  rw [c0, m0]
  by_cases hN0 : N = 0
  · rw [if_pos hN0, if_pos hN0]
    exact OutN_pre (FC_GC a2) (FD_GD g2) (by omega) (nod_T (p := none) hs h25' a3 g3 hDR1 hN (fun q h => by cases h) (fun _ => rfl) (fun h => by omega))
  · rw [if_neg hN0, if_neg hN0]
    cases hdg : dgB (aK f L e) with
    | false =>
      simp only [Bool.false_eq_true, if_false]
      rw [bad]
      exact badO
    | true =>
      simp only [if_true]
      have hdb := dg_bd hdg
      have v48 : C1.2 2 4 - 48 = nI (aK f L e - 48) := by rw [c_tokv a3 (by omega)]; exact qsub (b := 48) (by omega)
      have w6 : D0.2 144 6 = nI (aK f L e - 48) := g3.2.2.1.2.2.2.2 hdg
      rw [v48, w6]
      simp (disch := omega) only [qlt, qle]
      by_cases hlt : aK f L e - 48 < N
      · rw [if_pos hlt, if_neg (by omega)]
        obtain ⟨C2, b1, bb2, b3⟩ := c_adv a3
        obtain ⟨D2, j1, j2, j3⟩ := m_take1 g3 a3.2.2.1
        have hp2 := prog a3 (by omega)
        rw [b1, obs, j1, b2s, w6]
        exact OutN_pre (FC_GC (FC_trans a2 bb2)) (FD_GD (FD_trans g2 j2)) (by omega) (nod_T (p := some (aK f L e - 48)) hs (by rw [bb2.1]; exact h25') b3 j3 (DR_FC hs bb2 j2 hDR1) hN (fun q h => by cases h; exact hlt) (fun h => by omega) (fun _ => ⟨_, rfl⟩))
      · rw [if_neg hlt, if_pos (by omega), bad]
        exact badO
end READ16
