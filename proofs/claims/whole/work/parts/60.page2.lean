/-! ===== page: both sides ===== -/
theorem SRf_any {ρ ρ2 : Nat → Nat → Option Nat} {b : Nat} (hb : 4 ≤ b) (h : ∀ a j, 4 ≤ a → ρ2 a j = ρ a j) (hS : SRf ρ b) : SRf ρ2 b := by
  unfold SRf LRf URf at *
  rw [h b 2 hb, h b 3 hb, h b 4 hb, h b 5 hb, h (b + 3) 0 (by omega), h (b + 3) 1 (by omega)]
  obtain ⟨a1, a2, a3, a4, a5, a6⟩ := hS
  refine ⟨a1, a2, a3, a4, a5, fun r hr => ?_⟩
  rw [h (b + 6) r (by omega), h (b + 7 + 6 * r) 5 (by omega), h (b + 7 + 6 * r) 6 (by omega), h (b + 7 + 6 * r) 7 (by omega), h (b + 7 + 6 * r) 8 (by omega), h (b + 7 + 6 * r) 9 (by omega)]
  exact a6 r hr
theorem LRf_any {ρ ρ2 : Nat → Nat → Option Nat} {b : Nat} (hb : 4 ≤ b) (h : ∀ a j, 4 ≤ a → ρ2 a j = ρ a j) (hS : LRf ρ b) : LRf ρ2 b := by
  unfold LRf at *
  rw [h b 0 hb, h b 1 hb]
  exact hS
theorem YRf_any {ρ ρ2 : Nat → Nat → Option Nat} {b : Nat} (hb : 4 ≤ b) (h : ∀ a j, 4 ≤ a → ρ2 a j = ρ a j) (hS : YRf ρ b) : YRf ρ2 b := by
  unfold YRf at *
  rw [h b 1 hb, h b 2 hb, h b 3 hb, h b 4 hb]
  exact hS
theorem CR_any {ρ ρ2 : Nat → Nat → Option Nat} {b bb b' bb' : Nat} (hC : CR ρ b bb) (hb : (b' = 4 ∧ bb' = 59) ∨ (b' = 59 ∧ bb' = 4)) (h : ∀ a j, 4 ≤ a → ρ2 a j = ρ a j) (h2 : ∀ j, j ≠ 3 → ρ2 0 j = ρ 0 j) (h3 : ρ2 0 3 = some b') (h4 : ρ2 2 5 = some bb') : CR ρ2 b' bb' := by
  obtain ⟨-, ⟨a0, a2, -, a4, a5, a6, a7, a8, a9, a10, a12⟩, -, ⟨s1, s2⟩, ⟨l1, l2, l3, l4⟩, ⟨y1, y2⟩, h1, ⟨e1, e2, e3⟩, i1, i2⟩ := hC
  refine ⟨hb, ⟨by rw [h2 0 (by omega)]; exact a0, by rw [h2 2 (by omega)]; exact a2, h3, by rw [h2 4 (by omega)]; exact a4, by rw [h2 5 (by omega)]; exact a5, by rw [h2 6 (by omega)]; exact a6, by rw [h2 7 (by omega)]; exact a7, by rw [h2 8 (by omega)]; exact a8, by rw [h2 9 (by omega)]; exact a9, by rw [h2 10 (by omega)]; exact a10, by rw [h2 12 (by omega)]; exact a12⟩, h4, ⟨SRf_any (by omega) h s1, SRf_any (by omega) h s2⟩, ⟨LRf_any (by omega) h l1, LRf_any (by omega) h l2, LRf_any (by omega) h l3, LRf_any (by omega) h l4⟩, ⟨YRf_any (by omega) h y1, YRf_any (by omega) h y2⟩, by rw [h 130 0 (by omega)]; exact h1, ⟨by rw [h 132 0 (by omega)]; exact e1, by rw [h 132 1 (by omega)]; exact e2, by rw [h 132 2 (by omega)]; exact e3⟩, by rw [h 136 0 (by omega)]; exact i1, by rw [h 136 1 (by omega)]; exact i2⟩
theorem MR_any {ρ ρ2 : Nat → Nat → Option Nat} (h : ∀ a j, 4 ≤ a → ρ2 a j = ρ a j) (hM : MR ρ) : MR ρ2 := by
  unfold MR at *
  simp only [h 144 _ (show 4 ≤ 144 by omega)]
  exact hM
theorem WF_ext {T T2 : Nat → Int32} {N R : Nat} (h : ∀ i, i < 140 → T2 i = T i) (hW : WF T N R) : WF T2 N R := by
  obtain ⟨w1, w2, w3, w4, w5, w6, w7, w8, w9⟩ := hW
  refine ⟨by rw [h 0 (by omega)]; exact w1, w2, by rw [h 1 (by omega)]; exact w3, w4, fun h0 => by rw [h 3 (by omega)]; exact w5 h0, fun n a b => by rw [h _ (by omega)]; exact w6 n a b, fun r hr => by rw [h _ (by omega)]; exact w7 r hr, fun r c hr hc => by rw [h _ (by omega)]; exact w8 r c hr hc, fun r p hr hp => by rw [h _ (by omega)]; exact w9 r p hr hp⟩
theorem ShR_ext {M M2 : Mem} {T T2 : Nat → Int32} {b N R : Nat} (hW : WF T N R) (h : ∀ i, i < 140 → T2 i = T i) (hM : ∀ j, b ≤ j → j ≤ b + 54 → M2.2 j = M.2 j) (hS : ShR M b T N R) : ShR M2 b T2 N R := by
  have h9 := hW.2.1
  have h8 := hW.2.2.2.1
  refine ⟨by rw [hM b (by omega) (by omega)]; exact hS.1, by rw [hM b (by omega) (by omega)]; exact hS.2.1, fun n hn => ?_, fun r hr => ?_⟩
  · obtain ⟨s1, s2⟩ := hS.2.2.1 n hn
    rw [hM (b + 1) (by omega) (by omega), hM (b + 2) (by omega) (by omega), s1, s2, h (3 + n) (by omega)]
    exact ⟨rfl, bs_ext (fun a ha => (blB_ext hW (fun m hm => h _ (by omega)) hn).symm)⟩
  · exact RuR_ext hW hr (fun j j1 j2 => hM j (by omega) (by omega)) (fun i hi => h i (by omega)) (by rw [h 2 (by omega)]) (hS.2.2.2 r hr)
theorem onb : ∀ R, R < 9 → ((1 : Int32) <<< (nI R &&& 31)) - 1 = bs R (fun _ => true) := by decide +kernel
section PAGE2
variable {M M1 : Mem} {b bb N R L h m : Nat} {rem sn sp : Nat → Nat} {sv : Nat → Int32} {f : Nat → Nat}
/-- after a text with a fault -/
theorem Iv_frame (H : Iv M b bb N R L h m rem sn sp sv) (hC1 : CR M1.1 b bb) (hM1 : MR M1.1) (g : ∀ j, j ≠ 2 → (j < bb ∨ bb + 54 < j) → j ≠ 144 → j ≠ 147 → j ≠ 148 → M1.2 j = M.2 j) (g144 : ∀ i, i ≠ 0 → (i < 3 ∨ 7 < i) → M1.2 144 i = M.2 144 i) : Inv M1 := by
  obtain ⟨⟨hC, hM⟩, hW, hS, hL, hSt, hT, hTx, hH, ⟨hc, hm⟩, hK⟩ := H
  have hb := sb_le (cr_sb hC)
  have hb2 := sb_le (cr_sb2 hC)
  have g' : ∀ j, j ≠ 2 → (j < 4 ∨ 113 < j) → j ≠ 144 → j ≠ 147 → j ≠ 148 → M1.2 j = M.2 j := fun j j1 j2 j3 j4 j5 => g j j1 (by omega) j3 j4 j5
  have gb : ∀ j, b ≤ j → j ≤ b + 54 → M1.2 j = M.2 j := fun j j1 j2 => g j (by omega) (by rcases hC.1 with ⟨r1, r2⟩ | ⟨r1, r2⟩ <;> omega) (by omega) (by omega) (by omega)
  have t := g' 146 (by omega) (by omega) (by omega) (by omega) (by omega)
  have u := g' 149 (by omega) (by omega) (by omega) (by omega) (by omega)
  refine ⟨b, bb, N, R, L, h, m, rem, sn, sp, sv, ⟨hC1, hM1⟩, by rw [t]; exact hW, ?_, ?_, ?_, by rw [u]; exact hT, ?_, ?_, ⟨?_, ?_⟩, ?_⟩
  · rw [t]; exact ShR_fr hW.2.2.2.1 gb hS
  · rw [u]; exact LkR_fr (fun i a1 a2 => g' i (by omega) (by omega) (by omega) (by omega) (by omega)) hL
  · rw [t, u]; exact StR_fr (fun i a1 a2 => g' i (by omega) (by omega) (by omega) (by omega) (by omega)) hSt
  · exact TxtR_fr (by rw [g' 0 (by omega) (by omega) (by omega) (by omega) (by omega)]) (g' 1 (by omega) (by omega) (by omega) (by omega) (by omega)) (g144 2 (by omega) (by omega)) (g' 145 (by omega) (by omega) (by omega) (by omega) (by omega)) hTx
  · exact HiR_fr (by rw [g' 130 (by omega) (by omega) (by omega) (by omega) (by omega)]) (g144 13 (by omega) (by omega)) (g' 131 (by omega) (by omega) (by omega) (by omega) (by omega)) (g' 150 (by omega) (by omega) (by omega) (by omega) (by omega)) u hH
  · exact SeC_fr (by rw [g' 132 (by omega) (by omega) (by omega) (by omega) (by omega)]) (g' 133 (by omega) (by omega) (by omega) (by omega) (by omega)) (g' 134 (by omega) (by omega) (by omega) (by omega) (by omega)) (g' 135 (by omega) (by omega) (by omega) (by omega) (by omega)) hc
  · exact SeM_fr (g144 19 (by omega) (by omega)) (g' 153 (by omega) (by omega) (by omega) (by omega) (by omega)) (g' 154 (by omega) (by omega) (by omega) (by omega) (by omega)) (g' 155 (by omega) (by omega) (by omega) (by omega) (by omega)) hm
  · exact KpR_fr (by rw [g' 0 (by omega) (by omega) (by omega) (by omega) (by omega)]) (g' 152 (by omega) (by omega) (by omega) (by omega) (by omega)) (g' 151 (by omega) (by omega) (by omega) (by omega) (by omega)) (fun j a1 a2 => g' j (by omega) (by omega) (by omega) (by omega) (by omega)) hK
/-- the class is about to read -/
theorem start_C (hC : CR M.1 b bb) (l120 : L ≤ 120) (ht : ∀ i, i < L → f i < 256 ∧ M.2 1 i = nI (f i)) : ∃ C, m_X2_readAll M 2 1 (nI L) = m_X2_readAll_L33 2 1 (nI L) FU C 0 ∧ RdC C f L (aK f L 0) (aS f L 0) (aE f L 0) ∧ C.1 = (wR M 2 0 1).1 ∧ (∀ j, j ≠ 2 → j ≠ bb → j ≠ bb + 3 → C.2 j = M.2 j) ∧ C.2 bb 0 = 0 ∧ C.2 bb 1 = 0 ∧ C.2 (bb + 3) 2 = 0 := by
  have hb2 := sb_le (cr_sb2 hC)
  obtain ⟨k1, l1⟩ := kS (cr_sb2 hC)
  have up : ∀ a j, 4 ≤ a → (wR M 2 0 1).1 a j = M.1 a j := fun a j ha => by
    unfold wR up2
    simp only
    rw [if_neg (by omega)]
  have h25 : (wR M 2 0 1).1 2 5 = some bb := by
    unfold wR up2
    simp only [if_true]
    rw [if_neg (by decide)]
    exact hC.2.2.1
  have hlen : (if nI (ln 1) < nI L then nI (ln 1) else nI L) = nI L := by
    have e : ln 1 = 120 := rfl
    rw [e]
    simp (disch := omega) only [qlt]
    rw [if_neg (by omega)]
  have r5 : rf 5 (wI (wI (wR M 2 0 1) 2 1 (nI L)) 2 2 0) 2 5 = some bb := rf_eq h25 k1.1
  have hρ : SRf (wR M 2 0 1).1 bb := SRf_any (by omega) up (cr_sr2 hC)
  have r24 : rf 2 (wI (wI (wI (wI (wR M 2 0 1) 2 1 (nI L)) 2 2 0) bb 0 0) bb 1 0) bb 4 = some (bb + 3) := rf_eq hρ.2.2.1 k1.2.2.2.1
  have tx : TxC (wI (wI (wI (wI (wI (wR M 2 0 1) 2 1 (nI L)) 2 2 0) bb 0 0) bb 1 0) (bb + 3) 2 0) f L := by
    refine ⟨?_, ?_, l120, fun i hi => ?_⟩
    · show (wR M 2 0 1).1 2 0 = some 1
      unfold wR up2
      simp
    · rw [wI2n (by omega), wI2n (by omega), wI2n (by omega), wI2, if_pos rfl, if_neg (by decide), wI2, if_pos rfl, if_pos rfl]
    · rw [wI2n (by omega), wI2n (by omega), wI2n (by omega), wI2n (by omega), wI2n (by omega)]
      exact ht i hi
  obtain ⟨C, e1, e2, e3⟩ := c_advance tx (e := 0) (by omega) (by rw [wI2n (by omega), wI2n (by omega), wI2n (by omega), wI2, if_pos rfl, if_pos rfl]; rfl)
  have q := aE_le (f := f) (L := L) (e := 0) (by omega)
  refine ⟨C, ?_, ⟨TxC_FC e2 tx, e3, q.2, q.1, aK_lt (by omega) (fun i hi => (ht i hi).1), fun hk => aK_e (by omega) hk⟩, e2.1, fun j j1 j2 j3 => ?_, ?_, ?_, ?_⟩
  · unfold m_X2_readAll m_X4_empty
    have pRs : ∀ {β : Type} {a j c : Nat} {g : Mem → Option β}, (pR M a j c).bind g = g (wR M a j c) := rfl
    rw [pRs, pIs, hlen, pIs, r5, obs, pIs, pIs, r24, obs, pIs, obs, e1, obs]
  · rw [e2.2.1 j j1, wI2n j3, wI2n j2, wI2n j2, wI2n j1, wI2n j1]
    rfl
  · rw [e2.2.1 bb (by omega), wI2n (by omega), wI2, if_pos rfl, if_neg (by decide), wI2, if_pos rfl, if_pos rfl]
  · rw [e2.2.1 bb (by omega), wI2n (by omega), wI2, if_pos rfl, if_pos rfl]
  · rw [e2.2.1 (bb + 3) (by omega), wI2, if_pos rfl, if_pos rfl]
/-- nothing is read yet on either side -/
theorem DR_0 {C D : Mem} (hρ : SRf C.1 bb) (c0 : C.2 bb 0 = 0) (c1 : C.2 bb 1 = 0) (c2 : C.2 (bb + 3) 2 = 0) (d1 : ∀ q, q < 140 → D.2 147 q = blk q) (d2 : ∀ q, q < 19 → D.2 148 q = 0) : DR C D bb 0 0 := by
  have z : ∀ i, i < 140 → (i < 20 ∨ 44 ≤ i) → D.2 147 i = 0 := fun i h1 h2 => by rw [d1 i h1]; unfold blk; rw [if_neg (by omega)]
  have z9 : ∀ i, 20 ≤ i → i < 44 → D.2 147 i = -9 := fun i h1 h2 => by rw [d1 i (by omega)]; unfold blk; rw [if_pos ⟨h1, h2⟩]
  refine ⟨hρ, ⟨by rw [z 0 (by omega) (by omega)]; rfl, by omega, by rw [z 1 (by omega) (by omega)]; rfl, by omega, fun h => by omega, fun n _ hn => by omega, fun r hr => by omega, fun r c hr => by omega, fun r p hr => by omega⟩, ⟨c0, c1, fun n hn => by omega, fun r hr => by omega⟩, fun n hn => by omega, c2, fun n hn => by omega, fun r _ hr => ⟨fun i _ hi => ⟨z9 _ (by omega) (by omega), z _ (by omega) (by omega)⟩, z _ (by omega) (by omega), z _ (by omega) (by omega), fun p hp => z _ (by omega) (by omega), by rw [z 2 (by omega) (by omega)]; exact b_0 r⟩, fun n _ hn => d2 _ (by omega)⟩
end PAGE2
