/-! ===== the class: below, looked at ===== -/
section CLS4
variable {M : Mem} {N R b k y : Nat} {T S : Nat → Int32}
theorem c_below_L (hs : SB b) (hρ : SRf M.1 b) (hW : WF T N R) (hS : ShR M b T N R) {n : Nat} (hn : n < N) :
    ∀ (d i fu : Nat), i + d = N → d < fu → m_X4_below_L4 M b (nI n) fu (bs i (blB T n)) (nI i) = some (bs N (blB T n)) := by
  have h9 := hW.2.1
  obtain ⟨hk1, hl1⟩ := kS hs
  intro d
  induction d with
  | zero =>
    intro i fu hi hf
    obtain ⟨fu, rfl⟩ : ∃ f, fu = f + 1 := ⟨fu - 1, by omega⟩
    unfold m_X4_below_L4
    simp (disch := omega) only [hS.1, qle]
    rw [if_pos (by omega), show i = N by omega]
  | succ d ih =>
    intro i fu hi hf
    obtain ⟨fu, rfl⟩ : ∃ f, fu = f + 1 := ⟨fu - 1, by omega⟩
    have next := ih (i + 1) fu (by omega) (by omega)
    obtain ⟨l1, l2⟩ := hS.2.2.1 i (by omega)
    unfold m_X4_below_L4
    simp (disch := omega) only [hS.1, qle, rf_eq hρ.2.1 hk1.2.2.1, obs, ra_eq (a := b + 2) (k := i) (by rw [hl1.2.1]; omega) (by omega), l2, hb1, hb_0, nI_1]
    rw [if_neg (by omega), b_bs (by omega) (by omega)]
    have hd : decide (n < 9) = true := by simp; omega
    rw [hd, Bool.true_and]
    by_cases hq : blB T n i = true
    · rw [if_neg (by simp [hq]), bs_t hq]
      exact next
    · rw [if_pos (by simpa using hq), bs_f (n := i) (p := blB T n) (by simpa using hq)]
      exact next
theorem c_below (hs : SB b) (hρ : SRf M.1 b) (hW : WF T N R) (hS : ShR M b T N R) {n : Nat} (hn : n < N) : m_X4_below M b (nI n) = some (bs N (blB T n)) := by
  have h9 := hW.2.1
  exact c_below_L hs hρ hW hS hn N 0 FU (by omega) (by unfold FU; omega)
theorem c_by_L (hs : SB b) (hρ : SRf M.1 b) (hlr : LRf M.1 k) (hlk : LK k) (hW : WF T N R) (hS : ShR M b T N R) (hL : LkR M k S N) {n cl r : Nat} (hn : n < N) (hcl : cl < 4) (hr : r < R) :
    ∀ (d c fu : Nat), c + d = cn T r → d < fu → m_X4_lookedAtBy_L14 M b k (b + 7 + 6 * r) (nI n) (nI cl) fu (nI (cn T r - 1)) (bs N (lkN T S n cl r c)) (nI c) = some (bs N (lkN T S n cl r (cn T r))) := by
  have h9 := hW.2.1
  have h8 := hW.2.2.2.1
  obtain ⟨k1, k2, k3⟩ := cn_ok hW hr
  have hq := (hρ.2.2.2.2.2 r (by omega)).2
  obtain ⟨hk1, hl1⟩ := kR hs r (by omega)
  have hR := hS.2.2.2 r hr
  intro d
  induction d with
  | zero =>
    intro c fu hi hf
    obtain ⟨fu, rfl⟩ : ∃ f, fu = f + 1 := ⟨fu - 1, by omega⟩
    unfold m_X4_lookedAtBy_L14
    simp (disch := omega) only [qlt]
    rw [if_pos (by omega), show c = cn T r by omega]
  | succ d ih =>
    intro c fu hi hf
    obtain ⟨fu, rfl⟩ : ∃ f, fu = f + 1 := ⟨fu - 1, by omega⟩
    have next := ih (c + 1) fu (by omega) (by omega)
    have hc := (hR.2.2.2.2.2.1 c (by omega)).2.1
    rw [← Nat.add_assoc] at hc
    unfold m_X4_lookedAtBy_L14
    simp (disch := omega) only [qlt, rf_eq hq.2.1 hk1.2.2.1, obs, ra_eq (a := b + 7 + 6 * r + 2) (k := c) (by rw [hl1.2.1]; omega) (by omega), hc, hb1, hb_0, qeq, nI_1, c_below hs hρ hW hS hn, c_fitted hs hρ hlr hlk hW hS hL hr (show cn T r - 1 < cn T r by omega)]
    rw [if_neg (by omega)]
    by_cases hb : bt (T (44 + 3 * r + c)) cl = true
    · rw [if_neg (by simp [hb])]
      by_cases hlast : c = cn T r - 1
      · rw [if_pos hlast, bs_one (n := N) (by omega) hn, bs_or (by omega)]
        have e : bs N (fun i => lkN T S n cl r c i || decide (i = n)) = bs N (lkN T S n cl r (c + 1)) := bs_ext (fun i hi => by
          have hb2 := hb
          rw [hlast] at hb2
          simp [lkN, lkC, hb2, hlast])
        rw [e]
        exact next
      · rw [if_neg hlast, bs_and (by omega), bs_or (by omega)]
        have e : bs N (fun i => lkN T S n cl r c i || (blB T n i && fitB T S (3 * r + (cn T r - 1)) i)) = bs N (lkN T S n cl r (c + 1)) := bs_ext (fun i hi => by
          simp [lkN, lkC, hb, hlast])
        rw [e]
        exact next
    · rw [if_pos (by simpa using hb)]
      have e : bs N (lkN T S n cl r c) = bs N (lkN T S n cl r (c + 1)) := bs_ext (fun i hi => by
        simp [lkN, lkC, hb])
      rw [e]
      exact next
theorem c_by (hs : SB b) (hρ : SRf M.1 b) (hlr : LRf M.1 k) (hlk : LK k) (hW : WF T N R) (hS : ShR M b T N R) (hL : LkR M k S N) {n cl r : Nat} (hn : n < N) (hcl : cl < 4) (hr : r < R) : m_X4_lookedAtBy M b k (b + 7 + 6 * r) (nI n) (nI cl) = some (bs N (lkN T S n cl r (cn T r))) := by
  obtain ⟨k1, k2, k3⟩ := cn_ok hW hr
  have hR := hS.2.2.2 r hr
  unfold m_X4_lookedAtBy
  rw [hR.2.1, k1, qs_1 (by omega)]
  have h := c_by_L hs hρ hlr hlk hW hS hL hn hcl hr (cn T r) 0 FU (by omega) (by unfold FU; omega)
  rw [show bs N (lkN T S n cl r 0) = 0 from bs_f0 N, show nI 0 = 0 from rfl] at h
  exact h
theorem c_hasOn {x : Int32} (hx : M.2 k 2 = x) {r : Nat} (hr : r < 32) : m_X1_hasOn M k (nI r) = some (hb x r) := by
  unfold m_X1_hasOn
  rw [hx, hb1 x hr, obs, bz_hb, obs]
theorem c_la_L (hs : SB b) (hρ : SRf M.1 b) (hlr : LRf M.1 k) (hlk : LK k) (hW : WF T N R) (hS : ShR M b T N R) (hL : LkR M k S N) {n cl : Nat} (hn : n < N) (hcl : cl < 4) :
    ∀ (d r fu : Nat), r + d = R → d < fu → m_X4_lookedAt_L6 M b k (nI n) (nI cl) fu (bs N (lkR T S n cl r)) (nI r) = some (bs N (lkR T S n cl R)) := by
  have h9 := hW.2.1
  have h8 := hW.2.2.2.1
  obtain ⟨hk0, hl0⟩ := kS hs
  intro d
  induction d with
  | zero =>
    intro r fu hi hf
    obtain ⟨fu, rfl⟩ : ∃ f, fu = f + 1 := ⟨fu - 1, by omega⟩
    unfold m_X4_lookedAt_L6
    simp (disch := omega) only [hS.2.1, qle]
    rw [if_pos (by omega), show r = R by omega]
  | succ d ih =>
    intro r fu hi hf
    obtain ⟨fu, rfl⟩ : ∃ f, fu = f + 1 := ⟨fu - 1, by omega⟩
    have next := ih (r + 1) fu (by omega) (by omega)
    have hqr := hρ.2.2.2.2.2 r (by omega)
    obtain ⟨hk1, hl1⟩ := kR hs r (by omega)
    unfold m_X4_lookedAt_L6
    simp (disch := omega) only [hS.2.1, qle, c_hasOn hL.2 (show r < 32 by omega), obs, hb_0, nI_1, rf_eq hρ.2.2.2.1 hk0.2.2.2.2.2.2, rr_eq (a := b + 6) (k := r) (by rw [hl0.2.2.2.2]; omega) (by omega) hqr.1 hk1.1, c_by hs hρ hlr hlk hW hS hL hn hcl (show r < R by omega)]
    rw [if_neg (by omega)]
    by_cases hon : bt (S 18) r = true
    · rw [if_neg (by simp [hon]), bs_or (by omega)]
      have e : bs N (fun i => lkR T S n cl r i || lkN T S n cl r (cn T r) i) = bs N (lkR T S n cl (r + 1)) := bs_ext (fun i hi => by simp [lkR, hon])
      rw [e]
      exact next
    · rw [if_pos (by simpa using hon)]
      have e : bs N (lkR T S n cl r) = bs N (lkR T S n cl (r + 1)) := bs_ext (fun i hi => by simp [lkR, hon])
      rw [e]
      exact next
theorem c_lookedAt (hs : SB b) (hρ : SRf M.1 b) (hlr : LRf M.1 k) (hlk : LK k) (hW : WF T N R) (hS : ShR M b T N R) (hL : LkR M k S N) {n cl : Nat} (hn : n < N) (hcl : cl < 4) : m_X4_lookedAt M b k (nI n) (nI cl) = some (bs N (lkR T S n cl R)) := by
  have h8 := hW.2.2.2.1
  have h := c_la_L hs hρ hlr hlk hW hS hL hn hcl R 0 FU (by omega) (by unfold FU; omega)
  rw [show bs N (lkR T S n cl 0) = 0 from bs_f0 N, show nI 0 = 0 from rfl] at h
  exact h
/-! differences, unlike styles, the winner's loop -/
def dfB (T S S2 : Nat → Int32) (R n : Nat) : Bool := !decide (sty T S R n = sty T S2 R n)
theorem c_diff {y2 : Nat} {S2 : Nat → Int32} (hy : YRf M.1 y) (hyk : YK y) (hy2 : YRf M.1 y2) (hyk2 : YK y2) (hW : WF T N R) (hSt : StR M y T S N R) (hSt2 : StR M y2 T S2 N R) : m_X6_differences M y y2 = some (bs N (dfB T S S2 R)) := by
  have h9 := hW.2.1
  have key : ∀ (d i fu : Nat), i + d = N → d < fu → m_X6_differences_L4 M y y2 fu (bs i (dfB T S S2 R)) (nI i) = some (bs N (dfB T S S2 R)) := by
    intro d
    induction d with
    | zero =>
      intro i fu hi hf
      obtain ⟨fu, rfl⟩ : ∃ f, fu = f + 1 := ⟨fu - 1, by omega⟩
      unfold m_X6_differences_L4
      simp (disch := omega) only [hSt.1, qle]
      rw [if_pos (by omega), show i = N by omega]
    | succ d ih =>
      intro i fu hi hf
      obtain ⟨fu, rfl⟩ : ∃ f, fu = f + 1 := ⟨fu - 1, by omega⟩
      have next := ih (i + 1) fu (by omega) (by omega)
      have b1 := sty_lt (S := S) hW i
      have b2 := sty_lt (S := S2) hW i
      unfold m_X6_differences_L4
      simp (disch := omega) only [hSt.1, qle, c_styleOf hy hyk hW hSt (show i < N by omega), c_styleOf hy2 hyk2 hW hSt2 (show i < N by omega), obs, qeq, nI_1]
      rw [if_neg (by omega)]
      by_cases hq : sty T S R i = sty T S2 R i
      · rw [if_pos hq, bs_f (n := i) (p := dfB T S S2 R) (by simp [dfB, hq])]
        exact next
      · rw [if_neg hq, bs_t (p := dfB T S S2 R) (by simp [dfB, hq])]
        exact next
  exact key N 0 FU (by omega) (by unfold FU; omega)
def rcB (T S : Nat → Int32) (R n : Nat) : Bool := decide (rcG T S R n = n)
theorem rcdG_le (lk : Nat → Bool) : ∀ d e, rcdG lk d e ≤ e + d := by
  intro d
  induction d with
  | zero => intro e; simp [rcdG]
  | succ d ih =>
    intro e
    unfold rcdG
    split
    · omega
    · have := ih (e + 1); omega
theorem rcG_le (T S : Nat → Int32) (R n : Nat) : rcG T S R n ≤ n := by
  have := rcdG_le (fun e => likeB T S R e n) n 0
  unfold rcG
  omega
theorem c_unlike (hy : YRf M.1 y) (hyk : YK y) (hW : WF T N R) (hSt : StR M y T S N R) : m_X6_unlikeStyles M y = some (nI (cntB N (rcB T S R))) := by
  have h9 := hW.2.1
  have key : ∀ (d i fu : Nat), i + d = N → d < fu → m_X6_unlikeStyles_L4 M y fu (nI (cntB i (rcB T S R))) (nI i) = some (nI (cntB N (rcB T S R))) := by
    intro d
    induction d with
    | zero =>
      intro i fu hi hf
      obtain ⟨fu, rfl⟩ : ∃ f, fu = f + 1 := ⟨fu - 1, by omega⟩
      unfold m_X6_unlikeStyles_L4
      simp (disch := omega) only [hSt.1, qle]
      rw [if_pos (by omega), show i = N by omega]
    | succ d ih =>
      intro i fu hi hf
      obtain ⟨fu, rfl⟩ : ∃ f, fu = f + 1 := ⟨fu - 1, by omega⟩
      have next := ih (i + 1) fu (by omega) (by omega)
      have b1 := rcG_le T S R i
      unfold m_X6_unlikeStyles_L4
      simp (disch := omega) only [hSt.1, qle, c_recordOf hy hyk hW hSt (show i < N by omega), obs, qeq, nI_1]
      rw [if_neg (by omega)]
      have e : cntB (i + 1) (rcB T S R) = cntB i (rcB T S R) + if rcB T S R i then 1 else 0 := rfl
      by_cases hq : rcG T S R i = i
      · rw [if_pos hq]
        rw [e, if_pos (by simp [rcB, hq])] at next
        exact next
      · rw [if_neg hq]
        rw [e, if_neg (by simp [rcB, hq])] at next
        exact next
  exact key N 0 FU (by omega) (by unfold FU; omega)
end CLS4
