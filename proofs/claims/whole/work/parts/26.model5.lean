/-! ===== likeness, records, below, looked at ===== -/
def rcdG (lk : Nat → Bool) : Nat → Nat → Nat
  | 0, e => e
  | d + 1, e => if lk e then e else rcdG lk d (e + 1)
def rcG (T S : Nat → Int32) (R n : Nat) : Nat := rcdG (fun e => likeB T S R e n) n 0
def blB (T : Nat → Int32) (n e : Nat) : Bool := (AN T e).any (fun a => decide (a = n))
def orb (x : Int32) (b : Bool) (e : Nat) : Int32 := if b then x ||| ((1 : Int32) <<< (nI e &&& 31)) else x
theorem orb_orb (x : Int32) (a b : Bool) (e : Nat) (he : e < 32) : orb (orb x a e) b e = orb x (a || b) e := by
  cases a <;> cases b <;> simp only [orb, if_true, if_false, Bool.or_true, Bool.or_false, Bool.true_or, Bool.false_or, Bool.false_eq_true]
  apply b_ext
  intro i hi
  rw [b_or, b_or, b_one he hi]
  cases bt x i <;> cases decide (i = e) <;> rfl
theorem orb_bs {p : Nat → Bool} {n : Nat} : orb (bs n p) (p n) n = bs (n + 1) p := rfl
section MODEL5
variable {M : Mem} {N R : Nat}
theorem like_step (hM : MR M.1) (hW : WF (M.2 146) N R) (hF : FLD M N R) {a b i fu : Nat} (ha : a < N) (hb : b < N) (hi : i < 4) (t : Bool) :
    m_X8_isLike_L5 M 144 (nI a) (nI b) (fu + 1) (bi t) (nI i) = m_X8_isLike_L5 M 144 (nI a) (nI b) fu (bi (t && decide (valO (M.2 146) (M.2 149) R a i = valO (M.2 146) (M.2 149) R b i))) (nI (i + 1)) := by
  have h9 := hW.2.1
  conv => lhs; unfold m_X8_isLike_L5
  simp (disch := omega) only [qle1, qle, bi_0, m_valueOf hM hW hF ha hi, m_valueOf hM hW hF hb hi, obs, nI_1]
  rw [if_neg (by omega)]
  cases t
  · simp [bi]
  · simp only [Bool.true_eq_false, if_false, Bool.true_and]
    by_cases h : valO (M.2 146) (M.2 149) R a i = valO (M.2 146) (M.2 149) R b i
    · rw [if_pos h]; simp [h, bi]
    · rw [if_neg h]; simp [h, bi]
theorem m_isLike (hM : MR M.1) (hW : WF (M.2 146) N R) (hF : FLD M N R) {a b : Nat} (ha : a < N) (hb : b < N) : m_X8_isLike M 144 (nI a) (nI b) = some (bi (likeB (M.2 146) (M.2 149) R a b)) := by
  have h9 := hW.2.1
  unfold m_X8_isLike
  have e : FU = 995 + 1 + 1 + 1 + 1 + 1 := rfl
  rw [e]
  have h0 := like_step hM hW hF (fu := 995 + 1 + 1 + 1 + 1) ha hb (i := 0) (by omega) true
  rw [show bi true = 1 from rfl, show nI 0 = 0 from rfl] at h0
  rw [h0, like_step hM hW hF ha hb (by omega), like_step hM hW hF ha hb (by omega), like_step hM hW hF ha hb (by omega)]
  unfold m_X8_isLike_L5 likeB
  simp (disch := omega) only [qle1, qle, Bool.true_and, Bool.and_assoc]
  rw [if_pos (by omega)]
  generalize (decide (valO (M.2 146) (M.2 149) R a 0 = valO (M.2 146) (M.2 149) R b 0) && (decide (valO (M.2 146) (M.2 149) R a (0 + 1) = valO (M.2 146) (M.2 149) R b (0 + 1)) && (decide (valO (M.2 146) (M.2 149) R a (0 + 1 + 1) = valO (M.2 146) (M.2 149) R b (0 + 1 + 1)) && decide (valO (M.2 146) (M.2 149) R a (0 + 1 + 1 + 1) = valO (M.2 146) (M.2 149) R b (0 + 1 + 1 + 1))))) = t
  cases t <;> rfl
theorem rec_L2 (hM : MR M.1) (hW : WF (M.2 146) N R) (hF : FLD M N R) {n : Nat} (hn : n < N) :
    ∀ (d e fu : Nat), e + d = n → d < fu → m_X8_recordOf_L2 M 144 (nI n) fu (nI e) = some (nI (rcdG (fun e => likeB (M.2 146) (M.2 149) R e n) d e)) := by
  intro d
  induction d with
  | zero =>
    intro e fu hi hf
    obtain ⟨fu, rfl⟩ : ∃ f, fu = f + 1 := ⟨fu - 1, by omega⟩
    unfold m_X8_recordOf_L2
    rw [m_isLike hM hW hF (by omega) hn, obs, show e = n by omega, likeB_self]
    rfl
  | succ d ih =>
    intro e fu hi hf
    obtain ⟨fu, rfl⟩ : ∃ f, fu = f + 1 := ⟨fu - 1, by omega⟩
    unfold m_X8_recordOf_L2 rcdG
    rw [m_isLike hM hW hF (by omega) hn, obs, nI_1]
    cases h : likeB (M.2 146) (M.2 149) R e n
    · simp only [bi_0, if_true, Bool.false_eq_true, if_false]
      exact ih (e + 1) fu (by omega) (by omega)
    · simp only [bi_0, Bool.true_eq_false, if_false, if_true]
theorem m_recordOf (hM : MR M.1) (hW : WF (M.2 146) N R) (hF : FLD M N R) {n : Nat} (hn : n < N) : m_X8_recordOf M 144 (nI n) = some (nI (rcG (M.2 146) (M.2 149) R n)) := by
  have h9 := hW.2.1
  exact rec_L2 hM hW hF hn n 0 FU (by omega) (by unfold FU; omega)
theorem bl_L24 (hM : MR M.1) (hW : WF (M.2 146) N R) {n e : Nat} (hn : n < 9) (he : e < 9) {k4 : Int32 → Int32 → Option Int32} :
    ∀ (a fu : Nat) (x2 : Int32), a < N → a + 2 ≤ fu → m_X8_below_L24 M 144 (nI n) k4 fu x2 (nI e) (nI a) = k4 (orb x2 (decide (a = n) || blB (M.2 146) n a) e) (nI e + 1) := by
  have h9 := hW.2.1
  intro a
  induction a using Nat.strongRecOn with
  | ind a ih =>
    intro fu x2 ha hfu
    obtain ⟨fu, rfl⟩ : ∃ f, fu = f + 1 := ⟨fu - 1, by omega⟩
    obtain ⟨fu, rfl⟩ : ∃ f, fu = f + 1 := ⟨fu - 1, by omega⟩
    have turn : ∀ b : Bool, ∀ s0 : Int32, x2 ||| s0 = orb x2 b e → m_X8_below_L45 M 144 (nI n) k4 (fun z0 z1 z2 => m_X8_below_L24 M 144 (nI n) k4 (fu + 1) z0 z1 z2) (nI e) (nI a) s0 x2 = k4 (orb x2 (b || blB (M.2 146) n a) e) (nI e + 1) := by
      intro b s0 hs
      unfold m_X8_below_L45
      simp (disch := omega) only [rm8 hM, obs, qa1, ra_146]
      rw [hs, (pa_ok hW ha).1]
      unfold blB
      rw [AN_eq hW ha]
      cases hp : pa (M.2 146) a with
      | none =>
        show m_X8_below_L24 M 144 (nI n) k4 (fu + 1) (orb x2 b e) (nI e) (-9) = _
        unfold m_X8_below_L24
        simp
      | some q =>
        have hq := (pa_ok hW ha).2 q hp
        show m_X8_below_L24 M 144 (nI n) k4 (fu + 1) (orb x2 b e) (nI e) (nI q) = _
        rw [ih q hq (fu + 1) (orb x2 b e) (by omega) (by omega), orb_orb _ _ _ _ (by omega)]
        simp [blB]
    unfold m_X8_below_L24
    simp (disch := omega) only [qm9, if_false, qeq]
    by_cases h : a = n
    · rw [if_pos h, turn true _ (by simp [orb])]
      simp [h]
    · rw [if_neg h, turn false 0 (by simp [orb, qor0])]
      simp [h]
theorem bl_L4 (hM : MR M.1) (hW : WF (M.2 146) N R) {n : Nat} (hn : n < N) :
    ∀ (d i fu : Nat), i + d = N → d < fu → m_X8_below_L4 M 144 (nI n) fu (bs i (blB (M.2 146) n)) (nI i) = some (bs N (blB (M.2 146) n)) := by
  have h9 := hW.2.1
  intro d
  induction d with
  | zero =>
    intro i fu hi hf
    obtain ⟨fu, rfl⟩ : ∃ f, fu = f + 1 := ⟨fu - 1, by omega⟩
    unfold m_X8_below_L4
    simp (disch := omega) only [rm8 hM, obs, ra_146z, hW.1, qle]
    rw [if_pos (by omega), show i = N by omega]
  | succ d ih =>
    intro i fu hi hf
    obtain ⟨fu, rfl⟩ : ∃ f, fu = f + 1 := ⟨fu - 1, by omega⟩
    unfold m_X8_below_L4
    simp (disch := omega) only [rm8 hM, obs, ra_146z, hW.1, qle, qa1, ra_146]
    rw [if_neg (by omega), (pa_ok hW (show i < N by omega)).1]
    have next := ih (i + 1) fu (by omega) (by omega)
    rw [← orb_bs] at next
    cases hp : pa (M.2 146) i with
    | none =>
      show m_X8_below_L24 M 144 (nI n) _ FU (bs i (blB (M.2 146) n)) (nI i) (-9) = _
      rw [FU1]
      unfold m_X8_below_L24
      simp only [if_true, nI_1]
      have hz : blB (M.2 146) n i = false := by unfold blB; rw [AN_eq hW (show i < N by omega), hp]; rfl
      rw [hz] at next
      exact next
    | some q =>
      have hq := (pa_ok hW (show i < N by omega)).2 q hp
      show m_X8_below_L24 M 144 (nI n) _ FU (bs i (blB (M.2 146) n)) (nI i) (nI q) = _
      rw [bl_L24 hM hW (show n < 9 by omega) (show i < 9 by omega) q FU _ (by omega) (by unfold FU; omega), nI_1]
      have hz : blB (M.2 146) n i = (decide (q = n) || blB (M.2 146) n q) := by
        unfold blB
        rw [AN_eq hW (show i < N by omega), hp]
        simp
      rw [hz] at next
      exact next
theorem m_below (hM : MR M.1) (hW : WF (M.2 146) N R) {n : Nat} (hn : n < N) : m_X8_below M 144 (nI n) = some (bs N (blB (M.2 146) n)) := by
  have h9 := hW.2.1
  exact bl_L4 hM hW hn N 0 FU (by omega) (by unfold FU; omega)
/-- by compound c of rule r, node k is looked at, were class cl of node n another -/
def lkC (T S : Nat → Int32) (n cl r c k : Nat) : Bool := bt (T (44 + 3 * r + c)) cl && (if c = cn T r - 1 then decide (k = n) else blB T n k && fitB T S (3 * r + (cn T r - 1)) k)
/-- by the compounds below c -/
def lkN (T S : Nat → Int32) (n cl r : Nat) : Nat → Nat → Bool
  | 0, _ => false
  | c + 1, k => lkN T S n cl r c k || lkC T S n cl r c k
/-- by the rules below r -/
def lkR (T S : Nat → Int32) (n cl : Nat) : Nat → Nat → Bool
  | 0, _ => false
  | r + 1, k => lkR T S n cl r k || (bt (S 18) r && lkN T S n cl r (cn T r) k)
theorem la_L104 (hM : MR M.1) (hW : WF (M.2 146) N R) {r c l : Nat} (hr : r < 8) (hc : c ≤ l) (hl : l < 3) {P Q : Nat → Bool} {x1 x2 : Int32} {k12 : Int32 → Int32 → Int32 → Option Int32} {k40 : Int32 → Int32 → Int32 → Int32 → Int32 → Option Int32} :
    ∀ (d i fu : Nat), i + d = N → d < fu → m_X8_lookedAt_L104 M 144 x1 x2 k12 k40 fu (bs N (fun k => P k || (decide (k < i) && (decide (c < l) && (Q k && fitB (M.2 146) (M.2 149) (3 * r + l) k))))) (bs N Q) (nI r) (nI l) (nI c) (nI i) = k40 (bs N (fun k => P k || (decide (c < l) && (Q k && fitB (M.2 146) (M.2 149) (3 * r + l) k)))) (bs N Q) (nI r) (nI l) (nI (c + 1)) := by
  have h9 := hW.2.1
  intro d
  induction d with
  | zero =>
    intro i fu hi hf
    obtain ⟨fu, rfl⟩ : ∃ f, fu = f + 1 := ⟨fu - 1, by omega⟩
    unfold m_X8_lookedAt_L104
    simp (disch := omega) only [rm8 hM, obs, ra_146z, hW.1, qle, nI_1]
    rw [if_pos (by omega)]
    congr 1
    refine bs_ext (fun k hk => ?_)
    simp [show k < i by omega]
  | succ d ih =>
    intro i fu hi hf
    obtain ⟨fu, rfl⟩ : ∃ f, fu = f + 1 := ⟨fu - 1, by omega⟩
    have next := ih (i + 1) fu (by omega) (by omega)
    unfold m_X8_lookedAt_L104
    simp (disch := omega) only [rm8 hM, obs, ra_146z, hW.1, qle, nI_1, qor0, hb8, qmu, nI_add, m_fits hM, bi_0, hb_0]
    rw [if_neg (by omega), b_bs (p := Q) (by omega) (by omega)]
    have hiN : decide (i < N) = true := by simp; omega
    -- nothing new comes at i
    have stay : (decide (c < l) && (Q i && fitB (M.2 146) (M.2 149) (3 * r + l) i)) = false → bs N (fun k => P k || (decide (k < i) && (decide (c < l) && (Q k && fitB (M.2 146) (M.2 149) (3 * r + l) k)))) = bs N (fun k => P k || (decide (k < i + 1) && (decide (c < l) && (Q k && fitB (M.2 146) (M.2 149) (3 * r + l) k)))) := by
      intro hz
      refine bs_ext (fun k hk => ?_)
      by_cases hki : k = i
      · subst hki; rw [hz]; simp
      · by_cases h2 : k < i
        · simp [h2, show k < i + 1 by omega]
        · simp [h2, show ¬ k < i + 1 by omega]
    by_cases hcl : c < l
    · rw [if_neg (by omega)]
      by_cases hQ : Q i = true
      · rw [if_neg (by simp [hQ]; omega)]
        by_cases hfi : fitB (M.2 146) (M.2 149) (3 * r + l) i = true
        · rw [if_neg (by simp [hfi])]
          have e : bs N (fun k => P k || (decide (k < i) && (decide (c < l) && (Q k && fitB (M.2 146) (M.2 149) (3 * r + l) k)))) ||| ((1 : Int32) <<< (nI i &&& 31)) = bs N (fun k => P k || (decide (k < i + 1) && (decide (c < l) && (Q k && fitB (M.2 146) (M.2 149) (3 * r + l) k)))) := by
            rw [bs_one (n := N) (by omega) (by omega), bs_or (by omega)]
            refine bs_ext (fun k hk => ?_)
            by_cases hki : k = i
            · subst hki; simp [hcl, hQ, hfi]
            · by_cases h2 : k < i
              · simp [h2, hki, show k < i + 1 by omega]
              · simp [h2, hki, show ¬ k < i + 1 by omega]
          rw [e]
          exact next
        · rw [if_pos (by simpa using hfi), stay (by simp [hfi])]
          exact next
      · rw [if_pos (by simp [hQ]), stay (by simp [hQ])]
        exact next
    · rw [if_pos (by omega), stay (by simp [hcl])]
      exact next
theorem la_L40 (hM : MR M.1) (hW : WF (M.2 146) N R) {n cl r : Nat} (hn : n < N) (hcl : cl < 4) (hr : r < R) (hon : bt (M.2 149 18) r = true) {P : Nat → Bool} {k12 : Int32 → Int32 → Int32 → Option Int32} :
    ∀ (d c fu : Nat), c + d = cn (M.2 146) r → d < fu → m_X8_lookedAt_L40 M 144 (nI n) (nI cl) k12 fu (bs N (fun k => P k || lkN (M.2 146) (M.2 149) n cl r c k)) (bs N (blB (M.2 146) n)) (nI r) (nI (cn (M.2 146) r - 1)) (nI c) = k12 (bs N (fun k => P k || lkN (M.2 146) (M.2 149) n cl r (cn (M.2 146) r) k)) (bs N (blB (M.2 146) n)) (nI (r + 1)) := by
  have h9 := hW.2.1
  have h8 := hW.2.2.2.1
  obtain ⟨k1, k2, k3⟩ := cn_ok hW hr
  intro d
  induction d with
  | zero =>
    intro c fu hi hf
    obtain ⟨fu, rfl⟩ : ∃ f, fu = f + 1 := ⟨fu - 1, by omega⟩
    unfold m_X8_lookedAt_L40
    simp (disch := omega) only [qlt, nI_1]
    rw [if_pos (by omega), show c = cn (M.2 146) r by omega]
  | succ d ih =>
    intro c fu hi hf
    obtain ⟨fu, rfl⟩ : ∃ f, fu = f + 1 := ⟨fu - 1, by omega⟩
    have next := ih (c + 1) fu (by omega) (by omega)
    unfold m_X8_lookedAt_L40
    simp (disch := omega) only [qlt, nI_1, rm11 hM, rm8 hM, obs, ra_149e, hb8, hb_0, qmu, qa1, nI_add, ra_146, qeq, qor0]
    rw [if_neg (by omega), if_neg (by simp [hon])]
    by_cases hb : bt (M.2 146 (44 + 3 * r + c)) cl = true
    · rw [if_neg (by simp [hb])]
      by_cases hlast : c = cn (M.2 146) r - 1
      · rw [if_pos hlast]
        have h := la_L104 hM hW (r := r) (c := c) (l := cn (M.2 146) r - 1) (by omega) (by omega) (by omega) (P := fun k => (P k || lkN (M.2 146) (M.2 149) n cl r c k) || decide (k = n)) (Q := blB (M.2 146) n) (x1 := nI n) (x2 := nI cl) (k12 := k12) (k40 := fun z0 z1 z2 z3 z4 => m_X8_lookedAt_L40 M 144 (nI n) (nI cl) k12 fu z0 z1 z2 z3 z4) N 0 FU (by omega) (by unfold FU; omega)
        rw [show nI 0 = 0 from rfl] at h
        rw [bs_one (n := N) (by omega) hn, bs_or (by omega)]
        have e1 : bs N (fun k => (P k || lkN (M.2 146) (M.2 149) n cl r c k) || decide (k = n)) = bs N (fun k => (fun k => (P k || lkN (M.2 146) (M.2 149) n cl r c k) || decide (k = n)) k || (decide (k < 0) && (decide (c < cn (M.2 146) r - 1) && (blB (M.2 146) n k && fitB (M.2 146) (M.2 149) (3 * r + (cn (M.2 146) r - 1)) k)))) := bs_ext (fun k hk => by simp)
        have e2 : bs N (fun k => (fun k => (P k || lkN (M.2 146) (M.2 149) n cl r c k) || decide (k = n)) k || (decide (c < cn (M.2 146) r - 1) && (blB (M.2 146) n k && fitB (M.2 146) (M.2 149) (3 * r + (cn (M.2 146) r - 1)) k))) = bs N (fun k => P k || lkN (M.2 146) (M.2 149) n cl r (c + 1) k) := bs_ext (fun k hk => by
          have hb2 := hb
          rw [hlast] at hb2
          simp [lkN, lkC, hb2, hlast, Bool.or_assoc])
        rw [e1, h, e2]
        exact next
      · rw [if_neg hlast]
        have h := la_L104 hM hW (r := r) (c := c) (l := cn (M.2 146) r - 1) (by omega) (by omega) (by omega) (P := fun k => P k || lkN (M.2 146) (M.2 149) n cl r c k) (Q := blB (M.2 146) n) (x1 := nI n) (x2 := nI cl) (k12 := k12) (k40 := fun z0 z1 z2 z3 z4 => m_X8_lookedAt_L40 M 144 (nI n) (nI cl) k12 fu z0 z1 z2 z3 z4) N 0 FU (by omega) (by unfold FU; omega)
        rw [show nI 0 = 0 from rfl] at h
        have e1 : bs N (fun k => P k || lkN (M.2 146) (M.2 149) n cl r c k) = bs N (fun k => (fun k => P k || lkN (M.2 146) (M.2 149) n cl r c k) k || (decide (k < 0) && (decide (c < cn (M.2 146) r - 1) && (blB (M.2 146) n k && fitB (M.2 146) (M.2 149) (3 * r + (cn (M.2 146) r - 1)) k)))) := bs_ext (fun k hk => by simp)
        have e2 : bs N (fun k => (fun k => P k || lkN (M.2 146) (M.2 149) n cl r c k) k || (decide (c < cn (M.2 146) r - 1) && (blB (M.2 146) n k && fitB (M.2 146) (M.2 149) (3 * r + (cn (M.2 146) r - 1)) k))) = bs N (fun k => P k || lkN (M.2 146) (M.2 149) n cl r (c + 1) k) := bs_ext (fun k hk => by
          simp [lkN, lkC, hb, hlast, Bool.or_assoc, show c < cn (M.2 146) r - 1 by omega])
        rw [e1, h, e2]
        exact next
    · rw [if_pos (by simpa using hb)]
      have e2 : bs N (fun k => P k || lkN (M.2 146) (M.2 149) n cl r c k) = bs N (fun k => P k || lkN (M.2 146) (M.2 149) n cl r (c + 1) k) := bs_ext (fun k hk => by
        simp [lkN, lkC, hb])
      rw [e2]
      exact next
theorem la_L12 (hM : MR M.1) (hW : WF (M.2 146) N R) {n cl : Nat} (hn : n < N) (hcl : cl < 4) :
    ∀ (d r fu : Nat), r + d = R → d < fu → m_X8_lookedAt_L12 M 144 (nI n) (nI cl) fu (bs N (lkR (M.2 146) (M.2 149) n cl r)) (bs N (blB (M.2 146) n)) (nI r) = some (bs N (lkR (M.2 146) (M.2 149) n cl R)) := by
  have h8 := hW.2.2.2.1
  intro d
  induction d with
  | zero =>
    intro r fu hi hf
    obtain ⟨fu, rfl⟩ : ∃ f, fu = f + 1 := ⟨fu - 1, by omega⟩
    unfold m_X8_lookedAt_L12
    simp (disch := omega) only [rm8 hM, obs, ra_146o, hW.2.2.1, qle]
    rw [if_pos (by omega), show r = R by omega]
  | succ d ih =>
    intro r fu hi hf
    obtain ⟨fu, rfl⟩ : ∃ f, fu = f + 1 := ⟨fu - 1, by omega⟩
    have next := ih (r + 1) fu (by omega) (by omega)
    obtain ⟨k1, k2, k3⟩ := cn_ok hW (show r < R by omega)
    unfold m_X8_lookedAt_L12
    simp (disch := omega) only [rm8 hM, obs, ra_146o, hW.2.2.1, qle, qa1, ra_146, k1, qs_1]
    rw [if_neg (by omega)]
    by_cases hon : bt (M.2 149 18) r = true
    · have h := la_L40 hM hW hn hcl (show r < R by omega) hon (P := lkR (M.2 146) (M.2 149) n cl r) (k12 := fun z0 z1 z2 => m_X8_lookedAt_L12 M 144 (nI n) (nI cl) fu z0 z1 z2) (cn (M.2 146) r) 0 FU (by omega) (by unfold FU; omega)
      rw [show nI 0 = 0 from rfl] at h
      have e1 : bs N (lkR (M.2 146) (M.2 149) n cl r) = bs N (fun k => lkR (M.2 146) (M.2 149) n cl r k || lkN (M.2 146) (M.2 149) n cl r 0 k) := bs_ext (fun k hk => by simp [lkN])
      have e2 : bs N (fun k => lkR (M.2 146) (M.2 149) n cl r k || lkN (M.2 146) (M.2 149) n cl r (cn (M.2 146) r) k) = bs N (lkR (M.2 146) (M.2 149) n cl (r + 1)) := bs_ext (fun k hk => by simp [lkR, hon])
      rw [e1, h, e2]
      exact next
    · rw [FU1]
      unfold m_X8_lookedAt_L40
      simp (disch := omega) only [rm11 hM, obs, ra_149e, hb8, hb_0, nI_1]
      rw [if_neg (by rw [show (0 : Int32) = nI 0 from rfl, qlt (by omega) (by omega)]; omega), if_pos (by simpa using hon)]
      have e2 : bs N (lkR (M.2 146) (M.2 149) n cl r) = bs N (lkR (M.2 146) (M.2 149) n cl (r + 1)) := bs_ext (fun k hk => by simp [lkR, hon])
      rw [e2]
      exact next
theorem m_lookedAt (hM : MR M.1) (hW : WF (M.2 146) N R) {n cl : Nat} (hn : n < N) (hcl : cl < 4) : m_X8_lookedAt M 144 (nI n) (nI cl) = some (bs N (lkR (M.2 146) (M.2 149) n cl R)) := by
  have h8 := hW.2.2.2.1
  unfold m_X8_lookedAt
  rw [m_below hM hW hn, obs]
  have h := la_L12 hM hW hn hcl R 0 FU (by omega) (by unfold FU; omega)
  rw [show bs N (lkR (M.2 146) (M.2 149) n cl 0) = 0 from bs_f0 N, show nI 0 = 0 from rfl] at h
  exact h
end MODEL5
