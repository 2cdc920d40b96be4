theorem and_self32 (x : Int32) : x &&& x = x := by
  apply b_ext
  intro i hi
  rw [b_and]
  simp
theorem encS (q : Nat) : enc (some q) = nI q := by
  have h : enc (some q) = nI q := rfl
  exact h.trans (Eq.refl _)
theorem encN : enc none = -9 := by
  have h : enc none = -9 := rfl
  exact h.trans (Eq.refl _)
theorem enc_lt {x : Option Nat} {n : Nat} (h : ∀ b, x = some b → b < n) (hn : n < 2 ^ 31) : (enc x = -9) = (x = none) := enc_m9 (fun q hq => by have := h q hq; omega)
section MODEL4
variable {M : Mem} {N R : Nat}
theorem wn_L97 (hM : MR M.1) (hW : WF (M.2 146) N R) {p : Nat} (hp : p < 4) {L : Nat → Bool} {k77 : Int32 → Int32 → Int32 → Option Int32} {x1 x3 x7 : Int32} :
    ∀ (d i fu : Nat), i + d = R → d < fu → m_X8_winnerOf_L97 M 144 x1 (nI p) x3 k77 fu (bs R L) (enc (best (M.2 146) p i L)) x7 (nI i) = k77 (bs R (match best (M.2 146) p R L with
      | none => L
      | some b => rmv L b)) (enc (best (M.2 146) p R L)) (x7 + 1) := by
  have h8 := hW.2.2.2.1
  intro d
  induction d with
  | zero =>
    intro i fu hi hf
    obtain ⟨fu, rfl⟩ : ∃ f, fu = f + 1 := ⟨fu - 1, by omega⟩
    have hi2 : i = R := by omega
    subst hi2
    unfold m_X8_winnerOf_L97
    simp (disch := omega) only [rm8 hM, obs, ra_146o, hW.2.2.1, qle]
    rw [if_pos (Nat.le_refl _)]
    cases hb : best (M.2 146) p i L with
    | none => simp only [encN, if_true, and_self32]
    | some b =>
      have hlt := (best_lt hb).1
      rw [encS, if_neg (qm9 (show b < 2 ^ 31 by omega)), bs_less (by omega) hlt]
      rfl
  | succ d ih =>
    intro i fu hi hf
    obtain ⟨fu, rfl⟩ : ∃ f, fu = f + 1 := ⟨fu - 1, by omega⟩
    unfold m_X8_winnerOf_L97
    simp (disch := omega) only [rm8 hM, obs, ra_146o, hW.2.2.1, qle, hb8, nI_1]
    rw [if_neg (by omega)]
    have hbit : bt (bs R L) i = L i := by rw [b_bs (by omega) (by omega)]; simp [show i < R by omega]
    by_cases hL : L i = true
    · rw [if_neg (by rw [hb_0, hbit]; simp [hL])]
      cases hb : best (M.2 146) p i L with
      | none =>
        have h1 : best (M.2 146) p (i + 1) L = some i := by unfold best; rw [if_pos hL, hb]
        have := ih (i + 1) fu (by omega) (by omega)
        rw [h1] at this
        rw [encN, if_pos rfl]
        exact this
      | some b =>
        have hlt := (best_lt hb).1
        have h1 : best (M.2 146) p (i + 1) L = if wt (M.2 146) b p ≤ wt (M.2 146) i p then some i else some b := by unfold best; rw [if_pos hL, hb]
        have := ih (i + 1) fu (by omega) (by omega)
        rw [h1] at this
        rw [encS, if_neg (qm9 (show b < 2 ^ 31 by omega))]
        have e1 := m_heightOf hM hW (r := i) (p := p) (by omega) hp
        have e2 := m_heightOf hM hW (r := b) (p := p) (by omega) hp
        have w1 := lvl_le (M.2 146) i p
        have w2 := spec_le hW (r := i) (by omega)
        have w3 := lvl_le (M.2 146) b p
        have w4 := spec_le hW (r := b) (by omega)
        have w5 : wt (M.2 146) i p ≤ 4000 := by unfold wt; omega
        have w6 : wt (M.2 146) b p ≤ 4000 := by unfold wt; omega
        simp (disch := omega) only [e1, e2, obs, qle]
        by_cases hw : wt (M.2 146) b p ≤ wt (M.2 146) i p
        · rw [if_pos hw] at this
          rw [if_neg (by omega)]
          exact this
        · rw [if_neg hw] at this
          rw [if_pos (by omega)]
          exact this
    · rw [if_pos (by rw [hb_0, hbit]; simpa using hL)]
      have h1 : best (M.2 146) p (i + 1) L = best (M.2 146) p i L := by
        show (if L i then _ else _) = _
        rw [if_neg hL]
      have := ih (i + 1) fu (by omega) (by omega)
      rw [h1] at this
      exact this
def prv (T : Nat → Int32) (p R : Nat) (L : Nat → Bool) : Nat → Int32
  | 0 => -9
  | e + 1 => enc (wn T p R L e)
theorem wn_turn (hM : MR M.1) (hW : WF (M.2 146) N R) {p e fu : Nat} (hp : p < 4) {L : Nat → Bool} {x1 x3 : Int32} :
    m_X8_winnerOf_L97 M 144 x1 (nI p) x3 (fun z0 z1 z2 => m_X8_winnerOf_L77 M 144 x1 (nI p) x3 fu z0 z1 z2) FU (bs R (lf (M.2 146) p R L e)) (-9) (nI e) 0 = m_X8_winnerOf_L77 M 144 x1 (nI p) x3 fu (bs R (lf (M.2 146) p R L (e + 1))) (prv (M.2 146) p R L (e + 1)) (nI (e + 1)) := by
  have h8 := hW.2.2.2.1
  have h := wn_L97 hM hW hp (L := lf (M.2 146) p R L e) (k77 := fun z0 z1 z2 => m_X8_winnerOf_L77 M 144 x1 (nI p) x3 fu z0 z1 z2) (x1 := x1) (x3 := x3) (x7 := nI e) R 0 FU (by omega) (by unfold FU; omega)
  rw [nI_1] at h
  exact h
theorem wn_L77a (hM : MR M.1) (hW : WF (M.2 146) N R) {p k : Nat} (hp : p < 4) (hk : k ≤ 8) {L : Nat → Bool} {x1 : Int32} :
    ∀ (d e fu : Nat), e + d = k + 1 → d < fu → m_X8_winnerOf_L77 M 144 x1 (nI p) (nI k) fu (bs R (lf (M.2 146) p R L e)) (prv (M.2 146) p R L e) (nI e) = some (enc (wn (M.2 146) p R L k)) := by
  intro d
  induction d with
  | zero =>
    intro e fu hi hf
    obtain ⟨fu, rfl⟩ : ∃ f, fu = f + 1 := ⟨fu - 1, by omega⟩
    unfold m_X8_winnerOf_L77
    simp (disch := omega) only [qlt, qle2, qle]
    rw [if_pos (by omega), if_pos (by omega), show e = k + 1 by omega]
    rfl
  | succ d ih =>
    intro e fu hi hf
    obtain ⟨fu, rfl⟩ : ∃ f, fu = f + 1 := ⟨fu - 1, by omega⟩
    unfold m_X8_winnerOf_L77
    simp (disch := omega) only [qlt, qle1, qle]
    rw [if_neg (by omega), if_neg (by omega), wn_turn hM hW hp]
    exact ih (e + 1) fu (by omega) (by omega)
theorem wn_L77b (hM : MR M.1) (hW : WF (M.2 146) N R) {p k : Nat} (hp : p < 4) (hk : 8 < k) (hk2 : k < 2 ^ 31) {L : Nat → Bool} {x1 : Int32} :
    ∀ (d e fu : Nat), e + d = 9 → d < fu → m_X8_winnerOf_L77 M 144 x1 (nI p) (nI k) fu (bs R (lf (M.2 146) p R L e)) (prv (M.2 146) p R L e) (nI e) = some (-9) := by
  intro d
  induction d with
  | zero =>
    intro e fu hi hf
    obtain ⟨fu, rfl⟩ : ∃ f, fu = f + 1 := ⟨fu - 1, by omega⟩
    unfold m_X8_winnerOf_L77
    simp (disch := omega) only [qlt, qle1, qle2, qle]
    rw [if_neg (by omega), if_pos (by omega), if_neg (by omega)]
  | succ d ih =>
    intro e fu hi hf
    obtain ⟨fu, rfl⟩ : ∃ f, fu = f + 1 := ⟨fu - 1, by omega⟩
    unfold m_X8_winnerOf_L77
    simp (disch := omega) only [qlt, qle1, qle]
    rw [if_neg (by omega), if_neg (by omega), wn_turn hM hW hp]
    exact ih (e + 1) fu (by omega) (by omega)
theorem wn_L13 (hM : MR M.1) (hW : WF (M.2 146) N R) {n p : Nat} (hp : p < 4) {x1 x3 : Int32} :
    ∀ (d i fu : Nat), i + d = R → d < fu → m_X8_winnerOf_L13 M 144 x1 (nI p) x3 fu (bs i (dcl (M.2 146) (M.2 149) p n)) (bs R (fun r => mtch (M.2 146) (M.2 149) r n)) (nI i) = m_X8_winnerOf_L77 M 144 x1 (nI p) x3 FU (bs R (dcl (M.2 146) (M.2 149) p n)) (-9) 0 := by
  have h8 := hW.2.2.2.1
  intro d
  induction d with
  | zero =>
    intro i fu hi hf
    obtain ⟨fu, rfl⟩ : ∃ f, fu = f + 1 := ⟨fu - 1, by omega⟩
    unfold m_X8_winnerOf_L13
    simp (disch := omega) only [rm8 hM, obs, ra_146o, hW.2.2.1, qle]
    rw [if_pos (by omega), show i = R by omega]
  | succ d ih =>
    intro i fu hi hf
    obtain ⟨fu, rfl⟩ : ∃ f, fu = f + 1 := ⟨fu - 1, by omega⟩
    unfold m_X8_winnerOf_L13
    simp (disch := omega) only [rm8 hM, obs, ra_146o, hW.2.2.1, qle, hb8, nI_1, qor0, qa1, ra_146]
    rw [if_neg (by omega)]
    have hbit : bt (bs R (fun r => mtch (M.2 146) (M.2 149) r n)) i = mtch (M.2 146) (M.2 149) i n := by rw [b_bs (by omega) (by omega)]; simp [show i < R by omega]
    have next := ih (i + 1) fu (by omega) (by omega)
    by_cases hm : mtch (M.2 146) (M.2 149) i n = true
    · rw [if_neg (by rw [hb_0, hbit]; simp [hm])]
      by_cases hd : bt (M.2 146 (92 + i)) p = true
      · rw [if_neg (by rw [hb_0]; simp [hd]), bs_t (p := dcl (M.2 146) (M.2 149) p n) (by simp [dcl, hm, hd])]
        exact next
      · rw [if_pos (by rw [hb_0]; simpa using hd), bs_f (n := i) (p := dcl (M.2 146) (M.2 149) p n) (by simp [dcl, hd])]
        exact next
    · rw [if_pos (by rw [hb_0, hbit]; simpa using hm), bs_f (n := i) (p := dcl (M.2 146) (M.2 149) p n) (by simp [dcl, hm])]
      exact next
/-- the model's row of matches is filled -/
def FLD (M : Mem) (N R : Nat) : Prop := ∀ j, j < R → M.2 157 j = matF (M.2 146) (M.2 149) N j
theorem m_winnerOf (hM : MR M.1) (hW : WF (M.2 146) N R) (hF : FLD M N R) {n p k : Nat} (hn : n < N) (hp : p < 4) (hk : k < 2 ^ 31) : m_X8_winnerOf M 144 (nI n) (nI p) (nI k) = some (if k ≤ 8 then enc (wn (M.2 146) p R (dcl (M.2 146) (M.2 149) p n) k) else -9) := by
  have h8 := hW.2.2.2.1
  unfold m_X8_winnerOf
  rw [m_rulesOf hM hW hF hn, obs]
  have h := wn_L13 hM hW hp (n := n) (x1 := nI n) (x3 := nI k) R 0 FU (by omega) (by unfold FU; omega)
  rw [show bs 0 (dcl (M.2 146) (M.2 149) p n) = 0 from rfl, show nI 0 = 0 from rfl] at h
  rw [h]
  by_cases hk8 : k ≤ 8
  · rw [if_pos hk8]
    exact wn_L77a hM hW hp hk8 (L := dcl (M.2 146) (M.2 149) p n) (k + 1) 0 FU (by omega) (by unfold FU; omega)
  · rw [if_neg hk8]
    exact wn_L77b hM hW hp (by omega) hk (L := dcl (M.2 146) (M.2 149) p n) 9 0 FU (by omega) (by unfold FU; omega)
theorem m_win0 (hM : MR M.1) (hW : WF (M.2 146) N R) (hF : FLD M N R) {n p : Nat} (hn : n < N) (hp : p < 4) : m_X8_winnerOf M 144 (nI n) (nI p) 0 = some (enc (best (M.2 146) p R (dcl (M.2 146) (M.2 149) p n))) := by
  have h := m_winnerOf hM hW hF hn hp (k := 0) (by omega)
  rw [if_pos (by omega)] at h
  exact h
theorem src_L2 (hM : MR M.1) (hW : WF (M.2 146) N R) (hF : FLD M N R) {p : Nat} (hp : p < 4) {x1 : Int32} :
    ∀ (a fu : Nat), a < N → a + 2 ≤ fu → m_X8_sourceOf_L2 M 144 x1 (nI p) fu (nI a) = some (enc (srcO (M.2 146) (M.2 149) R a p)) := by
  have h9 := hW.2.1
  have h8 := hW.2.2.2.1
  intro a
  induction a using Nat.strongRecOn with
  | ind a ih =>
    intro fu ha hfu
    obtain ⟨fu, rfl⟩ : ∃ f, fu = f + 1 := ⟨fu - 1, by omega⟩
    obtain ⟨fu, rfl⟩ : ∃ f, fu = f + 1 := ⟨fu - 1, by omega⟩
    unfold m_X8_sourceOf_L2
    simp (disch := omega) only [qm9, if_false, m_win0 hM hW hF ha hp, obs, rm8 hM, qa1, ra_146, qle1, qle, enc_lt (fun b hb => (best_lt hb).1) (show R < 2 ^ 31 by omega)]
    unfold srcO
    cases hb : best (M.2 146) p R (dcl (M.2 146) (M.2 149) p a) with
    | some b =>
      simp [List.find?, hb, enc]
    | none =>
      simp only [if_true]
      by_cases hp2 : 2 ≤ p
      · rw [if_pos hp2, if_neg (by omega)]
        simp [List.find?, hb, m_X8_sourceOf_L2, enc]
      · rw [if_neg hp2, if_pos (by omega), (pa_ok hW ha).1, AN_eq hW ha]
        cases hpa : pa (M.2 146) a with
        | none => simp [List.find?, hb, m_X8_sourceOf_L2, enc]
        | some q =>
          have hq := (pa_ok hW ha).2 q hpa
          show m_X8_sourceOf_L2 M 144 x1 (nI p) (fu + 1) (nI q) = _
          rw [ih q hq (fu + 1) (by omega) (by omega)]
          unfold srcO
          rw [if_pos (by omega)]
          simp [List.find?, hb]
theorem m_sourceOf (hM : MR M.1) (hW : WF (M.2 146) N R) (hF : FLD M N R) {n p : Nat} (hn : n < N) (hp : p < 4) : m_X8_sourceOf M 144 (nI n) (nI p) = some (enc (srcO (M.2 146) (M.2 149) R n p)) := by
  have h9 := hW.2.1
  exact src_L2 hM hW hF hp n FU hn (by unfold FU; omega)
theorem srcO_lt {T S : Nat → Int32} (hW : WF T N R) {n p a : Nat} (hn : n < N) (h : srcO T S R n p = some a) : a ≤ n ∧ ∃ b, best T p R (dcl T S p a) = some b := by
  unfold srcO at h
  have h1 := List.find?_some h
  have h2 := List.mem_of_find?_eq_some h
  refine ⟨?_, Option.isSome_iff_exists.mp h1⟩
  rcases List.mem_cons.mp h2 with rfl | h3
  · exact Nat.le_refl _
  · split at h3
    · exact Nat.le_of_lt (AN_lt hW n hn a h3)
    · simp at h3
theorem m_valueOf (hM : MR M.1) (hW : WF (M.2 146) N R) (hF : FLD M N R) {n p : Nat} (hn : n < N) (hp : p < 4) : m_X8_valueOf M 144 (nI n) (nI p) = some (valO (M.2 146) (M.2 149) R n p) := by
  have h9 := hW.2.1
  have h8 := hW.2.2.2.1
  unfold m_X8_valueOf valO
  rw [m_sourceOf hM hW hF hn hp, obs]
  cases hs : srcO (M.2 146) (M.2 149) R n p with
  | none => rw [encN, if_pos rfl]
  | some a =>
    obtain ⟨ha, b, hb⟩ := srcO_lt hW hn hs
    have hlt := (best_lt hb).1
    rw [encS, if_neg (qm9 (show a < 2 ^ 31 by omega))]
    simp (disch := omega) only [rm8 hM, obs, m_win0 hM hW hF (show a < N by omega) hp, hb, encS, qmu, qa1, nI_add, ra_146]
end MODEL4
