/-! ===== arrays at fixed places ===== -/
theorem ra_115 {M : Mem} {k : Nat} (h : k < 9) : ra M 115 (nI k) = some (M.2 115 k) := ra_eq h (by omega)
theorem wa_115 {M : Mem} {k : Nat} {v : Int32} (h : k < 9) : wa M 115 (nI k) v = some (wI M 115 k v) := wa_eq h (by omega)
theorem ra_116 {M : Mem} {k : Nat} (h : k < 9) : ra M 116 (nI k) = some (M.2 116 k) := ra_eq h (by omega)
theorem wa_116 {M : Mem} {k : Nat} {v : Int32} (h : k < 9) : wa M 116 (nI k) v = some (wI M 116 k v) := wa_eq h (by omega)
theorem ra_118 {M : Mem} {k : Nat} (h : k < 9) : ra M 118 (nI k) = some (M.2 118 k) := ra_eq h (by omega)
theorem wa_118 {M : Mem} {k : Nat} {v : Int32} (h : k < 9) : wa M 118 (nI k) v = some (wI M 118 k v) := wa_eq h (by omega)
theorem ra_119 {M : Mem} {k : Nat} (h : k < 9) : ra M 119 (nI k) = some (M.2 119 k) := ra_eq h (by omega)
theorem wa_119 {M : Mem} {k : Nat} {v : Int32} (h : k < 9) : wa M 119 (nI k) v = some (wI M 119 k v) := wa_eq h (by omega)
theorem ra_121 {M : Mem} {k : Nat} (h : k < 8) : ra M 121 (nI k) = some (M.2 121 k) := ra_eq h (by omega)
theorem wa_121 {M : Mem} {k : Nat} {v : Int32} (h : k < 8) : wa M 121 (nI k) v = some (wI M 121 k v) := wa_eq h (by omega)
theorem ra_122 {M : Mem} {k : Nat} (h : k < 9) : ra M 122 (nI k) = some (M.2 122 k) := ra_eq h (by omega)
theorem wa_122 {M : Mem} {k : Nat} {v : Int32} (h : k < 9) : wa M 122 (nI k) v = some (wI M 122 k v) := wa_eq h (by omega)
theorem ra_123 {M : Mem} {k : Nat} (h : k < 36) : ra M 123 (nI k) = some (M.2 123 k) := ra_eq h (by omega)
theorem wa_123 {M : Mem} {k : Nat} {v : Int32} (h : k < 36) : wa M 123 (nI k) v = some (wI M 123 k v) := wa_eq h (by omega)
theorem ra_124 {M : Mem} {k : Nat} (h : k < 36) : ra M 124 (nI k) = some (M.2 124 k) := ra_eq h (by omega)
theorem wa_124 {M : Mem} {k : Nat} {v : Int32} (h : k < 36) : wa M 124 (nI k) v = some (wI M 124 k v) := wa_eq h (by omega)
theorem ra_126 {M : Mem} {k : Nat} (h : k < 8) : ra M 126 (nI k) = some (M.2 126 k) := ra_eq h (by omega)
theorem wa_126 {M : Mem} {k : Nat} {v : Int32} (h : k < 8) : wa M 126 (nI k) v = some (wI M 126 k v) := wa_eq h (by omega)
theorem ra_127 {M : Mem} {k : Nat} (h : k < 9) : ra M 127 (nI k) = some (M.2 127 k) := ra_eq h (by omega)
theorem wa_127 {M : Mem} {k : Nat} {v : Int32} (h : k < 9) : wa M 127 (nI k) v = some (wI M 127 k v) := wa_eq h (by omega)
theorem ra_128 {M : Mem} {k : Nat} (h : k < 36) : ra M 128 (nI k) = some (M.2 128 k) := ra_eq h (by omega)
theorem wa_128 {M : Mem} {k : Nat} {v : Int32} (h : k < 36) : wa M 128 (nI k) v = some (wI M 128 k v) := wa_eq h (by omega)
theorem ra_129 {M : Mem} {k : Nat} (h : k < 36) : ra M 129 (nI k) = some (M.2 129 k) := ra_eq h (by omega)
theorem wa_129 {M : Mem} {k : Nat} {v : Int32} (h : k < 36) : wa M 129 (nI k) v = some (wI M 129 k v) := wa_eq h (by omega)
theorem ra_131 {M : Mem} {k : Nat} (h : k < 10) : ra M 131 (nI k) = some (M.2 131 k) := ra_eq h (by omega)
theorem wa_131 {M : Mem} {k : Nat} {v : Int32} (h : k < 10) : wa M 131 (nI k) v = some (wI M 131 k v) := wa_eq h (by omega)
theorem ra_133 {M : Mem} {k : Nat} (h : k < 6) : ra M 133 (nI k) = some (M.2 133 k) := ra_eq h (by omega)
theorem wa_133 {M : Mem} {k : Nat} {v : Int32} (h : k < 6) : wa M 133 (nI k) v = some (wI M 133 k v) := wa_eq h (by omega)
theorem ra_134 {M : Mem} {k : Nat} (h : k < 6) : ra M 134 (nI k) = some (M.2 134 k) := ra_eq h (by omega)
theorem wa_134 {M : Mem} {k : Nat} {v : Int32} (h : k < 6) : wa M 134 (nI k) v = some (wI M 134 k v) := wa_eq h (by omega)
theorem ra_135 {M : Mem} {k : Nat} (h : k < 6) : ra M 135 (nI k) = some (M.2 135 k) := ra_eq h (by omega)
theorem wa_135 {M : Mem} {k : Nat} {v : Int32} (h : k < 6) : wa M 135 (nI k) v = some (wI M 135 k v) := wa_eq h (by omega)
theorem ra_137 {M : Mem} {k : Nat} (h : k < 36) : ra M 137 (nI k) = some (M.2 137 k) := ra_eq h (by omega)
theorem wa_137 {M : Mem} {k : Nat} {v : Int32} (h : k < 36) : wa M 137 (nI k) v = some (wI M 137 k v) := wa_eq h (by omega)
theorem ra_139 {M : Mem} {k : Nat} (h : k < 9) : ra M 139 (nI k) = some (M.2 139 k) := ra_eq h (by omega)
theorem wa_139 {M : Mem} {k : Nat} {v : Int32} (h : k < 9) : wa M 139 (nI k) v = some (wI M 139 k v) := wa_eq h (by omega)
theorem ra_140 {M : Mem} {k : Nat} (h : k < 9) : ra M 140 (nI k) = some (M.2 140 k) := ra_eq h (by omega)
theorem wa_140 {M : Mem} {k : Nat} {v : Int32} (h : k < 9) : wa M 140 (nI k) v = some (wI M 140 k v) := wa_eq h (by omega)
theorem ra_142 {M : Mem} {k : Nat} (h : k < 9) : ra M 142 (nI k) = some (M.2 142 k) := ra_eq h (by omega)
theorem wa_142 {M : Mem} {k : Nat} {v : Int32} (h : k < 9) : wa M 142 (nI k) v = some (wI M 142 k v) := wa_eq h (by omega)
theorem ra_143 {M : Mem} {k : Nat} (h : k < 9) : ra M 143 (nI k) = some (M.2 143 k) := ra_eq h (by omega)
theorem wa_143 {M : Mem} {k : Nat} {v : Int32} (h : k < 9) : wa M 143 (nI k) v = some (wI M 143 k v) := wa_eq h (by omega)
theorem ra_145 {M : Mem} {k : Nat} (h : k < 120) : ra M 145 (nI k) = some (M.2 145 k) := ra_eq h (by omega)
theorem wa_145 {M : Mem} {k : Nat} {v : Int32} (h : k < 120) : wa M 145 (nI k) v = some (wI M 145 k v) := wa_eq h (by omega)
theorem ra_146 {M : Mem} {k : Nat} (h : k < 140) : ra M 146 (nI k) = some (M.2 146 k) := ra_eq h (by omega)
theorem wa_146 {M : Mem} {k : Nat} {v : Int32} (h : k < 140) : wa M 146 (nI k) v = some (wI M 146 k v) := wa_eq h (by omega)
theorem ra_147 {M : Mem} {k : Nat} (h : k < 140) : ra M 147 (nI k) = some (M.2 147 k) := ra_eq h (by omega)
theorem wa_147 {M : Mem} {k : Nat} {v : Int32} (h : k < 140) : wa M 147 (nI k) v = some (wI M 147 k v) := wa_eq h (by omega)
theorem ra_148 {M : Mem} {k : Nat} (h : k < 19) : ra M 148 (nI k) = some (M.2 148 k) := ra_eq h (by omega)
theorem wa_148 {M : Mem} {k : Nat} {v : Int32} (h : k < 19) : wa M 148 (nI k) v = some (wI M 148 k v) := wa_eq h (by omega)
theorem ra_149 {M : Mem} {k : Nat} (h : k < 19) : ra M 149 (nI k) = some (M.2 149 k) := ra_eq h (by omega)
theorem wa_149 {M : Mem} {k : Nat} {v : Int32} (h : k < 19) : wa M 149 (nI k) v = some (wI M 149 k v) := wa_eq h (by omega)
theorem ra_150 {M : Mem} {k : Nat} (h : k < 190) : ra M 150 (nI k) = some (M.2 150 k) := ra_eq h (by omega)
theorem wa_150 {M : Mem} {k : Nat} {v : Int32} (h : k < 190) : wa M 150 (nI k) v = some (wI M 150 k v) := wa_eq h (by omega)
theorem ra_151 {M : Mem} {k : Nat} (h : k < 38) : ra M 151 (nI k) = some (M.2 151 k) := ra_eq h (by omega)
theorem wa_151 {M : Mem} {k : Nat} {v : Int32} (h : k < 38) : wa M 151 (nI k) v = some (wI M 151 k v) := wa_eq h (by omega)
theorem ra_152 {M : Mem} {k : Nat} (h : k < 2) : ra M 152 (nI k) = some (M.2 152 k) := ra_eq h (by omega)
theorem wa_152 {M : Mem} {k : Nat} {v : Int32} (h : k < 2) : wa M 152 (nI k) v = some (wI M 152 k v) := wa_eq h (by omega)
theorem ra_153 {M : Mem} {k : Nat} (h : k < 6) : ra M 153 (nI k) = some (M.2 153 k) := ra_eq h (by omega)
theorem wa_153 {M : Mem} {k : Nat} {v : Int32} (h : k < 6) : wa M 153 (nI k) v = some (wI M 153 k v) := wa_eq h (by omega)
theorem ra_154 {M : Mem} {k : Nat} (h : k < 6) : ra M 154 (nI k) = some (M.2 154 k) := ra_eq h (by omega)
theorem wa_154 {M : Mem} {k : Nat} {v : Int32} (h : k < 6) : wa M 154 (nI k) v = some (wI M 154 k v) := wa_eq h (by omega)
theorem ra_155 {M : Mem} {k : Nat} (h : k < 6) : ra M 155 (nI k) = some (M.2 155 k) := ra_eq h (by omega)
theorem wa_155 {M : Mem} {k : Nat} {v : Int32} (h : k < 6) : wa M 155 (nI k) v = some (wI M 155 k v) := wa_eq h (by omega)
theorem ra_156 {M : Mem} {k : Nat} (h : k < 36) : ra M 156 (nI k) = some (M.2 156 k) := ra_eq h (by omega)
theorem wa_156 {M : Mem} {k : Nat} {v : Int32} (h : k < 36) : wa M 156 (nI k) v = some (wI M 156 k v) := wa_eq h (by omega)
theorem ra_157 {M : Mem} {k : Nat} (h : k < 8) : ra M 157 (nI k) = some (M.2 157 k) := ra_eq h (by omega)
theorem wa_157 {M : Mem} {k : Nat} {v : Int32} (h : k < 8) : wa M 157 (nI k) v = some (wI M 157 k v) := wa_eq h (by omega)
theorem ra_1 {M : Mem} {k : Nat} (h : k < 120) : ra M 1 (nI k) = some (M.2 1 k) := ra_eq h (by omega)
theorem wa_1 {M : Mem} {k : Nat} {v : Int32} (h : k < 120) : wa M 1 (nI k) v = some (wI M 1 k v) := wa_eq h (by omega)
/-! ===== the model's references ===== -/
def MR (ρ : Nat → Nat → Option Nat) : Prop := ρ 144 1 = some 145 ∧ ρ 144 8 = some 146 ∧ ρ 144 9 = some 147 ∧ ρ 144 10 = some 148 ∧ ρ 144 11 = some 149 ∧ ρ 144 12 = some 150 ∧ ρ 144 14 = some 151 ∧ ρ 144 15 = some 152 ∧ ρ 144 16 = some 153 ∧ ρ 144 17 = some 154 ∧ ρ 144 18 = some 155 ∧ ρ 144 20 = some 156 ∧ ρ 144 21 = some 157
theorem rm1 {M : Mem} (h : MR M.1) : rf 10 M 144 1 = some 145 := rf_eq h.1 rfl
theorem rm8 {M : Mem} (h : MR M.1) : rf 10 M 144 8 = some 146 := rf_eq h.2.1 rfl
theorem rm9 {M : Mem} (h : MR M.1) : rf 10 M 144 9 = some 147 := rf_eq h.2.2.1 rfl
theorem rm10 {M : Mem} (h : MR M.1) : rf 10 M 144 10 = some 148 := rf_eq h.2.2.2.1 rfl
theorem rm11 {M : Mem} (h : MR M.1) : rf 10 M 144 11 = some 149 := rf_eq h.2.2.2.2.1 rfl
theorem rm12 {M : Mem} (h : MR M.1) : rf 10 M 144 12 = some 150 := rf_eq h.2.2.2.2.2.1 rfl
theorem rm14 {M : Mem} (h : MR M.1) : rf 10 M 144 14 = some 151 := rf_eq h.2.2.2.2.2.2.1 rfl
theorem rm15 {M : Mem} (h : MR M.1) : rf 12 M 144 15 = some 152 := rf_eq h.2.2.2.2.2.2.2.1 rfl
theorem rm16 {M : Mem} (h : MR M.1) : rf 10 M 144 16 = some 153 := rf_eq h.2.2.2.2.2.2.2.2.1 rfl
theorem rm17 {M : Mem} (h : MR M.1) : rf 10 M 144 17 = some 154 := rf_eq h.2.2.2.2.2.2.2.2.2.1 rfl
theorem rm18 {M : Mem} (h : MR M.1) : rf 10 M 144 18 = some 155 := rf_eq h.2.2.2.2.2.2.2.2.2.2.1 rfl
theorem rm20 {M : Mem} (h : MR M.1) : rf 10 M 144 20 = some 156 := rf_eq h.2.2.2.2.2.2.2.2.2.2.2.1 rfl
theorem rm21 {M : Mem} (h : MR M.1) : rf 10 M 144 21 = some 157 := rf_eq h.2.2.2.2.2.2.2.2.2.2.2.2 rfl
/-! ===== the mathematics of a told row T and a look S ===== -/
def WF (T : Nat → Int32) (N R : Nat) : Prop :=
  T 0 = nI N ∧ N ≤ 9 ∧ T 1 = nI R ∧ R ≤ 8 ∧ (0 < N → T 3 = -9) ∧ (∀ n, 0 < n → n < N → ∃ q, q < n ∧ T (3 + n) = nI q) ∧ (∀ r, r < R → ∃ k, 1 ≤ k ∧ k ≤ 3 ∧ T (12 + r) = nI k) ∧ (∀ r c, r < R → c < 3 → ∃ w, w < 16 ∧ T (44 + 3 * r + c) = nI w) ∧ (∀ r p, r < R → p < 4 → ∃ v, v < 10 ∧ T (108 + 4 * r + p) = nI v)
/-- a node's parent -/
def pa (T : Nat → Int32) (n : Nat) : Option Nat := if T (3 + n) = -9 then none else some (T (3 + n)).toNatClampNeg
def enc (x : Option Nat) : Int32 := match x with
  | none => -9
  | some q => nI q
theorem pa_ok {T : Nat → Int32} {N R : Nat} (h : WF T N R) {n : Nat} (hn : n < N) : T (3 + n) = enc (pa T n) ∧ ∀ q, pa T n = some q → q < n := by
  obtain ⟨-, h9, -, -, h0, h1, -⟩ := h
  by_cases hz : n = 0
  · subst hz
    unfold pa
    rw [h0 hn]
    simp [enc]
  · obtain ⟨q, hq, hT⟩ := h1 n (by omega) hn
    unfold pa
    rw [hT, if_neg (qm9 (by omega)), qclamp (by omega)]
    refine ⟨rfl, fun q2 h2 => ?_⟩
    cases h2
    exact hq
/-- the nodes above a node, the nearest first -/
def anF (T : Nat → Int32) : Nat → Nat → List Nat
  | 0, _ => []
  | d + 1, n => match pa T n with
    | none => []
    | some q => q :: anF T d q
def AN (T : Nat → Int32) (n : Nat) : List Nat := anF T 10 n
theorem anF_more {T : Nat → Int32} {N R : Nat} (h : WF T N R) : ∀ (d n : Nat), n < N → n < d → anF T d n = anF T (d + 1) n := by
  intro d
  induction d with
  | zero => intro n _ h0; omega
  | succ d ih =>
    intro n hn hd
    have hp := (pa_ok h hn).2
    unfold anF
    cases hpa : pa T n with
    | none => rfl
    | some q =>
      have := hp q hpa
      simp only
      rw [ih q (by omega) (by omega)]
theorem AN_eq {T : Nat → Int32} {N R : Nat} (h : WF T N R) {n : Nat} (hn : n < N) : AN T n = match pa T n with
    | none => []
    | some q => q :: AN T q := by
  have h9 := h.2.1
  have hp := (pa_ok h hn).2
  show anF T (9 + 1) n = _
  unfold anF
  cases hpa : pa T n with
  | none => rfl
  | some q =>
    have := hp q hpa
    simp only
    rw [anF_more h 9 q (by omega) (by omega)]
    rfl
theorem AN_lt {T : Nat → Int32} {N R : Nat} (h : WF T N R) : ∀ (n : Nat), n < N → ∀ a ∈ AN T n, a < n := by
  intro n
  induction n using Nat.strongRecOn with
  | ind n ih =>
    intro hn a ha
    rw [AN_eq h hn] at ha
    cases hpa : pa T n with
    | none => rw [hpa] at ha; simp at ha
    | some q =>
      rw [hpa] at ha
      have hq := (pa_ok h hn).2 q hpa
      rcases List.mem_cons.mp ha with rfl | h2
      · exact hq
      · have := ih q hq (by omega) a h2; omega
def fitB (T S : Nat → Int32) (cell n : Nat) : Bool := (decide (T (20 + cell) = -9) || decide (T (20 + cell) = S n)) && decide ((T (44 + cell) &&& (S (9 + n) ^^^ (-1))) = 0)
def cand (T : Nat → Int32) (r c n : Nat) : List Nat := if T (68 + 3 * r + c) = 62 then (pa T n).toList else AN T n
/-- the first so many compounds of rule r, the last of them c, end at node n -/
def mt (T S : Nat → Int32) (r : Nat) : Nat → Nat → Bool
  | 0, n => fitB T S (3 * r) n
  | c + 1, n => (cand T r (c + 1) n).any (mt T S r c) && fitB T S (3 * r + (c + 1)) n
def cn (T : Nat → Int32) (r : Nat) : Nat := (T (12 + r)).toNatClampNeg
theorem cn_ok {T : Nat → Int32} {N R : Nat} (h : WF T N R) {r : Nat} (hr : r < R) : T (12 + r) = nI (cn T r) ∧ 1 ≤ cn T r ∧ cn T r ≤ 3 := by
  obtain ⟨-, -, -, -, -, -, h1, -⟩ := h
  obtain ⟨k, k1, k3, hT⟩ := h1 r hr
  unfold cn
  rw [hT, qclamp (by omega)]
  exact ⟨rfl, k1, k3⟩
/-- rule r is on and matches node n -/
def mtch (T S : Nat → Int32) (r n : Nat) : Bool := bt (S 18) r && mt T S r (cn T r - 1) n

