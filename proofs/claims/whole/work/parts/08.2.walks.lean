theorem w_X4_reached {p : Program} {l : Launch} {e : Env} {s : State} {m : MethodId} {args : Array Value} {below : List Frame} {meth : Method} {c : Code} {D : va_G} {cy : Nat → ClassId} {Λ : Nat → Nat} (C : Cx p s m args meth c cX4_reached 5 RX4 (some .int) D cy Λ (AA Λ s.heap.size)) {M : Mem} {a0 : Nat} {a1 : Nat} {a2 : Nat} {r9 : Int32} (hk0 : Is NN a0 5) (hk1 : Is NN a1 2) (hk2 : Is NN a2 4) (hf : m_X4_reached M a0 a1 a2 = some r9) : GW p l e { frames := 2, cells := 0, slots := 0, locals := 49 } s m args below meth c D cy Λ 5 (QcI D cy Λ NN r9 M) M 0 [(0, .ref (Λ a0)), (1, .ref (Λ a1)), (2, .ref (Λ a2))] [] := by
  unfold m_X4_reached at hf
  refine g_aload_n (pc := 0) C 0 dX4_reached_0 rfl rfl ?_
  refine g_aload_n (pc := 1) C 1 dX4_reached_1 rfl rfl ?_
  refine g_aload_n (pc := 2) C 2 dX4_reached_2 rfl rfl ?_
  refine g_iconst (pc := 3) (v := (0 : Int32)) C dX4_reached_3 (by decide) ?_
  obtain ⟨r11, h11, hf⟩ := ob hf
  refine g_resI (pc := 4) C (rnV (As := [.ref (Λ a1), .ref (Λ a2), .int (0 : Int32)]) (st := []) C (c_X4_fitted C.2.2.2.2.2.1 hk0 hk1 hk2 h11) lkX4_59 rfl (by decide) hk0 rfl rfl (Nat.le_of_ble_eq_true rfl) ⟨⟨rfl, rfl⟩, Nat.le_of_ble_eq_true rfl, Nat.le_of_ble_eq_true rfl⟩ ⟨Nat.le_of_ble_eq_true rfl, Nat.le_of_ble_eq_true rfl⟩ dX4_reached_4) ?_
  refine g_istore_n (pc := 7) (lv2 := [(3, .int r11), (0, .ref (Λ a0)), (1, .ref (Λ a1)), (2, .ref (Λ a2))]) C dX4_reached_7 rfl (by decide) rfl ?_
  refine g_iconst (pc := 8) (v := (1 : Int32)) C dX4_reached_8 (by decide) ?_
  refine g_istore (pc := 9) (lv2 := [(4, .int (1 : Int32)), (3, .int r11), (0, .ref (Λ a0)), (1, .ref (Λ a1)), (2, .ref (Λ a2))]) C dX4_reached_9 (by decide) rfl ?_
  refine g_sub [2, 3, 4, 1, 0] rfl ?_
  exact w_X4_reached_L11 C hk0 hk1 hk2 FU r11 (1 : Int32)  hf

theorem c_X4_reached {l : Launch} {D : va_G} {cy : Nat → ClassId} {Λ : Nat → Nat} (hi : ∀ i j : Nat, Λ i = Λ j → i = j) {M : Mem} {a0 : Nat} {a1 : Nat} {a2 : Nat} {r9 : Int32} (hk0 : Is NN a0 5) (hk1 : Is NN a1 2) (hk2 : Is NN a2 4) (hf : m_X4_reached M a0 a1 a2 = some r9) : Ct l yX4_reached cX4_reached 5 (some .int) { frames := 2, cells := 0, slots := 0, locals := 49 } D cy Λ [.ref (Λ a0), .ref (Λ a1), .ref (Λ a2)] NN M 0 0 (QcI D cy Λ NN r9 M) := ent (by decide) hi (Nat.le_of_ble_eq_true rfl) (fun p e s m args below meth c C => w_X4_reached C hk0 hk1 hk2 hf)
theorem w_X6_noteRule_L2 {p : Program} {l : Launch} {e : Env} {s : State} {m : MethodId} {args : Array Value} {below : List Frame} {meth : Method} {c : Code} {D : va_G} {cy : Nat → ClassId} {Λ : Nat → Nat} (C : Cx p s m args meth c cX6_noteRule 3 RX6 none D cy Λ (AA Λ s.heap.size)) {a0 : Nat} {x1 : Int32}  {M9 : Mem} (hk0 : Is NN a0 7)  : ∀ (fu : Nat) (M : Mem) (x2 : Int32), m_X6_noteRule_L2 a0 x1 fu M x2 = some M9 → GW p l e { frames := 1, cells := 0, slots := 0, locals := 21 } s m args below meth c D cy Λ 3 (QcV D cy Λ NN M9) M 2 [(0, .ref (Λ a0)), (1, .int x1), (2, .int x2)] [] := by
  intro fu
  induction fu with
  | zero =>
    intro M x2  hf
    cases hf
  | succ fu ih =>
    intro M x2  hf
    unfold m_X6_noteRule_L2 at hf
    refine g_iload_n (pc := 2) C 2 dX6_noteRule_2 rfl rfl ?_
    refine g_aload_n (pc := 3) C 0 dX6_noteRule_3 rfl rfl ?_
    refine g_getI (pc := 4) C fgX6_9 (by decide) hk0 rfl dX6_noteRule_4 ?_
    refine g_ic_ge (pc := 7) (tgt := 41) C hf dX6_noteRule_7 (by decide) (fun hf => ?_) (fun hf => ?_)
    · exact g_vret C hf dX6_noteRule_41
    refine g_aload_n (pc := 10) C 0 dX6_noteRule_10 rfl rfl ?_
    refine g_getR (pc := 11) (T := 9) C hf fgX6_15 (by decide) hk0 rfl dX6_noteRule_11 (fun a11 hk11 hf => ?_)
    refine g_iload_n (pc := 14) C 1 dX6_noteRule_14 rfl rfl ?_
    refine g_iald (pc := 15) C hf hk11 dX6_noteRule_15 (fun v12 hf => ?_)
    refine g_iload_n (pc := 16) C 2 dX6_noteRule_16 rfl rfl ?_
    obtain ⟨r13, h13, hf⟩ := ob hf
    refine g_resI (pc := 17) C (rnSN (As := [.int v12, .int x2]) (st := []) C (c_X7_hasBit C.2.2.2.2.2.1  h13) lknX6_56 rfl rfl (Nat.le_of_ble_eq_true rfl) ⟨⟨rfl, rfl⟩, Nat.le_of_ble_eq_true rfl, Nat.le_of_ble_eq_true rfl⟩ ⟨Nat.le_of_ble_eq_true rfl, Nat.le_of_ble_eq_true rfl⟩ dX6_noteRule_17) ?_
    refine g_if_eq (pc := 20) (tgt := 35) C hf dX6_noteRule_20 (by decide) (fun hf => ?_) (fun hf => ?_)
    · refine g_iinc (pc := 35) (v := (x2 + (1 : Int32))) (lv2 := [(2, .int (x2 + (1 : Int32))), (0, .ref (Λ a0)), (1, .int x1)]) C 2 dX6_noteRule_35 rfl rfl (by decide) rfl ?_
      refine g_goto (pc := 38) (tgt := 2) C dX6_noteRule_38 (by decide) ?_
      refine g_sub [1, 2, 0] rfl ?_
      exact ih M (x2 + (1 : Int32))  hf
    refine g_aload_n (pc := 23) C 0 dX6_noteRule_23 rfl rfl ?_
    refine g_getR (pc := 24) (T := 9) C hf fgX6_19 (by decide) hk0 rfl dX6_noteRule_24 (fun a14 hk14 hf => ?_)
    refine g_iload_n (pc := 27) C 2 dX6_noteRule_27 rfl rfl ?_
    refine g_dup2 (pc := 28) C dX6_noteRule_28 rfl rfl ?_
    refine g_iald (pc := 29) C hf hk14 dX6_noteRule_29 (fun v15 hf => ?_)
    refine g_iconst (pc := 30) (v := (1 : Int32)) C dX6_noteRule_30 (by decide) ?_
    refine g_iload_n (pc := 31) C 1 dX6_noteRule_31 rfl rfl ?_
    refine g_ishl (pc := 32) C dX6_noteRule_32 ?_
    refine g_ior (pc := 33) C dX6_noteRule_33 ?_
    refine g_iast (pc := 34) C hf hk14 dX6_noteRule_34 (fun M16 hf => ?_)
    refine g_iinc (pc := 35) (v := (x2 + (1 : Int32))) (lv2 := [(2, .int (x2 + (1 : Int32))), (0, .ref (Λ a0)), (1, .int x1)]) C 2 dX6_noteRule_35 rfl rfl (by decide) rfl ?_
    refine g_goto (pc := 38) (tgt := 2) C dX6_noteRule_38 (by decide) ?_
    refine g_sub [1, 2, 0] rfl ?_
    exact ih M16 (x2 + (1 : Int32))  hf

theorem w_X6_noteRule {p : Program} {l : Launch} {e : Env} {s : State} {m : MethodId} {args : Array Value} {below : List Frame} {meth : Method} {c : Code} {D : va_G} {cy : Nat → ClassId} {Λ : Nat → Nat} (C : Cx p s m args meth c cX6_noteRule 3 RX6 none D cy Λ (AA Λ s.heap.size)) {M : Mem} {a0 : Nat} {x1 : Int32} {M9 : Mem} (hk0 : Is NN a0 7) (hf : m_X6_noteRule M a0 x1 = some M9) : GW p l e { frames := 1, cells := 0, slots := 0, locals := 21 } s m args below meth c D cy Λ 3 (QcV D cy Λ NN M9) M 0 [(0, .ref (Λ a0)), (1, .int x1)] [] := by
  unfold m_X6_noteRule at hf
  refine g_iconst (pc := 0) (v := (0 : Int32)) C dX6_noteRule_0 (by decide) ?_
  refine g_istore_n (pc := 1) (lv2 := [(2, .int (0 : Int32)), (0, .ref (Λ a0)), (1, .int x1)]) C dX6_noteRule_1 rfl (by decide) rfl ?_
  refine g_sub [1, 2, 0] rfl ?_
  exact w_X6_noteRule_L2 C hk0 FU M (0 : Int32)  hf

theorem c_X6_noteRule {l : Launch} {D : va_G} {cy : Nat → ClassId} {Λ : Nat → Nat} (hi : ∀ i j : Nat, Λ i = Λ j → i = j) {M : Mem} {a0 : Nat} {x1 : Int32} {M9 : Mem} (hk0 : Is NN a0 7) (hf : m_X6_noteRule M a0 x1 = some M9) : Ct l yX6_noteRule cX6_noteRule 3 none { frames := 1, cells := 0, slots := 0, locals := 21 } D cy Λ [.ref (Λ a0), .int x1] NN M 0 0 (QcV D cy Λ NN M9) := ent (by decide) hi (Nat.le_of_ble_eq_true rfl) (fun p e s m args below meth c C => w_X6_noteRule C hk0 hf)
theorem w_X4_strongest_L9 {p : Program} {l : Launch} {e : Env} {s : State} {m : MethodId} {args : Array Value} {below : List Frame} {meth : Method} {c : Code} {D : va_G} {cy : Nat → ClassId} {Λ : Nat → Nat} (C : Cx p s m args meth c cX4_strongest 7 RX4 (some .int) D cy Λ (AA Λ s.heap.size)) {M : Mem} {a0 : Nat} {x1 : Int32} {x2 : Int32}  {r9 : Int32} (hk0 : Is NN a0 5)  : ∀ (fu : Nat) (x3 : Int32) (x4 : Int32) (x5 : Int32), m_X4_strongest_L9 M a0 x1 x2 fu x3 x4 x5 = some r9 → GW p l e { frames := 1, cells := 0, slots := 0, locals := 21 } s m args below meth c D cy Λ 7 (QcI D cy Λ NN r9 M) M 9 [(0, .ref (Λ a0)), (1, .int x1), (2, .int x2), (3, .int x3), (4, .int x4), (5, .int x5)] [] := by
  intro fu
  induction fu with
  | zero =>
    intro x3 x4 x5  hf
    cases hf
  | succ fu ih =>
    intro x3 x4 x5  hf
    unfold m_X4_strongest_L9 at hf
    refine g_iload (pc := 9) C 5 dX4_strongest_9 rfl ?_
    refine g_aload_n (pc := 11) C 0 dX4_strongest_11 rfl rfl ?_
    refine g_getI (pc := 12) C fgX4_15 (by decide) hk0 rfl dX4_strongest_12 ?_
    refine g_ic_ge (pc := 15) (tgt := 78) C hf dX4_strongest_15 (by decide) (fun hf => ?_) (fun hf => ?_)
    · refine g_iload_n (pc := 78) C 3 dX4_strongest_78 rfl rfl ?_
      exact g_iret C hf dX4_strongest_79
    refine g_iload_n (pc := 18) C 1 dX4_strongest_18 rfl rfl ?_
    refine g_iload (pc := 19) C 5 dX4_strongest_19 rfl ?_
    obtain ⟨r11, h11, hf⟩ := ob hf
    refine g_resI (pc := 21) C (rnSN (As := [.int x1, .int x5]) (st := []) C (c_X7_hasBit C.2.2.2.2.2.1  h11) lknX4_52 rfl rfl (Nat.le_of_ble_eq_true rfl) ⟨⟨rfl, rfl⟩, Nat.le_of_ble_eq_true rfl, Nat.le_of_ble_eq_true rfl⟩ ⟨Nat.le_of_ble_eq_true rfl, Nat.le_of_ble_eq_true rfl⟩ dX4_strongest_21) ?_
    refine g_if_eq (pc := 24) (tgt := 72) C hf dX4_strongest_24 (by decide) (fun hf => ?_) (fun hf => ?_)
    · refine g_iinc (pc := 72) (v := (x5 + (1 : Int32))) (lv2 := [(5, .int (x5 + (1 : Int32))), (0, .ref (Λ a0)), (1, .int x1), (2, .int x2), (3, .int x3), (4, .int x4)]) C 5 dX4_strongest_72 rfl rfl (by decide) rfl ?_
      refine g_goto (pc := 75) (tgt := 9) C dX4_strongest_75 (by decide) ?_
      refine g_sub [1, 2, 3, 4, 5, 0] rfl ?_
      exact ih x3 x4 (x5 + (1 : Int32))  hf
    refine g_aload_n (pc := 27) C 0 dX4_strongest_27 rfl rfl ?_
    refine g_getR (pc := 28) (T := 13) C hf fgX4_34 (by decide) hk0 rfl dX4_strongest_28 (fun a12 hk12 hf => ?_)
    refine g_iload (pc := 31) C 5 dX4_strongest_31 rfl ?_
    refine g_aald4 (pc := 33) (T := 3) C hf hk12 dX4_strongest_33 (fun a13 hk13 hf => ?_)
    refine g_getI (pc := 34) C fgX4_74 (by decide) hk13 rfl dX4_strongest_34 ?_
    refine g_iload_n (pc := 37) C 2 dX4_strongest_37 rfl rfl ?_
    obtain ⟨r14, h14, hf⟩ := ob hf
    refine g_resI (pc := 38) C (rnSN (As := [.int (M.2 a13 3), .int x2]) (st := []) C (c_X7_hasBit C.2.2.2.2.2.1  h14) lknX4_52 rfl rfl (Nat.le_of_ble_eq_true rfl) ⟨⟨rfl, rfl⟩, Nat.le_of_ble_eq_true rfl, Nat.le_of_ble_eq_true rfl⟩ ⟨Nat.le_of_ble_eq_true rfl, Nat.le_of_ble_eq_true rfl⟩ dX4_strongest_38) ?_
    refine g_if_eq (pc := 41) (tgt := 72) C hf dX4_strongest_41 (by decide) (fun hf => ?_) (fun hf => ?_)
    · refine g_iinc (pc := 72) (v := (x5 + (1 : Int32))) (lv2 := [(5, .int (x5 + (1 : Int32))), (0, .ref (Λ a0)), (1, .int x1), (2, .int x2), (3, .int x3), (4, .int x4)]) C 5 dX4_strongest_72 rfl rfl (by decide) rfl ?_
      refine g_goto (pc := 75) (tgt := 9) C dX4_strongest_75 (by decide) ?_
      refine g_sub [1, 2, 3, 4, 5, 0] rfl ?_
      exact ih x3 x4 (x5 + (1 : Int32))  hf
    refine g_aload_n (pc := 44) C 0 dX4_strongest_44 rfl rfl ?_
    refine g_getR (pc := 45) (T := 13) C hf fgX4_34 (by decide) hk0 rfl dX4_strongest_45 (fun a15 hk15 hf => ?_)
    refine g_iload (pc := 48) C 5 dX4_strongest_48 rfl ?_
    refine g_aald4 (pc := 50) (T := 3) C hf hk15 dX4_strongest_50 (fun a16 hk16 hf => ?_)
    refine g_getR (pc := 51) (T := 9) C hf fgX4_77 (by decide) hk16 rfl dX4_strongest_51 (fun a17 hk17 hf => ?_)
    refine g_iload_n (pc := 54) C 2 dX4_strongest_54 rfl rfl ?_
    refine g_iald (pc := 55) C hf hk17 dX4_strongest_55 (fun v18 hf => ?_)
    refine g_istore (pc := 56) (lv2 := [(6, .int v18), (0, .ref (Λ a0)), (1, .int x1), (2, .int x2), (3, .int x3), (4, .int x4), (5, .int x5)]) C dX4_strongest_56 (by decide) rfl ?_
    refine g_iload (pc := 58) C 0 dX4_strongest_58 rfl ?_
    refine g_iload (pc := 60) C 5 dX4_strongest_60 rfl ?_
    refine g_ic_lt (pc := 62) (tgt := 72) C hf dX4_strongest_62 (by decide) (fun hf => ?_) (fun hf => ?_)
    · refine g_iinc (pc := 72) (v := (x5 + (1 : Int32))) (lv2 := [(5, .int (x5 + (1 : Int32))), (6, .int v18), (0, .ref (Λ a0)), (1, .int x1), (2, .int x2), (3, .int x3), (4, .int x4)]) C 6 dX4_strongest_72 rfl rfl (by decide) rfl ?_
      refine g_goto (pc := 75) (tgt := 9) C dX4_strongest_75 (by decide) ?_
      refine g_sub [2, 3, 4, 5, 6, 0] rfl ?_
      exact ih x3 x4 (x5 + (1 : Int32))  hf
    refine g_iload (pc := 65) C 0 dX4_strongest_65 rfl ?_
    refine g_istore (pc := 67) (lv2 := [(4, .int v18), (6, .int v18), (0, .ref (Λ a0)), (1, .int x1), (2, .int x2), (3, .int x3), (5, .int x5)]) C dX4_strongest_67 (by decide) rfl ?_
    refine g_iload (pc := 69) C 6 dX4_strongest_69 rfl ?_
    refine g_istore_n (pc := 71) (lv2 := [(3, .int x5), (4, .int v18), (6, .int v18), (0, .ref (Λ a0)), (1, .int x1), (2, .int x2), (5, .int x5)]) C dX4_strongest_71 rfl (by decide) rfl ?_
    refine g_iinc (pc := 72) (v := (x5 + (1 : Int32))) (lv2 := [(5, .int (x5 + (1 : Int32))), (3, .int x5), (4, .int v18), (6, .int v18), (0, .ref (Λ a0)), (1, .int x1), (2, .int x2)]) C 6 dX4_strongest_72 rfl rfl (by decide) rfl ?_
    refine g_goto (pc := 75) (tgt := 9) C dX4_strongest_75 (by decide) ?_
    refine g_sub [4, 5, 6, 1, 2, 0] rfl ?_
    exact ih x5 v18 (x5 + (1 : Int32))  hf

theorem w_X4_strongest {p : Program} {l : Launch} {e : Env} {s : State} {m : MethodId} {args : Array Value} {below : List Frame} {meth : Method} {c : Code} {D : va_G} {cy : Nat → ClassId} {Λ : Nat → Nat} (C : Cx p s m args meth c cX4_strongest 7 RX4 (some .int) D cy Λ (AA Λ s.heap.size)) {M : Mem} {a0 : Nat} {x1 : Int32} {x2 : Int32} {r9 : Int32} (hk0 : Is NN a0 5) (hf : m_X4_strongest M a0 x1 x2 = some r9) : GW p l e { frames := 1, cells := 0, slots := 0, locals := 21 } s m args below meth c D cy Λ 7 (QcI D cy Λ NN r9 M) M 0 [(0, .ref (Λ a0)), (1, .int x1), (2, .int x2)] [] := by
  unfold m_X4_strongest at hf
  refine g_bipush (pc := 0) (v := (-9 : Int32)) C dX4_strongest_0 (by decide) ?_
  refine g_istore_n (pc := 2) (lv2 := [(3, .int (-9 : Int32)), (0, .ref (Λ a0)), (1, .int x1), (2, .int x2)]) C dX4_strongest_2 rfl (by decide) rfl ?_
  refine g_iconst (pc := 3) (v := (0 : Int32)) C dX4_strongest_3 (by decide) ?_
  refine g_istore (pc := 4) (lv2 := [(4, .int (0 : Int32)), (3, .int (-9 : Int32)), (0, .ref (Λ a0)), (1, .int x1), (2, .int x2)]) C dX4_strongest_4 (by decide) rfl ?_
  refine g_iconst (pc := 6) (v := (0 : Int32)) C dX4_strongest_6 (by decide) ?_
  refine g_istore (pc := 7) (lv2 := [(5, .int (0 : Int32)), (4, .int (0 : Int32)), (3, .int (-9 : Int32)), (0, .ref (Λ a0)), (1, .int x1), (2, .int x2)]) C dX4_strongest_7 (by decide) rfl ?_
  refine g_sub [3, 4, 5, 2, 1, 0] rfl ?_
  exact w_X4_strongest_L9 C hk0 FU (-9 : Int32) (0 : Int32) (0 : Int32)  hf

theorem c_X4_strongest {l : Launch} {D : va_G} {cy : Nat → ClassId} {Λ : Nat → Nat} (hi : ∀ i j : Nat, Λ i = Λ j → i = j) {M : Mem} {a0 : Nat} {x1 : Int32} {x2 : Int32} {r9 : Int32} (hk0 : Is NN a0 5) (hf : m_X4_strongest M a0 x1 x2 = some r9) : Ct l yX4_strongest cX4_strongest 7 (some .int) { frames := 1, cells := 0, slots := 0, locals := 21 } D cy Λ [.ref (Λ a0), .int x1, .int x2] NN M 0 0 (QcI D cy Λ NN r9 M) := ent (by decide) hi (Nat.le_of_ble_eq_true rfl) (fun p e s m args below meth c C => w_X4_strongest C hk0 hf)
theorem w_X6_settle_L123 {p : Program} {l : Launch} {e : Env} {s : State} {m : MethodId} {args : Array Value} {below : List Frame} {meth : Method} {c : Code} {D : va_G} {cy : Nat → ClassId} {Λ : Nat → Nat} (C : Cx p s m args meth c cX6_settle 7 RX6 none D cy Λ (AA Λ s.heap.size)) {a0 : Nat} {a1 : Nat} {x2 : Int32} {x3 : Int32}  {M9 : Mem} (hk0 : Is NN a0 7) (hk1 : Is NN a1 5)  : ∀ (M : Mem) (x4 : Int32), m_X6_settle_L123 a0 a1 x2 x3 M x4 = some M9 → GW p l e { frames := 2, cells := 0, slots := 0, locals := 47 } s m args below meth c D cy Λ 7 (QcV D cy Λ NN M9) M 123 [(0, .ref (Λ a0)), (1, .ref (Λ a1)), (2, .int x2), (3, .int x3), (4, .int x4)] [] := by
  intro M x4  hf
  unfold m_X6_settle_L123 at hf
  refine g_aload_n (pc := 123) C 0 dX6_settle_123 rfl rfl ?_
  refine g_getR (pc := 124) (T := 9) C hf fgX6_22 (by decide) hk0 rfl dX6_settle_124 (fun a11 hk11 hf => ?_)
  refine g_iload (pc := 127) C 4 dX6_settle_127 rfl ?_
  refine g_iconst (pc := 129) (v := (0 : Int32)) C dX6_settle_129 (by decide) ?_
  refine g_iast (pc := 130) C hf hk11 dX6_settle_130 (fun M12 hf => ?_)
  refine g_aload_n (pc := 131) C 0 dX6_settle_131 rfl rfl ?_
  refine g_getR (pc := 132) (T := 9) C hf fgX6_25 (by decide) hk0 rfl dX6_settle_132 (fun a13 hk13 hf => ?_)
  refine g_iload (pc := 135) C 4 dX6_settle_135 rfl ?_
  refine g_bipush (pc := 137) (v := (-9 : Int32)) C dX6_settle_137 (by decide) ?_
  refine g_iast (pc := 139) C hf hk13 dX6_settle_139 (fun M14 hf => ?_)
  exact g_vret C hf dX6_settle_140

theorem w_X6_settle {p : Program} {l : Launch} {e : Env} {s : State} {m : MethodId} {args : Array Value} {below : List Frame} {meth : Method} {c : Code} {D : va_G} {cy : Nat → ClassId} {Λ : Nat → Nat} (C : Cx p s m args meth c cX6_settle 7 RX6 none D cy Λ (AA Λ s.heap.size)) {M : Mem} {a0 : Nat} {a1 : Nat} {x2 : Int32} {x3 : Int32} {M9 : Mem} (hk0 : Is NN a0 7) (hk1 : Is NN a1 5) (hf : m_X6_settle M a0 a1 x2 x3 = some M9) : GW p l e { frames := 2, cells := 0, slots := 0, locals := 47 } s m args below meth c D cy Λ 7 (QcV D cy Λ NN M9) M 0 [(0, .ref (Λ a0)), (1, .ref (Λ a1)), (2, .int x2), (3, .int x3)] [] := by
  unfold m_X6_settle at hf
  refine g_iconst (pc := 0) (v := (4 : Int32)) C dX6_settle_0 (by decide) ?_
  refine g_iload_n (pc := 1) C 2 dX6_settle_1 rfl rfl ?_
  refine g_imul (pc := 2) C dX6_settle_2 ?_
  refine g_iload_n (pc := 3) C 3 dX6_settle_3 rfl rfl ?_
  refine g_iadd (pc := 4) C dX6_settle_4 ?_
  refine g_istore (pc := 5) (lv2 := [(4, .int (((4 : Int32) * x2) + x3)), (0, .ref (Λ a0)), (1, .ref (Λ a1)), (2, .int x2), (3, .int x3)]) C dX6_settle_5 (by decide) rfl ?_
  refine g_aload_n (pc := 7) C 2 dX6_settle_7 rfl rfl ?_
  refine g_aload_n (pc := 8) C 1 dX6_settle_8 rfl rfl ?_
  refine g_getR (pc := 9) (T := 9) C hf fgX6_19 (by decide) hk0 rfl dX6_settle_9 (fun a11 hk11 hf => ?_)
  refine g_iload_n (pc := 12) C 3 dX6_settle_12 rfl rfl ?_
  refine g_iald (pc := 13) C hf hk11 dX6_settle_13 (fun v12 hf => ?_)
  refine g_iload_n (pc := 14) C 4 dX6_settle_14 rfl rfl ?_
  obtain ⟨r13, h13, hf⟩ := ob hf
  refine g_resI (pc := 15) C (rnV (As := [.int v12, .int x3]) (st := []) C (c_X4_strongest C.2.2.2.2.2.1 hk1 h13) lkX6_60 rfl (by decide) hk1 rfl rfl (Nat.le_of_ble_eq_true rfl) ⟨⟨rfl, rfl⟩, Nat.le_of_ble_eq_true rfl, Nat.le_of_ble_eq_true rfl⟩ ⟨Nat.le_of_ble_eq_true rfl, Nat.le_of_ble_eq_true rfl⟩ dX6_settle_15) ?_
  refine g_istore (pc := 18) (lv2 := [(5, .int r13), (4, .int (((4 : Int32) * x2) + x3)), (0, .ref (Λ a0)), (1, .ref (Λ a1)), (2, .int x2), (3, .int x3)]) C dX6_settle_18 (by decide) rfl ?_
  refine g_aload_n (pc := 20) C 3 dX6_settle_20 rfl rfl ?_
  refine g_getR (pc := 21) (T := 9) C hf fgX6_64 (by decide) hk1 rfl dX6_settle_21 (fun a14 hk14 hf => ?_)
  refine g_iload_n (pc := 24) C 4 dX6_settle_24 rfl rfl ?_
  refine g_iald (pc := 25) C hf hk14 dX6_settle_25 (fun v15 hf => ?_)
  refine g_istore (pc := 26) (lv2 := [(6, .int v15), (5, .int r13), (4, .int (((4 : Int32) * x2) + x3)), (0, .ref (Λ a0)), (1, .ref (Λ a1)), (2, .int x2), (3, .int x3)]) C dX6_settle_26 (by decide) rfl ?_
  refine g_iload (pc := 28) C 1 dX6_settle_28 rfl ?_
  refine g_aload_n (pc := 30) C 4 dX6_settle_30 rfl rfl ?_
  refine g_getI (pc := 31) C fgX6_31 (by decide) hk1 rfl dX6_settle_31 ?_
  obtain ⟨r16, h16, hf⟩ := ob hf
  refine g_resI (pc := 34) C (rnSN (As := [.int r13, .int (M.2 a1 1)]) (st := []) C (c_X7_within C.2.2.2.2.2.1  h16) lknX6_67 rfl rfl (Nat.le_of_ble_eq_true rfl) ⟨⟨rfl, rfl⟩, Nat.le_of_ble_eq_true rfl, Nat.le_of_ble_eq_true rfl⟩ ⟨Nat.le_of_ble_eq_true rfl, Nat.le_of_ble_eq_true rfl⟩ dX6_settle_34) ?_
  refine g_if_eq (pc := 37) (tgt := 70) C hf dX6_settle_37 (by decide) (fun hf => ?_) (fun hf => ?_)
  · refine g_iload_n (pc := 70) C 6 dX6_settle_70 rfl rfl ?_
    refine g_iconst (pc := 71) (v := (2 : Int32)) C dX6_settle_71 (by decide) ?_
    refine g_ic_ge (pc := 72) (tgt := 123) C hf dX6_settle_72 (by decide) (fun hf => ?_) (fun hf => ?_)
    · refine g_sub [3, 4, 5, 6, 2] rfl ?_
      exact w_X6_settle_L123 C hk0 hk1 M (((4 : Int32) * x2) + x3)  hf
    refine g_iload (pc := 75) C 0 dX6_settle_75 rfl ?_
    refine g_iload_n (pc := 77) C 5 dX6_settle_77 rfl rfl ?_
    obtain ⟨r17, h17, hf⟩ := ob hf
    refine g_resI (pc := 78) C (rnSN (As := [.int v15, .int x2]) (st := []) C (c_X7_within C.2.2.2.2.2.1  h17) lknX6_67 rfl rfl (Nat.le_of_ble_eq_true rfl) ⟨⟨rfl, rfl⟩, Nat.le_of_ble_eq_true rfl, Nat.le_of_ble_eq_true rfl⟩ ⟨Nat.le_of_ble_eq_true rfl, Nat.le_of_ble_eq_true rfl⟩ dX6_settle_78) ?_
    refine g_if_eq (pc := 81) (tgt := 123) C hf dX6_settle_81 (by decide) (fun hf => ?_) (fun hf => ?_)
    · refine g_sub [3, 4, 5, 6, 2] rfl ?_
      exact w_X6_settle_L123 C hk0 hk1 M (((4 : Int32) * x2) + x3)  hf
    refine g_aload_n (pc := 84) C 3 dX6_settle_84 rfl rfl ?_
    refine g_getR (pc := 85) (T := 9) C hf fgX6_22 (by decide) hk0 rfl dX6_settle_85 (fun a18 hk18 hf => ?_)
    refine g_iload (pc := 88) C 2 dX6_settle_88 rfl ?_
    refine g_aload_n (pc := 90) C 3 dX6_settle_90 rfl rfl ?_
    refine g_getR (pc := 91) (T := 9) C hf fgX6_22 (by decide) hk0 rfl dX6_settle_91 (fun a19 hk19 hf => ?_)
    refine g_iconst (pc := 94) (v := (4 : Int32)) C dX6_settle_94 (by decide) ?_
    refine g_iload (pc := 95) C 0 dX6_settle_95 rfl ?_
    refine g_imul (pc := 97) C dX6_settle_97 ?_
    refine g_iload_n (pc := 98) C 6 dX6_settle_98 rfl rfl ?_
    refine g_iadd (pc := 99) C dX6_settle_99 ?_
    refine g_iald (pc := 100) C hf hk19 dX6_settle_100 (fun v20 hf => ?_)
    refine g_iast (pc := 101) C hf hk18 dX6_settle_101 (fun M21 hf => ?_)
    refine g_aload_n (pc := 102) C 3 dX6_settle_102 rfl rfl ?_
    refine g_getR (pc := 103) (T := 9) C hf fgX6_25 (by decide) hk0 rfl dX6_settle_103 (fun a22 hk22 hf => ?_)
    refine g_iload (pc := 106) C 2 dX6_settle_106 rfl ?_
    refine g_aload_n (pc := 108) C 3 dX6_settle_108 rfl rfl ?_
    refine g_getR (pc := 109) (T := 9) C hf fgX6_25 (by decide) hk0 rfl dX6_settle_109 (fun a23 hk23 hf => ?_)
    refine g_iconst (pc := 112) (v := (4 : Int32)) C dX6_settle_112 (by decide) ?_
    refine g_iload (pc := 113) C 0 dX6_settle_113 rfl ?_
    refine g_imul (pc := 115) C dX6_settle_115 ?_
    refine g_iload_n (pc := 116) C 6 dX6_settle_116 rfl rfl ?_
    refine g_iadd (pc := 117) C dX6_settle_117 ?_
    refine g_iald (pc := 118) C hf hk23 dX6_settle_118 (fun v24 hf => ?_)
    refine g_iast (pc := 119) C hf hk22 dX6_settle_119 (fun M25 hf => ?_)
    refine g_goto (pc := 120) (tgt := 140) C dX6_settle_120 (by decide) ?_
    exact g_vret C hf dX6_settle_140
  refine g_aload_n (pc := 40) C 3 dX6_settle_40 rfl rfl ?_
  refine g_getR (pc := 41) (T := 9) C hf fgX6_22 (by decide) hk0 rfl dX6_settle_41 (fun a26 hk26 hf => ?_)
  refine g_iload (pc := 44) C 2 dX6_settle_44 rfl ?_
  refine g_aload_n (pc := 46) C 4 dX6_settle_46 rfl rfl ?_
  refine g_getR (pc := 47) (T := 13) C hf fgX6_40 (by decide) hk1 rfl dX6_settle_47 (fun a27 hk27 hf => ?_)
  refine g_iload (pc := 50) C 1 dX6_settle_50 rfl ?_
  refine g_aald4 (pc := 52) (T := 3) C hf hk27 dX6_settle_52 (fun a28 hk28 hf => ?_)
  refine g_getR (pc := 53) (T := 9) C hf fgX6_70 (by decide) hk28 rfl dX6_settle_53 (fun a29 hk29 hf => ?_)
  refine g_iload_n (pc := 56) C 6 dX6_settle_56 rfl rfl ?_
  refine g_iald (pc := 57) C hf hk29 dX6_settle_57 (fun v30 hf => ?_)
  refine g_iast (pc := 58) C hf hk26 dX6_settle_58 (fun M31 hf => ?_)
  refine g_aload_n (pc := 59) C 3 dX6_settle_59 rfl rfl ?_
  refine g_getR (pc := 60) (T := 9) C hf fgX6_25 (by decide) hk0 rfl dX6_settle_60 (fun a32 hk32 hf => ?_)
  refine g_iload (pc := 63) C 2 dX6_settle_63 rfl ?_
  refine g_iload_n (pc := 65) C 5 dX6_settle_65 rfl rfl ?_
  refine g_iast (pc := 66) C hf hk32 dX6_settle_66 (fun M33 hf => ?_)
  refine g_goto (pc := 67) (tgt := 140) C dX6_settle_67 (by decide) ?_
  exact g_vret C hf dX6_settle_140

theorem c_X6_settle {l : Launch} {D : va_G} {cy : Nat → ClassId} {Λ : Nat → Nat} (hi : ∀ i j : Nat, Λ i = Λ j → i = j) {M : Mem} {a0 : Nat} {a1 : Nat} {x2 : Int32} {x3 : Int32} {M9 : Mem} (hk0 : Is NN a0 7) (hk1 : Is NN a1 5) (hf : m_X6_settle M a0 a1 x2 x3 = some M9) : Ct l yX6_settle cX6_settle 7 none { frames := 2, cells := 0, slots := 0, locals := 47 } D cy Λ [.ref (Λ a0), .ref (Λ a1), .int x2, .int x3] NN M 0 0 (QcV D cy Λ NN M9) := ent (by decide) hi (Nat.le_of_ble_eq_true rfl) (fun p e s m args below meth c C => w_X6_settle C hk0 hk1 hf)
theorem w_X6_resolve_L94 {p : Program} {l : Launch} {e : Env} {s : State} {m : MethodId} {args : Array Value} {below : List Frame} {meth : Method} {c : Code} {D : va_G} {cy : Nat → ClassId} {Λ : Nat → Nat} (C : Cx p s m args meth c cX6_resolve 5 RX6 none D cy Λ (AA Λ s.heap.size)) {a0 : Nat} {a1 : Nat} {a2 : Nat} {k83 : Mem → Int32 → Option Mem} {M9 : Mem} (hk0 : Is NN a0 7) (hk1 : Is NN a1 5) (hk2 : Is NN a2 2) (hK83 : ∀ (M : Mem) (x3 : Int32), k83 M x3 = some M9 → GW p l e { frames := 3, cells := 0, slots := 0, locals := 73 } s m args below meth c D cy Λ 5 (QcV D cy Λ NN M9) M 83 [(0, .ref (Λ a0)), (1, .ref (Λ a1)), (2, .ref (Λ a2)), (3, .int x3)] []) : ∀ (fu : Nat) (M : Mem) (x3 : Int32) (x4 : Int32), m_X6_resolve_L94 a0 a1 a2 k83 fu M x3 x4 = some M9 → GW p l e { frames := 3, cells := 0, slots := 0, locals := 73 } s m args below meth c D cy Λ 5 (QcV D cy Λ NN M9) M 94 [(0, .ref (Λ a0)), (1, .ref (Λ a1)), (2, .ref (Λ a2)), (3, .int x3), (4, .int x4)] [] := by
  intro fu
  induction fu with
  | zero =>
    intro M x3 x4  hf
    cases hf
  | succ fu ih =>
    intro M x3 x4  hf
    unfold m_X6_resolve_L94 at hf
    refine g_iload (pc := 94) C 4 dX6_resolve_94 rfl ?_
    refine g_iconst (pc := 96) (v := (4 : Int32)) C dX6_resolve_96 (by decide) ?_
    refine g_ic_ge (pc := 97) (tgt := 114) C hf dX6_resolve_97 (by decide) (fun hf => ?_) (fun hf => ?_)
    · refine g_iinc (pc := 114) (v := (x3 + (1 : Int32))) (lv2 := [(3, .int (x3 + (1 : Int32))), (0, .ref (Λ a0)), (1, .ref (Λ a1)), (2, .ref (Λ a2)), (4, .int x4)]) C 3 dX6_resolve_114 rfl rfl (by decide) rfl ?_
      refine g_goto (pc := 117) (tgt := 83) C dX6_resolve_117 (by decide) ?_
      refine g_sub [1, 2, 3, 0] rfl ?_
      exact hK83 M (x3 + (1 : Int32))  hf
    refine g_aload_n (pc := 100) C 0 dX6_resolve_100 rfl rfl ?_
    refine g_aload_n (pc := 101) C 1 dX6_resolve_101 rfl rfl ?_
    refine g_iload_n (pc := 102) C 3 dX6_resolve_102 rfl rfl ?_
    refine g_iload (pc := 103) C 4 dX6_resolve_103 rfl ?_
    obtain ⟨M11, h11, hf⟩ := ob hf
    refine g_resV (pc := 105) C (rnV (As := [.ref (Λ a1), .int x3, .int x4]) (st := []) C (c_X6_settle C.2.2.2.2.2.1 hk0 hk1 h11) lkX6_52 rfl (by decide) hk0 rfl rfl (Nat.le_of_ble_eq_true rfl) ⟨⟨rfl, rfl⟩, Nat.le_of_ble_eq_true rfl, Nat.le_of_ble_eq_true rfl⟩ ⟨Nat.le_of_ble_eq_true rfl, Nat.le_of_ble_eq_true rfl⟩ dX6_resolve_105) ?_
    refine g_iinc (pc := 108) (v := (x4 + (1 : Int32))) (lv2 := [(4, .int (x4 + (1 : Int32))), (0, .ref (Λ a0)), (1, .ref (Λ a1)), (2, .ref (Λ a2)), (3, .int x3)]) C 4 dX6_resolve_108 rfl rfl (by decide) rfl ?_
    refine g_goto (pc := 111) (tgt := 94) C dX6_resolve_111 (by decide) ?_
    refine g_sub [1, 2, 3, 4, 0] rfl ?_
    exact ih M11 x3 (x4 + (1 : Int32))  hf

theorem w_X6_resolve_L83 {p : Program} {l : Launch} {e : Env} {s : State} {m : MethodId} {args : Array Value} {below : List Frame} {meth : Method} {c : Code} {D : va_G} {cy : Nat → ClassId} {Λ : Nat → Nat} (C : Cx p s m args meth c cX6_resolve 5 RX6 none D cy Λ (AA Λ s.heap.size)) {a0 : Nat} {a1 : Nat} {a2 : Nat}  {M9 : Mem} (hk0 : Is NN a0 7) (hk1 : Is NN a1 5) (hk2 : Is NN a2 2)  : ∀ (fu : Nat) (M : Mem) (x3 : Int32), m_X6_resolve_L83 a0 a1 a2 fu M x3 = some M9 → GW p l e { frames := 3, cells := 0, slots := 0, locals := 73 } s m args below meth c D cy Λ 5 (QcV D cy Λ NN M9) M 83 [(0, .ref (Λ a0)), (1, .ref (Λ a1)), (2, .ref (Λ a2)), (3, .int x3)] [] := by
  intro fu
  induction fu with
  | zero =>
    intro M x3  hf
    cases hf
  | succ fu ih =>
    intro M x3  hf
    unfold m_X6_resolve_L83 at hf
    refine g_iload_n (pc := 83) C 3 dX6_resolve_83 rfl rfl ?_
    refine g_aload_n (pc := 84) C 0 dX6_resolve_84 rfl rfl ?_
    refine g_getI (pc := 85) C fgX6_9 (by decide) hk0 rfl dX6_resolve_85 ?_
    refine g_ic_ge (pc := 88) (tgt := 120) C hf dX6_resolve_88 (by decide) (fun hf => ?_) (fun hf => ?_)
    · exact g_vret C hf dX6_resolve_120
    refine g_iconst (pc := 91) (v := (0 : Int32)) C dX6_resolve_91 (by decide) ?_
    refine g_istore (pc := 92) (lv2 := [(4, .int (0 : Int32)), (0, .ref (Λ a0)), (1, .ref (Λ a1)), (2, .ref (Λ a2)), (3, .int x3)]) C dX6_resolve_92 (by decide) rfl ?_
    refine g_sub [1, 2, 3, 4, 0] rfl ?_
    exact w_X6_resolve_L94 C hk0 hk1 hk2 ih FU M x3 (0 : Int32)  hf

theorem w_X6_resolve_L33 {p : Program} {l : Launch} {e : Env} {s : State} {m : MethodId} {args : Array Value} {below : List Frame} {meth : Method} {c : Code} {D : va_G} {cy : Nat → ClassId} {Λ : Nat → Nat} (C : Cx p s m args meth c cX6_resolve 5 RX6 none D cy Λ (AA Λ s.heap.size)) {a0 : Nat} {a1 : Nat} {a2 : Nat}  {M9 : Mem} (hk0 : Is NN a0 7) (hk1 : Is NN a1 5) (hk2 : Is NN a2 2)  : ∀ (fu : Nat) (M : Mem) (x3 : Int32), m_X6_resolve_L33 a0 a1 a2 fu M x3 = some M9 → GW p l e { frames := 3, cells := 0, slots := 0, locals := 73 } s m args below meth c D cy Λ 5 (QcV D cy Λ NN M9) M 33 [(0, .ref (Λ a0)), (1, .ref (Λ a1)), (2, .ref (Λ a2)), (3, .int x3)] [] := by
  intro fu
  induction fu with
  | zero =>
    intro M x3  hf
    cases hf
  | succ fu ih =>
    intro M x3  hf
    unfold m_X6_resolve_L33 at hf
    refine g_iload_n (pc := 33) C 3 dX6_resolve_33 rfl rfl ?_
    refine g_aload_n (pc := 34) C 1 dX6_resolve_34 rfl rfl ?_
    refine g_getI (pc := 35) C fgX6_31 (by decide) hk1 rfl dX6_resolve_35 ?_
    refine g_ic_ge (pc := 38) (tgt := 81) C hf dX6_resolve_38 (by decide) (fun hf => ?_) (fun hf => ?_)
    · refine g_iconst (pc := 81) (v := (0 : Int32)) C dX6_resolve_81 (by decide) ?_
      refine g_istore_n (pc := 82) (lv2 := [(3, .int (0 : Int32)), (0, .ref (Λ a0)), (1, .ref (Λ a1)), (2, .ref (Λ a2))]) C dX6_resolve_82 rfl (by decide) rfl ?_
      refine g_sub [1, 2, 3, 0] rfl ?_
      exact w_X6_resolve_L83 C hk0 hk1 hk2 FU M (0 : Int32)  hf
    refine g_aload_n (pc := 41) C 0 dX6_resolve_41 rfl rfl ?_
    refine g_getR (pc := 42) (T := 9) C hf fgX6_15 (by decide) hk0 rfl dX6_resolve_42 (fun a11 hk11 hf => ?_)
    refine g_iload_n (pc := 45) C 3 dX6_resolve_45 rfl rfl ?_
    refine g_aload_n (pc := 46) C 2 dX6_resolve_46 rfl rfl ?_
    refine g_iload_n (pc := 47) C 3 dX6_resolve_47 rfl rfl ?_
    obtain ⟨r12, h12, hf⟩ := ob hf
    refine g_resI (pc := 48) C (rnV (As := [.int x3]) (st := [.int x3, .ref (Λ a11)]) C (c_X1_hasOn C.2.2.2.2.2.1 hk2 h12) lkX6_34 rfl (by decide) hk2 rfl rfl (Nat.le_of_ble_eq_true rfl) ⟨⟨rfl, rfl⟩, Nat.le_of_ble_eq_true rfl, Nat.le_of_ble_eq_true rfl⟩ ⟨Nat.le_of_ble_eq_true rfl, Nat.le_of_ble_eq_true rfl⟩ dX6_resolve_48) ?_
    refine g_if_eq (pc := 51) (tgt := 68) C hf dX6_resolve_51 (by decide) (fun hf => ?_) (fun hf => ?_)
    · refine g_iconst (pc := 68) (v := (0 : Int32)) C dX6_resolve_68 (by decide) ?_
      refine g_iast (pc := 69) C hf hk11 dX6_resolve_69 (fun M13 hf => ?_)
      refine g_aload_n (pc := 70) C 0 dX6_resolve_70 rfl rfl ?_
      refine g_iload_n (pc := 71) C 3 dX6_resolve_71 rfl rfl ?_
      obtain ⟨M14, h14, hf⟩ := ob hf
      refine g_resV (pc := 72) C (rnV (As := [.int x3]) (st := []) C (c_X6_noteRule C.2.2.2.2.2.1 hk0 h14) lkX6_48 rfl (by decide) hk0 rfl rfl (Nat.le_of_ble_eq_true rfl) ⟨⟨rfl, rfl⟩, Nat.le_of_ble_eq_true rfl, Nat.le_of_ble_eq_true rfl⟩ ⟨Nat.le_of_ble_eq_true rfl, Nat.le_of_ble_eq_true rfl⟩ dX6_resolve_72) ?_
      refine g_iinc (pc := 75) (v := (x3 + (1 : Int32))) (lv2 := [(3, .int (x3 + (1 : Int32))), (0, .ref (Λ a0)), (1, .ref (Λ a1)), (2, .ref (Λ a2))]) C 3 dX6_resolve_75 rfl rfl (by decide) rfl ?_
      refine g_goto (pc := 78) (tgt := 33) C dX6_resolve_78 (by decide) ?_
      refine g_sub [1, 2, 3, 0] rfl ?_
      exact ih M14 (x3 + (1 : Int32))  hf
    refine g_aload_n (pc := 54) C 1 dX6_resolve_54 rfl rfl ?_
    refine g_aload_n (pc := 55) C 2 dX6_resolve_55 rfl rfl ?_
    refine g_aload_n (pc := 56) C 1 dX6_resolve_56 rfl rfl ?_
    refine g_getR (pc := 57) (T := 13) C hf fgX6_40 (by decide) hk1 rfl dX6_resolve_57 (fun a15 hk15 hf => ?_)
    refine g_iload_n (pc := 60) C 3 dX6_resolve_60 rfl rfl ?_
    refine g_aald4 (pc := 61) (T := 3) C hf hk15 dX6_resolve_61 (fun a16 hk16 hf => ?_)
    obtain ⟨r17, h17, hf⟩ := ob hf
    refine g_resI (pc := 62) C (rnV (As := [.ref (Λ a2), .ref (Λ a16)]) (st := [.int x3, .ref (Λ a11)]) C (c_X4_reached C.2.2.2.2.2.1 hk1 hk2 hk16 h17) lkX6_44 rfl (by decide) hk1 rfl rfl (Nat.le_of_ble_eq_true rfl) ⟨⟨rfl, rfl⟩, Nat.le_of_ble_eq_true rfl, Nat.le_of_ble_eq_true rfl⟩ ⟨Nat.le_of_ble_eq_true rfl, Nat.le_of_ble_eq_true rfl⟩ dX6_resolve_62) ?_
    refine g_goto (pc := 65) (tgt := 69) C dX6_resolve_65 (by decide) ?_
    refine g_iast (pc := 69) C hf hk11 dX6_resolve_69 (fun M18 hf => ?_)
    refine g_aload_n (pc := 70) C 0 dX6_resolve_70 rfl rfl ?_
    refine g_iload_n (pc := 71) C 3 dX6_resolve_71 rfl rfl ?_
    obtain ⟨M19, h19, hf⟩ := ob hf
    refine g_resV (pc := 72) C (rnV (As := [.int x3]) (st := []) C (c_X6_noteRule C.2.2.2.2.2.1 hk0 h19) lkX6_48 rfl (by decide) hk0 rfl rfl (Nat.le_of_ble_eq_true rfl) ⟨⟨rfl, rfl⟩, Nat.le_of_ble_eq_true rfl, Nat.le_of_ble_eq_true rfl⟩ ⟨Nat.le_of_ble_eq_true rfl, Nat.le_of_ble_eq_true rfl⟩ dX6_resolve_72) ?_
    refine g_iinc (pc := 75) (v := (x3 + (1 : Int32))) (lv2 := [(3, .int (x3 + (1 : Int32))), (0, .ref (Λ a0)), (1, .ref (Λ a1)), (2, .ref (Λ a2))]) C 3 dX6_resolve_75 rfl rfl (by decide) rfl ?_
    refine g_goto (pc := 78) (tgt := 33) C dX6_resolve_78 (by decide) ?_
    refine g_sub [1, 2, 3, 0] rfl ?_
    exact ih M19 (x3 + (1 : Int32))  hf

theorem w_X6_resolve_L10 {p : Program} {l : Launch} {e : Env} {s : State} {m : MethodId} {args : Array Value} {below : List Frame} {meth : Method} {c : Code} {D : va_G} {cy : Nat → ClassId} {Λ : Nat → Nat} (C : Cx p s m args meth c cX6_resolve 5 RX6 none D cy Λ (AA Λ s.heap.size)) {a0 : Nat} {a1 : Nat} {a2 : Nat}  {M9 : Mem} (hk0 : Is NN a0 7) (hk1 : Is NN a1 5) (hk2 : Is NN a2 2)  : ∀ (fu : Nat) (M : Mem) (x3 : Int32), m_X6_resolve_L10 a0 a1 a2 fu M x3 = some M9 → GW p l e { frames := 3, cells := 0, slots := 0, locals := 73 } s m args below meth c D cy Λ 5 (QcV D cy Λ NN M9) M 10 [(0, .ref (Λ a0)), (1, .ref (Λ a1)), (2, .ref (Λ a2)), (3, .int x3)] [] := by
  intro fu
  induction fu with
  | zero =>
    intro M x3  hf
    cases hf
  | succ fu ih =>
    intro M x3  hf
    unfold m_X6_resolve_L10 at hf
    refine g_iload_n (pc := 10) C 3 dX6_resolve_10 rfl rfl ?_
    refine g_aload_n (pc := 11) C 0 dX6_resolve_11 rfl rfl ?_
    refine g_getI (pc := 12) C fgX6_9 (by decide) hk0 rfl dX6_resolve_12 ?_
    refine g_ic_ge (pc := 15) (tgt := 31) C hf dX6_resolve_15 (by decide) (fun hf => ?_) (fun hf => ?_)
    · refine g_iconst (pc := 31) (v := (0 : Int32)) C dX6_resolve_31 (by decide) ?_
      refine g_istore_n (pc := 32) (lv2 := [(3, .int (0 : Int32)), (0, .ref (Λ a0)), (1, .ref (Λ a1)), (2, .ref (Λ a2))]) C dX6_resolve_32 rfl (by decide) rfl ?_
      refine g_sub [1, 2, 3, 0] rfl ?_
      exact w_X6_resolve_L33 C hk0 hk1 hk2 FU M (0 : Int32)  hf
    refine g_aload_n (pc := 18) C 0 dX6_resolve_18 rfl rfl ?_
    refine g_getR (pc := 19) (T := 9) C hf fgX6_19 (by decide) hk0 rfl dX6_resolve_19 (fun a11 hk11 hf => ?_)
    refine g_iload_n (pc := 22) C 3 dX6_resolve_22 rfl rfl ?_
    refine g_iconst (pc := 23) (v := (0 : Int32)) C dX6_resolve_23 (by decide) ?_
    refine g_iast (pc := 24) C hf hk11 dX6_resolve_24 (fun M12 hf => ?_)
    refine g_iinc (pc := 25) (v := (x3 + (1 : Int32))) (lv2 := [(3, .int (x3 + (1 : Int32))), (0, .ref (Λ a0)), (1, .ref (Λ a1)), (2, .ref (Λ a2))]) C 3 dX6_resolve_25 rfl rfl (by decide) rfl ?_
    refine g_goto (pc := 28) (tgt := 10) C dX6_resolve_28 (by decide) ?_
    refine g_sub [1, 2, 3, 0] rfl ?_
    exact ih M12 (x3 + (1 : Int32))  hf

theorem w_X6_resolve {p : Program} {l : Launch} {e : Env} {s : State} {m : MethodId} {args : Array Value} {below : List Frame} {meth : Method} {c : Code} {D : va_G} {cy : Nat → ClassId} {Λ : Nat → Nat} (C : Cx p s m args meth c cX6_resolve 5 RX6 none D cy Λ (AA Λ s.heap.size)) {M : Mem} {a0 : Nat} {a1 : Nat} {a2 : Nat} {M9 : Mem} (hk0 : Is NN a0 7) (hk1 : Is NN a1 5) (hk2 : Is NN a2 2) (hf : m_X6_resolve M a0 a1 a2 = some M9) : GW p l e { frames := 3, cells := 0, slots := 0, locals := 73 } s m args below meth c D cy Λ 5 (QcV D cy Λ NN M9) M 0 [(0, .ref (Λ a0)), (1, .ref (Λ a1)), (2, .ref (Λ a2))] [] := by
  unfold m_X6_resolve at hf
  refine g_aload_n (pc := 0) C 0 dX6_resolve_0 rfl rfl ?_
  refine g_aload_n (pc := 1) C 1 dX6_resolve_1 rfl rfl ?_
  refine g_getI (pc := 2) C fgX6_28 (by decide) hk1 rfl dX6_resolve_2 ?_
  refine g_pI (pc := 5) C hf fpX6_9 (by decide) hk0 stX6_0 (Nat.le_of_ble_eq_true rfl) rfl rfl dX6_resolve_5 (fun M11 hf => ?_)
  refine g_iconst (pc := 8) (v := (0 : Int32)) C dX6_resolve_8 (by decide) ?_
  refine g_istore_n (pc := 9) (lv2 := [(3, .int (0 : Int32)), (0, .ref (Λ a0)), (1, .ref (Λ a1)), (2, .ref (Λ a2))]) C dX6_resolve_9 rfl (by decide) rfl ?_
  refine g_sub [1, 2, 3, 0] rfl ?_
  exact w_X6_resolve_L10 C hk0 hk1 hk2 FU M11 (0 : Int32)  hf

theorem c_X6_resolve {l : Launch} {D : va_G} {cy : Nat → ClassId} {Λ : Nat → Nat} (hi : ∀ i j : Nat, Λ i = Λ j → i = j) {M : Mem} {a0 : Nat} {a1 : Nat} {a2 : Nat} {M9 : Mem} (hk0 : Is NN a0 7) (hk1 : Is NN a1 5) (hk2 : Is NN a2 2) (hf : m_X6_resolve M a0 a1 a2 = some M9) : Ct l yX6_resolve cX6_resolve 5 none { frames := 3, cells := 0, slots := 0, locals := 73 } D cy Λ [.ref (Λ a0), .ref (Λ a1), .ref (Λ a2)] NN M 0 0 (QcV D cy Λ NN M9) := ent (by decide) hi (Nat.le_of_ble_eq_true rfl) (fun p e s m args below meth c C => w_X6_resolve C hk0 hk1 hk2 hf)
theorem w_X7_refresh {p : Program} {l : Launch} {e : Env} {s : State} {m : MethodId} {args : Array Value} {below : List Frame} {meth : Method} {c : Code} {D : va_G} {cy : Nat → ClassId} {Λ : Nat → Nat} (C : Cx p s m args meth c cX7_refresh 1 RX7 none D cy Λ (AA Λ s.heap.size)) {M : Mem} {a0 : Nat} {M9 : Mem} (hk0 : Is NN a0 8) (hf : m_X7_refresh M a0 = some M9) : GW p l e { frames := 4, cells := 0, slots := 0, locals := 97 } s m args below meth c D cy Λ 1 (QcV D cy Λ NN M9) M 0 [(0, .ref (Λ a0))] [] := by
  unfold m_X7_refresh at hf
  refine g_aload_n (pc := 0) C 0 dX7_refresh_0 rfl rfl ?_
  refine g_getR (pc := 1) (T := 6) C hf fgX7_44 (by decide) hk0 rfl dX7_refresh_1 (fun a11 hk11 hf => ?_)
  refine g_aload_n (pc := 4) C 0 dX7_refresh_4 rfl rfl ?_
  refine g_getR (pc := 5) (T := 4) C hf fgX7_27 (by decide) hk0 rfl dX7_refresh_5 (fun a12 hk12 hf => ?_)
  refine g_aload_n (pc := 8) C 0 dX7_refresh_8 rfl rfl ?_
  refine g_getR (pc := 9) (T := 1) C hf fgX7_34 (by decide) hk0 rfl dX7_refresh_9 (fun a13 hk13 hf => ?_)
  obtain ⟨M14, h14, hf⟩ := ob hf
  refine g_resV (pc := 12) C (rnV (As := [.ref (Λ a12), .ref (Λ a13)]) (st := []) C (c_X6_resolve C.2.2.2.2.2.1 hk11 hk12 hk13 h14) lkX7_232 rfl (by decide) hk11 rfl rfl (Nat.le_of_ble_eq_true rfl) ⟨⟨rfl, rfl⟩, Nat.le_of_ble_eq_true rfl, Nat.le_of_ble_eq_true rfl⟩ ⟨Nat.le_of_ble_eq_true rfl, Nat.le_of_ble_eq_true rfl⟩ dX7_refresh_12) ?_
  exact g_vret C hf dX7_refresh_15

theorem c_X7_refresh {l : Launch} {D : va_G} {cy : Nat → ClassId} {Λ : Nat → Nat} (hi : ∀ i j : Nat, Λ i = Λ j → i = j) {M : Mem} {a0 : Nat} {M9 : Mem} (hk0 : Is NN a0 8) (hf : m_X7_refresh M a0 = some M9) : Ct l yX7_refresh cX7_refresh 1 none { frames := 4, cells := 0, slots := 0, locals := 97 } D cy Λ [.ref (Λ a0)] NN M 0 0 (QcV D cy Λ NN M9) := ent (by decide) hi (Nat.le_of_ble_eq_true rfl) (fun p e s m args below meth c C => w_X7_refresh C hk0 hf)
theorem w_X7_page {p : Program} {l : Launch} {e : Env} {s : State} {m : MethodId} {args : Array Value} {below : List Frame} {meth : Method} {c : Code} {D : va_G} {cy : Nat → ClassId} {Λ : Nat → Nat} (C : Cx p s m args meth c cX7_page 2 RX7 (some .int) D cy Λ (AA Λ s.heap.size)) {M : Mem} {a0 : Nat} {r9 : Int32} {M9 : Mem} (hk0 : Is NN a0 8) (hf : m_X7_page M a0 = some (r9, M9)) : GW p l e { frames := 7, cells := 0, slots := 0, locals := 152 } s m args below meth c D cy Λ 2 (QcI D cy Λ NN r9 M9) M 0 [(0, .ref (Λ a0))] [] := by
  unfold m_X7_page at hf
  refine g_aload_n (pc := 0) C 0 dX7_page_0 rfl rfl ?_
  refine g_getR (pc := 1) (T := 2) C hf fgX7_20 (by decide) hk0 rfl dX7_page_1 (fun a11 hk11 hf => ?_)
  refine g_aload_n (pc := 4) C 0 dX7_page_4 rfl rfl ?_
  refine g_getR (pc := 5) (T := 10) C hf fgX7_9 (by decide) hk0 rfl dX7_page_5 (fun a12 hk12 hf => ?_)
  refine g_aload_n (pc := 8) C 0 dX7_page_8 rfl rfl ?_
  refine g_getI (pc := 9) C fgX7_13 (by decide) hk0 rfl dX7_page_9 ?_
  obtain ⟨r13, M13, h13, hf⟩ := ob2 hf
  refine g_resI (pc := 12) C (rnV (As := [.ref (Λ a12), .int (M.2 a0 1)]) (st := []) C (c_X2_readAll C.2.2.2.2.2.1 hk11 hk12 h13) lkX7_80 rfl (by decide) hk11 rfl rfl (Nat.le_of_ble_eq_true rfl) ⟨⟨rfl, rfl⟩, Nat.le_of_ble_eq_true rfl, Nat.le_of_ble_eq_true rfl⟩ ⟨Nat.le_of_ble_eq_true rfl, Nat.le_of_ble_eq_true rfl⟩ dX7_page_12) ?_
  refine g_istore_n (pc := 15) (lv2 := [(1, .int r13), (0, .ref (Λ a0))]) C dX7_page_15 rfl (by decide) rfl ?_
  refine g_iload_n (pc := 16) C 0 dX7_page_16 rfl rfl ?_
  refine g_bipush (pc := 17) (v := (-9 : Int32)) C dX7_page_17 (by decide) ?_
  refine g_ic_ne (pc := 19) (tgt := 33) C hf dX7_page_19 (by decide) (fun hf => ?_) (fun hf => ?_)
  · refine g_bipush (pc := 22) (v := (-10 : Int32)) C dX7_page_22 (by decide) ?_
    refine g_aload_n (pc := 24) C 1 dX7_page_24 rfl rfl ?_
    refine g_getR (pc := 25) (T := 2) C hf fgX7_20 (by decide) hk0 rfl dX7_page_25 (fun a14 hk14 hf => ?_)
    obtain ⟨r15, h15, hf⟩ := ob hf
    refine g_resI (pc := 28) C (rnV (As := []) (st := [.int (-10 : Int32)]) C (c_X2_fault C.2.2.2.2.2.1 hk14 h15) lkX7_84 rfl (by decide) hk14 rfl rfl (Nat.le_of_ble_eq_true rfl) ⟨⟨rfl, rfl⟩, Nat.le_of_ble_eq_true rfl, Nat.le_of_ble_eq_true rfl⟩ ⟨Nat.le_of_ble_eq_true rfl, Nat.le_of_ble_eq_true rfl⟩ dX7_page_28) ?_
    refine g_isub (pc := 31) C dX7_page_31 ?_
    exact g_iretM C hf dX7_page_32
  refine g_aload_n (pc := 33) C 1 dX7_page_33 rfl rfl ?_
  refine g_aload_n (pc := 34) C 1 dX7_page_34 rfl rfl ?_
  refine g_getR (pc := 35) (T := 2) C hf fgX7_20 (by decide) hk0 rfl dX7_page_35 (fun a16 hk16 hf => ?_)
  refine g_aload_n (pc := 38) C 1 dX7_page_38 rfl rfl ?_
  refine g_getR (pc := 39) (T := 4) C hf fgX7_27 (by decide) hk0 rfl dX7_page_39 (fun a17 hk17 hf => ?_)
  obtain ⟨a18, M18, h18, hf⟩ := ob2 hf
  obtain ⟨hk18, hf⟩ := ik_is (T := 4) hf
  refine g_resR (pc := 42) C (rnV (As := [.ref (Λ a17)]) (st := [.ref (Λ a0)]) C (c_X2_exchange C.2.2.2.2.2.1 hk16 hk17 h18) lkX7_88 rfl (by decide) hk16 rfl rfl (Nat.le_of_ble_eq_true rfl) ⟨⟨rfl, rfl⟩, Nat.le_of_ble_eq_true rfl, Nat.le_of_ble_eq_true rfl⟩ ⟨Nat.le_of_ble_eq_true rfl, Nat.le_of_ble_eq_true rfl⟩ dX7_page_42) ?_
  refine g_pR (pc := 45) C hf fpX7_27 (by decide) hk0 stX7_3 (Nat.le_of_ble_eq_true rfl) rfl rfl dX7_page_45 (fun M19 hf => ?_)
  refine g_aload_n (pc := 48) C 1 dX7_page_48 rfl rfl ?_
  refine g_iconst (pc := 49) (v := (0 : Int32)) C dX7_page_49 (by decide) ?_
  refine g_pI (pc := 50) C hf fpX7_13 (by decide) hk0 stX7_1 (Nat.le_of_ble_eq_true rfl) rfl rfl dX7_page_50 (fun M20 hf => ?_)
  refine g_aload_n (pc := 53) C 1 dX7_page_53 rfl rfl ?_
  refine g_getR (pc := 54) (T := 1) C hf fgX7_34 (by decide) hk0 rfl dX7_page_54 (fun a21 hk21 hf => ?_)
  refine g_aload_n (pc := 57) C 1 dX7_page_57 rfl rfl ?_
  refine g_getR (pc := 58) (T := 4) C hf fgX7_27 (by decide) hk0 rfl dX7_page_58 (fun a22 hk22 hf => ?_)
  refine g_getR (pc := 61) (T := 1) C hf fgX7_92 (by decide) hk22 rfl dX7_page_61 (fun a23 hk23 hf => ?_)
  obtain ⟨M24, h24, hf⟩ := ob hf
  refine g_resV (pc := 64) C (rnV (As := [.ref (Λ a23)]) (st := []) C (c_X1_copyFrom C.2.2.2.2.2.1 hk21 hk23 h24) lkX7_95 rfl (by decide) hk21 rfl rfl (Nat.le_of_ble_eq_true rfl) ⟨⟨rfl, rfl⟩, Nat.le_of_ble_eq_true rfl, Nat.le_of_ble_eq_true rfl⟩ ⟨Nat.le_of_ble_eq_true rfl, Nat.le_of_ble_eq_true rfl⟩ dX7_page_64) ?_
  refine g_aload_n (pc := 67) C 1 dX7_page_67 rfl rfl ?_
  refine g_getR (pc := 68) (T := 0) C hf fgX7_54 (by decide) hk0 rfl dX7_page_68 (fun a25 hk25 hf => ?_)
  obtain ⟨M26, h26, hf⟩ := ob hf
  refine g_resV (pc := 71) C (rnV (As := []) (st := []) C (c_X0_empty C.2.2.2.2.2.1 hk25 h26) lkX7_99 rfl (by decide) hk25 rfl rfl (Nat.le_of_ble_eq_true rfl) ⟨⟨rfl, rfl⟩, Nat.le_of_ble_eq_true rfl, Nat.le_of_ble_eq_true rfl⟩ ⟨Nat.le_of_ble_eq_true rfl, Nat.le_of_ble_eq_true rfl⟩ dX7_page_71) ?_
  refine g_aload_n (pc := 74) C 1 dX7_page_74 rfl rfl ?_
  refine g_getR (pc := 75) (T := 5) C hf fgX7_61 (by decide) hk0 rfl dX7_page_75 (fun a27 hk27 hf => ?_)
  obtain ⟨M28, h28, hf⟩ := ob hf
  refine g_resV (pc := 78) C (rnV (As := []) (st := []) C (c_X5_empty C.2.2.2.2.2.1 hk27 h28) lkX7_102 rfl (by decide) hk27 rfl rfl (Nat.le_of_ble_eq_true rfl) ⟨⟨rfl, rfl⟩, Nat.le_of_ble_eq_true rfl, Nat.le_of_ble_eq_true rfl⟩ ⟨Nat.le_of_ble_eq_true rfl, Nat.le_of_ble_eq_true rfl⟩ dX7_page_78) ?_
  refine g_aload_n (pc := 81) C 1 dX7_page_81 rfl rfl ?_
  refine g_iconst (pc := 82) (v := (0 : Int32)) C dX7_page_82 (by decide) ?_
  refine g_pI (pc := 83) C hf fpX7_69 (by decide) hk0 stX7_11 (Nat.le_of_ble_eq_true rfl) rfl rfl dX7_page_83 (fun M29 hf => ?_)
  refine g_aload_n (pc := 86) C 1 dX7_page_86 rfl rfl ?_
  obtain ⟨M30, h30, hf⟩ := ob hf
  refine g_resV (pc := 87) C (rnV (As := []) (st := []) C (c_X7_refresh C.2.2.2.2.2.1 hk0 h30) lkX7_103 rfl (by decide) hk0 rfl rfl (Nat.le_of_ble_eq_true rfl) ⟨⟨rfl, rfl⟩, Nat.le_of_ble_eq_true rfl, Nat.le_of_ble_eq_true rfl⟩ ⟨Nat.le_of_ble_eq_true rfl, Nat.le_of_ble_eq_true rfl⟩ dX7_page_87) ?_
  refine g_iload_n (pc := 90) C 0 dX7_page_90 rfl rfl ?_
  exact g_iretM C hf dX7_page_91

theorem c_X7_page {l : Launch} {D : va_G} {cy : Nat → ClassId} {Λ : Nat → Nat} (hi : ∀ i j : Nat, Λ i = Λ j → i = j) {M : Mem} {a0 : Nat} {r9 : Int32} {M9 : Mem} (hk0 : Is NN a0 8) (hf : m_X7_page M a0 = some (r9, M9)) : Ct l yX7_page cX7_page 2 (some .int) { frames := 7, cells := 0, slots := 0, locals := 152 } D cy Λ [.ref (Λ a0)] NN M 0 0 (QcI D cy Λ NN r9 M9) := ent (by decide) hi (Nat.le_of_ble_eq_true rfl) (fun p e s m args below meth c C => w_X7_page C hk0 hf)
theorem w_X6_rulesOf {p : Program} {l : Launch} {e : Env} {s : State} {m : MethodId} {args : Array Value} {below : List Frame} {meth : Method} {c : Code} {D : va_G} {cy : Nat → ClassId} {Λ : Nat → Nat} (C : Cx p s m args meth c cX6_rulesOf 2 RX6 (some .int) D cy Λ (AA Λ s.heap.size)) {M : Mem} {a0 : Nat} {x1 : Int32} {r9 : Int32} (hk0 : Is NN a0 7) (hf : m_X6_rulesOf M a0 x1 = some r9) : GW p l e { frames := 1, cells := 0, slots := 0, locals := 21 } s m args below meth c D cy Λ 2 (QcI D cy Λ NN r9 M) M 0 [(0, .ref (Λ a0)), (1, .int x1)] [] := by
  unfold m_X6_rulesOf at hf
  refine g_iload_n (pc := 0) C 1 dX6_rulesOf_0 rfl rfl ?_
  refine g_aload_n (pc := 1) C 0 dX6_rulesOf_1 rfl rfl ?_
  refine g_getI (pc := 2) C fgX6_9 (by decide) hk0 rfl dX6_rulesOf_2 ?_
  obtain ⟨r11, h11, hf⟩ := ob hf
  refine g_resI (pc := 5) C (rnSN (As := [.int x1, .int (M.2 a0 0)]) (st := []) C (c_X7_within C.2.2.2.2.2.1  h11) lknX6_67 rfl rfl (Nat.le_of_ble_eq_true rfl) ⟨⟨rfl, rfl⟩, Nat.le_of_ble_eq_true rfl, Nat.le_of_ble_eq_true rfl⟩ ⟨Nat.le_of_ble_eq_true rfl, Nat.le_of_ble_eq_true rfl⟩ dX6_rulesOf_5) ?_
  refine g_if_eq (pc := 8) (tgt := 20) C hf dX6_rulesOf_8 (by decide) (fun hf => ?_) (fun hf => ?_)
  · refine g_iconst (pc := 20) (v := (0 : Int32)) C dX6_rulesOf_20 (by decide) ?_
    exact g_iret C hf dX6_rulesOf_21
  refine g_aload_n (pc := 11) C 0 dX6_rulesOf_11 rfl rfl ?_
  refine g_getR (pc := 12) (T := 9) C hf fgX6_19 (by decide) hk0 rfl dX6_rulesOf_12 (fun a12 hk12 hf => ?_)
  refine g_iload_n (pc := 15) C 1 dX6_rulesOf_15 rfl rfl ?_
  refine g_iald (pc := 16) C hf hk12 dX6_rulesOf_16 (fun v13 hf => ?_)
  refine g_goto (pc := 17) (tgt := 21) C dX6_rulesOf_17 (by decide) ?_
  exact g_iret C hf dX6_rulesOf_21

theorem c_X6_rulesOf {l : Launch} {D : va_G} {cy : Nat → ClassId} {Λ : Nat → Nat} (hi : ∀ i j : Nat, Λ i = Λ j → i = j) {M : Mem} {a0 : Nat} {x1 : Int32} {r9 : Int32} (hk0 : Is NN a0 7) (hf : m_X6_rulesOf M a0 x1 = some r9) : Ct l yX6_rulesOf cX6_rulesOf 2 (some .int) { frames := 1, cells := 0, slots := 0, locals := 21 } D cy Λ [.ref (Λ a0), .int x1] NN M 0 0 (QcI D cy Λ NN r9 M) := ent (by decide) hi (Nat.le_of_ble_eq_true rfl) (fun p e s m args below meth c C => w_X6_rulesOf C hk0 hf)
theorem w_X6_valueAt {p : Program} {l : Launch} {e : Env} {s : State} {m : MethodId} {args : Array Value} {below : List Frame} {meth : Method} {c : Code} {D : va_G} {cy : Nat → ClassId} {Λ : Nat → Nat} (C : Cx p s m args meth c cX6_valueAt 3 RX6 (some .int) D cy Λ (AA Λ s.heap.size)) {M : Mem} {a0 : Nat} {x1 : Int32} {x2 : Int32} {r9 : Int32} (hk0 : Is NN a0 7) (hf : m_X6_valueAt M a0 x1 x2 = some r9) : GW p l e { frames := 1, cells := 0, slots := 0, locals := 21 } s m args below meth c D cy Λ 3 (QcI D cy Λ NN r9 M) M 0 [(0, .ref (Λ a0)), (1, .int x1), (2, .int x2)] [] := by
  unfold m_X6_valueAt at hf
  refine g_iload_n (pc := 0) C 1 dX6_valueAt_0 rfl rfl ?_
  refine g_aload_n (pc := 1) C 0 dX6_valueAt_1 rfl rfl ?_
  refine g_getI (pc := 2) C fgX6_9 (by decide) hk0 rfl dX6_valueAt_2 ?_
  obtain ⟨r11, h11, hf⟩ := ob hf
  refine g_resI (pc := 5) C (rnSN (As := [.int x1, .int (M.2 a0 0)]) (st := []) C (c_X7_within C.2.2.2.2.2.1  h11) lknX6_67 rfl rfl (Nat.le_of_ble_eq_true rfl) ⟨⟨rfl, rfl⟩, Nat.le_of_ble_eq_true rfl, Nat.le_of_ble_eq_true rfl⟩ ⟨Nat.le_of_ble_eq_true rfl, Nat.le_of_ble_eq_true rfl⟩ dX6_valueAt_5) ?_
  refine g_if_eq (pc := 8) (tgt := 32) C hf dX6_valueAt_8 (by decide) (fun hf => ?_) (fun hf => ?_)
  · refine g_iconst (pc := 32) (v := (0 : Int32)) C dX6_valueAt_32 (by decide) ?_
    exact g_iret C hf dX6_valueAt_33
  refine g_iload_n (pc := 11) C 2 dX6_valueAt_11 rfl rfl ?_
  refine g_iconst (pc := 12) (v := (4 : Int32)) C dX6_valueAt_12 (by decide) ?_
  obtain ⟨r12, h12, hf⟩ := ob hf
  refine g_resI (pc := 13) C (rnSN (As := [.int x2, .int (4 : Int32)]) (st := []) C (c_X7_within C.2.2.2.2.2.1  h12) lknX6_67 rfl rfl (Nat.le_of_ble_eq_true rfl) ⟨⟨rfl, rfl⟩, Nat.le_of_ble_eq_true rfl, Nat.le_of_ble_eq_true rfl⟩ ⟨Nat.le_of_ble_eq_true rfl, Nat.le_of_ble_eq_true rfl⟩ dX6_valueAt_13) ?_
  refine g_if_eq (pc := 16) (tgt := 32) C hf dX6_valueAt_16 (by decide) (fun hf => ?_) (fun hf => ?_)
  · refine g_iconst (pc := 32) (v := (0 : Int32)) C dX6_valueAt_32 (by decide) ?_
    exact g_iret C hf dX6_valueAt_33
  refine g_aload_n (pc := 19) C 0 dX6_valueAt_19 rfl rfl ?_
  refine g_getR (pc := 20) (T := 9) C hf fgX6_22 (by decide) hk0 rfl dX6_valueAt_20 (fun a13 hk13 hf => ?_)
  refine g_iconst (pc := 23) (v := (4 : Int32)) C dX6_valueAt_23 (by decide) ?_
  refine g_iload_n (pc := 24) C 1 dX6_valueAt_24 rfl rfl ?_
  refine g_imul (pc := 25) C dX6_valueAt_25 ?_
  refine g_iload_n (pc := 26) C 2 dX6_valueAt_26 rfl rfl ?_
  refine g_iadd (pc := 27) C dX6_valueAt_27 ?_
  refine g_iald (pc := 28) C hf hk13 dX6_valueAt_28 (fun v14 hf => ?_)
  refine g_goto (pc := 29) (tgt := 33) C dX6_valueAt_29 (by decide) ?_
  exact g_iret C hf dX6_valueAt_33

theorem c_X6_valueAt {l : Launch} {D : va_G} {cy : Nat → ClassId} {Λ : Nat → Nat} (hi : ∀ i j : Nat, Λ i = Λ j → i = j) {M : Mem} {a0 : Nat} {x1 : Int32} {x2 : Int32} {r9 : Int32} (hk0 : Is NN a0 7) (hf : m_X6_valueAt M a0 x1 x2 = some r9) : Ct l yX6_valueAt cX6_valueAt 3 (some .int) { frames := 1, cells := 0, slots := 0, locals := 21 } D cy Λ [.ref (Λ a0), .int x1, .int x2] NN M 0 0 (QcI D cy Λ NN r9 M) := ent (by decide) hi (Nat.le_of_ble_eq_true rfl) (fun p e s m args below meth c C => w_X6_valueAt C hk0 hf)
theorem w_X6_styleOf_L4 {p : Program} {l : Launch} {e : Env} {s : State} {m : MethodId} {args : Array Value} {below : List Frame} {meth : Method} {c : Code} {D : va_G} {cy : Nat → ClassId} {Λ : Nat → Nat} (C : Cx p s m args meth c cX6_styleOf 4 RX6 (some .int) D cy Λ (AA Λ s.heap.size)) {M : Mem} {a0 : Nat} {x1 : Int32}  {r9 : Int32} (hk0 : Is NN a0 7)  : ∀ (fu : Nat) (x2 : Int32) (x3 : Int32), m_X6_styleOf_L4 M a0 x1 fu x2 x3 = some r9 → GW p l e { frames := 2, cells := 0, slots := 0, locals := 43 } s m args below meth c D cy Λ 4 (QcI D cy Λ NN r9 M) M 4 [(0, .ref (Λ a0)), (1, .int x1), (2, .int x2), (3, .int x3)] [] := by
  intro fu
  induction fu with
  | zero =>
    intro x2 x3  hf
    cases hf
  | succ fu ih =>
    intro x2 x3  hf
    unfold m_X6_styleOf_L4 at hf
    refine g_iload_n (pc := 4) C 3 dX6_styleOf_4 rfl rfl ?_
    refine g_iconst (pc := 5) (v := (4 : Int32)) C dX6_styleOf_5 (by decide) ?_
    refine g_ic_ge (pc := 6) (tgt := 27) C hf dX6_styleOf_6 (by decide) (fun hf => ?_) (fun hf => ?_)
    · refine g_iload_n (pc := 27) C 2 dX6_styleOf_27 rfl rfl ?_
      exact g_iret C hf dX6_styleOf_28
    refine g_bipush (pc := 9) (v := (10 : Int32)) C dX6_styleOf_9 (by decide) ?_
    refine g_iload_n (pc := 11) C 2 dX6_styleOf_11 rfl rfl ?_
    refine g_imul (pc := 12) C dX6_styleOf_12 ?_
    refine g_aload_n (pc := 13) C 0 dX6_styleOf_13 rfl rfl ?_
    refine g_iload_n (pc := 14) C 1 dX6_styleOf_14 rfl rfl ?_
    refine g_iload_n (pc := 15) C 3 dX6_styleOf_15 rfl rfl ?_
    obtain ⟨r11, h11, hf⟩ := ob hf
    refine g_resI (pc := 16) C (rnV (As := [.int x1, .int x3]) (st := [.int ((10 : Int32) * x2)]) C (c_X6_valueAt C.2.2.2.2.2.1 hk0 h11) lkX6_73 rfl (by decide) hk0 rfl rfl (Nat.le_of_ble_eq_true rfl) ⟨⟨rfl, rfl⟩, Nat.le_of_ble_eq_true rfl, Nat.le_of_ble_eq_true rfl⟩ ⟨Nat.le_of_ble_eq_true rfl, Nat.le_of_ble_eq_true rfl⟩ dX6_styleOf_16) ?_
    refine g_iadd (pc := 19) C dX6_styleOf_19 ?_
    refine g_istore_n (pc := 20) (lv2 := [(2, .int (((10 : Int32) * x2) + r11)), (0, .ref (Λ a0)), (1, .int x1), (3, .int x3)]) C dX6_styleOf_20 rfl (by decide) rfl ?_
    refine g_iinc (pc := 21) (v := (x3 + (1 : Int32))) (lv2 := [(3, .int (x3 + (1 : Int32))), (2, .int (((10 : Int32) * x2) + r11)), (0, .ref (Λ a0)), (1, .int x1)]) C 3 dX6_styleOf_21 rfl rfl (by decide) rfl ?_
    refine g_goto (pc := 24) (tgt := 4) C dX6_styleOf_24 (by decide) ?_
    refine g_sub [2, 3, 1, 0] rfl ?_
    exact ih (((10 : Int32) * x2) + r11) (x3 + (1 : Int32))  hf

theorem w_X6_styleOf {p : Program} {l : Launch} {e : Env} {s : State} {m : MethodId} {args : Array Value} {below : List Frame} {meth : Method} {c : Code} {D : va_G} {cy : Nat → ClassId} {Λ : Nat → Nat} (C : Cx p s m args meth c cX6_styleOf 4 RX6 (some .int) D cy Λ (AA Λ s.heap.size)) {M : Mem} {a0 : Nat} {x1 : Int32} {r9 : Int32} (hk0 : Is NN a0 7) (hf : m_X6_styleOf M a0 x1 = some r9) : GW p l e { frames := 2, cells := 0, slots := 0, locals := 43 } s m args below meth c D cy Λ 4 (QcI D cy Λ NN r9 M) M 0 [(0, .ref (Λ a0)), (1, .int x1)] [] := by
  unfold m_X6_styleOf at hf
  refine g_iconst (pc := 0) (v := (0 : Int32)) C dX6_styleOf_0 (by decide) ?_
  refine g_istore_n (pc := 1) (lv2 := [(2, .int (0 : Int32)), (0, .ref (Λ a0)), (1, .int x1)]) C dX6_styleOf_1 rfl (by decide) rfl ?_
  refine g_iconst (pc := 2) (v := (0 : Int32)) C dX6_styleOf_2 (by decide) ?_
  refine g_istore_n (pc := 3) (lv2 := [(3, .int (0 : Int32)), (2, .int (0 : Int32)), (0, .ref (Λ a0)), (1, .int x1)]) C dX6_styleOf_3 rfl (by decide) rfl ?_
  refine g_sub [2, 3, 1, 0] rfl ?_
  exact w_X6_styleOf_L4 C hk0 FU (0 : Int32) (0 : Int32)  hf

theorem c_X6_styleOf {l : Launch} {D : va_G} {cy : Nat → ClassId} {Λ : Nat → Nat} (hi : ∀ i j : Nat, Λ i = Λ j → i = j) {M : Mem} {a0 : Nat} {x1 : Int32} {r9 : Int32} (hk0 : Is NN a0 7) (hf : m_X6_styleOf M a0 x1 = some r9) : Ct l yX6_styleOf cX6_styleOf 4 (some .int) { frames := 2, cells := 0, slots := 0, locals := 43 } D cy Λ [.ref (Λ a0), .int x1] NN M 0 0 (QcI D cy Λ NN r9 M) := ent (by decide) hi (Nat.le_of_ble_eq_true rfl) (fun p e s m args below meth c C => w_X6_styleOf C hk0 hf)
theorem w_X6_recordOf_L8 {p : Program} {l : Launch} {e : Env} {s : State} {m : MethodId} {args : Array Value} {below : List Frame} {meth : Method} {c : Code} {D : va_G} {cy : Nat → ClassId} {Λ : Nat → Nat} (C : Cx p s m args meth c cX6_recordOf 4 RX6 (some .int) D cy Λ (AA Λ s.heap.size)) {M : Mem} {a0 : Nat} {x1 : Int32}  {r9 : Int32} (hk0 : Is NN a0 7)  : ∀ (fu : Nat) (x2 : Int32) (x3 : Int32), m_X6_recordOf_L8 M a0 x1 fu x2 x3 = some r9 → GW p l e { frames := 3, cells := 0, slots := 0, locals := 66 } s m args below meth c D cy Λ 4 (QcI D cy Λ NN r9 M) M 8 [(0, .ref (Λ a0)), (1, .int x1), (2, .int x2), (3, .int x3)] [] := by
  intro fu
  induction fu with
  | zero =>
    intro x2 x3  hf
    cases hf
  | succ fu ih =>
    intro x2 x3  hf
    unfold m_X6_recordOf_L8 at hf
    refine g_iload_n (pc := 8) C 3 dX6_recordOf_8 rfl rfl ?_
    refine g_iload_n (pc := 9) C 1 dX6_recordOf_9 rfl rfl ?_
    refine g_ic_ge (pc := 10) (tgt := 30) C hf dX6_recordOf_10 (by decide) (fun hf => ?_) (fun hf => ?_)
    · refine g_iload_n (pc := 30) C 1 dX6_recordOf_30 rfl rfl ?_
      exact g_iret C hf dX6_recordOf_31
    refine g_aload_n (pc := 13) C 0 dX6_recordOf_13 rfl rfl ?_
    refine g_iload_n (pc := 14) C 3 dX6_recordOf_14 rfl rfl ?_
    obtain ⟨r11, h11, hf⟩ := ob hf
    refine g_resI (pc := 15) C (rnV (As := [.int x3]) (st := []) C (c_X6_styleOf C.2.2.2.2.2.1 hk0 h11) lkX6_76 rfl (by decide) hk0 rfl rfl (Nat.le_of_ble_eq_true rfl) ⟨⟨rfl, rfl⟩, Nat.le_of_ble_eq_true rfl, Nat.le_of_ble_eq_true rfl⟩ ⟨Nat.le_of_ble_eq_true rfl, Nat.le_of_ble_eq_true rfl⟩ dX6_recordOf_15) ?_
    refine g_iload_n (pc := 18) C 2 dX6_recordOf_18 rfl rfl ?_
    refine g_ic_ne (pc := 19) (tgt := 24) C hf dX6_recordOf_19 (by decide) (fun hf => ?_) (fun hf => ?_)
    · refine g_iload_n (pc := 22) C 3 dX6_recordOf_22 rfl rfl ?_
      exact g_iret C hf dX6_recordOf_23
    refine g_iinc (pc := 24) (v := (x3 + (1 : Int32))) (lv2 := [(3, .int (x3 + (1 : Int32))), (0, .ref (Λ a0)), (1, .int x1), (2, .int x2)]) C 3 dX6_recordOf_24 rfl rfl (by decide) rfl ?_
    refine g_goto (pc := 27) (tgt := 8) C dX6_recordOf_27 (by decide) ?_
    refine g_sub [1, 2, 3, 0] rfl ?_
    exact ih x2 (x3 + (1 : Int32))  hf

theorem w_X6_recordOf {p : Program} {l : Launch} {e : Env} {s : State} {m : MethodId} {args : Array Value} {below : List Frame} {meth : Method} {c : Code} {D : va_G} {cy : Nat → ClassId} {Λ : Nat → Nat} (C : Cx p s m args meth c cX6_recordOf 4 RX6 (some .int) D cy Λ (AA Λ s.heap.size)) {M : Mem} {a0 : Nat} {x1 : Int32} {r9 : Int32} (hk0 : Is NN a0 7) (hf : m_X6_recordOf M a0 x1 = some r9) : GW p l e { frames := 3, cells := 0, slots := 0, locals := 66 } s m args below meth c D cy Λ 4 (QcI D cy Λ NN r9 M) M 0 [(0, .ref (Λ a0)), (1, .int x1)] [] := by
  unfold m_X6_recordOf at hf
  refine g_aload_n (pc := 0) C 0 dX6_recordOf_0 rfl rfl ?_
  refine g_iload_n (pc := 1) C 1 dX6_recordOf_1 rfl rfl ?_
  obtain ⟨r11, h11, hf⟩ := ob hf
  refine g_resI (pc := 2) C (rnV (As := [.int x1]) (st := []) C (c_X6_styleOf C.2.2.2.2.2.1 hk0 h11) lkX6_76 rfl (by decide) hk0 rfl rfl (Nat.le_of_ble_eq_true rfl) ⟨⟨rfl, rfl⟩, Nat.le_of_ble_eq_true rfl, Nat.le_of_ble_eq_true rfl⟩ ⟨Nat.le_of_ble_eq_true rfl, Nat.le_of_ble_eq_true rfl⟩ dX6_recordOf_2) ?_
  refine g_istore_n (pc := 5) (lv2 := [(2, .int r11), (0, .ref (Λ a0)), (1, .int x1)]) C dX6_recordOf_5 rfl (by decide) rfl ?_
  refine g_iconst (pc := 6) (v := (0 : Int32)) C dX6_recordOf_6 (by decide) ?_
  refine g_istore_n (pc := 7) (lv2 := [(3, .int (0 : Int32)), (2, .int r11), (0, .ref (Λ a0)), (1, .int x1)]) C dX6_recordOf_7 rfl (by decide) rfl ?_
  refine g_sub [2, 3, 1, 0] rfl ?_
  exact w_X6_recordOf_L8 C hk0 FU r11 (0 : Int32)  hf

theorem c_X6_recordOf {l : Launch} {D : va_G} {cy : Nat → ClassId} {Λ : Nat → Nat} (hi : ∀ i j : Nat, Λ i = Λ j → i = j) {M : Mem} {a0 : Nat} {x1 : Int32} {r9 : Int32} (hk0 : Is NN a0 7) (hf : m_X6_recordOf M a0 x1 = some r9) : Ct l yX6_recordOf cX6_recordOf 4 (some .int) { frames := 3, cells := 0, slots := 0, locals := 66 } D cy Λ [.ref (Λ a0), .int x1] NN M 0 0 (QcI D cy Λ NN r9 M) := ent (by decide) hi (Nat.le_of_ble_eq_true rfl) (fun p e s m args below meth c C => w_X6_recordOf C hk0 hf)
theorem w_X4_below_L4 {p : Program} {l : Launch} {e : Env} {s : State} {m : MethodId} {args : Array Value} {below : List Frame} {meth : Method} {c : Code} {D : va_G} {cy : Nat → ClassId} {Λ : Nat → Nat} (C : Cx p s m args meth c cX4_below 4 RX4 (some .int) D cy Λ (AA Λ s.heap.size)) {M : Mem} {a0 : Nat} {x1 : Int32}  {r9 : Int32} (hk0 : Is NN a0 5)  : ∀ (fu : Nat) (x2 : Int32) (x3 : Int32), m_X4_below_L4 M a0 x1 fu x2 x3 = some r9 → GW p l e { frames := 1, cells := 0, slots := 0, locals := 21 } s m args below meth c D cy Λ 4 (QcI D cy Λ NN r9 M) M 4 [(0, .ref (Λ a0)), (1, .int x1), (2, .int x2), (3, .int x3)] [] := by
  intro fu
  induction fu with
  | zero =>
    intro x2 x3  hf
    cases hf
  | succ fu ih =>
    intro x2 x3  hf
    unfold m_X4_below_L4 at hf
    refine g_iload_n (pc := 4) C 3 dX4_below_4 rfl rfl ?_
    refine g_aload_n (pc := 5) C 0 dX4_below_5 rfl rfl ?_
    refine g_getI (pc := 6) C fgX4_9 (by decide) hk0 rfl dX4_below_6 ?_
    refine g_ic_ge (pc := 9) (tgt := 37) C hf dX4_below_9 (by decide) (fun hf => ?_) (fun hf => ?_)
    · refine g_iload_n (pc := 37) C 2 dX4_below_37 rfl rfl ?_
      exact g_iret C hf dX4_below_38
    refine g_aload_n (pc := 12) C 0 dX4_below_12 rfl rfl ?_
    refine g_getR (pc := 13) (T := 9) C hf fgX4_22 (by decide) hk0 rfl dX4_below_13 (fun a11 hk11 hf => ?_)
    refine g_iload_n (pc := 16) C 3 dX4_below_16 rfl rfl ?_
    refine g_iald (pc := 17) C hf hk11 dX4_below_17 (fun v12 hf => ?_)
    refine g_iload_n (pc := 18) C 1 dX4_below_18 rfl rfl ?_
    obtain ⟨r13, h13, hf⟩ := ob hf
    refine g_resI (pc := 19) C (rnSN (As := [.int v12, .int x1]) (st := []) C (c_X7_hasBit C.2.2.2.2.2.1  h13) lknX4_52 rfl rfl (Nat.le_of_ble_eq_true rfl) ⟨⟨rfl, rfl⟩, Nat.le_of_ble_eq_true rfl, Nat.le_of_ble_eq_true rfl⟩ ⟨Nat.le_of_ble_eq_true rfl, Nat.le_of_ble_eq_true rfl⟩ dX4_below_19) ?_
    refine g_if_eq (pc := 22) (tgt := 31) C hf dX4_below_22 (by decide) (fun hf => ?_) (fun hf => ?_)
    · refine g_iinc (pc := 31) (v := (x3 + (1 : Int32))) (lv2 := [(3, .int (x3 + (1 : Int32))), (0, .ref (Λ a0)), (1, .int x1), (2, .int x2)]) C 3 dX4_below_31 rfl rfl (by decide) rfl ?_
      refine g_goto (pc := 34) (tgt := 4) C dX4_below_34 (by decide) ?_
      refine g_sub [1, 2, 3, 0] rfl ?_
      exact ih x2 (x3 + (1 : Int32))  hf
    refine g_iload_n (pc := 25) C 2 dX4_below_25 rfl rfl ?_
    refine g_iconst (pc := 26) (v := (1 : Int32)) C dX4_below_26 (by decide) ?_
    refine g_iload_n (pc := 27) C 3 dX4_below_27 rfl rfl ?_
    refine g_ishl (pc := 28) C dX4_below_28 ?_
    refine g_ior (pc := 29) C dX4_below_29 ?_
    refine g_istore_n (pc := 30) (lv2 := [(2, .int (x2 ||| ((1 : Int32) <<< (x3 &&& 31)))), (0, .ref (Λ a0)), (1, .int x1), (3, .int x3)]) C dX4_below_30 rfl (by decide) rfl ?_
    refine g_iinc (pc := 31) (v := (x3 + (1 : Int32))) (lv2 := [(3, .int (x3 + (1 : Int32))), (2, .int (x2 ||| ((1 : Int32) <<< (x3 &&& 31)))), (0, .ref (Λ a0)), (1, .int x1)]) C 3 dX4_below_31 rfl rfl (by decide) rfl ?_
    refine g_goto (pc := 34) (tgt := 4) C dX4_below_34 (by decide) ?_
    refine g_sub [2, 3, 1, 0] rfl ?_
    exact ih (x2 ||| ((1 : Int32) <<< (x3 &&& 31))) (x3 + (1 : Int32))  hf

theorem w_X4_below {p : Program} {l : Launch} {e : Env} {s : State} {m : MethodId} {args : Array Value} {below : List Frame} {meth : Method} {c : Code} {D : va_G} {cy : Nat → ClassId} {Λ : Nat → Nat} (C : Cx p s m args meth c cX4_below 4 RX4 (some .int) D cy Λ (AA Λ s.heap.size)) {M : Mem} {a0 : Nat} {x1 : Int32} {r9 : Int32} (hk0 : Is NN a0 5) (hf : m_X4_below M a0 x1 = some r9) : GW p l e { frames := 1, cells := 0, slots := 0, locals := 21 } s m args below meth c D cy Λ 4 (QcI D cy Λ NN r9 M) M 0 [(0, .ref (Λ a0)), (1, .int x1)] [] := by
  unfold m_X4_below at hf
  refine g_iconst (pc := 0) (v := (0 : Int32)) C dX4_below_0 (by decide) ?_
  refine g_istore_n (pc := 1) (lv2 := [(2, .int (0 : Int32)), (0, .ref (Λ a0)), (1, .int x1)]) C dX4_below_1 rfl (by decide) rfl ?_
  refine g_iconst (pc := 2) (v := (0 : Int32)) C dX4_below_2 (by decide) ?_
  refine g_istore_n (pc := 3) (lv2 := [(3, .int (0 : Int32)), (2, .int (0 : Int32)), (0, .ref (Λ a0)), (1, .int x1)]) C dX4_below_3 rfl (by decide) rfl ?_
  refine g_sub [2, 3, 1, 0] rfl ?_
  exact w_X4_below_L4 C hk0 FU (0 : Int32) (0 : Int32)  hf

theorem c_X4_below {l : Launch} {D : va_G} {cy : Nat → ClassId} {Λ : Nat → Nat} (hi : ∀ i j : Nat, Λ i = Λ j → i = j) {M : Mem} {a0 : Nat} {x1 : Int32} {r9 : Int32} (hk0 : Is NN a0 5) (hf : m_X4_below M a0 x1 = some r9) : Ct l yX4_below cX4_below 4 (some .int) { frames := 1, cells := 0, slots := 0, locals := 21 } D cy Λ [.ref (Λ a0), .int x1] NN M 0 0 (QcI D cy Λ NN r9 M) := ent (by decide) hi (Nat.le_of_ble_eq_true rfl) (fun p e s m args below meth c C => w_X4_below C hk0 hf)
theorem w_X7_node {p : Program} {l : Launch} {e : Env} {s : State} {m : MethodId} {args : Array Value} {below : List Frame} {meth : Method} {c : Code} {D : va_G} {cy : Nat → ClassId} {Λ : Nat → Nat} (C : Cx p s m args meth c cX7_node 3 RX7 (some .int) D cy Λ (AA Λ s.heap.size)) {M : Mem} {a0 : Nat} {x1 : Int32} {x2 : Int32} {r9 : Int32} (hk0 : Is NN a0 8) (hf : m_X7_node M a0 x1 x2 = some r9) : GW p l e { frames := 4, cells := 0, slots := 0, locals := 89 } s m args below meth c D cy Λ 3 (QcI D cy Λ NN r9 M) M 0 [(0, .ref (Λ a0)), (1, .int x1), (2, .int x2)] [] := by
  unfold m_X7_node at hf
  refine g_iload_n (pc := 0) C 1 dX7_node_0 rfl rfl ?_
  refine g_aload_n (pc := 1) C 0 dX7_node_1 rfl rfl ?_
  refine g_getR (pc := 2) (T := 4) C hf fgX7_27 (by decide) hk0 rfl dX7_node_2 (fun a11 hk11 hf => ?_)
  refine g_getI (pc := 5) C fgX7_106 (by decide) hk11 rfl dX7_node_5 ?_
  obtain ⟨r12, h12, hf⟩ := ob hf
  refine g_resI (pc := 8) C (rnS (As := [.int x1, .int (M.2 a11 0)]) (st := []) C (c_X7_within C.2.2.2.2.2.1  h12) lkX7_76 rfl rfl (Nat.le_of_ble_eq_true rfl) ⟨⟨rfl, rfl⟩, Nat.le_of_ble_eq_true rfl, Nat.le_of_ble_eq_true rfl⟩ ⟨Nat.le_of_ble_eq_true rfl, Nat.le_of_ble_eq_true rfl⟩ dX7_node_8) ?_
  refine g_if_eq (pc := 11) (tgt := 23) C hf dX7_node_11 (by decide) (fun hf => ?_) (fun hf => ?_)
  · refine g_bipush (pc := 23) (v := (-2 : Int32)) C dX7_node_23 (by decide) ?_
    exact g_iret C hf dX7_node_25
  refine g_iload_n (pc := 14) C 2 dX7_node_14 rfl rfl ?_
  refine g_bipush (pc := 15) (v := (6 : Int32)) C dX7_node_15 (by decide) ?_
  obtain ⟨r13, h13, hf⟩ := ob hf
  refine g_resI (pc := 17) C (rnS (As := [.int x2, .int (6 : Int32)]) (st := []) C (c_X7_within C.2.2.2.2.2.1  h13) lkX7_76 rfl rfl (Nat.le_of_ble_eq_true rfl) ⟨⟨rfl, rfl⟩, Nat.le_of_ble_eq_true rfl, Nat.le_of_ble_eq_true rfl⟩ ⟨Nat.le_of_ble_eq_true rfl, Nat.le_of_ble_eq_true rfl⟩ dX7_node_17) ?_
  refine g_if_ne (pc := 20) (tgt := 26) C hf dX7_node_20 (by decide) (fun hf => ?_) (fun hf => ?_)
  · refine g_bipush (pc := 23) (v := (-2 : Int32)) C dX7_node_23 (by decide) ?_
    exact g_iret C hf dX7_node_25
  refine g_iload_n (pc := 26) C 2 dX7_node_26 rfl rfl ?_
  refine g_case hf (fun hx hf => ?_) (fun hx0 hf => ?_)
  · refine g_tin (pc := 27) (tgt := 60) (v := (0 : Int32)) (i := 0) C dX7_node_27 hx (by decide) (by decide) rfl (by decide) ?_
    refine g_aload_n (pc := 60) C 0 dX7_node_60 rfl rfl ?_
    refine g_getR (pc := 61) (T := 4) C hf fgX7_27 (by decide) hk0 rfl dX7_node_61 (fun a16 hk16 hf => ?_)
    refine g_getR (pc := 64) (T := 9) C hf fgX7_109 (by decide) hk16 rfl dX7_node_64 (fun a17 hk17 hf => ?_)
    refine g_iload_n (pc := 67) C 1 dX7_node_67 rfl rfl ?_
    refine g_iald (pc := 68) C hf hk17 dX7_node_68 (fun v18 hf => ?_)
    exact g_iret C hf dX7_node_69
  refine g_case hf (fun hx hf => ?_) (fun hx1 hf => ?_)
  · refine g_tin (pc := 27) (tgt := 70) (v := (1 : Int32)) (i := 0) C dX7_node_27 hx (by decide) (by decide) rfl (by decide) ?_
    refine g_aload_n (pc := 70) C 0 dX7_node_70 rfl rfl ?_
    refine g_getR (pc := 71) (T := 1) C hf fgX7_34 (by decide) hk0 rfl dX7_node_71 (fun a19 hk19 hf => ?_)
    refine g_getR (pc := 74) (T := 9) C hf fgX7_112 (by decide) hk19 rfl dX7_node_74 (fun a20 hk20 hf => ?_)
    refine g_iload_n (pc := 77) C 1 dX7_node_77 rfl rfl ?_
    refine g_iald (pc := 78) C hf hk20 dX7_node_78 (fun v21 hf => ?_)
    exact g_iret C hf dX7_node_79
  refine g_case hf (fun hx hf => ?_) (fun hx2 hf => ?_)
  · refine g_tin (pc := 27) (tgt := 80) (v := (2 : Int32)) (i := 0) C dX7_node_27 hx (by decide) (by decide) rfl (by decide) ?_
    refine g_aload_n (pc := 80) C 0 dX7_node_80 rfl rfl ?_
    refine g_getR (pc := 81) (T := 1) C hf fgX7_34 (by decide) hk0 rfl dX7_node_81 (fun a22 hk22 hf => ?_)
    refine g_getR (pc := 84) (T := 9) C hf fgX7_115 (by decide) hk22 rfl dX7_node_84 (fun a23 hk23 hf => ?_)
    refine g_iload_n (pc := 87) C 1 dX7_node_87 rfl rfl ?_
    refine g_iald (pc := 88) C hf hk23 dX7_node_88 (fun v24 hf => ?_)
    exact g_iret C hf dX7_node_89
  refine g_case hf (fun hx hf => ?_) (fun hx3 hf => ?_)
  · refine g_tin (pc := 27) (tgt := 90) (v := (3 : Int32)) (i := 0) C dX7_node_27 hx (by decide) (by decide) rfl (by decide) ?_
    refine g_aload_n (pc := 90) C 0 dX7_node_90 rfl rfl ?_
    refine g_getR (pc := 91) (T := 6) C hf fgX7_44 (by decide) hk0 rfl dX7_node_91 (fun a25 hk25 hf => ?_)
    refine g_iload_n (pc := 94) C 1 dX7_node_94 rfl rfl ?_
    obtain ⟨r26, h26, hf⟩ := ob hf
    refine g_resI (pc := 95) C (rnV (As := [.int x1]) (st := []) C (c_X6_rulesOf C.2.2.2.2.2.1 hk25 h26) lkX7_118 rfl (by decide) hk25 rfl rfl (Nat.le_of_ble_eq_true rfl) ⟨⟨rfl, rfl⟩, Nat.le_of_ble_eq_true rfl, Nat.le_of_ble_eq_true rfl⟩ ⟨Nat.le_of_ble_eq_true rfl, Nat.le_of_ble_eq_true rfl⟩ dX7_node_95) ?_
    exact g_iret C hf dX7_node_98
  refine g_case hf (fun hx hf => ?_) (fun hx4 hf => ?_)
  · refine g_tin (pc := 27) (tgt := 99) (v := (4 : Int32)) (i := 0) C dX7_node_27 hx (by decide) (by decide) rfl (by decide) ?_
    refine g_aload_n (pc := 99) C 0 dX7_node_99 rfl rfl ?_
    refine g_getR (pc := 100) (T := 6) C hf fgX7_44 (by decide) hk0 rfl dX7_node_100 (fun a27 hk27 hf => ?_)
    refine g_iload_n (pc := 103) C 1 dX7_node_103 rfl rfl ?_
    obtain ⟨r28, h28, hf⟩ := ob hf
    refine g_resI (pc := 104) C (rnV (As := [.int x1]) (st := []) C (c_X6_recordOf C.2.2.2.2.2.1 hk27 h28) lkX7_122 rfl (by decide) hk27 rfl rfl (Nat.le_of_ble_eq_true rfl) ⟨⟨rfl, rfl⟩, Nat.le_of_ble_eq_true rfl, Nat.le_of_ble_eq_true rfl⟩ ⟨Nat.le_of_ble_eq_true rfl, Nat.le_of_ble_eq_true rfl⟩ dX7_node_104) ?_
    exact g_iret C hf dX7_node_107
  refine g_tout (pc := 27) (tgt := 108) C 4 dX7_node_27 rfl (by decide) (fun i hi => ?_) (by decide) ?_
  · rcases (show i = 0 ∨ i = 1 ∨ i = 2 ∨ i = 3 ∨ i = 4 by omega) with rfl | rfl | rfl | rfl | rfl
    · exact hx0
    · exact hx1
    · exact hx2
    · exact hx3
    · exact hx4
  refine g_aload_n (pc := 108) C 0 dX7_node_108 rfl rfl ?_
  refine g_getR (pc := 109) (T := 4) C hf fgX7_27 (by decide) hk0 rfl dX7_node_109 (fun a14 hk14 hf => ?_)
  refine g_iload_n (pc := 112) C 1 dX7_node_112 rfl rfl ?_
  obtain ⟨r15, h15, hf⟩ := ob hf
  refine g_resI (pc := 113) C (rnV (As := [.int x1]) (st := []) C (c_X4_below C.2.2.2.2.2.1 hk14 h15) lkX7_125 rfl (by decide) hk14 rfl rfl (Nat.le_of_ble_eq_true rfl) ⟨⟨rfl, rfl⟩, Nat.le_of_ble_eq_true rfl, Nat.le_of_ble_eq_true rfl⟩ ⟨Nat.le_of_ble_eq_true rfl, Nat.le_of_ble_eq_true rfl⟩ dX7_node_113) ?_
  exact g_iret C hf dX7_node_116

theorem c_X7_node {l : Launch} {D : va_G} {cy : Nat → ClassId} {Λ : Nat → Nat} (hi : ∀ i j : Nat, Λ i = Λ j → i = j) {M : Mem} {a0 : Nat} {x1 : Int32} {x2 : Int32} {r9 : Int32} (hk0 : Is NN a0 8) (hf : m_X7_node M a0 x1 x2 = some r9) : Ct l yX7_node cX7_node 3 (some .int) { frames := 4, cells := 0, slots := 0, locals := 89 } D cy Λ [.ref (Λ a0), .int x1, .int x2] NN M 0 0 (QcI D cy Λ NN r9 M) := ent (by decide) hi (Nat.le_of_ble_eq_true rfl) (fun p e s m args below meth c C => w_X7_node C hk0 hf)
theorem w_X6_nodesOf {p : Program} {l : Launch} {e : Env} {s : State} {m : MethodId} {args : Array Value} {below : List Frame} {meth : Method} {c : Code} {D : va_G} {cy : Nat → ClassId} {Λ : Nat → Nat} (C : Cx p s m args meth c cX6_nodesOf 2 RX6 (some .int) D cy Λ (AA Λ s.heap.size)) {M : Mem} {a0 : Nat} {x1 : Int32} {r9 : Int32} (hk0 : Is NN a0 7) (hf : m_X6_nodesOf M a0 x1 = some r9) : GW p l e { frames := 1, cells := 0, slots := 0, locals := 21 } s m args below meth c D cy Λ 2 (QcI D cy Λ NN r9 M) M 0 [(0, .ref (Λ a0)), (1, .int x1)] [] := by
  unfold m_X6_nodesOf at hf
  refine g_iload_n (pc := 0) C 1 dX6_nodesOf_0 rfl rfl ?_
  refine g_bipush (pc := 1) (v := (8 : Int32)) C dX6_nodesOf_1 (by decide) ?_
  obtain ⟨r11, h11, hf⟩ := ob hf
  refine g_resI (pc := 3) C (rnSN (As := [.int x1, .int (8 : Int32)]) (st := []) C (c_X7_within C.2.2.2.2.2.1  h11) lknX6_67 rfl rfl (Nat.le_of_ble_eq_true rfl) ⟨⟨rfl, rfl⟩, Nat.le_of_ble_eq_true rfl, Nat.le_of_ble_eq_true rfl⟩ ⟨Nat.le_of_ble_eq_true rfl, Nat.le_of_ble_eq_true rfl⟩ dX6_nodesOf_3) ?_
  refine g_if_eq (pc := 6) (tgt := 18) C hf dX6_nodesOf_6 (by decide) (fun hf => ?_) (fun hf => ?_)
  · refine g_iconst (pc := 18) (v := (0 : Int32)) C dX6_nodesOf_18 (by decide) ?_
    exact g_iret C hf dX6_nodesOf_19
  refine g_aload_n (pc := 9) C 0 dX6_nodesOf_9 rfl rfl ?_
  refine g_getR (pc := 10) (T := 9) C hf fgX6_15 (by decide) hk0 rfl dX6_nodesOf_10 (fun a12 hk12 hf => ?_)
  refine g_iload_n (pc := 13) C 1 dX6_nodesOf_13 rfl rfl ?_
  refine g_iald (pc := 14) C hf hk12 dX6_nodesOf_14 (fun v13 hf => ?_)
  refine g_goto (pc := 15) (tgt := 19) C dX6_nodesOf_15 (by decide) ?_
  exact g_iret C hf dX6_nodesOf_19

theorem c_X6_nodesOf {l : Launch} {D : va_G} {cy : Nat → ClassId} {Λ : Nat → Nat} (hi : ∀ i j : Nat, Λ i = Λ j → i = j) {M : Mem} {a0 : Nat} {x1 : Int32} {r9 : Int32} (hk0 : Is NN a0 7) (hf : m_X6_nodesOf M a0 x1 = some r9) : Ct l yX6_nodesOf cX6_nodesOf 2 (some .int) { frames := 1, cells := 0, slots := 0, locals := 21 } D cy Λ [.ref (Λ a0), .int x1] NN M 0 0 (QcI D cy Λ NN r9 M) := ent (by decide) hi (Nat.le_of_ble_eq_true rfl) (fun p e s m args below meth c C => w_X6_nodesOf C hk0 hf)
theorem w_X7_rule {p : Program} {l : Launch} {e : Env} {s : State} {m : MethodId} {args : Array Value} {below : List Frame} {meth : Method} {c : Code} {D : va_G} {cy : Nat → ClassId} {Λ : Nat → Nat} (C : Cx p s m args meth c cX7_rule 4 RX7 (some .int) D cy Λ (AA Λ s.heap.size)) {M : Mem} {a0 : Nat} {x1 : Int32} {x2 : Int32} {r9 : Int32} (hk0 : Is NN a0 8) (hf : m_X7_rule M a0 x1 x2 = some r9) : GW p l e { frames := 2, cells := 0, slots := 0, locals := 42 } s m args below meth c D cy Λ 4 (QcI D cy Λ NN r9 M) M 0 [(0, .ref (Λ a0)), (1, .int x1), (2, .int x2)] [] := by
  unfold m_X7_rule at hf
  refine g_iload_n (pc := 0) C 1 dX7_rule_0 rfl rfl ?_
  refine g_aload_n (pc := 1) C 0 dX7_rule_1 rfl rfl ?_
  refine g_getR (pc := 2) (T := 4) C hf fgX7_27 (by decide) hk0 rfl dX7_rule_2 (fun a11 hk11 hf => ?_)
  refine g_getI (pc := 5) C fgX7_128 (by decide) hk11 rfl dX7_rule_5 ?_
  obtain ⟨r12, h12, hf⟩ := ob hf
  refine g_resI (pc := 8) C (rnS (As := [.int x1, .int (M.2 a11 1)]) (st := []) C (c_X7_within C.2.2.2.2.2.1  h12) lkX7_76 rfl rfl (Nat.le_of_ble_eq_true rfl) ⟨⟨rfl, rfl⟩, Nat.le_of_ble_eq_true rfl, Nat.le_of_ble_eq_true rfl⟩ ⟨Nat.le_of_ble_eq_true rfl, Nat.le_of_ble_eq_true rfl⟩ dX7_rule_8) ?_
  refine g_if_eq (pc := 11) (tgt := 23) C hf dX7_rule_11 (by decide) (fun hf => ?_) (fun hf => ?_)
  · refine g_bipush (pc := 23) (v := (-2 : Int32)) C dX7_rule_23 (by decide) ?_
    exact g_iret C hf dX7_rule_25
  refine g_iload_n (pc := 14) C 2 dX7_rule_14 rfl rfl ?_
  refine g_bipush (pc := 15) (v := (7 : Int32)) C dX7_rule_15 (by decide) ?_
  obtain ⟨r13, h13, hf⟩ := ob hf
  refine g_resI (pc := 17) C (rnS (As := [.int x2, .int (7 : Int32)]) (st := []) C (c_X7_within C.2.2.2.2.2.1  h13) lkX7_76 rfl rfl (Nat.le_of_ble_eq_true rfl) ⟨⟨rfl, rfl⟩, Nat.le_of_ble_eq_true rfl, Nat.le_of_ble_eq_true rfl⟩ ⟨Nat.le_of_ble_eq_true rfl, Nat.le_of_ble_eq_true rfl⟩ dX7_rule_17) ?_
  refine g_if_ne (pc := 20) (tgt := 26) C hf dX7_rule_20 (by decide) (fun hf => ?_) (fun hf => ?_)
  · refine g_bipush (pc := 23) (v := (-2 : Int32)) C dX7_rule_23 (by decide) ?_
    exact g_iret C hf dX7_rule_25
  refine g_aload_n (pc := 26) C 0 dX7_rule_26 rfl rfl ?_
  refine g_getR (pc := 27) (T := 4) C hf fgX7_27 (by decide) hk0 rfl dX7_rule_27 (fun a14 hk14 hf => ?_)
  refine g_getR (pc := 30) (T := 13) C hf fgX7_131 (by decide) hk14 rfl dX7_rule_30 (fun a15 hk15 hf => ?_)
  refine g_iload_n (pc := 33) C 1 dX7_rule_33 rfl rfl ?_
  refine g_aald4 (pc := 34) (T := 3) C hf hk15 dX7_rule_34 (fun a16 hk16 hf => ?_)
  refine g_astore_n (pc := 35) (lv2 := [(3, .ref (Λ a16)), (0, .ref (Λ a0)), (1, .int x1), (2, .int x2)]) C dX7_rule_35 rfl (by decide) rfl ?_
  refine g_iload_n (pc := 36) C 3 dX7_rule_36 rfl rfl ?_
  refine g_case hf (fun hx hf => ?_) (fun hx0 hf => ?_)
  · refine g_tin (pc := 37) (tgt := 76) (v := (0 : Int32)) (i := 0) C dX7_rule_37 hx (by decide) (by decide) rfl (by decide) ?_
    refine g_aload_n (pc := 76) C 0 dX7_rule_76 rfl rfl ?_
    refine g_getI (pc := 77) C fgX7_135 (by decide) hk16 rfl dX7_rule_77 ?_
    refine g_if_eq (pc := 80) (tgt := 87) C hf dX7_rule_80 (by decide) (fun hf => ?_) (fun hf => ?_)
    · refine g_iconst (pc := 87) (v := (0 : Int32)) C dX7_rule_87 (by decide) ?_
      exact g_iret C hf dX7_rule_88
    refine g_iconst (pc := 83) (v := (1 : Int32)) C dX7_rule_83 (by decide) ?_
    refine g_goto (pc := 84) (tgt := 88) C dX7_rule_84 (by decide) ?_
    exact g_iret C hf dX7_rule_88
  refine g_case hf (fun hx hf => ?_) (fun hx1 hf => ?_)
  · refine g_tin (pc := 37) (tgt := 89) (v := (1 : Int32)) (i := 0) C dX7_rule_37 hx (by decide) (by decide) rfl (by decide) ?_
    refine g_aload_n (pc := 89) C 0 dX7_rule_89 rfl rfl ?_
    refine g_getI (pc := 90) C fgX7_141 (by decide) hk16 rfl dX7_rule_90 ?_
    exact g_iret C hf dX7_rule_93
  refine g_case hf (fun hx hf => ?_) (fun hx2 hf => ?_)
  · refine g_tin (pc := 37) (tgt := 94) (v := (2 : Int32)) (i := 0) C dX7_rule_37 hx (by decide) (by decide) rfl (by decide) ?_
    refine g_aload_n (pc := 94) C 0 dX7_rule_94 rfl rfl ?_
    refine g_getI (pc := 95) C fgX7_144 (by decide) hk16 rfl dX7_rule_95 ?_
    exact g_iret C hf dX7_rule_98
  refine g_case hf (fun hx hf => ?_) (fun hx3 hf => ?_)
  · refine g_tin (pc := 37) (tgt := 99) (v := (3 : Int32)) (i := 0) C dX7_rule_37 hx (by decide) (by decide) rfl (by decide) ?_
    refine g_aload_n (pc := 99) C 0 dX7_rule_99 rfl rfl ?_
    refine g_getI (pc := 100) C fgX7_147 (by decide) hk16 rfl dX7_rule_100 ?_
    exact g_iret C hf dX7_rule_103
  refine g_case hf (fun hx hf => ?_) (fun hx4 hf => ?_)
  · refine g_tin (pc := 37) (tgt := 104) (v := (4 : Int32)) (i := 0) C dX7_rule_37 hx (by decide) (by decide) rfl (by decide) ?_
    refine g_aload_n (pc := 104) C 0 dX7_rule_104 rfl rfl ?_
    refine g_getI (pc := 105) C fgX7_150 (by decide) hk16 rfl dX7_rule_105 ?_
    exact g_iret C hf dX7_rule_108
  refine g_case hf (fun hx hf => ?_) (fun hx5 hf => ?_)
  · refine g_tin (pc := 37) (tgt := 109) (v := (5 : Int32)) (i := 0) C dX7_rule_37 hx (by decide) (by decide) rfl (by decide) ?_
    refine g_aload_n (pc := 109) C 1 dX7_rule_109 rfl rfl ?_
    refine g_getR (pc := 110) (T := 1) C hf fgX7_34 (by decide) hk0 rfl dX7_rule_110 (fun a19 hk19 hf => ?_)
    refine g_iload_n (pc := 113) C 2 dX7_rule_113 rfl rfl ?_
    obtain ⟨r20, h20, hf⟩ := ob hf
    refine g_resI (pc := 114) C (rnV (As := [.int x1]) (st := []) C (c_X1_hasOn C.2.2.2.2.2.1 hk19 h20) lkX7_153 rfl (by decide) hk19 rfl rfl (Nat.le_of_ble_eq_true rfl) ⟨⟨rfl, rfl⟩, Nat.le_of_ble_eq_true rfl, Nat.le_of_ble_eq_true rfl⟩ ⟨Nat.le_of_ble_eq_true rfl, Nat.le_of_ble_eq_true rfl⟩ dX7_rule_114) ?_
    refine g_if_eq (pc := 117) (tgt := 124) C hf dX7_rule_117 (by decide) (fun hf => ?_) (fun hf => ?_)
    · refine g_iconst (pc := 124) (v := (0 : Int32)) C dX7_rule_124 (by decide) ?_
      exact g_iret C hf dX7_rule_125
    refine g_iconst (pc := 120) (v := (1 : Int32)) C dX7_rule_120 (by decide) ?_
    refine g_goto (pc := 121) (tgt := 125) C dX7_rule_121 (by decide) ?_
    exact g_iret C hf dX7_rule_125
  refine g_tout (pc := 37) (tgt := 126) C 5 dX7_rule_37 rfl (by decide) (fun i hi => ?_) (by decide) ?_
  · rcases (show i = 0 ∨ i = 1 ∨ i = 2 ∨ i = 3 ∨ i = 4 ∨ i = 5 by omega) with rfl | rfl | rfl | rfl | rfl | rfl
    · exact hx0
    · exact hx1
    · exact hx2
    · exact hx3
    · exact hx4
    · exact hx5
  refine g_aload_n (pc := 126) C 1 dX7_rule_126 rfl rfl ?_
  refine g_getR (pc := 127) (T := 6) C hf fgX7_44 (by decide) hk0 rfl dX7_rule_127 (fun a17 hk17 hf => ?_)
  refine g_iload_n (pc := 130) C 2 dX7_rule_130 rfl rfl ?_
  obtain ⟨r18, h18, hf⟩ := ob hf
  refine g_resI (pc := 131) C (rnV (As := [.int x1]) (st := []) C (c_X6_nodesOf C.2.2.2.2.2.1 hk17 h18) lkX7_157 rfl (by decide) hk17 rfl rfl (Nat.le_of_ble_eq_true rfl) ⟨⟨rfl, rfl⟩, Nat.le_of_ble_eq_true rfl, Nat.le_of_ble_eq_true rfl⟩ ⟨Nat.le_of_ble_eq_true rfl, Nat.le_of_ble_eq_true rfl⟩ dX7_rule_131) ?_
  exact g_iret C hf dX7_rule_134

theorem c_X7_rule {l : Launch} {D : va_G} {cy : Nat → ClassId} {Λ : Nat → Nat} (hi : ∀ i j : Nat, Λ i = Λ j → i = j) {M : Mem} {a0 : Nat} {x1 : Int32} {x2 : Int32} {r9 : Int32} (hk0 : Is NN a0 8) (hf : m_X7_rule M a0 x1 x2 = some r9) : Ct l yX7_rule cX7_rule 4 (some .int) { frames := 2, cells := 0, slots := 0, locals := 42 } D cy Λ [.ref (Λ a0), .int x1, .int x2] NN M 0 0 (QcI D cy Λ NN r9 M) := ent (by decide) hi (Nat.le_of_ble_eq_true rfl) (fun p e s m args below meth c C => w_X7_rule C hk0 hf)
theorem w_X1_putTag {p : Program} {l : Launch} {e : Env} {s : State} {m : MethodId} {args : Array Value} {below : List Frame} {meth : Method} {c : Code} {D : va_G} {cy : Nat → ClassId} {Λ : Nat → Nat} (C : Cx p s m args meth c cX1_putTag 3 RX1 none D cy Λ (AA Λ s.heap.size)) {M : Mem} {a0 : Nat} {x1 : Int32} {x2 : Int32} {M9 : Mem} (hk0 : Is NN a0 2) (hf : m_X1_putTag M a0 x1 x2 = some M9) : GW p l e { frames := 1, cells := 0, slots := 0, locals := 21 } s m args below meth c D cy Λ 3 (QcV D cy Λ NN M9) M 0 [(0, .ref (Λ a0)), (1, .int x1), (2, .int x2)] [] := by
  unfold m_X1_putTag at hf
  refine g_iload_n (pc := 0) C 1 dX1_putTag_0 rfl rfl ?_
  refine g_bipush (pc := 1) (v := (9 : Int32)) C dX1_putTag_1 (by decide) ?_
  obtain ⟨r11, h11, hf⟩ := ob hf
  refine g_resI (pc := 3) C (rnSN (As := [.int x1, .int (9 : Int32)]) (st := []) C (c_X7_within C.2.2.2.2.2.1  h11) lknX1_39 rfl rfl (Nat.le_of_ble_eq_true rfl) ⟨⟨rfl, rfl⟩, Nat.le_of_ble_eq_true rfl, Nat.le_of_ble_eq_true rfl⟩ ⟨Nat.le_of_ble_eq_true rfl, Nat.le_of_ble_eq_true rfl⟩ dX1_putTag_3) ?_
  refine g_if_eq (pc := 6) (tgt := 16) C hf dX1_putTag_6 (by decide) (fun hf => ?_) (fun hf => ?_)
  · exact g_vret C hf dX1_putTag_16
  refine g_aload_n (pc := 9) C 0 dX1_putTag_9 rfl rfl ?_
  refine g_getR (pc := 10) (T := 9) C hf fgX1_9 (by decide) hk0 rfl dX1_putTag_10 (fun a12 hk12 hf => ?_)
  refine g_iload_n (pc := 13) C 1 dX1_putTag_13 rfl rfl ?_
  refine g_iload_n (pc := 14) C 2 dX1_putTag_14 rfl rfl ?_
  refine g_iast (pc := 15) C hf hk12 dX1_putTag_15 (fun M13 hf => ?_)
  exact g_vret C hf dX1_putTag_16

theorem c_X1_putTag {l : Launch} {D : va_G} {cy : Nat → ClassId} {Λ : Nat → Nat} (hi : ∀ i j : Nat, Λ i = Λ j → i = j) {M : Mem} {a0 : Nat} {x1 : Int32} {x2 : Int32} {M9 : Mem} (hk0 : Is NN a0 2) (hf : m_X1_putTag M a0 x1 x2 = some M9) : Ct l yX1_putTag cX1_putTag 3 none { frames := 1, cells := 0, slots := 0, locals := 21 } D cy Λ [.ref (Λ a0), .int x1, .int x2] NN M 0 0 (QcV D cy Λ NN M9) := ent (by decide) hi (Nat.le_of_ble_eq_true rfl) (fun p e s m args below meth c C => w_X1_putTag C hk0 hf)
theorem w_X1_flipClass {p : Program} {l : Launch} {e : Env} {s : State} {m : MethodId} {args : Array Value} {below : List Frame} {meth : Method} {c : Code} {D : va_G} {cy : Nat → ClassId} {Λ : Nat → Nat} (C : Cx p s m args meth c cX1_flipClass 3 RX1 none D cy Λ (AA Λ s.heap.size)) {M : Mem} {a0 : Nat} {x1 : Int32} {x2 : Int32} {M9 : Mem} (hk0 : Is NN a0 2) (hf : m_X1_flipClass M a0 x1 x2 = some M9) : GW p l e { frames := 1, cells := 0, slots := 0, locals := 21 } s m args below meth c D cy Λ 3 (QcV D cy Λ NN M9) M 0 [(0, .ref (Λ a0)), (1, .int x1), (2, .int x2)] [] := by
  unfold m_X1_flipClass at hf
  refine g_iload_n (pc := 0) C 1 dX1_flipClass_0 rfl rfl ?_
  refine g_bipush (pc := 1) (v := (9 : Int32)) C dX1_flipClass_1 (by decide) ?_
  obtain ⟨r11, h11, hf⟩ := ob hf
  refine g_resI (pc := 3) C (rnSN (As := [.int x1, .int (9 : Int32)]) (st := []) C (c_X7_within C.2.2.2.2.2.1  h11) lknX1_39 rfl rfl (Nat.le_of_ble_eq_true rfl) ⟨⟨rfl, rfl⟩, Nat.le_of_ble_eq_true rfl, Nat.le_of_ble_eq_true rfl⟩ ⟨Nat.le_of_ble_eq_true rfl, Nat.le_of_ble_eq_true rfl⟩ dX1_flipClass_3) ?_
  refine g_if_eq (pc := 6) (tgt := 21) C hf dX1_flipClass_6 (by decide) (fun hf => ?_) (fun hf => ?_)
  · exact g_vret C hf dX1_flipClass_21
  refine g_aload_n (pc := 9) C 0 dX1_flipClass_9 rfl rfl ?_
  refine g_getR (pc := 10) (T := 9) C hf fgX1_15 (by decide) hk0 rfl dX1_flipClass_10 (fun a12 hk12 hf => ?_)
  refine g_iload_n (pc := 13) C 1 dX1_flipClass_13 rfl rfl ?_
  refine g_dup2 (pc := 14) C dX1_flipClass_14 rfl rfl ?_
  refine g_iald (pc := 15) C hf hk12 dX1_flipClass_15 (fun v13 hf => ?_)
  refine g_iconst (pc := 16) (v := (1 : Int32)) C dX1_flipClass_16 (by decide) ?_
  refine g_iload_n (pc := 17) C 2 dX1_flipClass_17 rfl rfl ?_
  refine g_ishl (pc := 18) C dX1_flipClass_18 ?_
  refine g_ixor (pc := 19) C dX1_flipClass_19 ?_
  refine g_iast (pc := 20) C hf hk12 dX1_flipClass_20 (fun M14 hf => ?_)
  exact g_vret C hf dX1_flipClass_21

theorem c_X1_flipClass {l : Launch} {D : va_G} {cy : Nat → ClassId} {Λ : Nat → Nat} (hi : ∀ i j : Nat, Λ i = Λ j → i = j) {M : Mem} {a0 : Nat} {x1 : Int32} {x2 : Int32} {M9 : Mem} (hk0 : Is NN a0 2) (hf : m_X1_flipClass M a0 x1 x2 = some M9) : Ct l yX1_flipClass cX1_flipClass 3 none { frames := 1, cells := 0, slots := 0, locals := 21 } D cy Λ [.ref (Λ a0), .int x1, .int x2] NN M 0 0 (QcV D cy Λ NN M9) := ent (by decide) hi (Nat.le_of_ble_eq_true rfl) (fun p e s m args below meth c C => w_X1_flipClass C hk0 hf)
theorem w_X1_apply {p : Program} {l : Launch} {e : Env} {s : State} {m : MethodId} {args : Array Value} {below : List Frame} {meth : Method} {c : Code} {D : va_G} {cy : Nat → ClassId} {Λ : Nat → Nat} (C : Cx p s m args meth c cX1_apply 2 RX1 none D cy Λ (AA Λ s.heap.size)) {M : Mem} {a0 : Nat} {x1 : Int32} {M9 : Mem} (hk0 : Is NN a0 2) (hf : m_X1_apply M a0 x1 = some M9) : GW p l e { frames := 2, cells := 0, slots := 0, locals := 43 } s m args below meth c D cy Λ 2 (QcV D cy Λ NN M9) M 0 [(0, .ref (Λ a0)), (1, .int x1)] [] := by
  unfold m_X1_apply at hf
  refine g_iload_n (pc := 0) C 1 dX1_apply_0 rfl rfl ?_
  refine g_sipush (pc := 1) (v := (200 : Int32)) C dX1_apply_1 (by decide) ?_
  refine g_ic_lt (pc := 4) (tgt := 28) C hf dX1_apply_4 (by decide) (fun hf => ?_) (fun hf => ?_)
  · refine g_iload_n (pc := 28) C 1 dX1_apply_28 rfl rfl ?_
    refine g_bipush (pc := 29) (v := (100 : Int32)) C dX1_apply_29 (by decide) ?_
    refine g_ic_lt (pc := 31) (tgt := 52) C hf dX1_apply_31 (by decide) (fun hf => ?_) (fun hf => ?_)
    · refine g_aload_n (pc := 52) C 0 dX1_apply_52 rfl rfl ?_
      refine g_iload_n (pc := 53) C 1 dX1_apply_53 rfl rfl ?_
      refine g_iconst (pc := 54) (v := (4 : Int32)) C dX1_apply_54 (by decide) ?_
      refine g_idiv (pc := 55) C hf dX1_apply_55 (fun hf => ?_)
      refine g_iload_n (pc := 56) C 1 dX1_apply_56 rfl rfl ?_
      refine g_iconst (pc := 57) (v := (4 : Int32)) C dX1_apply_57 (by decide) ?_
      refine g_irem (pc := 58) C hf dX1_apply_58 (fun hf => ?_)
      obtain ⟨M11, h11, hf⟩ := ob hf
      refine g_resV (pc := 59) C (rnV (As := [.int (x1 / (4 : Int32)), .int (x1 - x1 / (4 : Int32) * (4 : Int32))]) (st := []) C (c_X1_flipClass C.2.2.2.2.2.1 hk0 h11) lkX1_36 rfl (by decide) hk0 rfl rfl (Nat.le_of_ble_eq_true rfl) ⟨⟨rfl, rfl⟩, Nat.le_of_ble_eq_true rfl, Nat.le_of_ble_eq_true rfl⟩ ⟨Nat.le_of_ble_eq_true rfl, Nat.le_of_ble_eq_true rfl⟩ dX1_apply_59) ?_
      exact g_vret C hf dX1_apply_62
    refine g_aload_n (pc := 34) C 0 dX1_apply_34 rfl rfl ?_
    refine g_dup (pc := 35) C dX1_apply_35 rfl ?_
    refine g_getI (pc := 36) C fgX1_18 (by decide) hk0 rfl dX1_apply_36 ?_
    refine g_iconst (pc := 39) (v := (1 : Int32)) C dX1_apply_39 (by decide) ?_
    refine g_iload_n (pc := 40) C 1 dX1_apply_40 rfl rfl ?_
    refine g_bipush (pc := 41) (v := (100 : Int32)) C dX1_apply_41 (by decide) ?_
    refine g_isub (pc := 43) C dX1_apply_43 ?_
    refine g_ishl (pc := 44) C dX1_apply_44 ?_
    refine g_ixor (pc := 45) C dX1_apply_45 ?_
    refine g_pI (pc := 46) C hf fpX1_18 (by decide) hk0 stX1_2 (Nat.le_of_ble_eq_true rfl) rfl rfl dX1_apply_46 (fun M12 hf => ?_)
    refine g_goto (pc := 49) (tgt := 62) C dX1_apply_49 (by decide) ?_
    exact g_vret C hf dX1_apply_62
  refine g_aload_n (pc := 7) C 0 dX1_apply_7 rfl rfl ?_
  refine g_iload_n (pc := 8) C 1 dX1_apply_8 rfl rfl ?_
  refine g_sipush (pc := 9) (v := (200 : Int32)) C dX1_apply_9 (by decide) ?_
  refine g_isub (pc := 12) C dX1_apply_12 ?_
  refine g_iconst (pc := 13) (v := (4 : Int32)) C dX1_apply_13 (by decide) ?_
  refine g_idiv (pc := 14) C hf dX1_apply_14 (fun hf => ?_)
  refine g_iload_n (pc := 15) C 1 dX1_apply_15 rfl rfl ?_
  refine g_sipush (pc := 16) (v := (200 : Int32)) C dX1_apply_16 (by decide) ?_
  refine g_isub (pc := 19) C dX1_apply_19 ?_
  refine g_iconst (pc := 20) (v := (4 : Int32)) C dX1_apply_20 (by decide) ?_
  refine g_irem (pc := 21) C hf dX1_apply_21 (fun hf => ?_)
  obtain ⟨M13, h13, hf⟩ := ob hf
  refine g_resV (pc := 22) C (rnV (As := [.int ((x1 - (200 : Int32)) / (4 : Int32)), .int ((x1 - (200 : Int32)) - (x1 - (200 : Int32)) / (4 : Int32) * (4 : Int32))]) (st := []) C (c_X1_putTag C.2.2.2.2.2.1 hk0 h13) lkX1_32 rfl (by decide) hk0 rfl rfl (Nat.le_of_ble_eq_true rfl) ⟨⟨rfl, rfl⟩, Nat.le_of_ble_eq_true rfl, Nat.le_of_ble_eq_true rfl⟩ ⟨Nat.le_of_ble_eq_true rfl, Nat.le_of_ble_eq_true rfl⟩ dX1_apply_22) ?_
  refine g_goto (pc := 25) (tgt := 62) C dX1_apply_25 (by decide) ?_
  exact g_vret C hf dX1_apply_62

theorem c_X1_apply {l : Launch} {D : va_G} {cy : Nat → ClassId} {Λ : Nat → Nat} (hi : ∀ i j : Nat, Λ i = Λ j → i = j) {M : Mem} {a0 : Nat} {x1 : Int32} {M9 : Mem} (hk0 : Is NN a0 2) (hf : m_X1_apply M a0 x1 = some M9) : Ct l yX1_apply cX1_apply 2 none { frames := 2, cells := 0, slots := 0, locals := 43 } D cy Λ [.ref (Λ a0), .int x1] NN M 0 0 (QcV D cy Λ NN M9) := ent (by decide) hi (Nat.le_of_ble_eq_true rfl) (fun p e s m args below meth c C => w_X1_apply C hk0 hf)
theorem w_X0_add_L34 {p : Program} {l : Launch} {e : Env} {s : State} {m : MethodId} {args : Array Value} {below : List Frame} {meth : Method} {c : Code} {D : va_G} {cy : Nat → ClassId} {Λ : Nat → Nat} (C : Cx p s m args meth c cX0_add 2 RX0 none D cy Λ (AA Λ s.heap.size)) {a0 : Nat} {x1 : Int32}  {M9 : Mem} (hk0 : Is NN a0 1)  : ∀ (M : Mem), m_X0_add_L34 a0 x1 M = some M9 → GW p l e { frames := 1, cells := 0, slots := 0, locals := 30 } s m args below meth c D cy Λ 2 (QcV D cy Λ NN M9) M 34 [(0, .ref (Λ a0)), (1, .int x1)] [] := by
  intro M  hf
  unfold m_X0_add_L34 at hf
  refine g_aload_n (pc := 34) C 0 dX0_add_34 rfl rfl ?_
  refine g_getI (pc := 35) C fgX0_15 (by decide) hk0 rfl dX0_add_35 ?_
  refine g_bipush (pc := 38) (v := (10 : Int32)) C dX0_add_38 (by decide) ?_
  obtain ⟨r11, h11, hf⟩ := ob hf
  refine g_resI (pc := 40) C (rnSN (As := [.int (M.2 a0 1), .int (10 : Int32)]) (st := []) C (c_X7_within C.2.2.2.2.2.1  h11) lknX0_25 rfl rfl (Nat.le_of_ble_eq_true rfl) ⟨⟨rfl, rfl⟩, Nat.le_of_ble_eq_true rfl, Nat.le_of_ble_eq_true rfl⟩ ⟨Nat.le_of_ble_eq_true rfl, Nat.le_of_ble_eq_true rfl⟩ dX0_add_40) ?_
  refine g_if_eq (pc := 43) (tgt := 66) C hf dX0_add_43 (by decide) (fun hf => ?_) (fun hf => ?_)
  · exact g_vret C hf dX0_add_66
  refine g_aload_n (pc := 46) C 0 dX0_add_46 rfl rfl ?_
  refine g_getR (pc := 47) (T := 9) C hf fgX0_9 (by decide) hk0 rfl dX0_add_47 (fun a12 hk12 hf => ?_)
  refine g_aload_n (pc := 50) C 0 dX0_add_50 rfl rfl ?_
  refine g_getI (pc := 51) C fgX0_15 (by decide) hk0 rfl dX0_add_51 ?_
  refine g_iload_n (pc := 54) C 1 dX0_add_54 rfl rfl ?_
  refine g_iast (pc := 55) C hf hk12 dX0_add_55 (fun M13 hf => ?_)
  refine g_aload_n (pc := 56) C 0 dX0_add_56 rfl rfl ?_
  refine g_dup (pc := 57) C dX0_add_57 rfl ?_
  refine g_getI (pc := 58) C fgX0_15 (by decide) hk0 rfl dX0_add_58 ?_
  refine g_iconst (pc := 61) (v := (1 : Int32)) C dX0_add_61 (by decide) ?_
  refine g_iadd (pc := 62) C dX0_add_62 ?_
  refine g_pI (pc := 63) C hf fpX0_15 (by decide) hk0 stX0_1 (Nat.le_of_ble_eq_true rfl) rfl rfl dX0_add_63 (fun M14 hf => ?_)
  exact g_vret C hf dX0_add_66

theorem w_X0_add {p : Program} {l : Launch} {e : Env} {s : State} {m : MethodId} {args : Array Value} {below : List Frame} {meth : Method} {c : Code} {D : va_G} {cy : Nat → ClassId} {Λ : Nat → Nat} (C : Cx p s m args meth c cX0_add 2 RX0 none D cy Λ (AA Λ s.heap.size)) {M : Mem} {a0 : Nat} {x1 : Int32} {M9 : Mem} (hk0 : Is NN a0 1) (hf : m_X0_add M a0 x1 = some M9) : GW p l e { frames := 1, cells := 0, slots := 0, locals := 30 } s m args below meth c D cy Λ 2 (QcV D cy Λ NN M9) M 0 [(0, .ref (Λ a0)), (1, .int x1)] [] := by
  unfold m_X0_add at hf
  refine g_aload_n (pc := 0) C 0 dX0_add_0 rfl rfl ?_
  refine g_getI (pc := 1) C fgX0_15 (by decide) hk0 rfl dX0_add_1 ?_
  refine g_bipush (pc := 4) (v := (10 : Int32)) C dX0_add_4 (by decide) ?_
  refine g_ic_ne (pc := 6) (tgt := 34) C hf dX0_add_6 (by decide) (fun hf => ?_) (fun hf => ?_)
  · refine g_aload_n (pc := 9) C 0 dX0_add_9 rfl rfl ?_
    refine g_getR (pc := 10) (T := 9) C hf fgX0_9 (by decide) hk0 rfl dX0_add_10 (fun a11 hk11 hf => ?_)
    refine g_iconst (pc := 13) (v := (1 : Int32)) C dX0_add_13 (by decide) ?_
    refine g_aload_n (pc := 14) C 0 dX0_add_14 rfl rfl ?_
    refine g_getR (pc := 15) (T := 9) C hf fgX0_9 (by decide) hk0 rfl dX0_add_15 (fun a12 hk12 hf => ?_)
    refine g_iconst (pc := 18) (v := (0 : Int32)) C dX0_add_18 (by decide) ?_
    refine g_bipush (pc := 19) (v := (9 : Int32)) C dX0_add_19 (by decide) ?_
    refine g_copy (pc := 21) C hf hk11 hk12 tw_562 tw_451 tw_450 tw_72 ⟨Nat.le_of_ble_eq_true rfl, Nat.le_of_ble_eq_true rfl⟩ dX0_add_21 (fun M13 hf => ?_)
    refine g_aload_n (pc := 24) C 0 dX0_add_24 rfl rfl ?_
    refine g_dup (pc := 25) C dX0_add_25 rfl ?_
    refine g_getI (pc := 26) C fgX0_15 (by decide) hk0 rfl dX0_add_26 ?_
    refine g_iconst (pc := 29) (v := (1 : Int32)) C dX0_add_29 (by decide) ?_
    refine g_isub (pc := 30) C dX0_add_30 ?_
    refine g_pI (pc := 31) C hf fpX0_15 (by decide) hk0 stX0_1 (Nat.le_of_ble_eq_true rfl) rfl rfl dX0_add_31 (fun M14 hf => ?_)
    exact w_X0_add_L34 C hk0 M14  hf
  exact w_X0_add_L34 C hk0 M  hf

theorem c_X0_add {l : Launch} {D : va_G} {cy : Nat → ClassId} {Λ : Nat → Nat} (hi : ∀ i j : Nat, Λ i = Λ j → i = j) {M : Mem} {a0 : Nat} {x1 : Int32} {M9 : Mem} (hk0 : Is NN a0 1) (hf : m_X0_add M a0 x1 = some M9) : Ct l yX0_add cX0_add 2 none { frames := 1, cells := 0, slots := 0, locals := 30 } D cy Λ [.ref (Λ a0), .int x1] NN M 0 0 (QcV D cy Λ NN M9) := ent (by decide) hi (Nat.le_of_ble_eq_true rfl) (fun p e s m args below meth c C => w_X0_add C hk0 hf)
theorem w_X7_perform {p : Program} {l : Launch} {e : Env} {s : State} {m : MethodId} {args : Array Value} {below : List Frame} {meth : Method} {c : Code} {D : va_G} {cy : Nat → ClassId} {Λ : Nat → Nat} (C : Cx p s m args meth c cX7_perform 3 RX7 none D cy Λ (AA Λ s.heap.size)) {M : Mem} {a0 : Nat} {x1 : Int32} {x2 : Int32} {M9 : Mem} (hk0 : Is NN a0 8) (hf : m_X7_perform M a0 x1 x2 = some M9) : GW p l e { frames := 5, cells := 0, slots := 0, locals := 117 } s m args below meth c D cy Λ 3 (QcV D cy Λ NN M9) M 0 [(0, .ref (Λ a0)), (1, .int x1), (2, .int x2)] [] := by
  unfold m_X7_perform at hf
  refine g_aload_n (pc := 0) C 0 dX7_perform_0 rfl rfl ?_
  refine g_getR (pc := 1) (T := 1) C hf fgX7_34 (by decide) hk0 rfl dX7_perform_1 (fun a11 hk11 hf => ?_)
  refine g_iload_n (pc := 4) C 1 dX7_perform_4 rfl rfl ?_
  obtain ⟨M12, h12, hf⟩ := ob hf
  refine g_resV (pc := 5) C (rnV (As := [.int x1]) (st := []) C (c_X1_apply C.2.2.2.2.2.1 hk11 h12) lkX7_167 rfl (by decide) hk11 rfl rfl (Nat.le_of_ble_eq_true rfl) ⟨⟨rfl, rfl⟩, Nat.le_of_ble_eq_true rfl, Nat.le_of_ble_eq_true rfl⟩ ⟨Nat.le_of_ble_eq_true rfl, Nat.le_of_ble_eq_true rfl⟩ dX7_perform_5) ?_
  refine g_aload_n (pc := 8) C 0 dX7_perform_8 rfl rfl ?_
  refine g_getR (pc := 9) (T := 0) C hf fgX7_54 (by decide) hk0 rfl dX7_perform_9 (fun a13 hk13 hf => ?_)
  refine g_iload_n (pc := 12) C 2 dX7_perform_12 rfl rfl ?_
  obtain ⟨M14, h14, hf⟩ := ob hf
  refine g_resV (pc := 13) C (rnV (As := [.int x2]) (st := []) C (c_X0_add C.2.2.2.2.2.1 hk13 h14) lkX7_236 rfl (by decide) hk13 rfl rfl (Nat.le_of_ble_eq_true rfl) ⟨⟨rfl, rfl⟩, Nat.le_of_ble_eq_true rfl, Nat.le_of_ble_eq_true rfl⟩ ⟨Nat.le_of_ble_eq_true rfl, Nat.le_of_ble_eq_true rfl⟩ dX7_perform_13) ?_
  refine g_aload_n (pc := 16) C 0 dX7_perform_16 rfl rfl ?_
  obtain ⟨M15, h15, hf⟩ := ob hf
  refine g_resV (pc := 17) C (rnV (As := []) (st := []) C (c_X7_refresh C.2.2.2.2.2.1 hk0 h15) lkX7_103 rfl (by decide) hk0 rfl rfl (Nat.le_of_ble_eq_true rfl) ⟨⟨rfl, rfl⟩, Nat.le_of_ble_eq_true rfl, Nat.le_of_ble_eq_true rfl⟩ ⟨Nat.le_of_ble_eq_true rfl, Nat.le_of_ble_eq_true rfl⟩ dX7_perform_17) ?_
  exact g_vret C hf dX7_perform_20

theorem c_X7_perform {l : Launch} {D : va_G} {cy : Nat → ClassId} {Λ : Nat → Nat} (hi : ∀ i j : Nat, Λ i = Λ j → i = j) {M : Mem} {a0 : Nat} {x1 : Int32} {x2 : Int32} {M9 : Mem} (hk0 : Is NN a0 8) (hf : m_X7_perform M a0 x1 x2 = some M9) : Ct l yX7_perform cX7_perform 3 none { frames := 5, cells := 0, slots := 0, locals := 117 } D cy Λ [.ref (Λ a0), .int x1, .int x2] NN M 0 0 (QcV D cy Λ NN M9) := ent (by decide) hi (Nat.le_of_ble_eq_true rfl) (fun p e s m args below meth c C => w_X7_perform C hk0 hf)
theorem w_X7_toggles {p : Program} {l : Launch} {e : Env} {s : State} {m : MethodId} {args : Array Value} {below : List Frame} {meth : Method} {c : Code} {D : va_G} {cy : Nat → ClassId} {Λ : Nat → Nat} (C : Cx p s m args meth c cX7_toggles 4 RX7 (some .int) D cy Λ (AA Λ s.heap.size)) {M : Mem} {a0 : Nat} {x1 : Int32} {x2 : Int32} {r9 : Int32} {M9 : Mem} (hk0 : Is NN a0 8) (hf : m_X7_toggles M a0 x1 x2 = some (r9, M9)) : GW p l e { frames := 6, cells := 0, slots := 0, locals := 139 } s m args below meth c D cy Λ 4 (QcI D cy Λ NN r9 M9) M 0 [(0, .ref (Λ a0)), (1, .int x1), (2, .int x2)] [] := by
  unfold m_X7_toggles at hf
  refine g_iload_n (pc := 0) C 1 dX7_toggles_0 rfl rfl ?_
  refine g_aload_n (pc := 1) C 0 dX7_toggles_1 rfl rfl ?_
  refine g_getR (pc := 2) (T := 4) C hf fgX7_27 (by decide) hk0 rfl dX7_toggles_2 (fun a11 hk11 hf => ?_)
  refine g_getI (pc := 5) C fgX7_106 (by decide) hk11 rfl dX7_toggles_5 ?_
  obtain ⟨r12, h12, hf⟩ := ob hf
  refine g_resI (pc := 8) C (rnS (As := [.int x1, .int (M.2 a11 0)]) (st := []) C (c_X7_within C.2.2.2.2.2.1  h12) lkX7_76 rfl rfl (Nat.le_of_ble_eq_true rfl) ⟨⟨rfl, rfl⟩, Nat.le_of_ble_eq_true rfl, Nat.le_of_ble_eq_true rfl⟩ ⟨Nat.le_of_ble_eq_true rfl, Nat.le_of_ble_eq_true rfl⟩ dX7_toggles_8) ?_
  refine g_if_eq (pc := 11) (tgt := 22) C hf dX7_toggles_11 (by decide) (fun hf => ?_) (fun hf => ?_)
  · refine g_bipush (pc := 22) (v := (-2 : Int32)) C dX7_toggles_22 (by decide) ?_
    exact g_iretM C hf dX7_toggles_24
  refine g_iload_n (pc := 14) C 2 dX7_toggles_14 rfl rfl ?_
  refine g_iconst (pc := 15) (v := (4 : Int32)) C dX7_toggles_15 (by decide) ?_
  obtain ⟨r13, h13, hf⟩ := ob hf
  refine g_resI (pc := 16) C (rnS (As := [.int x2, .int (4 : Int32)]) (st := []) C (c_X7_within C.2.2.2.2.2.1  h13) lkX7_76 rfl rfl (Nat.le_of_ble_eq_true rfl) ⟨⟨rfl, rfl⟩, Nat.le_of_ble_eq_true rfl, Nat.le_of_ble_eq_true rfl⟩ ⟨Nat.le_of_ble_eq_true rfl, Nat.le_of_ble_eq_true rfl⟩ dX7_toggles_16) ?_
  refine g_if_ne (pc := 19) (tgt := 25) C hf dX7_toggles_19 (by decide) (fun hf => ?_) (fun hf => ?_)
  · refine g_bipush (pc := 22) (v := (-2 : Int32)) C dX7_toggles_22 (by decide) ?_
    exact g_iretM C hf dX7_toggles_24
  refine g_iconst (pc := 25) (v := (4 : Int32)) C dX7_toggles_25 (by decide) ?_
  refine g_iload_n (pc := 26) C 1 dX7_toggles_26 rfl rfl ?_
  refine g_imul (pc := 27) C dX7_toggles_27 ?_
  refine g_iload_n (pc := 28) C 2 dX7_toggles_28 rfl rfl ?_
  refine g_iadd (pc := 29) C dX7_toggles_29 ?_
  refine g_istore_n (pc := 30) (lv2 := [(3, .int (((4 : Int32) * x1) + x2)), (0, .ref (Λ a0)), (1, .int x1), (2, .int x2)]) C dX7_toggles_30 rfl (by decide) rfl ?_
  refine g_aload_n (pc := 31) C 1 dX7_toggles_31 rfl rfl ?_
  refine g_iload_n (pc := 32) C 0 dX7_toggles_32 rfl rfl ?_
  refine g_iload_n (pc := 33) C 0 dX7_toggles_33 rfl rfl ?_
  obtain ⟨M14, h14, hf⟩ := ob hf
  refine g_resV (pc := 34) C (rnV (As := [.int (((4 : Int32) * x1) + x2), .int (((4 : Int32) * x1) + x2)]) (st := []) C (c_X7_perform C.2.2.2.2.2.1 hk0 h14) lkX7_160 rfl (by decide) hk0 rfl rfl (Nat.le_of_ble_eq_true rfl) ⟨⟨rfl, rfl⟩, Nat.le_of_ble_eq_true rfl, Nat.le_of_ble_eq_true rfl⟩ ⟨Nat.le_of_ble_eq_true rfl, Nat.le_of_ble_eq_true rfl⟩ dX7_toggles_34) ?_
  refine g_aload_n (pc := 37) C 1 dX7_toggles_37 rfl rfl ?_
  refine g_getR (pc := 38) (T := 1) C hf fgX7_34 (by decide) hk0 rfl dX7_toggles_38 (fun a15 hk15 hf => ?_)
  refine g_getR (pc := 41) (T := 9) C hf fgX7_115 (by decide) hk15 rfl dX7_toggles_41 (fun a16 hk16 hf => ?_)
  refine g_iload_n (pc := 44) C 2 dX7_toggles_44 rfl rfl ?_
  refine g_iald (pc := 45) C hf hk16 dX7_toggles_45 (fun v17 hf => ?_)
  exact g_iretM C hf dX7_toggles_46

theorem c_X7_toggles {l : Launch} {D : va_G} {cy : Nat → ClassId} {Λ : Nat → Nat} (hi : ∀ i j : Nat, Λ i = Λ j → i = j) {M : Mem} {a0 : Nat} {x1 : Int32} {x2 : Int32} {r9 : Int32} {M9 : Mem} (hk0 : Is NN a0 8) (hf : m_X7_toggles M a0 x1 x2 = some (r9, M9)) : Ct l yX7_toggles cX7_toggles 4 (some .int) { frames := 6, cells := 0, slots := 0, locals := 139 } D cy Λ [.ref (Λ a0), .int x1, .int x2] NN M 0 0 (QcI D cy Λ NN r9 M9) := ent (by decide) hi (Nat.le_of_ble_eq_true rfl) (fun p e s m args below meth c C => w_X7_toggles C hk0 hf)
theorem w_X7_tags {p : Program} {l : Launch} {e : Env} {s : State} {m : MethodId} {args : Array Value} {below : List Frame} {meth : Method} {c : Code} {D : va_G} {cy : Nat → ClassId} {Λ : Nat → Nat} (C : Cx p s m args meth c cX7_tags 5 RX7 (some .int) D cy Λ (AA Λ s.heap.size)) {M : Mem} {a0 : Nat} {x1 : Int32} {x2 : Int32} {r9 : Int32} {M9 : Mem} (hk0 : Is NN a0 8) (hf : m_X7_tags M a0 x1 x2 = some (r9, M9)) : GW p l e { frames := 6, cells := 0, slots := 0, locals := 139 } s m args below meth c D cy Λ 5 (QcI D cy Λ NN r9 M9) M 0 [(0, .ref (Λ a0)), (1, .int x1), (2, .int x2)] [] := by
  unfold m_X7_tags at hf
  refine g_iload_n (pc := 0) C 1 dX7_tags_0 rfl rfl ?_
  refine g_aload_n (pc := 1) C 0 dX7_tags_1 rfl rfl ?_
  refine g_getR (pc := 2) (T := 4) C hf fgX7_27 (by decide) hk0 rfl dX7_tags_2 (fun a11 hk11 hf => ?_)
  refine g_getI (pc := 5) C fgX7_106 (by decide) hk11 rfl dX7_tags_5 ?_
  obtain ⟨r12, h12, hf⟩ := ob hf
  refine g_resI (pc := 8) C (rnS (As := [.int x1, .int (M.2 a11 0)]) (st := []) C (c_X7_within C.2.2.2.2.2.1  h12) lkX7_76 rfl rfl (Nat.le_of_ble_eq_true rfl) ⟨⟨rfl, rfl⟩, Nat.le_of_ble_eq_true rfl, Nat.le_of_ble_eq_true rfl⟩ ⟨Nat.le_of_ble_eq_true rfl, Nat.le_of_ble_eq_true rfl⟩ dX7_tags_8) ?_
  refine g_if_eq (pc := 11) (tgt := 22) C hf dX7_tags_11 (by decide) (fun hf => ?_) (fun hf => ?_)
  · refine g_bipush (pc := 22) (v := (-2 : Int32)) C dX7_tags_22 (by decide) ?_
    exact g_iretM C hf dX7_tags_24
  refine g_iload_n (pc := 14) C 2 dX7_tags_14 rfl rfl ?_
  refine g_iconst (pc := 15) (v := (4 : Int32)) C dX7_tags_15 (by decide) ?_
  obtain ⟨r13, h13, hf⟩ := ob hf
  refine g_resI (pc := 16) C (rnS (As := [.int x2, .int (4 : Int32)]) (st := []) C (c_X7_within C.2.2.2.2.2.1  h13) lkX7_76 rfl rfl (Nat.le_of_ble_eq_true rfl) ⟨⟨rfl, rfl⟩, Nat.le_of_ble_eq_true rfl, Nat.le_of_ble_eq_true rfl⟩ ⟨Nat.le_of_ble_eq_true rfl, Nat.le_of_ble_eq_true rfl⟩ dX7_tags_16) ?_
  refine g_if_ne (pc := 19) (tgt := 25) C hf dX7_tags_19 (by decide) (fun hf => ?_) (fun hf => ?_)
  · refine g_bipush (pc := 22) (v := (-2 : Int32)) C dX7_tags_22 (by decide) ?_
    exact g_iretM C hf dX7_tags_24
  refine g_aload_n (pc := 25) C 0 dX7_tags_25 rfl rfl ?_
  refine g_getR (pc := 26) (T := 1) C hf fgX7_34 (by decide) hk0 rfl dX7_tags_26 (fun a14 hk14 hf => ?_)
  refine g_getR (pc := 29) (T := 9) C hf fgX7_112 (by decide) hk14 rfl dX7_tags_29 (fun a15 hk15 hf => ?_)
  refine g_iload_n (pc := 32) C 1 dX7_tags_32 rfl rfl ?_
  refine g_iald (pc := 33) C hf hk15 dX7_tags_33 (fun v16 hf => ?_)
  refine g_istore_n (pc := 34) (lv2 := [(3, .int v16), (0, .ref (Λ a0)), (1, .int x1), (2, .int x2)]) C dX7_tags_34 rfl (by decide) rfl ?_
  refine g_iload_n (pc := 35) C 0 dX7_tags_35 rfl rfl ?_
  refine g_iload_n (pc := 36) C 3 dX7_tags_36 rfl rfl ?_
  refine g_ic_ne (pc := 37) (tgt := 43) C hf dX7_tags_37 (by decide) (fun hf => ?_) (fun hf => ?_)
  · refine g_bipush (pc := 40) (v := (-3 : Int32)) C dX7_tags_40 (by decide) ?_
    exact g_iretM C hf dX7_tags_42
  refine g_sipush (pc := 43) (v := (200 : Int32)) C dX7_tags_43 (by decide) ?_
  refine g_iconst (pc := 46) (v := (4 : Int32)) C dX7_tags_46 (by decide) ?_
  refine g_iload_n (pc := 47) C 2 dX7_tags_47 rfl rfl ?_
  refine g_imul (pc := 48) C dX7_tags_48 ?_
  refine g_iadd (pc := 49) C dX7_tags_49 ?_
  refine g_istore (pc := 50) (lv2 := [(4, .int ((200 : Int32) + ((4 : Int32) * x1))), (3, .int v16), (0, .ref (Λ a0)), (1, .int x1), (2, .int x2)]) C dX7_tags_50 (by decide) rfl ?_
  refine g_aload_n (pc := 52) C 2 dX7_tags_52 rfl rfl ?_
  refine g_iload (pc := 53) C 0 dX7_tags_53 rfl ?_
  refine g_iload_n (pc := 55) C 4 dX7_tags_55 rfl rfl ?_
  refine g_iadd (pc := 56) C dX7_tags_56 ?_
  refine g_iload (pc := 57) C 0 dX7_tags_57 rfl ?_
  refine g_iload_n (pc := 59) C 1 dX7_tags_59 rfl rfl ?_
  refine g_iadd (pc := 60) C dX7_tags_60 ?_
  obtain ⟨M17, h17, hf⟩ := ob hf
  refine g_resV (pc := 61) C (rnV (As := [.int (((200 : Int32) + ((4 : Int32) * x1)) + x2), .int (((200 : Int32) + ((4 : Int32) * x1)) + v16)]) (st := []) C (c_X7_perform C.2.2.2.2.2.1 hk0 h17) lkX7_160 rfl (by decide) hk0 rfl rfl (Nat.le_of_ble_eq_true rfl) ⟨⟨rfl, rfl⟩, Nat.le_of_ble_eq_true rfl, Nat.le_of_ble_eq_true rfl⟩ ⟨Nat.le_of_ble_eq_true rfl, Nat.le_of_ble_eq_true rfl⟩ dX7_tags_61) ?_
  refine g_iload_n (pc := 64) C 1 dX7_tags_64 rfl rfl ?_
  exact g_iretM C hf dX7_tags_65

theorem c_X7_tags {l : Launch} {D : va_G} {cy : Nat → ClassId} {Λ : Nat → Nat} (hi : ∀ i j : Nat, Λ i = Λ j → i = j) {M : Mem} {a0 : Nat} {x1 : Int32} {x2 : Int32} {r9 : Int32} {M9 : Mem} (hk0 : Is NN a0 8) (hf : m_X7_tags M a0 x1 x2 = some (r9, M9)) : Ct l yX7_tags cX7_tags 5 (some .int) { frames := 6, cells := 0, slots := 0, locals := 139 } D cy Λ [.ref (Λ a0), .int x1, .int x2] NN M 0 0 (QcI D cy Λ NN r9 M9) := ent (by decide) hi (Nat.le_of_ble_eq_true rfl) (fun p e s m args below meth c C => w_X7_tags C hk0 hf)
theorem w_X7_switches {p : Program} {l : Launch} {e : Env} {s : State} {m : MethodId} {args : Array Value} {below : List Frame} {meth : Method} {c : Code} {D : va_G} {cy : Nat → ClassId} {Λ : Nat → Nat} (C : Cx p s m args meth c cX7_switches 3 RX7 (some .int) D cy Λ (AA Λ s.heap.size)) {M : Mem} {a0 : Nat} {x1 : Int32} {r9 : Int32} {M9 : Mem} (hk0 : Is NN a0 8) (hf : m_X7_switches M a0 x1 = some (r9, M9)) : GW p l e { frames := 6, cells := 0, slots := 0, locals := 139 } s m args below meth c D cy Λ 3 (QcI D cy Λ NN r9 M9) M 0 [(0, .ref (Λ a0)), (1, .int x1)] [] := by
  unfold m_X7_switches at hf
  refine g_iload_n (pc := 0) C 1 dX7_switches_0 rfl rfl ?_
  refine g_aload_n (pc := 1) C 0 dX7_switches_1 rfl rfl ?_
  refine g_getR (pc := 2) (T := 4) C hf fgX7_27 (by decide) hk0 rfl dX7_switches_2 (fun a11 hk11 hf => ?_)
  refine g_getI (pc := 5) C fgX7_128 (by decide) hk11 rfl dX7_switches_5 ?_
  obtain ⟨r12, h12, hf⟩ := ob hf
  refine g_resI (pc := 8) C (rnS (As := [.int x1, .int (M.2 a11 1)]) (st := []) C (c_X7_within C.2.2.2.2.2.1  h12) lkX7_76 rfl rfl (Nat.le_of_ble_eq_true rfl) ⟨⟨rfl, rfl⟩, Nat.le_of_ble_eq_true rfl, Nat.le_of_ble_eq_true rfl⟩ ⟨Nat.le_of_ble_eq_true rfl, Nat.le_of_ble_eq_true rfl⟩ dX7_switches_8) ?_
  refine g_if_ne (pc := 11) (tgt := 17) C hf dX7_switches_11 (by decide) (fun hf => ?_) (fun hf => ?_)
  · refine g_bipush (pc := 14) (v := (-2 : Int32)) C dX7_switches_14 (by decide) ?_
    exact g_iretM C hf dX7_switches_16
  refine g_bipush (pc := 17) (v := (100 : Int32)) C dX7_switches_17 (by decide) ?_
  refine g_iload_n (pc := 19) C 1 dX7_switches_19 rfl rfl ?_
  refine g_iadd (pc := 20) C dX7_switches_20 ?_
  refine g_istore_n (pc := 21) (lv2 := [(2, .int ((100 : Int32) + x1)), (0, .ref (Λ a0)), (1, .int x1)]) C dX7_switches_21 rfl (by decide) rfl ?_
  refine g_aload_n (pc := 22) C 1 dX7_switches_22 rfl rfl ?_
  refine g_iload_n (pc := 23) C 0 dX7_switches_23 rfl rfl ?_
  refine g_iload_n (pc := 24) C 0 dX7_switches_24 rfl rfl ?_
  obtain ⟨M13, h13, hf⟩ := ob hf
  refine g_resV (pc := 25) C (rnV (As := [.int ((100 : Int32) + x1), .int ((100 : Int32) + x1)]) (st := []) C (c_X7_perform C.2.2.2.2.2.1 hk0 h13) lkX7_160 rfl (by decide) hk0 rfl rfl (Nat.le_of_ble_eq_true rfl) ⟨⟨rfl, rfl⟩, Nat.le_of_ble_eq_true rfl, Nat.le_of_ble_eq_true rfl⟩ ⟨Nat.le_of_ble_eq_true rfl, Nat.le_of_ble_eq_true rfl⟩ dX7_switches_25) ?_
  refine g_aload_n (pc := 28) C 1 dX7_switches_28 rfl rfl ?_
  refine g_getR (pc := 29) (T := 1) C hf fgX7_34 (by decide) hk0 rfl dX7_switches_29 (fun a14 hk14 hf => ?_)
  refine g_iload_n (pc := 32) C 2 dX7_switches_32 rfl rfl ?_
  obtain ⟨r15, h15, hf⟩ := ob hf
  refine g_resI (pc := 33) C (rnV (As := [.int x1]) (st := []) C (c_X1_hasOn C.2.2.2.2.2.1 hk14 h15) lkX7_153 rfl (by decide) hk14 rfl rfl (Nat.le_of_ble_eq_true rfl) ⟨⟨rfl, rfl⟩, Nat.le_of_ble_eq_true rfl, Nat.le_of_ble_eq_true rfl⟩ ⟨Nat.le_of_ble_eq_true rfl, Nat.le_of_ble_eq_true rfl⟩ dX7_switches_33) ?_
  refine g_if_eq (pc := 36) (tgt := 43) C hf dX7_switches_36 (by decide) (fun hf => ?_) (fun hf => ?_)
  · refine g_iconst (pc := 43) (v := (0 : Int32)) C dX7_switches_43 (by decide) ?_
    exact g_iretM C hf dX7_switches_44
  refine g_iconst (pc := 39) (v := (1 : Int32)) C dX7_switches_39 (by decide) ?_
  refine g_goto (pc := 40) (tgt := 44) C dX7_switches_40 (by decide) ?_
  exact g_iretM C hf dX7_switches_44

theorem c_X7_switches {l : Launch} {D : va_G} {cy : Nat → ClassId} {Λ : Nat → Nat} (hi : ∀ i j : Nat, Λ i = Λ j → i = j) {M : Mem} {a0 : Nat} {x1 : Int32} {r9 : Int32} {M9 : Mem} (hk0 : Is NN a0 8) (hf : m_X7_switches M a0 x1 = some (r9, M9)) : Ct l yX7_switches cX7_switches 3 (some .int) { frames := 6, cells := 0, slots := 0, locals := 139 } D cy Λ [.ref (Λ a0), .int x1] NN M 0 0 (QcI D cy Λ NN r9 M9) := ent (by decide) hi (Nat.le_of_ble_eq_true rfl) (fun p e s m args below meth c C => w_X7_switches C hk0 hf)
theorem w_X0_takeLatest {p : Program} {l : Launch} {e : Env} {s : State} {m : MethodId} {args : Array Value} {below : List Frame} {meth : Method} {c : Code} {D : va_G} {cy : Nat → ClassId} {Λ : Nat → Nat} (C : Cx p s m args meth c cX0_takeLatest 1 RX0 (some .int) D cy Λ (AA Λ s.heap.size)) {M : Mem} {a0 : Nat} {r9 : Int32} {M9 : Mem} (hk0 : Is NN a0 1) (hf : m_X0_takeLatest M a0 = some (r9, M9)) : GW p l e { frames := 1, cells := 0, slots := 0, locals := 21 } s m args below meth c D cy Λ 1 (QcI D cy Λ NN r9 M9) M 0 [(0, .ref (Λ a0))] [] := by
  unfold m_X0_takeLatest at hf
  refine g_aload_n (pc := 0) C 0 dX0_takeLatest_0 rfl rfl ?_
  refine g_getI (pc := 1) C fgX0_15 (by decide) hk0 rfl dX0_takeLatest_1 ?_
  refine g_iconst (pc := 4) (v := (1 : Int32)) C dX0_takeLatest_4 (by decide) ?_
  refine g_isub (pc := 5) C dX0_takeLatest_5 ?_
  refine g_bipush (pc := 6) (v := (10 : Int32)) C dX0_takeLatest_6 (by decide) ?_
  obtain ⟨r11, h11, hf⟩ := ob hf
  refine g_resI (pc := 8) C (rnSN (As := [.int ((M.2 a0 1) - (1 : Int32)), .int (10 : Int32)]) (st := []) C (c_X7_within C.2.2.2.2.2.1  h11) lknX0_25 rfl rfl (Nat.le_of_ble_eq_true rfl) ⟨⟨rfl, rfl⟩, Nat.le_of_ble_eq_true rfl, Nat.le_of_ble_eq_true rfl⟩ ⟨Nat.le_of_ble_eq_true rfl, Nat.le_of_ble_eq_true rfl⟩ dX0_takeLatest_8) ?_
  refine g_if_ne (pc := 11) (tgt := 17) C hf dX0_takeLatest_11 (by decide) (fun hf => ?_) (fun hf => ?_)
  · refine g_bipush (pc := 14) (v := (-9 : Int32)) C dX0_takeLatest_14 (by decide) ?_
    exact g_iretM C hf dX0_takeLatest_16
  refine g_aload_n (pc := 17) C 0 dX0_takeLatest_17 rfl rfl ?_
  refine g_dup (pc := 18) C dX0_takeLatest_18 rfl ?_
  refine g_getI (pc := 19) C fgX0_15 (by decide) hk0 rfl dX0_takeLatest_19 ?_
  refine g_iconst (pc := 22) (v := (1 : Int32)) C dX0_takeLatest_22 (by decide) ?_
  refine g_isub (pc := 23) C dX0_takeLatest_23 ?_
  refine g_pI (pc := 24) C hf fpX0_15 (by decide) hk0 stX0_1 (Nat.le_of_ble_eq_true rfl) rfl rfl dX0_takeLatest_24 (fun M12 hf => ?_)
  refine g_aload_n (pc := 27) C 0 dX0_takeLatest_27 rfl rfl ?_
  refine g_getR (pc := 28) (T := 9) C hf fgX0_9 (by decide) hk0 rfl dX0_takeLatest_28 (fun a13 hk13 hf => ?_)
  refine g_aload_n (pc := 31) C 0 dX0_takeLatest_31 rfl rfl ?_
  refine g_getI (pc := 32) C fgX0_15 (by decide) hk0 rfl dX0_takeLatest_32 ?_
  refine g_iald (pc := 35) C hf hk13 dX0_takeLatest_35 (fun v14 hf => ?_)
  exact g_iretM C hf dX0_takeLatest_36

theorem c_X0_takeLatest {l : Launch} {D : va_G} {cy : Nat → ClassId} {Λ : Nat → Nat} (hi : ∀ i j : Nat, Λ i = Λ j → i = j) {M : Mem} {a0 : Nat} {r9 : Int32} {M9 : Mem} (hk0 : Is NN a0 1) (hf : m_X0_takeLatest M a0 = some (r9, M9)) : Ct l yX0_takeLatest cX0_takeLatest 1 (some .int) { frames := 1, cells := 0, slots := 0, locals := 21 } D cy Λ [.ref (Λ a0)] NN M 0 0 (QcI D cy Λ NN r9 M9) := ent (by decide) hi (Nat.le_of_ble_eq_true rfl) (fun p e s m args below meth c C => w_X0_takeLatest C hk0 hf)
theorem w_X7_undo {p : Program} {l : Launch} {e : Env} {s : State} {m : MethodId} {args : Array Value} {below : List Frame} {meth : Method} {c : Code} {D : va_G} {cy : Nat → ClassId} {Λ : Nat → Nat} (C : Cx p s m args meth c cX7_undo 2 RX7 (some .int) D cy Λ (AA Λ s.heap.size)) {M : Mem} {a0 : Nat} {r9 : Int32} {M9 : Mem} (hk0 : Is NN a0 8) (hf : m_X7_undo M a0 = some (r9, M9)) : GW p l e { frames := 5, cells := 0, slots := 0, locals := 117 } s m args below meth c D cy Λ 2 (QcI D cy Λ NN r9 M9) M 0 [(0, .ref (Λ a0))] [] := by
  unfold m_X7_undo at hf
  refine g_aload_n (pc := 0) C 0 dX7_undo_0 rfl rfl ?_
  refine g_getR (pc := 1) (T := 0) C hf fgX7_54 (by decide) hk0 rfl dX7_undo_1 (fun a11 hk11 hf => ?_)
  obtain ⟨r12, M12, h12, hf⟩ := ob2 hf
  refine g_resI (pc := 4) C (rnV (As := []) (st := []) C (c_X0_takeLatest C.2.2.2.2.2.1 hk11 h12) lkX7_164 rfl (by decide) hk11 rfl rfl (Nat.le_of_ble_eq_true rfl) ⟨⟨rfl, rfl⟩, Nat.le_of_ble_eq_true rfl, Nat.le_of_ble_eq_true rfl⟩ ⟨Nat.le_of_ble_eq_true rfl, Nat.le_of_ble_eq_true rfl⟩ dX7_undo_4) ?_
  refine g_istore_n (pc := 7) (lv2 := [(1, .int r12), (0, .ref (Λ a0))]) C dX7_undo_7 rfl (by decide) rfl ?_
  refine g_iload_n (pc := 8) C 0 dX7_undo_8 rfl rfl ?_
  refine g_bipush (pc := 9) (v := (-9 : Int32)) C dX7_undo_9 (by decide) ?_
  refine g_ic_ne (pc := 11) (tgt := 17) C hf dX7_undo_11 (by decide) (fun hf => ?_) (fun hf => ?_)
  · refine g_bipush (pc := 14) (v := (-3 : Int32)) C dX7_undo_14 (by decide) ?_
    exact g_iretM C hf dX7_undo_16
  refine g_aload_n (pc := 17) C 1 dX7_undo_17 rfl rfl ?_
  refine g_getR (pc := 18) (T := 1) C hf fgX7_34 (by decide) hk0 rfl dX7_undo_18 (fun a13 hk13 hf => ?_)
  refine g_iload_n (pc := 21) C 0 dX7_undo_21 rfl rfl ?_
  obtain ⟨M14, h14, hf⟩ := ob hf
  refine g_resV (pc := 22) C (rnV (As := [.int r12]) (st := []) C (c_X1_apply C.2.2.2.2.2.1 hk13 h14) lkX7_167 rfl (by decide) hk13 rfl rfl (Nat.le_of_ble_eq_true rfl) ⟨⟨rfl, rfl⟩, Nat.le_of_ble_eq_true rfl, Nat.le_of_ble_eq_true rfl⟩ ⟨Nat.le_of_ble_eq_true rfl, Nat.le_of_ble_eq_true rfl⟩ dX7_undo_22) ?_
  refine g_aload_n (pc := 25) C 1 dX7_undo_25 rfl rfl ?_
  obtain ⟨M15, h15, hf⟩ := ob hf
  refine g_resV (pc := 26) C (rnV (As := []) (st := []) C (c_X7_refresh C.2.2.2.2.2.1 hk0 h15) lkX7_103 rfl (by decide) hk0 rfl rfl (Nat.le_of_ble_eq_true rfl) ⟨⟨rfl, rfl⟩, Nat.le_of_ble_eq_true rfl, Nat.le_of_ble_eq_true rfl⟩ ⟨Nat.le_of_ble_eq_true rfl, Nat.le_of_ble_eq_true rfl⟩ dX7_undo_26) ?_
  refine g_aload_n (pc := 29) C 1 dX7_undo_29 rfl rfl ?_
  refine g_getR (pc := 30) (T := 0) C hf fgX7_54 (by decide) hk0 rfl dX7_undo_30 (fun a16 hk16 hf => ?_)
  refine g_getI (pc := 33) C fgX7_171 (by decide) hk16 rfl dX7_undo_33 ?_
  exact g_iretM C hf dX7_undo_36

theorem c_X7_undo {l : Launch} {D : va_G} {cy : Nat → ClassId} {Λ : Nat → Nat} (hi : ∀ i j : Nat, Λ i = Λ j → i = j) {M : Mem} {a0 : Nat} {r9 : Int32} {M9 : Mem} (hk0 : Is NN a0 8) (hf : m_X7_undo M a0 = some (r9, M9)) : Ct l yX7_undo cX7_undo 2 (some .int) { frames := 5, cells := 0, slots := 0, locals := 117 } D cy Λ [.ref (Λ a0)] NN M 0 0 (QcI D cy Λ NN r9 M9) := ent (by decide) hi (Nat.le_of_ble_eq_true rfl) (fun p e s m args below meth c C => w_X7_undo C hk0 hf)
theorem w_X7_isPlace {p : Program} {l : Launch} {e : Env} {s : State} {m : MethodId} {args : Array Value} {below : List Frame} {meth : Method} {c : Code} {D : va_G} {cy : Nat → ClassId} {Λ : Nat → Nat} (C : Cx p s m args meth c cX7_isPlace 3 RX7 (some .boolean) D cy Λ (AA Λ s.heap.size)) {M : Mem} {a0 : Nat} {x1 : Int32} {x2 : Int32} {r9 : Int32} (hk0 : Is NN a0 8) (hf : m_X7_isPlace M a0 x1 x2 = some r9) : GW p l e { frames := 1, cells := 0, slots := 0, locals := 21 } s m args below meth c D cy Λ 3 (QcI D cy Λ NN r9 M) M 0 [(0, .ref (Λ a0)), (1, .int x1), (2, .int x2)] [] := by
  unfold m_X7_isPlace at hf
  refine g_iload_n (pc := 0) C 1 dX7_isPlace_0 rfl rfl ?_
  refine g_aload_n (pc := 1) C 0 dX7_isPlace_1 rfl rfl ?_
  refine g_getR (pc := 2) (T := 4) C hf fgX7_27 (by decide) hk0 rfl dX7_isPlace_2 (fun a11 hk11 hf => ?_)
  refine g_getI (pc := 5) C fgX7_106 (by decide) hk11 rfl dX7_isPlace_5 ?_
  obtain ⟨r12, h12, hf⟩ := ob hf
  refine g_resI (pc := 8) C (rnS (As := [.int x1, .int (M.2 a11 0)]) (st := []) C (c_X7_within C.2.2.2.2.2.1  h12) lkX7_76 rfl rfl (Nat.le_of_ble_eq_true rfl) ⟨⟨rfl, rfl⟩, Nat.le_of_ble_eq_true rfl, Nat.le_of_ble_eq_true rfl⟩ ⟨Nat.le_of_ble_eq_true rfl, Nat.le_of_ble_eq_true rfl⟩ dX7_isPlace_8) ?_
  refine g_if_eq (pc := 11) (tgt := 26) C hf dX7_isPlace_11 (by decide) (fun hf => ?_) (fun hf => ?_)
  · refine g_iconst (pc := 26) (v := (0 : Int32)) C dX7_isPlace_26 (by decide) ?_
    exact g_zret C (by decide) hf dX7_isPlace_27
  refine g_iload_n (pc := 14) C 2 dX7_isPlace_14 rfl rfl ?_
  refine g_iconst (pc := 15) (v := (4 : Int32)) C dX7_isPlace_15 (by decide) ?_
  obtain ⟨r13, h13, hf⟩ := ob hf
  refine g_resI (pc := 16) C (rnS (As := [.int x2, .int (4 : Int32)]) (st := []) C (c_X7_within C.2.2.2.2.2.1  h13) lkX7_76 rfl rfl (Nat.le_of_ble_eq_true rfl) ⟨⟨rfl, rfl⟩, Nat.le_of_ble_eq_true rfl, Nat.le_of_ble_eq_true rfl⟩ ⟨Nat.le_of_ble_eq_true rfl, Nat.le_of_ble_eq_true rfl⟩ dX7_isPlace_16) ?_
  refine g_if_eq (pc := 19) (tgt := 26) C hf dX7_isPlace_19 (by decide) (fun hf => ?_) (fun hf => ?_)
  · refine g_iconst (pc := 26) (v := (0 : Int32)) C dX7_isPlace_26 (by decide) ?_
    exact g_zret C (by decide) hf dX7_isPlace_27
  refine g_iconst (pc := 22) (v := (1 : Int32)) C dX7_isPlace_22 (by decide) ?_
  refine g_goto (pc := 23) (tgt := 27) C dX7_isPlace_23 (by decide) ?_
  exact g_zret C (by decide) hf dX7_isPlace_27

theorem c_X7_isPlace {l : Launch} {D : va_G} {cy : Nat → ClassId} {Λ : Nat → Nat} (hi : ∀ i j : Nat, Λ i = Λ j → i = j) {M : Mem} {a0 : Nat} {x1 : Int32} {x2 : Int32} {r9 : Int32} (hk0 : Is NN a0 8) (hf : m_X7_isPlace M a0 x1 x2 = some r9) : Ct l yX7_isPlace cX7_isPlace 3 (some .boolean) { frames := 1, cells := 0, slots := 0, locals := 21 } D cy Λ [.ref (Λ a0), .int x1, .int x2] NN M 0 0 (QcI D cy Λ NN r9 M) := ent (by decide) hi (Nat.le_of_ble_eq_true rfl) (fun p e s m args below meth c C => w_X7_isPlace C hk0 hf)
theorem w_X7_value {p : Program} {l : Launch} {e : Env} {s : State} {m : MethodId} {args : Array Value} {below : List Frame} {meth : Method} {c : Code} {D : va_G} {cy : Nat → ClassId} {Λ : Nat → Nat} (C : Cx p s m args meth c cX7_value 3 RX7 (some .int) D cy Λ (AA Λ s.heap.size)) {M : Mem} {a0 : Nat} {x1 : Int32} {x2 : Int32} {r9 : Int32} (hk0 : Is NN a0 8) (hf : m_X7_value M a0 x1 x2 = some r9) : GW p l e { frames := 2, cells := 0, slots := 0, locals := 43 } s m args below meth c D cy Λ 3 (QcI D cy Λ NN r9 M) M 0 [(0, .ref (Λ a0)), (1, .int x1), (2, .int x2)] [] := by
  unfold m_X7_value at hf
  refine g_aload_n (pc := 0) C 0 dX7_value_0 rfl rfl ?_
  refine g_iload_n (pc := 1) C 1 dX7_value_1 rfl rfl ?_
  refine g_iload_n (pc := 2) C 2 dX7_value_2 rfl rfl ?_
  obtain ⟨r11, h11, hf⟩ := ob hf
  refine g_resI (pc := 3) C (rnV (As := [.int x1, .int x2]) (st := []) C (c_X7_isPlace C.2.2.2.2.2.1 hk0 h11) lkX7_174 rfl (by decide) hk0 rfl rfl (Nat.le_of_ble_eq_true rfl) ⟨⟨rfl, rfl⟩, Nat.le_of_ble_eq_true rfl, Nat.le_of_ble_eq_true rfl⟩ ⟨Nat.le_of_ble_eq_true rfl, Nat.le_of_ble_eq_true rfl⟩ dX7_value_3) ?_
  refine g_if_ne (pc := 6) (tgt := 12) C hf dX7_value_6 (by decide) (fun hf => ?_) (fun hf => ?_)
  · refine g_bipush (pc := 9) (v := (-2 : Int32)) C dX7_value_9 (by decide) ?_
    exact g_iret C hf dX7_value_11
  refine g_aload_n (pc := 12) C 0 dX7_value_12 rfl rfl ?_
  refine g_getR (pc := 13) (T := 6) C hf fgX7_44 (by decide) hk0 rfl dX7_value_13 (fun a12 hk12 hf => ?_)
  refine g_iload_n (pc := 16) C 1 dX7_value_16 rfl rfl ?_
  refine g_iload_n (pc := 17) C 2 dX7_value_17 rfl rfl ?_
  obtain ⟨r13, h13, hf⟩ := ob hf
  refine g_resI (pc := 18) C (rnV (As := [.int x1, .int x2]) (st := []) C (c_X6_valueAt C.2.2.2.2.2.1 hk12 h13) lkX7_177 rfl (by decide) hk12 rfl rfl (Nat.le_of_ble_eq_true rfl) ⟨⟨rfl, rfl⟩, Nat.le_of_ble_eq_true rfl, Nat.le_of_ble_eq_true rfl⟩ ⟨Nat.le_of_ble_eq_true rfl, Nat.le_of_ble_eq_true rfl⟩ dX7_value_18) ?_
  exact g_iret C hf dX7_value_21

theorem c_X7_value {l : Launch} {D : va_G} {cy : Nat → ClassId} {Λ : Nat → Nat} (hi : ∀ i j : Nat, Λ i = Λ j → i = j) {M : Mem} {a0 : Nat} {x1 : Int32} {x2 : Int32} {r9 : Int32} (hk0 : Is NN a0 8) (hf : m_X7_value M a0 x1 x2 = some r9) : Ct l yX7_value cX7_value 3 (some .int) { frames := 2, cells := 0, slots := 0, locals := 43 } D cy Λ [.ref (Λ a0), .int x1, .int x2] NN M 0 0 (QcI D cy Λ NN r9 M) := ent (by decide) hi (Nat.le_of_ble_eq_true rfl) (fun p e s m args below meth c C => w_X7_value C hk0 hf)
theorem w_X7_winner_L41 {p : Program} {l : Launch} {e : Env} {s : State} {m : MethodId} {args : Array Value} {below : List Frame} {meth : Method} {c : Code} {D : va_G} {cy : Nat → ClassId} {Λ : Nat → Nat} (C : Cx p s m args meth c cX7_winner 7 RX7 (some .int) D cy Λ (AA Λ s.heap.size)) {M : Mem} {a0 : Nat} {x1 : Int32} {x2 : Int32} {x3 : Int32}  {r9 : Int32} (hk0 : Is NN a0 8)  : ∀ (fu : Nat) (x4 : Int32) (x5 : Int32) (x6 : Int32), m_X7_winner_L41 M a0 x1 x2 x3 fu x4 x5 x6 = some r9 → GW p l e { frames := 2, cells := 0, slots := 0, locals := 47 } s m args below meth c D cy Λ 7 (QcI D cy Λ NN r9 M) M 41 [(0, .ref (Λ a0)), (1, .int x1), (2, .int x2), (3, .int x3), (4, .int x4), (5, .int x5), (6, .int x6)] [] := by
  intro fu
  induction fu with
  | zero =>
    intro x4 x5 x6  hf
    cases hf
  | succ fu ih =>
    intro x4 x5 x6  hf
    unfold m_X7_winner_L41 at hf
    refine g_iload (pc := 41) C 6 dX7_winner_41 rfl ?_
    refine g_iload_n (pc := 43) C 3 dX7_winner_43 rfl rfl ?_
    refine g_bipush (pc := 44) (v := (8 : Int32)) C dX7_winner_44 (by decide) ?_
    refine g_min (pc := 46) C tw_594 tw_339 tw_70 tw_340 ⟨Nat.le_of_ble_eq_true rfl, Nat.le_of_ble_eq_true rfl, Nat.le_of_ble_eq_true rfl, Nat.le_of_ble_eq_true rfl⟩ dX7_winner_46 ?_
    refine g_ic_ge (pc := 49) (tgt := 88) C hf dX7_winner_49 (by decide) (fun hf => ?_) (fun hf => ?_)
    · refine g_iload (pc := 88) C 5 dX7_winner_88 rfl ?_
      exact g_iret C hf dX7_winner_90
    refine g_iload (pc := 52) C 5 dX7_winner_52 rfl ?_
    refine g_bipush (pc := 54) (v := (-9 : Int32)) C dX7_winner_54 (by decide) ?_
    refine g_ic_eq (pc := 56) (tgt := 88) C hf dX7_winner_56 (by decide) (fun hf => ?_) (fun hf => ?_)
    · refine g_iload (pc := 88) C 5 dX7_winner_88 rfl ?_
      exact g_iret C hf dX7_winner_90
    refine g_iload (pc := 59) C 4 dX7_winner_59 rfl ?_
    refine g_iconst (pc := 61) (v := (1 : Int32)) C dX7_winner_61 (by decide) ?_
    refine g_iload (pc := 62) C 5 dX7_winner_62 rfl ?_
    refine g_ishl (pc := 64) C dX7_winner_64 ?_
    refine g_iconst (pc := 65) (v := (-1 : Int32)) C dX7_winner_65 (by decide) ?_
    refine g_ixor (pc := 66) C dX7_winner_66 ?_
    refine g_iand (pc := 67) C dX7_winner_67 ?_
    refine g_istore (pc := 68) (lv2 := [(4, .int (x4 &&& (((1 : Int32) <<< (x5 &&& 31)) ^^^ (-1 : Int32)))), (0, .ref (Λ a0)), (1, .int x1), (2, .int x2), (3, .int x3), (5, .int x5), (6, .int x6)]) C dX7_winner_68 (by decide) rfl ?_
    refine g_aload_n (pc := 70) C 1 dX7_winner_70 rfl rfl ?_
    refine g_getR (pc := 71) (T := 4) C hf fgX7_27 (by decide) hk0 rfl dX7_winner_71 (fun a11 hk11 hf => ?_)
    refine g_iload (pc := 74) C 0 dX7_winner_74 rfl ?_
    refine g_iload_n (pc := 76) C 3 dX7_winner_76 rfl rfl ?_
    obtain ⟨r12, h12, hf⟩ := ob hf
    refine g_resI (pc := 77) C (rnV (As := [.int (x4 &&& (((1 : Int32) <<< (x5 &&& 31)) ^^^ (-1 : Int32))), .int x2]) (st := []) C (c_X4_strongest C.2.2.2.2.2.1 hk11 h12) lkX7_181 rfl (by decide) hk11 rfl rfl (Nat.le_of_ble_eq_true rfl) ⟨⟨rfl, rfl⟩, Nat.le_of_ble_eq_true rfl, Nat.le_of_ble_eq_true rfl⟩ ⟨Nat.le_of_ble_eq_true rfl, Nat.le_of_ble_eq_true rfl⟩ dX7_winner_77) ?_
    refine g_istore (pc := 80) (lv2 := [(5, .int r12), (4, .int (x4 &&& (((1 : Int32) <<< (x5 &&& 31)) ^^^ (-1 : Int32)))), (0, .ref (Λ a0)), (1, .int x1), (2, .int x2), (3, .int x3), (6, .int x6)]) C dX7_winner_80 (by decide) rfl ?_
    refine g_iinc (pc := 82) (v := (x6 + (1 : Int32))) (lv2 := [(6, .int (x6 + (1 : Int32))), (5, .int r12), (4, .int (x4 &&& (((1 : Int32) <<< (x5 &&& 31)) ^^^ (-1 : Int32)))), (0, .ref (Λ a0)), (1, .int x1), (2, .int x2), (3, .int x3)]) C 6 dX7_winner_82 rfl rfl (by decide) rfl ?_
    refine g_goto (pc := 85) (tgt := 41) C dX7_winner_85 (by decide) ?_
    refine g_sub [3, 4, 5, 6, 2, 1, 0] rfl ?_
    exact ih (x4 &&& (((1 : Int32) <<< (x5 &&& 31)) ^^^ (-1 : Int32))) r12 (x6 + (1 : Int32))  hf

theorem w_X7_winner {p : Program} {l : Launch} {e : Env} {s : State} {m : MethodId} {args : Array Value} {below : List Frame} {meth : Method} {c : Code} {D : va_G} {cy : Nat → ClassId} {Λ : Nat → Nat} (C : Cx p s m args meth c cX7_winner 7 RX7 (some .int) D cy Λ (AA Λ s.heap.size)) {M : Mem} {a0 : Nat} {x1 : Int32} {x2 : Int32} {x3 : Int32} {r9 : Int32} (hk0 : Is NN a0 8) (hf : m_X7_winner M a0 x1 x2 x3 = some r9) : GW p l e { frames := 2, cells := 0, slots := 0, locals := 47 } s m args below meth c D cy Λ 7 (QcI D cy Λ NN r9 M) M 0 [(0, .ref (Λ a0)), (1, .int x1), (2, .int x2), (3, .int x3)] [] := by
  unfold m_X7_winner at hf
  refine g_aload_n (pc := 0) C 0 dX7_winner_0 rfl rfl ?_
  refine g_iload_n (pc := 1) C 1 dX7_winner_1 rfl rfl ?_
  refine g_iload_n (pc := 2) C 2 dX7_winner_2 rfl rfl ?_
  obtain ⟨r11, h11, hf⟩ := ob hf
  refine g_resI (pc := 3) C (rnV (As := [.int x1, .int x2]) (st := []) C (c_X7_isPlace C.2.2.2.2.2.1 hk0 h11) lkX7_174 rfl (by decide) hk0 rfl rfl (Nat.le_of_ble_eq_true rfl) ⟨⟨rfl, rfl⟩, Nat.le_of_ble_eq_true rfl, Nat.le_of_ble_eq_true rfl⟩ ⟨Nat.le_of_ble_eq_true rfl, Nat.le_of_ble_eq_true rfl⟩ dX7_winner_3) ?_
  refine g_if_eq (pc := 6) (tgt := 13) C hf dX7_winner_6 (by decide) (fun hf => ?_) (fun hf => ?_)
  · refine g_bipush (pc := 13) (v := (-2 : Int32)) C dX7_winner_13 (by decide) ?_
    exact g_iret C hf dX7_winner_15
  refine g_iload_n (pc := 9) C 3 dX7_winner_9 rfl rfl ?_
  refine g_if_ge (pc := 10) (tgt := 16) C hf dX7_winner_10 (by decide) (fun hf => ?_) (fun hf => ?_)
  · refine g_aload_n (pc := 16) C 0 dX7_winner_16 rfl rfl ?_
    refine g_getR (pc := 17) (T := 6) C hf fgX7_44 (by decide) hk0 rfl dX7_winner_17 (fun a12 hk12 hf => ?_)
    refine g_iload_n (pc := 20) C 1 dX7_winner_20 rfl rfl ?_
    obtain ⟨r13, h13, hf⟩ := ob hf
    refine g_resI (pc := 21) C (rnV (As := [.int x1]) (st := []) C (c_X6_rulesOf C.2.2.2.2.2.1 hk12 h13) lkX7_118 rfl (by decide) hk12 rfl rfl (Nat.le_of_ble_eq_true rfl) ⟨⟨rfl, rfl⟩, Nat.le_of_ble_eq_true rfl, Nat.le_of_ble_eq_true rfl⟩ ⟨Nat.le_of_ble_eq_true rfl, Nat.le_of_ble_eq_true rfl⟩ dX7_winner_21) ?_
    refine g_istore (pc := 24) (lv2 := [(4, .int r13), (0, .ref (Λ a0)), (1, .int x1), (2, .int x2), (3, .int x3)]) C dX7_winner_24 (by decide) rfl ?_
    refine g_aload_n (pc := 26) C 1 dX7_winner_26 rfl rfl ?_
    refine g_getR (pc := 27) (T := 4) C hf fgX7_27 (by decide) hk0 rfl dX7_winner_27 (fun a14 hk14 hf => ?_)
    refine g_iload (pc := 30) C 0 dX7_winner_30 rfl ?_
    refine g_iload_n (pc := 32) C 3 dX7_winner_32 rfl rfl ?_
    obtain ⟨r15, h15, hf⟩ := ob hf
    refine g_resI (pc := 33) C (rnV (As := [.int r13, .int x2]) (st := []) C (c_X4_strongest C.2.2.2.2.2.1 hk14 h15) lkX7_181 rfl (by decide) hk14 rfl rfl (Nat.le_of_ble_eq_true rfl) ⟨⟨rfl, rfl⟩, Nat.le_of_ble_eq_true rfl, Nat.le_of_ble_eq_true rfl⟩ ⟨Nat.le_of_ble_eq_true rfl, Nat.le_of_ble_eq_true rfl⟩ dX7_winner_33) ?_
    refine g_istore (pc := 36) (lv2 := [(5, .int r15), (4, .int r13), (0, .ref (Λ a0)), (1, .int x1), (2, .int x2), (3, .int x3)]) C dX7_winner_36 (by decide) rfl ?_
    refine g_iconst (pc := 38) (v := (0 : Int32)) C dX7_winner_38 (by decide) ?_
    refine g_istore (pc := 39) (lv2 := [(6, .int (0 : Int32)), (5, .int r15), (4, .int r13), (0, .ref (Λ a0)), (1, .int x1), (2, .int x2), (3, .int x3)]) C dX7_winner_39 (by decide) rfl ?_
    refine g_sub [3, 4, 5, 6, 2, 1, 0] rfl ?_
    exact w_X7_winner_L41 C hk0 FU r13 r15 (0 : Int32)  hf
  refine g_bipush (pc := 13) (v := (-2 : Int32)) C dX7_winner_13 (by decide) ?_
  exact g_iret C hf dX7_winner_15

theorem c_X7_winner {l : Launch} {D : va_G} {cy : Nat → ClassId} {Λ : Nat → Nat} (hi : ∀ i j : Nat, Λ i = Λ j → i = j) {M : Mem} {a0 : Nat} {x1 : Int32} {x2 : Int32} {x3 : Int32} {r9 : Int32} (hk0 : Is NN a0 8) (hf : m_X7_winner M a0 x1 x2 x3 = some r9) : Ct l yX7_winner cX7_winner 7 (some .int) { frames := 2, cells := 0, slots := 0, locals := 47 } D cy Λ [.ref (Λ a0), .int x1, .int x2, .int x3] NN M 0 0 (QcI D cy Λ NN r9 M) := ent (by decide) hi (Nat.le_of_ble_eq_true rfl) (fun p e s m args below meth c C => w_X7_winner C hk0 hf)
theorem w_X6_sourceAt {p : Program} {l : Launch} {e : Env} {s : State} {m : MethodId} {args : Array Value} {below : List Frame} {meth : Method} {c : Code} {D : va_G} {cy : Nat → ClassId} {Λ : Nat → Nat} (C : Cx p s m args meth c cX6_sourceAt 3 RX6 (some .int) D cy Λ (AA Λ s.heap.size)) {M : Mem} {a0 : Nat} {x1 : Int32} {x2 : Int32} {r9 : Int32} (hk0 : Is NN a0 7) (hf : m_X6_sourceAt M a0 x1 x2 = some r9) : GW p l e { frames := 1, cells := 0, slots := 0, locals := 21 } s m args below meth c D cy Λ 3 (QcI D cy Λ NN r9 M) M 0 [(0, .ref (Λ a0)), (1, .int x1), (2, .int x2)] [] := by
  unfold m_X6_sourceAt at hf
  refine g_iload_n (pc := 0) C 1 dX6_sourceAt_0 rfl rfl ?_
  refine g_aload_n (pc := 1) C 0 dX6_sourceAt_1 rfl rfl ?_
  refine g_getI (pc := 2) C fgX6_9 (by decide) hk0 rfl dX6_sourceAt_2 ?_
  obtain ⟨r11, h11, hf⟩ := ob hf
  refine g_resI (pc := 5) C (rnSN (As := [.int x1, .int (M.2 a0 0)]) (st := []) C (c_X7_within C.2.2.2.2.2.1  h11) lknX6_67 rfl rfl (Nat.le_of_ble_eq_true rfl) ⟨⟨rfl, rfl⟩, Nat.le_of_ble_eq_true rfl, Nat.le_of_ble_eq_true rfl⟩ ⟨Nat.le_of_ble_eq_true rfl, Nat.le_of_ble_eq_true rfl⟩ dX6_sourceAt_5) ?_
  refine g_if_eq (pc := 8) (tgt := 32) C hf dX6_sourceAt_8 (by decide) (fun hf => ?_) (fun hf => ?_)
  · refine g_bipush (pc := 32) (v := (-9 : Int32)) C dX6_sourceAt_32 (by decide) ?_
    exact g_iret C hf dX6_sourceAt_34
  refine g_iload_n (pc := 11) C 2 dX6_sourceAt_11 rfl rfl ?_
  refine g_iconst (pc := 12) (v := (4 : Int32)) C dX6_sourceAt_12 (by decide) ?_
  obtain ⟨r12, h12, hf⟩ := ob hf
  refine g_resI (pc := 13) C (rnSN (As := [.int x2, .int (4 : Int32)]) (st := []) C (c_X7_within C.2.2.2.2.2.1  h12) lknX6_67 rfl rfl (Nat.le_of_ble_eq_true rfl) ⟨⟨rfl, rfl⟩, Nat.le_of_ble_eq_true rfl, Nat.le_of_ble_eq_true rfl⟩ ⟨Nat.le_of_ble_eq_true rfl, Nat.le_of_ble_eq_true rfl⟩ dX6_sourceAt_13) ?_
  refine g_if_eq (pc := 16) (tgt := 32) C hf dX6_sourceAt_16 (by decide) (fun hf => ?_) (fun hf => ?_)
  · refine g_bipush (pc := 32) (v := (-9 : Int32)) C dX6_sourceAt_32 (by decide) ?_
    exact g_iret C hf dX6_sourceAt_34
  refine g_aload_n (pc := 19) C 0 dX6_sourceAt_19 rfl rfl ?_
  refine g_getR (pc := 20) (T := 9) C hf fgX6_25 (by decide) hk0 rfl dX6_sourceAt_20 (fun a13 hk13 hf => ?_)
  refine g_iconst (pc := 23) (v := (4 : Int32)) C dX6_sourceAt_23 (by decide) ?_
  refine g_iload_n (pc := 24) C 1 dX6_sourceAt_24 rfl rfl ?_
  refine g_imul (pc := 25) C dX6_sourceAt_25 ?_
  refine g_iload_n (pc := 26) C 2 dX6_sourceAt_26 rfl rfl ?_
  refine g_iadd (pc := 27) C dX6_sourceAt_27 ?_
  refine g_iald (pc := 28) C hf hk13 dX6_sourceAt_28 (fun v14 hf => ?_)
  refine g_goto (pc := 29) (tgt := 34) C dX6_sourceAt_29 (by decide) ?_
  exact g_iret C hf dX6_sourceAt_34

theorem c_X6_sourceAt {l : Launch} {D : va_G} {cy : Nat → ClassId} {Λ : Nat → Nat} (hi : ∀ i j : Nat, Λ i = Λ j → i = j) {M : Mem} {a0 : Nat} {x1 : Int32} {x2 : Int32} {r9 : Int32} (hk0 : Is NN a0 7) (hf : m_X6_sourceAt M a0 x1 x2 = some r9) : Ct l yX6_sourceAt cX6_sourceAt 3 (some .int) { frames := 1, cells := 0, slots := 0, locals := 21 } D cy Λ [.ref (Λ a0), .int x1, .int x2] NN M 0 0 (QcI D cy Λ NN r9 M) := ent (by decide) hi (Nat.le_of_ble_eq_true rfl) (fun p e s m args below meth c C => w_X6_sourceAt C hk0 hf)
theorem w_X7_source {p : Program} {l : Launch} {e : Env} {s : State} {m : MethodId} {args : Array Value} {below : List Frame} {meth : Method} {c : Code} {D : va_G} {cy : Nat → ClassId} {Λ : Nat → Nat} (C : Cx p s m args meth c cX7_source 3 RX7 (some .int) D cy Λ (AA Λ s.heap.size)) {M : Mem} {a0 : Nat} {x1 : Int32} {x2 : Int32} {r9 : Int32} (hk0 : Is NN a0 8) (hf : m_X7_source M a0 x1 x2 = some r9) : GW p l e { frames := 2, cells := 0, slots := 0, locals := 43 } s m args below meth c D cy Λ 3 (QcI D cy Λ NN r9 M) M 0 [(0, .ref (Λ a0)), (1, .int x1), (2, .int x2)] [] := by
  unfold m_X7_source at hf
  refine g_aload_n (pc := 0) C 0 dX7_source_0 rfl rfl ?_
  refine g_iload_n (pc := 1) C 1 dX7_source_1 rfl rfl ?_
  refine g_iload_n (pc := 2) C 2 dX7_source_2 rfl rfl ?_
  obtain ⟨r11, h11, hf⟩ := ob hf
  refine g_resI (pc := 3) C (rnV (As := [.int x1, .int x2]) (st := []) C (c_X7_isPlace C.2.2.2.2.2.1 hk0 h11) lkX7_174 rfl (by decide) hk0 rfl rfl (Nat.le_of_ble_eq_true rfl) ⟨⟨rfl, rfl⟩, Nat.le_of_ble_eq_true rfl, Nat.le_of_ble_eq_true rfl⟩ ⟨Nat.le_of_ble_eq_true rfl, Nat.le_of_ble_eq_true rfl⟩ dX7_source_3) ?_
  refine g_if_ne (pc := 6) (tgt := 12) C hf dX7_source_6 (by decide) (fun hf => ?_) (fun hf => ?_)
  · refine g_bipush (pc := 9) (v := (-2 : Int32)) C dX7_source_9 (by decide) ?_
    exact g_iret C hf dX7_source_11
  refine g_aload_n (pc := 12) C 0 dX7_source_12 rfl rfl ?_
  refine g_getR (pc := 13) (T := 6) C hf fgX7_44 (by decide) hk0 rfl dX7_source_13 (fun a12 hk12 hf => ?_)
  refine g_iload_n (pc := 16) C 1 dX7_source_16 rfl rfl ?_
  refine g_iload_n (pc := 17) C 2 dX7_source_17 rfl rfl ?_
  obtain ⟨r13, h13, hf⟩ := ob hf
  refine g_resI (pc := 18) C (rnV (As := [.int x1, .int x2]) (st := []) C (c_X6_sourceAt C.2.2.2.2.2.1 hk12 h13) lkX7_189 rfl (by decide) hk12 rfl rfl (Nat.le_of_ble_eq_true rfl) ⟨⟨rfl, rfl⟩, Nat.le_of_ble_eq_true rfl, Nat.le_of_ble_eq_true rfl⟩ ⟨Nat.le_of_ble_eq_true rfl, Nat.le_of_ble_eq_true rfl⟩ dX7_source_18) ?_
  exact g_iret C hf dX7_source_21

theorem c_X7_source {l : Launch} {D : va_G} {cy : Nat → ClassId} {Λ : Nat → Nat} (hi : ∀ i j : Nat, Λ i = Λ j → i = j) {M : Mem} {a0 : Nat} {x1 : Int32} {x2 : Int32} {r9 : Int32} (hk0 : Is NN a0 8) (hf : m_X7_source M a0 x1 x2 = some r9) : Ct l yX7_source cX7_source 3 (some .int) { frames := 2, cells := 0, slots := 0, locals := 43 } D cy Λ [.ref (Λ a0), .int x1, .int x2] NN M 0 0 (QcI D cy Λ NN r9 M) := ent (by decide) hi (Nat.le_of_ble_eq_true rfl) (fun p e s m args below meth c C => w_X7_source C hk0 hf)
theorem w_X4_lookedAtBy_L14 {p : Program} {l : Launch} {e : Env} {s : State} {m : MethodId} {args : Array Value} {below : List Frame} {meth : Method} {c : Code} {D : va_G} {cy : Nat → ClassId} {Λ : Nat → Nat} (C : Cx p s m args meth c cX4_lookedAtBy 8 RX4 (some .int) D cy Λ (AA Λ s.heap.size)) {M : Mem} {a0 : Nat} {a1 : Nat} {a2 : Nat} {x3 : Int32} {x4 : Int32}  {r9 : Int32} (hk0 : Is NN a0 5) (hk1 : Is NN a1 2) (hk2 : Is NN a2 4)  : ∀ (fu : Nat) (x5 : Int32) (x6 : Int32) (x7 : Int32), m_X4_lookedAtBy_L14 M a0 a1 a2 x3 x4 fu x5 x6 x7 = some r9 → GW p l e { frames := 2, cells := 0, slots := 0, locals := 49 } s m args below meth c D cy Λ 8 (QcI D cy Λ NN r9 M) M 14 [(0, .ref (Λ a0)), (1, .ref (Λ a1)), (2, .ref (Λ a2)), (3, .int x3), (4, .int x4), (5, .int x5), (6, .int x6), (7, .int x7)] [] := by
  intro fu
  induction fu with
  | zero =>
    intro x5 x6 x7  hf
    cases hf
  | succ fu ih =>
    intro x5 x6 x7  hf
    unfold m_X4_lookedAtBy_L14 at hf
    refine g_iload (pc := 14) C 7 dX4_lookedAtBy_14 rfl ?_
    refine g_iload (pc := 16) C 5 dX4_lookedAtBy_16 rfl ?_
    refine g_ic_gt (pc := 18) (tgt := 74) C hf dX4_lookedAtBy_18 (by decide) (fun hf => ?_) (fun hf => ?_)
    · refine g_iload (pc := 74) C 6 dX4_lookedAtBy_74 rfl ?_
      exact g_iret C hf dX4_lookedAtBy_76
    refine g_aload_n (pc := 21) C 2 dX4_lookedAtBy_21 rfl rfl ?_
    refine g_getR (pc := 22) (T := 9) C hf fgX4_88 (by decide) hk2 rfl dX4_lookedAtBy_22 (fun a11 hk11 hf => ?_)
    refine g_iload (pc := 25) C 7 dX4_lookedAtBy_25 rfl ?_
    refine g_iald (pc := 27) C hf hk11 dX4_lookedAtBy_27 (fun v12 hf => ?_)
    refine g_iload (pc := 28) C 4 dX4_lookedAtBy_28 rfl ?_
    obtain ⟨r13, h13, hf⟩ := ob hf
    refine g_resI (pc := 30) C (rnSN (As := [.int v12, .int x4]) (st := []) C (c_X7_hasBit C.2.2.2.2.2.1  h13) lknX4_52 rfl rfl (Nat.le_of_ble_eq_true rfl) ⟨⟨rfl, rfl⟩, Nat.le_of_ble_eq_true rfl, Nat.le_of_ble_eq_true rfl⟩ ⟨Nat.le_of_ble_eq_true rfl, Nat.le_of_ble_eq_true rfl⟩ dX4_lookedAtBy_30) ?_
    refine g_if_eq (pc := 33) (tgt := 68) C hf dX4_lookedAtBy_33 (by decide) (fun hf => ?_) (fun hf => ?_)
    · refine g_iinc (pc := 68) (v := (x7 + (1 : Int32))) (lv2 := [(7, .int (x7 + (1 : Int32))), (0, .ref (Λ a0)), (1, .ref (Λ a1)), (2, .ref (Λ a2)), (3, .int x3), (4, .int x4), (5, .int x5), (6, .int x6)]) C 7 dX4_lookedAtBy_68 rfl rfl (by decide) rfl ?_
      refine g_goto (pc := 71) (tgt := 14) C dX4_lookedAtBy_71 (by decide) ?_
      refine g_sub [1, 2, 3, 4, 5, 6, 7, 0] rfl ?_
      exact ih x5 x6 (x7 + (1 : Int32))  hf
    refine g_iload (pc := 36) C 6 dX4_lookedAtBy_36 rfl ?_
    refine g_iload (pc := 38) C 7 dX4_lookedAtBy_38 rfl ?_
    refine g_iload (pc := 40) C 5 dX4_lookedAtBy_40 rfl ?_
    refine g_ic_ne (pc := 42) (tgt := 51) C hf dX4_lookedAtBy_42 (by decide) (fun hf => ?_) (fun hf => ?_)
    · refine g_iconst (pc := 45) (v := (1 : Int32)) C dX4_lookedAtBy_45 (by decide) ?_
      refine g_iload_n (pc := 46) C 3 dX4_lookedAtBy_46 rfl rfl ?_
      refine g_ishl (pc := 47) C dX4_lookedAtBy_47 ?_
      refine g_goto (pc := 48) (tgt := 65) C dX4_lookedAtBy_48 (by decide) ?_
      refine g_ior (pc := 65) C dX4_lookedAtBy_65 ?_
      refine g_istore (pc := 66) (lv2 := [(6, .int (x6 ||| ((1 : Int32) <<< (x3 &&& 31)))), (0, .ref (Λ a0)), (1, .ref (Λ a1)), (2, .ref (Λ a2)), (3, .int x3), (4, .int x4), (5, .int x5), (7, .int x7)]) C dX4_lookedAtBy_66 (by decide) rfl ?_
      refine g_iinc (pc := 68) (v := (x7 + (1 : Int32))) (lv2 := [(7, .int (x7 + (1 : Int32))), (6, .int (x6 ||| ((1 : Int32) <<< (x3 &&& 31)))), (0, .ref (Λ a0)), (1, .ref (Λ a1)), (2, .ref (Λ a2)), (3, .int x3), (4, .int x4), (5, .int x5)]) C 7 dX4_lookedAtBy_68 rfl rfl (by decide) rfl ?_
      refine g_goto (pc := 71) (tgt := 14) C dX4_lookedAtBy_71 (by decide) ?_
      refine g_sub [2, 3, 4, 5, 6, 7, 1, 0] rfl ?_
      exact ih x5 (x6 ||| ((1 : Int32) <<< (x3 &&& 31))) (x7 + (1 : Int32))  hf
    refine g_aload_n (pc := 51) C 0 dX4_lookedAtBy_51 rfl rfl ?_
    refine g_iload_n (pc := 52) C 3 dX4_lookedAtBy_52 rfl rfl ?_
    obtain ⟨r14, h14, hf⟩ := ob hf
    refine g_resI (pc := 53) C (rnV (As := [.int x3]) (st := [.int x6]) C (c_X4_below C.2.2.2.2.2.1 hk0 h14) lkX4_89 rfl (by decide) hk0 rfl rfl (Nat.le_of_ble_eq_true rfl) ⟨⟨rfl, rfl⟩, Nat.le_of_ble_eq_true rfl, Nat.le_of_ble_eq_true rfl⟩ ⟨Nat.le_of_ble_eq_true rfl, Nat.le_of_ble_eq_true rfl⟩ dX4_lookedAtBy_53) ?_
    refine g_aload_n (pc := 56) C 0 dX4_lookedAtBy_56 rfl rfl ?_
    refine g_aload_n (pc := 57) C 1 dX4_lookedAtBy_57 rfl rfl ?_
    refine g_aload_n (pc := 58) C 2 dX4_lookedAtBy_58 rfl rfl ?_
    refine g_iload (pc := 59) C 5 dX4_lookedAtBy_59 rfl ?_
    obtain ⟨r15, h15, hf⟩ := ob hf
    refine g_resI (pc := 61) C (rnV (As := [.ref (Λ a1), .ref (Λ a2), .int x5]) (st := [.int r14, .int x6]) C (c_X4_fitted C.2.2.2.2.2.1 hk0 hk1 hk2 h15) lkX4_59 rfl (by decide) hk0 rfl rfl (Nat.le_of_ble_eq_true rfl) ⟨⟨rfl, rfl⟩, Nat.le_of_ble_eq_true rfl, Nat.le_of_ble_eq_true rfl⟩ ⟨Nat.le_of_ble_eq_true rfl, Nat.le_of_ble_eq_true rfl⟩ dX4_lookedAtBy_61) ?_
    refine g_iand (pc := 64) C dX4_lookedAtBy_64 ?_
    refine g_ior (pc := 65) C dX4_lookedAtBy_65 ?_
    refine g_istore (pc := 66) (lv2 := [(6, .int (x6 ||| (r14 &&& r15))), (0, .ref (Λ a0)), (1, .ref (Λ a1)), (2, .ref (Λ a2)), (3, .int x3), (4, .int x4), (5, .int x5), (7, .int x7)]) C dX4_lookedAtBy_66 (by decide) rfl ?_
    refine g_iinc (pc := 68) (v := (x7 + (1 : Int32))) (lv2 := [(7, .int (x7 + (1 : Int32))), (6, .int (x6 ||| (r14 &&& r15))), (0, .ref (Λ a0)), (1, .ref (Λ a1)), (2, .ref (Λ a2)), (3, .int x3), (4, .int x4), (5, .int x5)]) C 7 dX4_lookedAtBy_68 rfl rfl (by decide) rfl ?_
    refine g_goto (pc := 71) (tgt := 14) C dX4_lookedAtBy_71 (by decide) ?_
    refine g_sub [2, 3, 4, 5, 6, 7, 1, 0] rfl ?_
    exact ih x5 (x6 ||| (r14 &&& r15)) (x7 + (1 : Int32))  hf

theorem w_X4_lookedAtBy {p : Program} {l : Launch} {e : Env} {s : State} {m : MethodId} {args : Array Value} {below : List Frame} {meth : Method} {c : Code} {D : va_G} {cy : Nat → ClassId} {Λ : Nat → Nat} (C : Cx p s m args meth c cX4_lookedAtBy 8 RX4 (some .int) D cy Λ (AA Λ s.heap.size)) {M : Mem} {a0 : Nat} {a1 : Nat} {a2 : Nat} {x3 : Int32} {x4 : Int32} {r9 : Int32} (hk0 : Is NN a0 5) (hk1 : Is NN a1 2) (hk2 : Is NN a2 4) (hf : m_X4_lookedAtBy M a0 a1 a2 x3 x4 = some r9) : GW p l e { frames := 2, cells := 0, slots := 0, locals := 49 } s m args below meth c D cy Λ 8 (QcI D cy Λ NN r9 M) M 0 [(0, .ref (Λ a0)), (1, .ref (Λ a1)), (2, .ref (Λ a2)), (3, .int x3), (4, .int x4)] [] := by
  unfold m_X4_lookedAtBy at hf
  refine g_aload_n (pc := 0) C 2 dX4_lookedAtBy_0 rfl rfl ?_
  refine g_getI (pc := 1) C fgX4_63 (by decide) hk2 rfl dX4_lookedAtBy_1 ?_
  refine g_iconst (pc := 4) (v := (1 : Int32)) C dX4_lookedAtBy_4 (by decide) ?_
  refine g_isub (pc := 5) C dX4_lookedAtBy_5 ?_
  refine g_istore (pc := 6) (lv2 := [(5, .int ((M.2 a2 1) - (1 : Int32))), (0, .ref (Λ a0)), (1, .ref (Λ a1)), (2, .ref (Λ a2)), (3, .int x3), (4, .int x4)]) C dX4_lookedAtBy_6 (by decide) rfl ?_
  refine g_iconst (pc := 8) (v := (0 : Int32)) C dX4_lookedAtBy_8 (by decide) ?_
  refine g_istore (pc := 9) (lv2 := [(6, .int (0 : Int32)), (5, .int ((M.2 a2 1) - (1 : Int32))), (0, .ref (Λ a0)), (1, .ref (Λ a1)), (2, .ref (Λ a2)), (3, .int x3), (4, .int x4)]) C dX4_lookedAtBy_9 (by decide) rfl ?_
  refine g_iconst (pc := 11) (v := (0 : Int32)) C dX4_lookedAtBy_11 (by decide) ?_
  refine g_istore (pc := 12) (lv2 := [(7, .int (0 : Int32)), (6, .int (0 : Int32)), (5, .int ((M.2 a2 1) - (1 : Int32))), (0, .ref (Λ a0)), (1, .ref (Λ a1)), (2, .ref (Λ a2)), (3, .int x3), (4, .int x4)]) C dX4_lookedAtBy_12 (by decide) rfl ?_
  refine g_sub [3, 4, 5, 6, 7, 2, 1, 0] rfl ?_
  exact w_X4_lookedAtBy_L14 C hk0 hk1 hk2 FU ((M.2 a2 1) - (1 : Int32)) (0 : Int32) (0 : Int32)  hf

theorem c_X4_lookedAtBy {l : Launch} {D : va_G} {cy : Nat → ClassId} {Λ : Nat → Nat} (hi : ∀ i j : Nat, Λ i = Λ j → i = j) {M : Mem} {a0 : Nat} {a1 : Nat} {a2 : Nat} {x3 : Int32} {x4 : Int32} {r9 : Int32} (hk0 : Is NN a0 5) (hk1 : Is NN a1 2) (hk2 : Is NN a2 4) (hf : m_X4_lookedAtBy M a0 a1 a2 x3 x4 = some r9) : Ct l yX4_lookedAtBy cX4_lookedAtBy 8 (some .int) { frames := 2, cells := 0, slots := 0, locals := 49 } D cy Λ [.ref (Λ a0), .ref (Λ a1), .ref (Λ a2), .int x3, .int x4] NN M 0 0 (QcI D cy Λ NN r9 M) := ent (by decide) hi (Nat.le_of_ble_eq_true rfl) (fun p e s m args below meth c C => w_X4_lookedAtBy C hk0 hk1 hk2 hf)
theorem w_X4_lookedAt_L6 {p : Program} {l : Launch} {e : Env} {s : State} {m : MethodId} {args : Array Value} {below : List Frame} {meth : Method} {c : Code} {D : va_G} {cy : Nat → ClassId} {Λ : Nat → Nat} (C : Cx p s m args meth c cX4_lookedAt 6 RX4 (some .int) D cy Λ (AA Λ s.heap.size)) {M : Mem} {a0 : Nat} {a1 : Nat} {x2 : Int32} {x3 : Int32}  {r9 : Int32} (hk0 : Is NN a0 5) (hk1 : Is NN a1 2)  : ∀ (fu : Nat) (x4 : Int32) (x5 : Int32), m_X4_lookedAt_L6 M a0 a1 x2 x3 fu x4 x5 = some r9 → GW p l e { frames := 3, cells := 0, slots := 0, locals := 76 } s m args below meth c D cy Λ 6 (QcI D cy Λ NN r9 M) M 6 [(0, .ref (Λ a0)), (1, .ref (Λ a1)), (2, .int x2), (3, .int x3), (4, .int x4), (5, .int x5)] [] := by
  intro fu
  induction fu with
  | zero =>
    intro x4 x5  hf
    cases hf
  | succ fu ih =>
    intro x4 x5  hf
    unfold m_X4_lookedAt_L6 at hf
    refine g_iload (pc := 6) C 5 dX4_lookedAt_6 rfl ?_
    refine g_aload_n (pc := 8) C 0 dX4_lookedAt_8 rfl rfl ?_
    refine g_getI (pc := 9) C fgX4_15 (by decide) hk0 rfl dX4_lookedAt_9 ?_
    refine g_ic_ge (pc := 12) (tgt := 49) C hf dX4_lookedAt_12 (by decide) (fun hf => ?_) (fun hf => ?_)
    · refine g_iload (pc := 49) C 4 dX4_lookedAt_49 rfl ?_
      exact g_iret C hf dX4_lookedAt_51
    refine g_aload_n (pc := 15) C 1 dX4_lookedAt_15 rfl rfl ?_
    refine g_iload (pc := 16) C 5 dX4_lookedAt_16 rfl ?_
    obtain ⟨r11, h11, hf⟩ := ob hf
    refine g_resI (pc := 18) C (rnV (As := [.int x5]) (st := []) C (c_X1_hasOn C.2.2.2.2.2.1 hk1 h11) lkX4_80 rfl (by decide) hk1 rfl rfl (Nat.le_of_ble_eq_true rfl) ⟨⟨rfl, rfl⟩, Nat.le_of_ble_eq_true rfl, Nat.le_of_ble_eq_true rfl⟩ ⟨Nat.le_of_ble_eq_true rfl, Nat.le_of_ble_eq_true rfl⟩ dX4_lookedAt_18) ?_
    refine g_if_eq (pc := 21) (tgt := 43) C hf dX4_lookedAt_21 (by decide) (fun hf => ?_) (fun hf => ?_)
    · refine g_iinc (pc := 43) (v := (x5 + (1 : Int32))) (lv2 := [(5, .int (x5 + (1 : Int32))), (0, .ref (Λ a0)), (1, .ref (Λ a1)), (2, .int x2), (3, .int x3), (4, .int x4)]) C 5 dX4_lookedAt_43 rfl rfl (by decide) rfl ?_
      refine g_goto (pc := 46) (tgt := 6) C dX4_lookedAt_46 (by decide) ?_
      refine g_sub [1, 2, 3, 4, 5, 0] rfl ?_
      exact ih x4 (x5 + (1 : Int32))  hf
    refine g_iload (pc := 24) C 4 dX4_lookedAt_24 rfl ?_
    refine g_aload_n (pc := 26) C 0 dX4_lookedAt_26 rfl rfl ?_
    refine g_aload_n (pc := 27) C 1 dX4_lookedAt_27 rfl rfl ?_
    refine g_aload_n (pc := 28) C 0 dX4_lookedAt_28 rfl rfl ?_
    refine g_getR (pc := 29) (T := 13) C hf fgX4_34 (by decide) hk0 rfl dX4_lookedAt_29 (fun a12 hk12 hf => ?_)
    refine g_iload (pc := 32) C 5 dX4_lookedAt_32 rfl ?_
    refine g_aald4 (pc := 34) (T := 3) C hf hk12 dX4_lookedAt_34 (fun a13 hk13 hf => ?_)
    refine g_iload_n (pc := 35) C 2 dX4_lookedAt_35 rfl rfl ?_
    refine g_iload_n (pc := 36) C 3 dX4_lookedAt_36 rfl rfl ?_
    obtain ⟨r14, h14, hf⟩ := ob hf
    refine g_resI (pc := 37) C (rnV (As := [.ref (Λ a1), .ref (Λ a13), .int x2, .int x3]) (st := [.int x4]) C (c_X4_lookedAtBy C.2.2.2.2.2.1 hk0 hk1 hk13 h14) lkX4_84 rfl (by decide) hk0 rfl rfl (Nat.le_of_ble_eq_true rfl) ⟨⟨rfl, rfl⟩, Nat.le_of_ble_eq_true rfl, Nat.le_of_ble_eq_true rfl⟩ ⟨Nat.le_of_ble_eq_true rfl, Nat.le_of_ble_eq_true rfl⟩ dX4_lookedAt_37) ?_
    refine g_ior (pc := 40) C dX4_lookedAt_40 ?_
    refine g_istore (pc := 41) (lv2 := [(4, .int (x4 ||| r14)), (0, .ref (Λ a0)), (1, .ref (Λ a1)), (2, .int x2), (3, .int x3), (5, .int x5)]) C dX4_lookedAt_41 (by decide) rfl ?_
    refine g_iinc (pc := 43) (v := (x5 + (1 : Int32))) (lv2 := [(5, .int (x5 + (1 : Int32))), (4, .int (x4 ||| r14)), (0, .ref (Λ a0)), (1, .ref (Λ a1)), (2, .int x2), (3, .int x3)]) C 5 dX4_lookedAt_43 rfl rfl (by decide) rfl ?_
    refine g_goto (pc := 46) (tgt := 6) C dX4_lookedAt_46 (by decide) ?_
    refine g_sub [2, 3, 4, 5, 1, 0] rfl ?_
    exact ih (x4 ||| r14) (x5 + (1 : Int32))  hf

theorem w_X4_lookedAt {p : Program} {l : Launch} {e : Env} {s : State} {m : MethodId} {args : Array Value} {below : List Frame} {meth : Method} {c : Code} {D : va_G} {cy : Nat → ClassId} {Λ : Nat → Nat} (C : Cx p s m args meth c cX4_lookedAt 6 RX4 (some .int) D cy Λ (AA Λ s.heap.size)) {M : Mem} {a0 : Nat} {a1 : Nat} {x2 : Int32} {x3 : Int32} {r9 : Int32} (hk0 : Is NN a0 5) (hk1 : Is NN a1 2) (hf : m_X4_lookedAt M a0 a1 x2 x3 = some r9) : GW p l e { frames := 3, cells := 0, slots := 0, locals := 76 } s m args below meth c D cy Λ 6 (QcI D cy Λ NN r9 M) M 0 [(0, .ref (Λ a0)), (1, .ref (Λ a1)), (2, .int x2), (3, .int x3)] [] := by
  unfold m_X4_lookedAt at hf
  refine g_iconst (pc := 0) (v := (0 : Int32)) C dX4_lookedAt_0 (by decide) ?_
  refine g_istore (pc := 1) (lv2 := [(4, .int (0 : Int32)), (0, .ref (Λ a0)), (1, .ref (Λ a1)), (2, .int x2), (3, .int x3)]) C dX4_lookedAt_1 (by decide) rfl ?_
  refine g_iconst (pc := 3) (v := (0 : Int32)) C dX4_lookedAt_3 (by decide) ?_
  refine g_istore (pc := 4) (lv2 := [(5, .int (0 : Int32)), (4, .int (0 : Int32)), (0, .ref (Λ a0)), (1, .ref (Λ a1)), (2, .int x2), (3, .int x3)]) C dX4_lookedAt_4 (by decide) rfl ?_
  refine g_sub [2, 3, 4, 5, 1, 0] rfl ?_
  exact w_X4_lookedAt_L6 C hk0 hk1 FU (0 : Int32) (0 : Int32)  hf

theorem c_X4_lookedAt {l : Launch} {D : va_G} {cy : Nat → ClassId} {Λ : Nat → Nat} (hi : ∀ i j : Nat, Λ i = Λ j → i = j) {M : Mem} {a0 : Nat} {a1 : Nat} {x2 : Int32} {x3 : Int32} {r9 : Int32} (hk0 : Is NN a0 5) (hk1 : Is NN a1 2) (hf : m_X4_lookedAt M a0 a1 x2 x3 = some r9) : Ct l yX4_lookedAt cX4_lookedAt 6 (some .int) { frames := 3, cells := 0, slots := 0, locals := 76 } D cy Λ [.ref (Λ a0), .ref (Λ a1), .int x2, .int x3] NN M 0 0 (QcI D cy Λ NN r9 M) := ent (by decide) hi (Nat.le_of_ble_eq_true rfl) (fun p e s m args below meth c C => w_X4_lookedAt C hk0 hk1 hf)
theorem w_X7_tryOut {p : Program} {l : Launch} {e : Env} {s : State} {m : MethodId} {args : Array Value} {below : List Frame} {meth : Method} {c : Code} {D : va_G} {cy : Nat → ClassId} {Λ : Nat → Nat} (C : Cx p s m args meth c cX7_tryOut 2 RX7 none D cy Λ (AA Λ s.heap.size)) {M : Mem} {a0 : Nat} {x1 : Int32} {M9 : Mem} (hk0 : Is NN a0 8) (hf : m_X7_tryOut M a0 x1 = some M9) : GW p l e { frames := 4, cells := 0, slots := 0, locals := 97 } s m args below meth c D cy Λ 2 (QcV D cy Λ NN M9) M 0 [(0, .ref (Λ a0)), (1, .int x1)] [] := by
  unfold m_X7_tryOut at hf
  refine g_aload_n (pc := 0) C 0 dX7_tryOut_0 rfl rfl ?_
  refine g_getR (pc := 1) (T := 1) C hf fgX7_38 (by decide) hk0 rfl dX7_tryOut_1 (fun a11 hk11 hf => ?_)
  refine g_aload_n (pc := 4) C 0 dX7_tryOut_4 rfl rfl ?_
  refine g_getR (pc := 5) (T := 1) C hf fgX7_34 (by decide) hk0 rfl dX7_tryOut_5 (fun a12 hk12 hf => ?_)
  obtain ⟨M13, h13, hf⟩ := ob hf
  refine g_resV (pc := 8) C (rnV (As := [.ref (Λ a12)]) (st := []) C (c_X1_copyFrom C.2.2.2.2.2.1 hk11 hk12 h13) lkX7_95 rfl (by decide) hk11 rfl rfl (Nat.le_of_ble_eq_true rfl) ⟨⟨rfl, rfl⟩, Nat.le_of_ble_eq_true rfl, Nat.le_of_ble_eq_true rfl⟩ ⟨Nat.le_of_ble_eq_true rfl, Nat.le_of_ble_eq_true rfl⟩ dX7_tryOut_8) ?_
  refine g_aload_n (pc := 11) C 0 dX7_tryOut_11 rfl rfl ?_
  refine g_getR (pc := 12) (T := 1) C hf fgX7_38 (by decide) hk0 rfl dX7_tryOut_12 (fun a14 hk14 hf => ?_)
  refine g_iload_n (pc := 15) C 1 dX7_tryOut_15 rfl rfl ?_
  obtain ⟨M15, h15, hf⟩ := ob hf
  refine g_resV (pc := 16) C (rnV (As := [.int x1]) (st := []) C (c_X1_apply C.2.2.2.2.2.1 hk14 h15) lkX7_167 rfl (by decide) hk14 rfl rfl (Nat.le_of_ble_eq_true rfl) ⟨⟨rfl, rfl⟩, Nat.le_of_ble_eq_true rfl, Nat.le_of_ble_eq_true rfl⟩ ⟨Nat.le_of_ble_eq_true rfl, Nat.le_of_ble_eq_true rfl⟩ dX7_tryOut_16) ?_
  refine g_aload_n (pc := 19) C 0 dX7_tryOut_19 rfl rfl ?_
  refine g_getR (pc := 20) (T := 6) C hf fgX7_48 (by decide) hk0 rfl dX7_tryOut_20 (fun a16 hk16 hf => ?_)
  refine g_aload_n (pc := 23) C 0 dX7_tryOut_23 rfl rfl ?_
  refine g_getR (pc := 24) (T := 4) C hf fgX7_27 (by decide) hk0 rfl dX7_tryOut_24 (fun a17 hk17 hf => ?_)
  refine g_aload_n (pc := 27) C 0 dX7_tryOut_27 rfl rfl ?_
  refine g_getR (pc := 28) (T := 1) C hf fgX7_38 (by decide) hk0 rfl dX7_tryOut_28 (fun a18 hk18 hf => ?_)
  obtain ⟨M19, h19, hf⟩ := ob hf
  refine g_resV (pc := 31) C (rnV (As := [.ref (Λ a17), .ref (Λ a18)]) (st := []) C (c_X6_resolve C.2.2.2.2.2.1 hk16 hk17 hk18 h19) lkX7_232 rfl (by decide) hk16 rfl rfl (Nat.le_of_ble_eq_true rfl) ⟨⟨rfl, rfl⟩, Nat.le_of_ble_eq_true rfl, Nat.le_of_ble_eq_true rfl⟩ ⟨Nat.le_of_ble_eq_true rfl, Nat.le_of_ble_eq_true rfl⟩ dX7_tryOut_31) ?_
  exact g_vret C hf dX7_tryOut_34

theorem c_X7_tryOut {l : Launch} {D : va_G} {cy : Nat → ClassId} {Λ : Nat → Nat} (hi : ∀ i j : Nat, Λ i = Λ j → i = j) {M : Mem} {a0 : Nat} {x1 : Int32} {M9 : Mem} (hk0 : Is NN a0 8) (hf : m_X7_tryOut M a0 x1 = some M9) : Ct l yX7_tryOut cX7_tryOut 2 none { frames := 4, cells := 0, slots := 0, locals := 97 } D cy Λ [.ref (Λ a0), .int x1] NN M 0 0 (QcV D cy Λ NN M9) := ent (by decide) hi (Nat.le_of_ble_eq_true rfl) (fun p e s m args below meth c C => w_X7_tryOut C hk0 hf)
theorem w_X6_differences_L4 {p : Program} {l : Launch} {e : Env} {s : State} {m : MethodId} {args : Array Value} {below : List Frame} {meth : Method} {c : Code} {D : va_G} {cy : Nat → ClassId} {Λ : Nat → Nat} (C : Cx p s m args meth c cX6_differences 4 RX6 (some .int) D cy Λ (AA Λ s.heap.size)) {M : Mem} {a0 : Nat} {a1 : Nat}  {r9 : Int32} (hk0 : Is NN a0 7) (hk1 : Is NN a1 7)  : ∀ (fu : Nat) (x2 : Int32) (x3 : Int32), m_X6_differences_L4 M a0 a1 fu x2 x3 = some r9 → GW p l e { frames := 3, cells := 0, slots := 0, locals := 66 } s m args below meth c D cy Λ 4 (QcI D cy Λ NN r9 M) M 4 [(0, .ref (Λ a0)), (1, .ref (Λ a1)), (2, .int x2), (3, .int x3)] [] := by
  intro fu
  induction fu with
  | zero =>
    intro x2 x3  hf
    cases hf
  | succ fu ih =>
    intro x2 x3  hf
    unfold m_X6_differences_L4 at hf
    refine g_iload_n (pc := 4) C 3 dX6_differences_4 rfl rfl ?_
    refine g_aload_n (pc := 5) C 0 dX6_differences_5 rfl rfl ?_
    refine g_getI (pc := 6) C fgX6_9 (by decide) hk0 rfl dX6_differences_6 ?_
    refine g_ic_ge (pc := 9) (tgt := 37) C hf dX6_differences_9 (by decide) (fun hf => ?_) (fun hf => ?_)
    · refine g_iload_n (pc := 37) C 2 dX6_differences_37 rfl rfl ?_
      exact g_iret C hf dX6_differences_38
    refine g_aload_n (pc := 12) C 0 dX6_differences_12 rfl rfl ?_
    refine g_iload_n (pc := 13) C 3 dX6_differences_13 rfl rfl ?_
    obtain ⟨r11, h11, hf⟩ := ob hf
    refine g_resI (pc := 14) C (rnV (As := [.int x3]) (st := []) C (c_X6_styleOf C.2.2.2.2.2.1 hk0 h11) lkX6_76 rfl (by decide) hk0 rfl rfl (Nat.le_of_ble_eq_true rfl) ⟨⟨rfl, rfl⟩, Nat.le_of_ble_eq_true rfl, Nat.le_of_ble_eq_true rfl⟩ ⟨Nat.le_of_ble_eq_true rfl, Nat.le_of_ble_eq_true rfl⟩ dX6_differences_14) ?_
    refine g_aload_n (pc := 17) C 1 dX6_differences_17 rfl rfl ?_
    refine g_iload_n (pc := 18) C 3 dX6_differences_18 rfl rfl ?_
    obtain ⟨r12, h12, hf⟩ := ob hf
    refine g_resI (pc := 19) C (rnV (As := [.int x3]) (st := [.int r11]) C (c_X6_styleOf C.2.2.2.2.2.1 hk1 h12) lkX6_76 rfl (by decide) hk1 rfl rfl (Nat.le_of_ble_eq_true rfl) ⟨⟨rfl, rfl⟩, Nat.le_of_ble_eq_true rfl, Nat.le_of_ble_eq_true rfl⟩ ⟨Nat.le_of_ble_eq_true rfl, Nat.le_of_ble_eq_true rfl⟩ dX6_differences_19) ?_
    refine g_ic_eq (pc := 22) (tgt := 31) C hf dX6_differences_22 (by decide) (fun hf => ?_) (fun hf => ?_)
    · refine g_iinc (pc := 31) (v := (x3 + (1 : Int32))) (lv2 := [(3, .int (x3 + (1 : Int32))), (0, .ref (Λ a0)), (1, .ref (Λ a1)), (2, .int x2)]) C 3 dX6_differences_31 rfl rfl (by decide) rfl ?_
      refine g_goto (pc := 34) (tgt := 4) C dX6_differences_34 (by decide) ?_
      refine g_sub [1, 2, 3, 0] rfl ?_
      exact ih x2 (x3 + (1 : Int32))  hf
    refine g_iload_n (pc := 25) C 2 dX6_differences_25 rfl rfl ?_
    refine g_iconst (pc := 26) (v := (1 : Int32)) C dX6_differences_26 (by decide) ?_
    refine g_iload_n (pc := 27) C 3 dX6_differences_27 rfl rfl ?_
    refine g_ishl (pc := 28) C dX6_differences_28 ?_
    refine g_ior (pc := 29) C dX6_differences_29 ?_
    refine g_istore_n (pc := 30) (lv2 := [(2, .int (x2 ||| ((1 : Int32) <<< (x3 &&& 31)))), (0, .ref (Λ a0)), (1, .ref (Λ a1)), (3, .int x3)]) C dX6_differences_30 rfl (by decide) rfl ?_
    refine g_iinc (pc := 31) (v := (x3 + (1 : Int32))) (lv2 := [(3, .int (x3 + (1 : Int32))), (2, .int (x2 ||| ((1 : Int32) <<< (x3 &&& 31)))), (0, .ref (Λ a0)), (1, .ref (Λ a1))]) C 3 dX6_differences_31 rfl rfl (by decide) rfl ?_
    refine g_goto (pc := 34) (tgt := 4) C dX6_differences_34 (by decide) ?_
    refine g_sub [2, 3, 1, 0] rfl ?_
    exact ih (x2 ||| ((1 : Int32) <<< (x3 &&& 31))) (x3 + (1 : Int32))  hf

theorem w_X6_differences {p : Program} {l : Launch} {e : Env} {s : State} {m : MethodId} {args : Array Value} {below : List Frame} {meth : Method} {c : Code} {D : va_G} {cy : Nat → ClassId} {Λ : Nat → Nat} (C : Cx p s m args meth c cX6_differences 4 RX6 (some .int) D cy Λ (AA Λ s.heap.size)) {M : Mem} {a0 : Nat} {a1 : Nat} {r9 : Int32} (hk0 : Is NN a0 7) (hk1 : Is NN a1 7) (hf : m_X6_differences M a0 a1 = some r9) : GW p l e { frames := 3, cells := 0, slots := 0, locals := 66 } s m args below meth c D cy Λ 4 (QcI D cy Λ NN r9 M) M 0 [(0, .ref (Λ a0)), (1, .ref (Λ a1))] [] := by
  unfold m_X6_differences at hf
  refine g_iconst (pc := 0) (v := (0 : Int32)) C dX6_differences_0 (by decide) ?_
  refine g_istore_n (pc := 1) (lv2 := [(2, .int (0 : Int32)), (0, .ref (Λ a0)), (1, .ref (Λ a1))]) C dX6_differences_1 rfl (by decide) rfl ?_
  refine g_iconst (pc := 2) (v := (0 : Int32)) C dX6_differences_2 (by decide) ?_
  refine g_istore_n (pc := 3) (lv2 := [(3, .int (0 : Int32)), (2, .int (0 : Int32)), (0, .ref (Λ a0)), (1, .ref (Λ a1))]) C dX6_differences_3 rfl (by decide) rfl ?_
  refine g_sub [2, 3, 1, 0] rfl ?_
  exact w_X6_differences_L4 C hk0 hk1 FU (0 : Int32) (0 : Int32)  hf

theorem c_X6_differences {l : Launch} {D : va_G} {cy : Nat → ClassId} {Λ : Nat → Nat} (hi : ∀ i j : Nat, Λ i = Λ j → i = j) {M : Mem} {a0 : Nat} {a1 : Nat} {r9 : Int32} (hk0 : Is NN a0 7) (hk1 : Is NN a1 7) (hf : m_X6_differences M a0 a1 = some r9) : Ct l yX6_differences cX6_differences 4 (some .int) { frames := 3, cells := 0, slots := 0, locals := 66 } D cy Λ [.ref (Λ a0), .ref (Λ a1)] NN M 0 0 (QcI D cy Λ NN r9 M) := ent (by decide) hi (Nat.le_of_ble_eq_true rfl) (fun p e s m args below meth c C => w_X6_differences C hk0 hk1 hf)
theorem w_X7_change {p : Program} {l : Launch} {e : Env} {s : State} {m : MethodId} {args : Array Value} {below : List Frame} {meth : Method} {c : Code} {D : va_G} {cy : Nat → ClassId} {Λ : Nat → Nat} (C : Cx p s m args meth c cX7_change 4 RX7 (some .int) D cy Λ (AA Λ s.heap.size)) {M : Mem} {a0 : Nat} {x1 : Int32} {x2 : Int32} {x3 : Int32} {r9 : Int32} {M9 : Mem} (hk0 : Is NN a0 8) (hf : m_X7_change M a0 x1 x2 x3 = some (r9, M9)) : GW p l e { frames := 5, cells := 0, slots := 0, locals := 118 } s m args below meth c D cy Λ 4 (QcI D cy Λ NN r9 M9) M 0 [(0, .ref (Λ a0)), (1, .int x1), (2, .int x2), (3, .int x3)] [] := by
  unfold m_X7_change at hf
  refine g_iload_n (pc := 0) C 1 dX7_change_0 rfl rfl ?_
  refine g_aload_n (pc := 1) C 0 dX7_change_1 rfl rfl ?_
  refine g_getR (pc := 2) (T := 4) C hf fgX7_27 (by decide) hk0 rfl dX7_change_2 (fun a11 hk11 hf => ?_)
  refine g_getI (pc := 5) C fgX7_106 (by decide) hk11 rfl dX7_change_5 ?_
  obtain ⟨r12, h12, hf⟩ := ob hf
  refine g_resI (pc := 8) C (rnS (As := [.int x1, .int (M.2 a11 0)]) (st := []) C (c_X7_within C.2.2.2.2.2.1  h12) lkX7_76 rfl rfl (Nat.le_of_ble_eq_true rfl) ⟨⟨rfl, rfl⟩, Nat.le_of_ble_eq_true rfl, Nat.le_of_ble_eq_true rfl⟩ ⟨Nat.le_of_ble_eq_true rfl, Nat.le_of_ble_eq_true rfl⟩ dX7_change_8) ?_
  refine g_if_eq (pc := 11) (tgt := 30) C hf dX7_change_11 (by decide) (fun hf => ?_) (fun hf => ?_)
  · refine g_bipush (pc := 30) (v := (-2 : Int32)) C dX7_change_30 (by decide) ?_
    exact g_iretM C hf dX7_change_32
  refine g_iload_n (pc := 14) C 2 dX7_change_14 rfl rfl ?_
  refine g_iconst (pc := 15) (v := (4 : Int32)) C dX7_change_15 (by decide) ?_
  obtain ⟨r13, h13, hf⟩ := ob hf
  refine g_resI (pc := 16) C (rnS (As := [.int x2, .int (4 : Int32)]) (st := []) C (c_X7_within C.2.2.2.2.2.1  h13) lkX7_76 rfl rfl (Nat.le_of_ble_eq_true rfl) ⟨⟨rfl, rfl⟩, Nat.le_of_ble_eq_true rfl, Nat.le_of_ble_eq_true rfl⟩ ⟨Nat.le_of_ble_eq_true rfl, Nat.le_of_ble_eq_true rfl⟩ dX7_change_16) ?_
  refine g_if_eq (pc := 19) (tgt := 30) C hf dX7_change_19 (by decide) (fun hf => ?_) (fun hf => ?_)
  · refine g_bipush (pc := 30) (v := (-2 : Int32)) C dX7_change_30 (by decide) ?_
    exact g_iretM C hf dX7_change_32
  refine g_iload_n (pc := 22) C 3 dX7_change_22 rfl rfl ?_
  refine g_iconst (pc := 23) (v := (2 : Int32)) C dX7_change_23 (by decide) ?_
  obtain ⟨r14, h14, hf⟩ := ob hf
  refine g_resI (pc := 24) C (rnS (As := [.int x3, .int (2 : Int32)]) (st := []) C (c_X7_within C.2.2.2.2.2.1  h14) lkX7_76 rfl rfl (Nat.le_of_ble_eq_true rfl) ⟨⟨rfl, rfl⟩, Nat.le_of_ble_eq_true rfl, Nat.le_of_ble_eq_true rfl⟩ ⟨Nat.le_of_ble_eq_true rfl, Nat.le_of_ble_eq_true rfl⟩ dX7_change_24) ?_
  refine g_if_ne (pc := 27) (tgt := 33) C hf dX7_change_27 (by decide) (fun hf => ?_) (fun hf => ?_)
  · refine g_bipush (pc := 30) (v := (-2 : Int32)) C dX7_change_30 (by decide) ?_
    exact g_iretM C hf dX7_change_32
  refine g_iload_n (pc := 33) C 3 dX7_change_33 rfl rfl ?_
  refine g_if_ne (pc := 34) (tgt := 51) C hf dX7_change_34 (by decide) (fun hf => ?_) (fun hf => ?_)
  · refine g_aload_n (pc := 37) C 0 dX7_change_37 rfl rfl ?_
    refine g_getR (pc := 38) (T := 4) C hf fgX7_27 (by decide) hk0 rfl dX7_change_38 (fun a15 hk15 hf => ?_)
    refine g_aload_n (pc := 41) C 0 dX7_change_41 rfl rfl ?_
    refine g_getR (pc := 42) (T := 1) C hf fgX7_34 (by decide) hk0 rfl dX7_change_42 (fun a16 hk16 hf => ?_)
    refine g_iload_n (pc := 45) C 1 dX7_change_45 rfl rfl ?_
    refine g_iload_n (pc := 46) C 2 dX7_change_46 rfl rfl ?_
    obtain ⟨r17, h17, hf⟩ := ob hf
    refine g_resI (pc := 47) C (rnV (As := [.ref (Λ a16), .int x1, .int x2]) (st := []) C (c_X4_lookedAt C.2.2.2.2.2.1 hk15 hk16 h17) lkX7_192 rfl (by decide) hk15 rfl rfl (Nat.le_of_ble_eq_true rfl) ⟨⟨rfl, rfl⟩, Nat.le_of_ble_eq_true rfl, Nat.le_of_ble_eq_true rfl⟩ ⟨Nat.le_of_ble_eq_true rfl, Nat.le_of_ble_eq_true rfl⟩ dX7_change_47) ?_
    exact g_iretM C hf dX7_change_50
  refine g_aload_n (pc := 51) C 0 dX7_change_51 rfl rfl ?_
  refine g_iconst (pc := 52) (v := (4 : Int32)) C dX7_change_52 (by decide) ?_
  refine g_iload_n (pc := 53) C 1 dX7_change_53 rfl rfl ?_
  refine g_imul (pc := 54) C dX7_change_54 ?_
  refine g_iload_n (pc := 55) C 2 dX7_change_55 rfl rfl ?_
  refine g_iadd (pc := 56) C dX7_change_56 ?_
  obtain ⟨M18, h18, hf⟩ := ob hf
  refine g_resV (pc := 57) C (rnV (As := [.int (((4 : Int32) * x1) + x2)]) (st := []) C (c_X7_tryOut C.2.2.2.2.2.1 hk0 h18) lkX7_196 rfl (by decide) hk0 rfl rfl (Nat.le_of_ble_eq_true rfl) ⟨⟨rfl, rfl⟩, Nat.le_of_ble_eq_true rfl, Nat.le_of_ble_eq_true rfl⟩ ⟨Nat.le_of_ble_eq_true rfl, Nat.le_of_ble_eq_true rfl⟩ dX7_change_57) ?_
  refine g_aload_n (pc := 60) C 0 dX7_change_60 rfl rfl ?_
  refine g_getR (pc := 61) (T := 6) C hf fgX7_44 (by decide) hk0 rfl dX7_change_61 (fun a19 hk19 hf => ?_)
  refine g_aload_n (pc := 64) C 0 dX7_change_64 rfl rfl ?_
  refine g_getR (pc := 65) (T := 6) C hf fgX7_48 (by decide) hk0 rfl dX7_change_65 (fun a20 hk20 hf => ?_)
  obtain ⟨r21, h21, hf⟩ := ob hf
  refine g_resI (pc := 68) C (rnV (As := [.ref (Λ a20)]) (st := []) C (c_X6_differences C.2.2.2.2.2.1 hk19 hk20 h21) lkX7_199 rfl (by decide) hk19 rfl rfl (Nat.le_of_ble_eq_true rfl) ⟨⟨rfl, rfl⟩, Nat.le_of_ble_eq_true rfl, Nat.le_of_ble_eq_true rfl⟩ ⟨Nat.le_of_ble_eq_true rfl, Nat.le_of_ble_eq_true rfl⟩ dX7_change_68) ?_
  exact g_iretM C hf dX7_change_71

theorem c_X7_change {l : Launch} {D : va_G} {cy : Nat → ClassId} {Λ : Nat → Nat} (hi : ∀ i j : Nat, Λ i = Λ j → i = j) {M : Mem} {a0 : Nat} {x1 : Int32} {x2 : Int32} {x3 : Int32} {r9 : Int32} {M9 : Mem} (hk0 : Is NN a0 8) (hf : m_X7_change M a0 x1 x2 x3 = some (r9, M9)) : Ct l yX7_change cX7_change 4 (some .int) { frames := 5, cells := 0, slots := 0, locals := 118 } D cy Λ [.ref (Λ a0), .int x1, .int x2, .int x3] NN M 0 0 (QcI D cy Λ NN r9 M9) := ent (by decide) hi (Nat.le_of_ble_eq_true rfl) (fun p e s m args below meth c C => w_X7_change C hk0 hf)