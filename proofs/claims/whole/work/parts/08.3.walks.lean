theorem w_X7_wanted_L84 {p : Program} {l : Launch} {e : Env} {s : State} {m : MethodId} {args : Array Value} {below : List Frame} {meth : Method} {c : Code} {D : va_G} {cy : Nat → ClassId} {Λ : Nat → Nat} (C : Cx p s m args meth c cX7_wanted 5 RX7 (some .int) D cy Λ (AA Λ s.heap.size)) {a0 : Nat} {x1 : Int32} {x2 : Int32} {x3 : Int32}  {r9 : Int32} {M9 : Mem} (hk0 : Is NN a0 8)  : ∀ (fu : Nat) (M : Mem) (x4 : Int32), m_X7_wanted_L84 a0 x1 x2 x3 fu M x4 = some (r9, M9) → GW p l e { frames := 5, cells := 0, slots := 0, locals := 118 } s m args below meth c D cy Λ 5 (QcI D cy Λ NN r9 M9) M 84 [(0, .ref (Λ a0)), (1, .int x1), (2, .int x2), (3, .int x3), (4, .int x4)] [] := by
  intro fu
  induction fu with
  | zero =>
    intro M x4  hf
    cases hf
  | succ fu ih =>
    intro M x4  hf
    unfold m_X7_wanted_L84 at hf
    refine g_iload (pc := 84) C 4 dX7_wanted_84 rfl ?_
    refine g_aload_n (pc := 86) C 0 dX7_wanted_86 rfl rfl ?_
    refine g_getR (pc := 87) (T := 4) C hf fgX7_27 (by decide) hk0 rfl dX7_wanted_87 (fun a11 hk11 hf => ?_)
    refine g_getI (pc := 90) C fgX7_128 (by decide) hk11 rfl dX7_wanted_90 ?_
    refine g_ic_ge (pc := 93) (tgt := 130) C hf dX7_wanted_93 (by decide) (fun hf => ?_) (fun hf => ?_)
    · refine g_bipush (pc := 130) (v := (-9 : Int32)) C dX7_wanted_130 (by decide) ?_
      exact g_iretM C hf dX7_wanted_132
    refine g_aload_n (pc := 96) C 0 dX7_wanted_96 rfl rfl ?_
    refine g_bipush (pc := 97) (v := (100 : Int32)) C dX7_wanted_97 (by decide) ?_
    refine g_iload (pc := 99) C 4 dX7_wanted_99 rfl ?_
    refine g_iadd (pc := 101) C dX7_wanted_101 ?_
    obtain ⟨M12, h12, hf⟩ := ob hf
    refine g_resV (pc := 102) C (rnV (As := [.int ((100 : Int32) + x4)]) (st := []) C (c_X7_tryOut C.2.2.2.2.2.1 hk0 h12) lkX7_196 rfl (by decide) hk0 rfl rfl (Nat.le_of_ble_eq_true rfl) ⟨⟨rfl, rfl⟩, Nat.le_of_ble_eq_true rfl, Nat.le_of_ble_eq_true rfl⟩ ⟨Nat.le_of_ble_eq_true rfl, Nat.le_of_ble_eq_true rfl⟩ dX7_wanted_102) ?_
    refine g_aload_n (pc := 105) C 0 dX7_wanted_105 rfl rfl ?_
    refine g_getR (pc := 106) (T := 6) C hf fgX7_48 (by decide) hk0 rfl dX7_wanted_106 (fun a13 hk13 hf => ?_)
    refine g_iload_n (pc := 109) C 1 dX7_wanted_109 rfl rfl ?_
    refine g_iload_n (pc := 110) C 2 dX7_wanted_110 rfl rfl ?_
    obtain ⟨r14, h14, hf⟩ := ob hf
    refine g_resI (pc := 111) C (rnV (As := [.int x1, .int x2]) (st := []) C (c_X6_valueAt C.2.2.2.2.2.1 hk13 h14) lkX7_177 rfl (by decide) hk13 rfl rfl (Nat.le_of_ble_eq_true rfl) ⟨⟨rfl, rfl⟩, Nat.le_of_ble_eq_true rfl, Nat.le_of_ble_eq_true rfl⟩ ⟨Nat.le_of_ble_eq_true rfl, Nat.le_of_ble_eq_true rfl⟩ dX7_wanted_111) ?_
    refine g_iload_n (pc := 114) C 3 dX7_wanted_114 rfl rfl ?_
    refine g_ic_ne (pc := 115) (tgt := 124) C hf dX7_wanted_115 (by decide) (fun hf => ?_) (fun hf => ?_)
    · refine g_bipush (pc := 118) (v := (100 : Int32)) C dX7_wanted_118 (by decide) ?_
      refine g_iload (pc := 120) C 4 dX7_wanted_120 rfl ?_
      refine g_iadd (pc := 122) C dX7_wanted_122 ?_
      exact g_iretM C hf dX7_wanted_123
    refine g_iinc (pc := 124) (v := (x4 + (1 : Int32))) (lv2 := [(4, .int (x4 + (1 : Int32))), (0, .ref (Λ a0)), (1, .int x1), (2, .int x2), (3, .int x3)]) C 4 dX7_wanted_124 rfl rfl (by decide) rfl ?_
    refine g_goto (pc := 127) (tgt := 84) C dX7_wanted_127 (by decide) ?_
    refine g_sub [1, 2, 3, 4, 0] rfl ?_
    exact ih M12 (x4 + (1 : Int32))  hf

theorem w_X7_wanted_L39 {p : Program} {l : Launch} {e : Env} {s : State} {m : MethodId} {args : Array Value} {below : List Frame} {meth : Method} {c : Code} {D : va_G} {cy : Nat → ClassId} {Λ : Nat → Nat} (C : Cx p s m args meth c cX7_wanted 5 RX7 (some .int) D cy Λ (AA Λ s.heap.size)) {a0 : Nat} {x1 : Int32} {x2 : Int32} {x3 : Int32}  {r9 : Int32} {M9 : Mem} (hk0 : Is NN a0 8)  : ∀ (fu : Nat) (M : Mem) (x4 : Int32), m_X7_wanted_L39 a0 x1 x2 x3 fu M x4 = some (r9, M9) → GW p l e { frames := 5, cells := 0, slots := 0, locals := 118 } s m args below meth c D cy Λ 5 (QcI D cy Λ NN r9 M9) M 39 [(0, .ref (Λ a0)), (1, .int x1), (2, .int x2), (3, .int x3), (4, .int x4)] [] := by
  intro fu
  induction fu with
  | zero =>
    intro M x4  hf
    cases hf
  | succ fu ih =>
    intro M x4  hf
    unfold m_X7_wanted_L39 at hf
    refine g_iload (pc := 39) C 4 dX7_wanted_39 rfl ?_
    refine g_iconst (pc := 41) (v := (4 : Int32)) C dX7_wanted_41 (by decide) ?_
    refine g_aload_n (pc := 42) C 0 dX7_wanted_42 rfl rfl ?_
    refine g_getR (pc := 43) (T := 4) C hf fgX7_27 (by decide) hk0 rfl dX7_wanted_43 (fun a11 hk11 hf => ?_)
    refine g_getI (pc := 46) C fgX7_106 (by decide) hk11 rfl dX7_wanted_46 ?_
    refine g_imul (pc := 49) C dX7_wanted_49 ?_
    refine g_ic_ge (pc := 50) (tgt := 81) C hf dX7_wanted_50 (by decide) (fun hf => ?_) (fun hf => ?_)
    · refine g_iconst (pc := 81) (v := (0 : Int32)) C dX7_wanted_81 (by decide) ?_
      refine g_istore (pc := 82) (lv2 := [(4, .int (0 : Int32)), (0, .ref (Λ a0)), (1, .int x1), (2, .int x2), (3, .int x3)]) C dX7_wanted_82 (by decide) rfl ?_
      refine g_sub [1, 2, 3, 4, 0] rfl ?_
      exact w_X7_wanted_L84 C hk0 FU M (0 : Int32)  hf
    refine g_aload_n (pc := 53) C 0 dX7_wanted_53 rfl rfl ?_
    refine g_iload (pc := 54) C 4 dX7_wanted_54 rfl ?_
    obtain ⟨M12, h12, hf⟩ := ob hf
    refine g_resV (pc := 56) C (rnV (As := [.int x4]) (st := []) C (c_X7_tryOut C.2.2.2.2.2.1 hk0 h12) lkX7_196 rfl (by decide) hk0 rfl rfl (Nat.le_of_ble_eq_true rfl) ⟨⟨rfl, rfl⟩, Nat.le_of_ble_eq_true rfl, Nat.le_of_ble_eq_true rfl⟩ ⟨Nat.le_of_ble_eq_true rfl, Nat.le_of_ble_eq_true rfl⟩ dX7_wanted_56) ?_
    refine g_aload_n (pc := 59) C 0 dX7_wanted_59 rfl rfl ?_
    refine g_getR (pc := 60) (T := 6) C hf fgX7_48 (by decide) hk0 rfl dX7_wanted_60 (fun a13 hk13 hf => ?_)
    refine g_iload_n (pc := 63) C 1 dX7_wanted_63 rfl rfl ?_
    refine g_iload_n (pc := 64) C 2 dX7_wanted_64 rfl rfl ?_
    obtain ⟨r14, h14, hf⟩ := ob hf
    refine g_resI (pc := 65) C (rnV (As := [.int x1, .int x2]) (st := []) C (c_X6_valueAt C.2.2.2.2.2.1 hk13 h14) lkX7_177 rfl (by decide) hk13 rfl rfl (Nat.le_of_ble_eq_true rfl) ⟨⟨rfl, rfl⟩, Nat.le_of_ble_eq_true rfl, Nat.le_of_ble_eq_true rfl⟩ ⟨Nat.le_of_ble_eq_true rfl, Nat.le_of_ble_eq_true rfl⟩ dX7_wanted_65) ?_
    refine g_iload_n (pc := 68) C 3 dX7_wanted_68 rfl rfl ?_
    refine g_ic_ne (pc := 69) (tgt := 75) C hf dX7_wanted_69 (by decide) (fun hf => ?_) (fun hf => ?_)
    · refine g_iload (pc := 72) C 4 dX7_wanted_72 rfl ?_
      exact g_iretM C hf dX7_wanted_74
    refine g_iinc (pc := 75) (v := (x4 + (1 : Int32))) (lv2 := [(4, .int (x4 + (1 : Int32))), (0, .ref (Λ a0)), (1, .int x1), (2, .int x2), (3, .int x3)]) C 4 dX7_wanted_75 rfl rfl (by decide) rfl ?_
    refine g_goto (pc := 78) (tgt := 39) C dX7_wanted_78 (by decide) ?_
    refine g_sub [1, 2, 3, 4, 0] rfl ?_
    exact ih M12 (x4 + (1 : Int32))  hf

theorem w_X7_wanted {p : Program} {l : Launch} {e : Env} {s : State} {m : MethodId} {args : Array Value} {below : List Frame} {meth : Method} {c : Code} {D : va_G} {cy : Nat → ClassId} {Λ : Nat → Nat} (C : Cx p s m args meth c cX7_wanted 5 RX7 (some .int) D cy Λ (AA Λ s.heap.size)) {M : Mem} {a0 : Nat} {x1 : Int32} {x2 : Int32} {x3 : Int32} {r9 : Int32} {M9 : Mem} (hk0 : Is NN a0 8) (hf : m_X7_wanted M a0 x1 x2 x3 = some (r9, M9)) : GW p l e { frames := 5, cells := 0, slots := 0, locals := 118 } s m args below meth c D cy Λ 5 (QcI D cy Λ NN r9 M9) M 0 [(0, .ref (Λ a0)), (1, .int x1), (2, .int x2), (3, .int x3)] [] := by
  unfold m_X7_wanted at hf
  refine g_aload_n (pc := 0) C 0 dX7_wanted_0 rfl rfl ?_
  refine g_iload_n (pc := 1) C 1 dX7_wanted_1 rfl rfl ?_
  refine g_iload_n (pc := 2) C 2 dX7_wanted_2 rfl rfl ?_
  obtain ⟨r11, h11, hf⟩ := ob hf
  refine g_resI (pc := 3) C (rnV (As := [.int x1, .int x2]) (st := []) C (c_X7_isPlace C.2.2.2.2.2.1 hk0 h11) lkX7_174 rfl (by decide) hk0 rfl rfl (Nat.le_of_ble_eq_true rfl) ⟨⟨rfl, rfl⟩, Nat.le_of_ble_eq_true rfl, Nat.le_of_ble_eq_true rfl⟩ ⟨Nat.le_of_ble_eq_true rfl, Nat.le_of_ble_eq_true rfl⟩ dX7_wanted_3) ?_
  refine g_if_eq (pc := 6) (tgt := 18) C hf dX7_wanted_6 (by decide) (fun hf => ?_) (fun hf => ?_)
  · refine g_bipush (pc := 18) (v := (-2 : Int32)) C dX7_wanted_18 (by decide) ?_
    exact g_iretM C hf dX7_wanted_20
  refine g_iload_n (pc := 9) C 3 dX7_wanted_9 rfl rfl ?_
  refine g_bipush (pc := 10) (v := (10 : Int32)) C dX7_wanted_10 (by decide) ?_
  obtain ⟨r12, h12, hf⟩ := ob hf
  refine g_resI (pc := 12) C (rnS (As := [.int x3, .int (10 : Int32)]) (st := []) C (c_X7_within C.2.2.2.2.2.1  h12) lkX7_76 rfl rfl (Nat.le_of_ble_eq_true rfl) ⟨⟨rfl, rfl⟩, Nat.le_of_ble_eq_true rfl, Nat.le_of_ble_eq_true rfl⟩ ⟨Nat.le_of_ble_eq_true rfl, Nat.le_of_ble_eq_true rfl⟩ dX7_wanted_12) ?_
  refine g_if_ne (pc := 15) (tgt := 21) C hf dX7_wanted_15 (by decide) (fun hf => ?_) (fun hf => ?_)
  · refine g_bipush (pc := 18) (v := (-2 : Int32)) C dX7_wanted_18 (by decide) ?_
    exact g_iretM C hf dX7_wanted_20
  refine g_aload_n (pc := 21) C 0 dX7_wanted_21 rfl rfl ?_
  refine g_getR (pc := 22) (T := 6) C hf fgX7_44 (by decide) hk0 rfl dX7_wanted_22 (fun a13 hk13 hf => ?_)
  refine g_iload_n (pc := 25) C 1 dX7_wanted_25 rfl rfl ?_
  refine g_iload_n (pc := 26) C 2 dX7_wanted_26 rfl rfl ?_
  obtain ⟨r14, h14, hf⟩ := ob hf
  refine g_resI (pc := 27) C (rnV (As := [.int x1, .int x2]) (st := []) C (c_X6_valueAt C.2.2.2.2.2.1 hk13 h14) lkX7_177 rfl (by decide) hk13 rfl rfl (Nat.le_of_ble_eq_true rfl) ⟨⟨rfl, rfl⟩, Nat.le_of_ble_eq_true rfl, Nat.le_of_ble_eq_true rfl⟩ ⟨Nat.le_of_ble_eq_true rfl, Nat.le_of_ble_eq_true rfl⟩ dX7_wanted_27) ?_
  refine g_iload_n (pc := 30) C 3 dX7_wanted_30 rfl rfl ?_
  refine g_ic_ne (pc := 31) (tgt := 36) C hf dX7_wanted_31 (by decide) (fun hf => ?_) (fun hf => ?_)
  · refine g_iconst (pc := 34) (v := (-1 : Int32)) C dX7_wanted_34 (by decide) ?_
    exact g_iretM C hf dX7_wanted_35
  refine g_iconst (pc := 36) (v := (0 : Int32)) C dX7_wanted_36 (by decide) ?_
  refine g_istore (pc := 37) (lv2 := [(4, .int (0 : Int32)), (0, .ref (Λ a0)), (1, .int x1), (2, .int x2), (3, .int x3)]) C dX7_wanted_37 (by decide) rfl ?_
  refine g_sub [1, 2, 3, 4, 0] rfl ?_
  exact w_X7_wanted_L39 C hk0 FU M (0 : Int32)  hf

theorem c_X7_wanted {l : Launch} {D : va_G} {cy : Nat → ClassId} {Λ : Nat → Nat} (hi : ∀ i j : Nat, Λ i = Λ j → i = j) {M : Mem} {a0 : Nat} {x1 : Int32} {x2 : Int32} {x3 : Int32} {r9 : Int32} {M9 : Mem} (hk0 : Is NN a0 8) (hf : m_X7_wanted M a0 x1 x2 x3 = some (r9, M9)) : Ct l yX7_wanted cX7_wanted 5 (some .int) { frames := 5, cells := 0, slots := 0, locals := 118 } D cy Λ [.ref (Λ a0), .int x1, .int x2, .int x3] NN M 0 0 (QcI D cy Λ NN r9 M9) := ent (by decide) hi (Nat.le_of_ble_eq_true rfl) (fun p e s m args below meth c C => w_X7_wanted C hk0 hf)
theorem w_X5_add {p : Program} {l : Launch} {e : Env} {s : State} {m : MethodId} {args : Array Value} {below : List Frame} {meth : Method} {c : Code} {D : va_G} {cy : Nat → ClassId} {Λ : Nat → Nat} (C : Cx p s m args meth c cX5_add 4 RX5 (some .boolean) D cy Λ (AA Λ s.heap.size)) {M : Mem} {a0 : Nat} {x1 : Int32} {x2 : Int32} {x3 : Int32} {r9 : Int32} {M9 : Mem} (hk0 : Is NN a0 6) (hf : m_X5_add M a0 x1 x2 x3 = some (r9, M9)) : GW p l e { frames := 1, cells := 0, slots := 0, locals := 21 } s m args below meth c D cy Λ 4 (QcI D cy Λ NN r9 M9) M 0 [(0, .ref (Λ a0)), (1, .int x1), (2, .int x2), (3, .int x3)] [] := by
  unfold m_X5_add at hf
  refine g_aload_n (pc := 0) C 0 dX5_add_0 rfl rfl ?_
  refine g_getI (pc := 1) C fgX5_21 (by decide) hk0 rfl dX5_add_1 ?_
  refine g_bipush (pc := 4) (v := (6 : Int32)) C dX5_add_4 (by decide) ?_
  obtain ⟨r11, h11, hf⟩ := ob hf
  refine g_resI (pc := 6) C (rnSN (As := [.int (M.2 a0 3), .int (6 : Int32)]) (st := []) C (c_X7_within C.2.2.2.2.2.1  h11) lknX5_25 rfl rfl (Nat.le_of_ble_eq_true rfl) ⟨⟨rfl, rfl⟩, Nat.le_of_ble_eq_true rfl, Nat.le_of_ble_eq_true rfl⟩ ⟨Nat.le_of_ble_eq_true rfl, Nat.le_of_ble_eq_true rfl⟩ dX5_add_6) ?_
  refine g_if_ne (pc := 9) (tgt := 14) C hf dX5_add_9 (by decide) (fun hf => ?_) (fun hf => ?_)
  · refine g_iconst (pc := 12) (v := (0 : Int32)) C dX5_add_12 (by decide) ?_
    exact g_zretM C (by decide) hf dX5_add_13
  refine g_aload_n (pc := 14) C 0 dX5_add_14 rfl rfl ?_
  refine g_getR (pc := 15) (T := 9) C hf fgX5_9 (by decide) hk0 rfl dX5_add_15 (fun a12 hk12 hf => ?_)
  refine g_aload_n (pc := 18) C 0 dX5_add_18 rfl rfl ?_
  refine g_getI (pc := 19) C fgX5_21 (by decide) hk0 rfl dX5_add_19 ?_
  refine g_iload_n (pc := 22) C 1 dX5_add_22 rfl rfl ?_
  refine g_iast (pc := 23) C hf hk12 dX5_add_23 (fun M13 hf => ?_)
  refine g_aload_n (pc := 24) C 0 dX5_add_24 rfl rfl ?_
  refine g_getR (pc := 25) (T := 9) C hf fgX5_15 (by decide) hk0 rfl dX5_add_25 (fun a14 hk14 hf => ?_)
  refine g_aload_n (pc := 28) C 0 dX5_add_28 rfl rfl ?_
  refine g_getI (pc := 29) C fgX5_21 (by decide) hk0 rfl dX5_add_29 ?_
  refine g_iload_n (pc := 32) C 2 dX5_add_32 rfl rfl ?_
  refine g_iast (pc := 33) C hf hk14 dX5_add_33 (fun M15 hf => ?_)
  refine g_aload_n (pc := 34) C 0 dX5_add_34 rfl rfl ?_
  refine g_getR (pc := 35) (T := 9) C hf fgX5_18 (by decide) hk0 rfl dX5_add_35 (fun a16 hk16 hf => ?_)
  refine g_aload_n (pc := 38) C 0 dX5_add_38 rfl rfl ?_
  refine g_getI (pc := 39) C fgX5_21 (by decide) hk0 rfl dX5_add_39 ?_
  refine g_iload_n (pc := 42) C 3 dX5_add_42 rfl rfl ?_
  refine g_iast (pc := 43) C hf hk16 dX5_add_43 (fun M17 hf => ?_)
  refine g_aload_n (pc := 44) C 0 dX5_add_44 rfl rfl ?_
  refine g_dup (pc := 45) C dX5_add_45 rfl ?_
  refine g_getI (pc := 46) C fgX5_21 (by decide) hk0 rfl dX5_add_46 ?_
  refine g_iconst (pc := 49) (v := (1 : Int32)) C dX5_add_49 (by decide) ?_
  refine g_iadd (pc := 50) C dX5_add_50 ?_
  refine g_pI (pc := 51) C hf fpX5_21 (by decide) hk0 stX5_3 (Nat.le_of_ble_eq_true rfl) rfl rfl dX5_add_51 (fun M18 hf => ?_)
  refine g_iconst (pc := 54) (v := (1 : Int32)) C dX5_add_54 (by decide) ?_
  exact g_zretM C (by decide) hf dX5_add_55

theorem c_X5_add {l : Launch} {D : va_G} {cy : Nat → ClassId} {Λ : Nat → Nat} (hi : ∀ i j : Nat, Λ i = Λ j → i = j) {M : Mem} {a0 : Nat} {x1 : Int32} {x2 : Int32} {x3 : Int32} {r9 : Int32} {M9 : Mem} (hk0 : Is NN a0 6) (hf : m_X5_add M a0 x1 x2 x3 = some (r9, M9)) : Ct l yX5_add cX5_add 4 (some .boolean) { frames := 1, cells := 0, slots := 0, locals := 21 } D cy Λ [.ref (Λ a0), .int x1, .int x2, .int x3] NN M 0 0 (QcI D cy Λ NN r9 M9) := ent (by decide) hi (Nat.le_of_ble_eq_true rfl) (fun p e s m args below meth c C => w_X5_add C hk0 hf)
theorem w_X7_sees {p : Program} {l : Launch} {e : Env} {s : State} {m : MethodId} {args : Array Value} {below : List Frame} {meth : Method} {c : Code} {D : va_G} {cy : Nat → ClassId} {Λ : Nat → Nat} (C : Cx p s m args meth c cX7_sees 4 RX7 (some .int) D cy Λ (AA Λ s.heap.size)) {M : Mem} {a0 : Nat} {x1 : Int32} {x2 : Int32} {x3 : Int32} {r9 : Int32} {M9 : Mem} (hk0 : Is NN a0 8) (hf : m_X7_sees M a0 x1 x2 x3 = some (r9, M9)) : GW p l e { frames := 2, cells := 0, slots := 0, locals := 44 } s m args below meth c D cy Λ 4 (QcI D cy Λ NN r9 M9) M 0 [(0, .ref (Λ a0)), (1, .int x1), (2, .int x2), (3, .int x3)] [] := by
  unfold m_X7_sees at hf
  refine g_aload_n (pc := 0) C 0 dX7_sees_0 rfl rfl ?_
  refine g_iload_n (pc := 1) C 1 dX7_sees_1 rfl rfl ?_
  refine g_iload_n (pc := 2) C 2 dX7_sees_2 rfl rfl ?_
  obtain ⟨r11, h11, hf⟩ := ob hf
  refine g_resI (pc := 3) C (rnV (As := [.int x1, .int x2]) (st := []) C (c_X7_isPlace C.2.2.2.2.2.1 hk0 h11) lkX7_174 rfl (by decide) hk0 rfl rfl (Nat.le_of_ble_eq_true rfl) ⟨⟨rfl, rfl⟩, Nat.le_of_ble_eq_true rfl, Nat.le_of_ble_eq_true rfl⟩ ⟨Nat.le_of_ble_eq_true rfl, Nat.le_of_ble_eq_true rfl⟩ dX7_sees_3) ?_
  refine g_if_eq (pc := 6) (tgt := 18) C hf dX7_sees_6 (by decide) (fun hf => ?_) (fun hf => ?_)
  · refine g_bipush (pc := 18) (v := (-2 : Int32)) C dX7_sees_18 (by decide) ?_
    exact g_iretM C hf dX7_sees_20
  refine g_iload_n (pc := 9) C 3 dX7_sees_9 rfl rfl ?_
  refine g_bipush (pc := 10) (v := (10 : Int32)) C dX7_sees_10 (by decide) ?_
  obtain ⟨r12, h12, hf⟩ := ob hf
  refine g_resI (pc := 12) C (rnS (As := [.int x3, .int (10 : Int32)]) (st := []) C (c_X7_within C.2.2.2.2.2.1  h12) lkX7_76 rfl rfl (Nat.le_of_ble_eq_true rfl) ⟨⟨rfl, rfl⟩, Nat.le_of_ble_eq_true rfl, Nat.le_of_ble_eq_true rfl⟩ ⟨Nat.le_of_ble_eq_true rfl, Nat.le_of_ble_eq_true rfl⟩ dX7_sees_12) ?_
  refine g_if_ne (pc := 15) (tgt := 21) C hf dX7_sees_15 (by decide) (fun hf => ?_) (fun hf => ?_)
  · refine g_bipush (pc := 18) (v := (-2 : Int32)) C dX7_sees_18 (by decide) ?_
    exact g_iretM C hf dX7_sees_20
  refine g_aload_n (pc := 21) C 0 dX7_sees_21 rfl rfl ?_
  refine g_getR (pc := 22) (T := 5) C hf fgX7_61 (by decide) hk0 rfl dX7_sees_22 (fun a13 hk13 hf => ?_)
  refine g_iload_n (pc := 25) C 1 dX7_sees_25 rfl rfl ?_
  refine g_iload_n (pc := 26) C 2 dX7_sees_26 rfl rfl ?_
  refine g_iload_n (pc := 27) C 3 dX7_sees_27 rfl rfl ?_
  obtain ⟨r14, M14, h14, hf⟩ := ob2 hf
  refine g_resI (pc := 28) C (rnV (As := [.int x1, .int x2, .int x3]) (st := []) C (c_X5_add C.2.2.2.2.2.1 hk13 h14) lkX7_203 rfl (by decide) hk13 rfl rfl (Nat.le_of_ble_eq_true rfl) ⟨⟨rfl, rfl⟩, Nat.le_of_ble_eq_true rfl, Nat.le_of_ble_eq_true rfl⟩ ⟨Nat.le_of_ble_eq_true rfl, Nat.le_of_ble_eq_true rfl⟩ dX7_sees_28) ?_
  refine g_if_ne (pc := 31) (tgt := 37) C hf dX7_sees_31 (by decide) (fun hf => ?_) (fun hf => ?_)
  · refine g_bipush (pc := 34) (v := (-4 : Int32)) C dX7_sees_34 (by decide) ?_
    exact g_iretM C hf dX7_sees_36
  refine g_aload_n (pc := 37) C 0 dX7_sees_37 rfl rfl ?_
  refine g_getR (pc := 38) (T := 5) C hf fgX7_61 (by decide) hk0 rfl dX7_sees_38 (fun a15 hk15 hf => ?_)
  refine g_getI (pc := 41) C fgX7_207 (by decide) hk15 rfl dX7_sees_41 ?_
  exact g_iretM C hf dX7_sees_44

theorem c_X7_sees {l : Launch} {D : va_G} {cy : Nat → ClassId} {Λ : Nat → Nat} (hi : ∀ i j : Nat, Λ i = Λ j → i = j) {M : Mem} {a0 : Nat} {x1 : Int32} {x2 : Int32} {x3 : Int32} {r9 : Int32} {M9 : Mem} (hk0 : Is NN a0 8) (hf : m_X7_sees M a0 x1 x2 x3 = some (r9, M9)) : Ct l yX7_sees cX7_sees 4 (some .int) { frames := 2, cells := 0, slots := 0, locals := 44 } D cy Λ [.ref (Λ a0), .int x1, .int x2, .int x3] NN M 0 0 (QcI D cy Λ NN r9 M9) := ent (by decide) hi (Nat.le_of_ble_eq_true rfl) (fun p e s m args below meth c C => w_X7_sees C hk0 hf)
theorem w_X7_forget {p : Program} {l : Launch} {e : Env} {s : State} {m : MethodId} {args : Array Value} {below : List Frame} {meth : Method} {c : Code} {D : va_G} {cy : Nat → ClassId} {Λ : Nat → Nat} (C : Cx p s m args meth c cX7_forget 2 RX7 (some .int) D cy Λ (AA Λ s.heap.size)) {M : Mem} {a0 : Nat} {r9 : Int32} {M9 : Mem} (hk0 : Is NN a0 8) (hf : m_X7_forget M a0 = some (r9, M9)) : GW p l e { frames := 1, cells := 0, slots := 0, locals := 20 } s m args below meth c D cy Λ 2 (QcI D cy Λ NN r9 M9) M 0 [(0, .ref (Λ a0))] [] := by
  unfold m_X7_forget at hf
  refine g_aload_n (pc := 0) C 0 dX7_forget_0 rfl rfl ?_
  refine g_getR (pc := 1) (T := 5) C hf fgX7_61 (by decide) hk0 rfl dX7_forget_1 (fun a11 hk11 hf => ?_)
  refine g_getI (pc := 4) C fgX7_207 (by decide) hk11 rfl dX7_forget_4 ?_
  refine g_istore_n (pc := 7) (lv2 := [(1, .int (M.2 a11 3)), (0, .ref (Λ a0))]) C dX7_forget_7 rfl (by decide) rfl ?_
  refine g_aload_n (pc := 8) C 1 dX7_forget_8 rfl rfl ?_
  refine g_getR (pc := 9) (T := 5) C hf fgX7_61 (by decide) hk0 rfl dX7_forget_9 (fun a12 hk12 hf => ?_)
  obtain ⟨M13, h13, hf⟩ := ob hf
  refine g_resV (pc := 12) C (rnV (As := []) (st := []) C (c_X5_empty C.2.2.2.2.2.1 hk12 h13) lkX7_102 rfl (by decide) hk12 rfl rfl (Nat.le_of_ble_eq_true rfl) ⟨⟨rfl, rfl⟩, Nat.le_of_ble_eq_true rfl, Nat.le_of_ble_eq_true rfl⟩ ⟨Nat.le_of_ble_eq_true rfl, Nat.le_of_ble_eq_true rfl⟩ dX7_forget_12) ?_
  refine g_iload_n (pc := 15) C 0 dX7_forget_15 rfl rfl ?_
  exact g_iretM C hf dX7_forget_16

theorem c_X7_forget {l : Launch} {D : va_G} {cy : Nat → ClassId} {Λ : Nat → Nat} (hi : ∀ i j : Nat, Λ i = Λ j → i = j) {M : Mem} {a0 : Nat} {r9 : Int32} {M9 : Mem} (hk0 : Is NN a0 8) (hf : m_X7_forget M a0 = some (r9, M9)) : Ct l yX7_forget cX7_forget 2 (some .int) { frames := 1, cells := 0, slots := 0, locals := 20 } D cy Λ [.ref (Λ a0)] NN M 0 0 (QcI D cy Λ NN r9 M9) := ent (by decide) hi (Nat.le_of_ble_eq_true rfl) (fun p e s m args below meth c C => w_X7_forget C hk0 hf)
theorem w_X5_holdIn_L2 {p : Program} {l : Launch} {e : Env} {s : State} {m : MethodId} {args : Array Value} {below : List Frame} {meth : Method} {c : Code} {D : va_G} {cy : Nat → ClassId} {Λ : Nat → Nat} (C : Cx p s m args meth c cX5_holdIn 3 RX5 (some .boolean) D cy Λ (AA Λ s.heap.size)) {M : Mem} {a0 : Nat} {a1 : Nat}  {r9 : Int32} (hk0 : Is NN a0 6) (hk1 : Is NN a1 7)  : ∀ (fu : Nat) (x2 : Int32), m_X5_holdIn_L2 M a0 a1 fu x2 = some r9 → GW p l e { frames := 2, cells := 0, slots := 0, locals := 43 } s m args below meth c D cy Λ 3 (QcI D cy Λ NN r9 M) M 2 [(0, .ref (Λ a0)), (1, .ref (Λ a1)), (2, .int x2)] [] := by
  intro fu
  induction fu with
  | zero =>
    intro x2  hf
    cases hf
  | succ fu ih =>
    intro x2  hf
    unfold m_X5_holdIn_L2 at hf
    refine g_iload_n (pc := 2) C 2 dX5_holdIn_2 rfl rfl ?_
    refine g_aload_n (pc := 3) C 0 dX5_holdIn_3 rfl rfl ?_
    refine g_getI (pc := 4) C fgX5_21 (by decide) hk0 rfl dX5_holdIn_4 ?_
    refine g_ic_ge (pc := 7) (tgt := 43) C hf dX5_holdIn_7 (by decide) (fun hf => ?_) (fun hf => ?_)
    · refine g_iconst (pc := 43) (v := (1 : Int32)) C dX5_holdIn_43 (by decide) ?_
      exact g_zret C (by decide) hf dX5_holdIn_44
    refine g_aload_n (pc := 10) C 1 dX5_holdIn_10 rfl rfl ?_
    refine g_aload_n (pc := 11) C 0 dX5_holdIn_11 rfl rfl ?_
    refine g_getR (pc := 12) (T := 9) C hf fgX5_9 (by decide) hk0 rfl dX5_holdIn_12 (fun a11 hk11 hf => ?_)
    refine g_iload_n (pc := 15) C 2 dX5_holdIn_15 rfl rfl ?_
    refine g_iald (pc := 16) C hf hk11 dX5_holdIn_16 (fun v12 hf => ?_)
    refine g_aload_n (pc := 17) C 0 dX5_holdIn_17 rfl rfl ?_
    refine g_getR (pc := 18) (T := 9) C hf fgX5_15 (by decide) hk0 rfl dX5_holdIn_18 (fun a13 hk13 hf => ?_)
    refine g_iload_n (pc := 21) C 2 dX5_holdIn_21 rfl rfl ?_
    refine g_iald (pc := 22) C hf hk13 dX5_holdIn_22 (fun v14 hf => ?_)
    obtain ⟨r15, h15, hf⟩ := ob hf
    refine g_resI (pc := 23) C (rnV (As := [.int v12, .int v14]) (st := []) C (c_X6_valueAt C.2.2.2.2.2.1 hk1 h15) lkX5_29 rfl (by decide) hk1 rfl rfl (Nat.le_of_ble_eq_true rfl) ⟨⟨rfl, rfl⟩, Nat.le_of_ble_eq_true rfl, Nat.le_of_ble_eq_true rfl⟩ ⟨Nat.le_of_ble_eq_true rfl, Nat.le_of_ble_eq_true rfl⟩ dX5_holdIn_23) ?_
    refine g_aload_n (pc := 26) C 0 dX5_holdIn_26 rfl rfl ?_
    refine g_getR (pc := 27) (T := 9) C hf fgX5_18 (by decide) hk0 rfl dX5_holdIn_27 (fun a16 hk16 hf => ?_)
    refine g_iload_n (pc := 30) C 2 dX5_holdIn_30 rfl rfl ?_
    refine g_iald (pc := 31) C hf hk16 dX5_holdIn_31 (fun v17 hf => ?_)
    refine g_ic_eq (pc := 32) (tgt := 37) C hf dX5_holdIn_32 (by decide) (fun hf => ?_) (fun hf => ?_)
    · refine g_iinc (pc := 37) (v := (x2 + (1 : Int32))) (lv2 := [(2, .int (x2 + (1 : Int32))), (0, .ref (Λ a0)), (1, .ref (Λ a1))]) C 2 dX5_holdIn_37 rfl rfl (by decide) rfl ?_
      refine g_goto (pc := 40) (tgt := 2) C dX5_holdIn_40 (by decide) ?_
      refine g_sub [1, 2, 0] rfl ?_
      exact ih (x2 + (1 : Int32))  hf
    refine g_iconst (pc := 35) (v := (0 : Int32)) C dX5_holdIn_35 (by decide) ?_
    exact g_zret C (by decide) hf dX5_holdIn_36

theorem w_X5_holdIn {p : Program} {l : Launch} {e : Env} {s : State} {m : MethodId} {args : Array Value} {below : List Frame} {meth : Method} {c : Code} {D : va_G} {cy : Nat → ClassId} {Λ : Nat → Nat} (C : Cx p s m args meth c cX5_holdIn 3 RX5 (some .boolean) D cy Λ (AA Λ s.heap.size)) {M : Mem} {a0 : Nat} {a1 : Nat} {r9 : Int32} (hk0 : Is NN a0 6) (hk1 : Is NN a1 7) (hf : m_X5_holdIn M a0 a1 = some r9) : GW p l e { frames := 2, cells := 0, slots := 0, locals := 43 } s m args below meth c D cy Λ 3 (QcI D cy Λ NN r9 M) M 0 [(0, .ref (Λ a0)), (1, .ref (Λ a1))] [] := by
  unfold m_X5_holdIn at hf
  refine g_iconst (pc := 0) (v := (0 : Int32)) C dX5_holdIn_0 (by decide) ?_
  refine g_istore_n (pc := 1) (lv2 := [(2, .int (0 : Int32)), (0, .ref (Λ a0)), (1, .ref (Λ a1))]) C dX5_holdIn_1 rfl (by decide) rfl ?_
  refine g_sub [1, 2, 0] rfl ?_
  exact w_X5_holdIn_L2 C hk0 hk1 FU (0 : Int32)  hf

theorem c_X5_holdIn {l : Launch} {D : va_G} {cy : Nat → ClassId} {Λ : Nat → Nat} (hi : ∀ i j : Nat, Λ i = Λ j → i = j) {M : Mem} {a0 : Nat} {a1 : Nat} {r9 : Int32} (hk0 : Is NN a0 6) (hk1 : Is NN a1 7) (hf : m_X5_holdIn M a0 a1 = some r9) : Ct l yX5_holdIn cX5_holdIn 3 (some .boolean) { frames := 2, cells := 0, slots := 0, locals := 43 } D cy Λ [.ref (Λ a0), .ref (Λ a1)] NN M 0 0 (QcI D cy Λ NN r9 M) := ent (by decide) hi (Nat.le_of_ble_eq_true rfl) (fun p e s m args below meth c C => w_X5_holdIn C hk0 hk1 hf)
theorem w_X7_unseen_L4 {p : Program} {l : Launch} {e : Env} {s : State} {m : MethodId} {args : Array Value} {below : List Frame} {meth : Method} {c : Code} {D : va_G} {cy : Nat → ClassId} {Λ : Nat → Nat} (C : Cx p s m args meth c cX7_unseen 3 RX7 (some .int) D cy Λ (AA Λ s.heap.size)) {a0 : Nat}  {r9 : Int32} {M9 : Mem} (hk0 : Is NN a0 8)  : ∀ (fu : Nat) (M : Mem) (x1 : Int32) (x2 : Int32), m_X7_unseen_L4 a0 fu M x1 x2 = some (r9, M9) → GW p l e { frames := 5, cells := 0, slots := 0, locals := 118 } s m args below meth c D cy Λ 3 (QcI D cy Λ NN r9 M9) M 4 [(0, .ref (Λ a0)), (1, .int x1), (2, .int x2)] [] := by
  intro fu
  induction fu with
  | zero =>
    intro M x1 x2  hf
    cases hf
  | succ fu ih =>
    intro M x1 x2  hf
    unfold m_X7_unseen_L4 at hf
    refine g_iload_n (pc := 4) C 2 dX7_unseen_4 rfl rfl ?_
    refine g_aload_n (pc := 5) C 0 dX7_unseen_5 rfl rfl ?_
    refine g_getR (pc := 6) (T := 4) C hf fgX7_27 (by decide) hk0 rfl dX7_unseen_6 (fun a11 hk11 hf => ?_)
    refine g_getI (pc := 9) C fgX7_128 (by decide) hk11 rfl dX7_unseen_9 ?_
    refine g_ic_ge (pc := 12) (tgt := 49) C hf dX7_unseen_12 (by decide) (fun hf => ?_) (fun hf => ?_)
    · refine g_iload_n (pc := 49) C 1 dX7_unseen_49 rfl rfl ?_
      exact g_iretM C hf dX7_unseen_50
    refine g_aload_n (pc := 15) C 0 dX7_unseen_15 rfl rfl ?_
    refine g_bipush (pc := 16) (v := (100 : Int32)) C dX7_unseen_16 (by decide) ?_
    refine g_iload_n (pc := 18) C 2 dX7_unseen_18 rfl rfl ?_
    refine g_iadd (pc := 19) C dX7_unseen_19 ?_
    obtain ⟨M12, h12, hf⟩ := ob hf
    refine g_resV (pc := 20) C (rnV (As := [.int ((100 : Int32) + x2)]) (st := []) C (c_X7_tryOut C.2.2.2.2.2.1 hk0 h12) lkX7_196 rfl (by decide) hk0 rfl rfl (Nat.le_of_ble_eq_true rfl) ⟨⟨rfl, rfl⟩, Nat.le_of_ble_eq_true rfl, Nat.le_of_ble_eq_true rfl⟩ ⟨Nat.le_of_ble_eq_true rfl, Nat.le_of_ble_eq_true rfl⟩ dX7_unseen_20) ?_
    refine g_aload_n (pc := 23) C 0 dX7_unseen_23 rfl rfl ?_
    refine g_getR (pc := 24) (T := 5) C hf fgX7_61 (by decide) hk0 rfl dX7_unseen_24 (fun a13 hk13 hf => ?_)
    refine g_aload_n (pc := 27) C 0 dX7_unseen_27 rfl rfl ?_
    refine g_getR (pc := 28) (T := 6) C hf fgX7_48 (by decide) hk0 rfl dX7_unseen_28 (fun a14 hk14 hf => ?_)
    obtain ⟨r15, h15, hf⟩ := ob hf
    refine g_resI (pc := 31) C (rnV (As := [.ref (Λ a14)]) (st := []) C (c_X5_holdIn C.2.2.2.2.2.1 hk13 hk14 h15) lkX7_208 rfl (by decide) hk13 rfl rfl (Nat.le_of_ble_eq_true rfl) ⟨⟨rfl, rfl⟩, Nat.le_of_ble_eq_true rfl, Nat.le_of_ble_eq_true rfl⟩ ⟨Nat.le_of_ble_eq_true rfl, Nat.le_of_ble_eq_true rfl⟩ dX7_unseen_31) ?_
    refine g_if_eq (pc := 34) (tgt := 43) C hf dX7_unseen_34 (by decide) (fun hf => ?_) (fun hf => ?_)
    · refine g_iinc (pc := 43) (v := (x2 + (1 : Int32))) (lv2 := [(2, .int (x2 + (1 : Int32))), (0, .ref (Λ a0)), (1, .int x1)]) C 2 dX7_unseen_43 rfl rfl (by decide) rfl ?_
      refine g_goto (pc := 46) (tgt := 4) C dX7_unseen_46 (by decide) ?_
      refine g_sub [1, 2, 0] rfl ?_
      exact ih M12 x1 (x2 + (1 : Int32))  hf
    refine g_iload_n (pc := 37) C 1 dX7_unseen_37 rfl rfl ?_
    refine g_iconst (pc := 38) (v := (1 : Int32)) C dX7_unseen_38 (by decide) ?_
    refine g_iload_n (pc := 39) C 2 dX7_unseen_39 rfl rfl ?_
    refine g_ishl (pc := 40) C dX7_unseen_40 ?_
    refine g_ior (pc := 41) C dX7_unseen_41 ?_
    refine g_istore_n (pc := 42) (lv2 := [(1, .int (x1 ||| ((1 : Int32) <<< (x2 &&& 31)))), (0, .ref (Λ a0)), (2, .int x2)]) C dX7_unseen_42 rfl (by decide) rfl ?_
    refine g_iinc (pc := 43) (v := (x2 + (1 : Int32))) (lv2 := [(2, .int (x2 + (1 : Int32))), (1, .int (x1 ||| ((1 : Int32) <<< (x2 &&& 31)))), (0, .ref (Λ a0))]) C 2 dX7_unseen_43 rfl rfl (by decide) rfl ?_
    refine g_goto (pc := 46) (tgt := 4) C dX7_unseen_46 (by decide) ?_
    refine g_sub [2, 1, 0] rfl ?_
    exact ih M12 (x1 ||| ((1 : Int32) <<< (x2 &&& 31))) (x2 + (1 : Int32))  hf

theorem w_X7_unseen {p : Program} {l : Launch} {e : Env} {s : State} {m : MethodId} {args : Array Value} {below : List Frame} {meth : Method} {c : Code} {D : va_G} {cy : Nat → ClassId} {Λ : Nat → Nat} (C : Cx p s m args meth c cX7_unseen 3 RX7 (some .int) D cy Λ (AA Λ s.heap.size)) {M : Mem} {a0 : Nat} {r9 : Int32} {M9 : Mem} (hk0 : Is NN a0 8) (hf : m_X7_unseen M a0 = some (r9, M9)) : GW p l e { frames := 5, cells := 0, slots := 0, locals := 118 } s m args below meth c D cy Λ 3 (QcI D cy Λ NN r9 M9) M 0 [(0, .ref (Λ a0))] [] := by
  unfold m_X7_unseen at hf
  refine g_iconst (pc := 0) (v := (0 : Int32)) C dX7_unseen_0 (by decide) ?_
  refine g_istore_n (pc := 1) (lv2 := [(1, .int (0 : Int32)), (0, .ref (Λ a0))]) C dX7_unseen_1 rfl (by decide) rfl ?_
  refine g_iconst (pc := 2) (v := (0 : Int32)) C dX7_unseen_2 (by decide) ?_
  refine g_istore_n (pc := 3) (lv2 := [(2, .int (0 : Int32)), (1, .int (0 : Int32)), (0, .ref (Λ a0))]) C dX7_unseen_3 rfl (by decide) rfl ?_
  refine g_sub [2, 1, 0] rfl ?_
  exact w_X7_unseen_L4 C hk0 FU M (0 : Int32) (0 : Int32)  hf

theorem c_X7_unseen {l : Launch} {D : va_G} {cy : Nat → ClassId} {Λ : Nat → Nat} (hi : ∀ i j : Nat, Λ i = Λ j → i = j) {M : Mem} {a0 : Nat} {r9 : Int32} {M9 : Mem} (hk0 : Is NN a0 8) (hf : m_X7_unseen M a0 = some (r9, M9)) : Ct l yX7_unseen cX7_unseen 3 (some .int) { frames := 5, cells := 0, slots := 0, locals := 118 } D cy Λ [.ref (Λ a0)] NN M 0 0 (QcI D cy Λ NN r9 M9) := ent (by decide) hi (Nat.le_of_ble_eq_true rfl) (fun p e s m args below meth c C => w_X7_unseen C hk0 hf)
theorem w_X7_addAnswers_L15 {p : Program} {l : Launch} {e : Env} {s : State} {m : MethodId} {args : Array Value} {below : List Frame} {meth : Method} {c : Code} {D : va_G} {cy : Nat → ClassId} {Λ : Nat → Nat} (C : Cx p s m args meth c cX7_addAnswers 3 RX7 none D cy Λ (AA Λ s.heap.size)) {a0 : Nat} {k2 : Mem → Int32 → Option Mem} {M9 : Mem} (hk0 : Is NN a0 8) (hK2 : ∀ (M : Mem) (x1 : Int32), k2 M x1 = some M9 → GW p l e { frames := 2, cells := 0, slots := 0, locals := 43 } s m args below meth c D cy Λ 3 (QcV D cy Λ NN M9) M 2 [(0, .ref (Λ a0)), (1, .int x1)] []) : ∀ (fu : Nat) (M : Mem) (x1 : Int32) (x2 : Int32), m_X7_addAnswers_L15 a0 k2 fu M x1 x2 = some M9 → GW p l e { frames := 2, cells := 0, slots := 0, locals := 43 } s m args below meth c D cy Λ 3 (QcV D cy Λ NN M9) M 15 [(0, .ref (Λ a0)), (1, .int x1), (2, .int x2)] [] := by
  intro fu
  induction fu with
  | zero =>
    intro M x1 x2  hf
    cases hf
  | succ fu ih =>
    intro M x1 x2  hf
    unfold m_X7_addAnswers_L15 at hf
    refine g_iload_n (pc := 15) C 2 dX7_addAnswers_15 rfl rfl ?_
    refine g_iconst (pc := 16) (v := (4 : Int32)) C dX7_addAnswers_16 (by decide) ?_
    refine g_ic_ge (pc := 17) (tgt := 50) C hf dX7_addAnswers_17 (by decide) (fun hf => ?_) (fun hf => ?_)
    · refine g_iinc (pc := 50) (v := (x1 + (1 : Int32))) (lv2 := [(1, .int (x1 + (1 : Int32))), (0, .ref (Λ a0)), (2, .int x2)]) C 1 dX7_addAnswers_50 rfl rfl (by decide) rfl ?_
      refine g_goto (pc := 53) (tgt := 2) C dX7_addAnswers_53 (by decide) ?_
      refine g_sub [1, 0] rfl ?_
      exact hK2 M (x1 + (1 : Int32))  hf
    refine g_aload_n (pc := 20) C 0 dX7_addAnswers_20 rfl rfl ?_
    refine g_getR (pc := 21) (T := 9) C hf fgX7_72 (by decide) hk0 rfl dX7_addAnswers_21 (fun a11 hk11 hf => ?_)
    refine g_iconst (pc := 24) (v := (4 : Int32)) C dX7_addAnswers_24 (by decide) ?_
    refine g_iload_n (pc := 25) C 1 dX7_addAnswers_25 rfl rfl ?_
    refine g_imul (pc := 26) C dX7_addAnswers_26 ?_
    refine g_iload_n (pc := 27) C 2 dX7_addAnswers_27 rfl rfl ?_
    refine g_iadd (pc := 28) C dX7_addAnswers_28 ?_
    refine g_dup2 (pc := 29) C dX7_addAnswers_29 rfl rfl ?_
    refine g_iald (pc := 30) C hf hk11 dX7_addAnswers_30 (fun v12 hf => ?_)
    refine g_iconst (pc := 31) (v := (1 : Int32)) C dX7_addAnswers_31 (by decide) ?_
    refine g_aload_n (pc := 32) C 0 dX7_addAnswers_32 rfl rfl ?_
    refine g_getR (pc := 33) (T := 6) C hf fgX7_48 (by decide) hk0 rfl dX7_addAnswers_33 (fun a13 hk13 hf => ?_)
    refine g_iload_n (pc := 36) C 1 dX7_addAnswers_36 rfl rfl ?_
    refine g_iload_n (pc := 37) C 2 dX7_addAnswers_37 rfl rfl ?_
    obtain ⟨r14, h14, hf⟩ := ob hf
    refine g_resI (pc := 38) C (rnV (As := [.int x1, .int x2]) (st := [.int (1 : Int32), .int v12, .int (((4 : Int32) * x1) + x2), .ref (Λ a11)]) C (c_X6_valueAt C.2.2.2.2.2.1 hk13 h14) lkX7_177 rfl (by decide) hk13 rfl rfl (Nat.le_of_ble_eq_true rfl) ⟨⟨rfl, rfl⟩, Nat.le_of_ble_eq_true rfl, Nat.le_of_ble_eq_true rfl⟩ ⟨Nat.le_of_ble_eq_true rfl, Nat.le_of_ble_eq_true rfl⟩ dX7_addAnswers_38) ?_
    refine g_ishl (pc := 41) C dX7_addAnswers_41 ?_
    refine g_ior (pc := 42) C dX7_addAnswers_42 ?_
    refine g_iast (pc := 43) C hf hk11 dX7_addAnswers_43 (fun M15 hf => ?_)
    refine g_iinc (pc := 44) (v := (x2 + (1 : Int32))) (lv2 := [(2, .int (x2 + (1 : Int32))), (0, .ref (Λ a0)), (1, .int x1)]) C 2 dX7_addAnswers_44 rfl rfl (by decide) rfl ?_
    refine g_goto (pc := 47) (tgt := 15) C dX7_addAnswers_47 (by decide) ?_
    refine g_sub [1, 2, 0] rfl ?_
    exact ih M15 x1 (x2 + (1 : Int32))  hf

theorem w_X7_addAnswers_L2 {p : Program} {l : Launch} {e : Env} {s : State} {m : MethodId} {args : Array Value} {below : List Frame} {meth : Method} {c : Code} {D : va_G} {cy : Nat → ClassId} {Λ : Nat → Nat} (C : Cx p s m args meth c cX7_addAnswers 3 RX7 none D cy Λ (AA Λ s.heap.size)) {a0 : Nat}  {M9 : Mem} (hk0 : Is NN a0 8)  : ∀ (fu : Nat) (M : Mem) (x1 : Int32), m_X7_addAnswers_L2 a0 fu M x1 = some M9 → GW p l e { frames := 2, cells := 0, slots := 0, locals := 43 } s m args below meth c D cy Λ 3 (QcV D cy Λ NN M9) M 2 [(0, .ref (Λ a0)), (1, .int x1)] [] := by
  intro fu
  induction fu with
  | zero =>
    intro M x1  hf
    cases hf
  | succ fu ih =>
    intro M x1  hf
    unfold m_X7_addAnswers_L2 at hf
    refine g_iload_n (pc := 2) C 1 dX7_addAnswers_2 rfl rfl ?_
    refine g_aload_n (pc := 3) C 0 dX7_addAnswers_3 rfl rfl ?_
    refine g_getR (pc := 4) (T := 4) C hf fgX7_27 (by decide) hk0 rfl dX7_addAnswers_4 (fun a11 hk11 hf => ?_)
    refine g_getI (pc := 7) C fgX7_106 (by decide) hk11 rfl dX7_addAnswers_7 ?_
    refine g_ic_ge (pc := 10) (tgt := 56) C hf dX7_addAnswers_10 (by decide) (fun hf => ?_) (fun hf => ?_)
    · exact g_vret C hf dX7_addAnswers_56
    refine g_iconst (pc := 13) (v := (0 : Int32)) C dX7_addAnswers_13 (by decide) ?_
    refine g_istore_n (pc := 14) (lv2 := [(2, .int (0 : Int32)), (0, .ref (Λ a0)), (1, .int x1)]) C dX7_addAnswers_14 rfl (by decide) rfl ?_
    refine g_sub [1, 2, 0] rfl ?_
    exact w_X7_addAnswers_L15 C hk0 ih FU M x1 (0 : Int32)  hf

theorem w_X7_addAnswers {p : Program} {l : Launch} {e : Env} {s : State} {m : MethodId} {args : Array Value} {below : List Frame} {meth : Method} {c : Code} {D : va_G} {cy : Nat → ClassId} {Λ : Nat → Nat} (C : Cx p s m args meth c cX7_addAnswers 3 RX7 none D cy Λ (AA Λ s.heap.size)) {M : Mem} {a0 : Nat} {M9 : Mem} (hk0 : Is NN a0 8) (hf : m_X7_addAnswers M a0 = some M9) : GW p l e { frames := 2, cells := 0, slots := 0, locals := 43 } s m args below meth c D cy Λ 3 (QcV D cy Λ NN M9) M 0 [(0, .ref (Λ a0))] [] := by
  unfold m_X7_addAnswers at hf
  refine g_iconst (pc := 0) (v := (0 : Int32)) C dX7_addAnswers_0 (by decide) ?_
  refine g_istore_n (pc := 1) (lv2 := [(1, .int (0 : Int32)), (0, .ref (Λ a0))]) C dX7_addAnswers_1 rfl (by decide) rfl ?_
  refine g_sub [1, 0] rfl ?_
  exact w_X7_addAnswers_L2 C hk0 FU M (0 : Int32)  hf

theorem c_X7_addAnswers {l : Launch} {D : va_G} {cy : Nat → ClassId} {Λ : Nat → Nat} (hi : ∀ i j : Nat, Λ i = Λ j → i = j) {M : Mem} {a0 : Nat} {M9 : Mem} (hk0 : Is NN a0 8) (hf : m_X7_addAnswers M a0 = some M9) : Ct l yX7_addAnswers cX7_addAnswers 3 none { frames := 2, cells := 0, slots := 0, locals := 43 } D cy Λ [.ref (Λ a0)] NN M 0 0 (QcV D cy Λ NN M9) := ent (by decide) hi (Nat.le_of_ble_eq_true rfl) (fun p e s m args below meth c C => w_X7_addAnswers C hk0 hf)
theorem w_X7_gatherAnswers_L26 {p : Program} {l : Launch} {e : Env} {s : State} {m : MethodId} {args : Array Value} {below : List Frame} {meth : Method} {c : Code} {D : va_G} {cy : Nat → ClassId} {Λ : Nat → Nat} (C : Cx p s m args meth c cX7_gatherAnswers 3 RX7 none D cy Λ (AA Λ s.heap.size)) {a0 : Nat} {x1 : Int32}  {M9 : Mem} (hk0 : Is NN a0 8)  : ∀ (fu : Nat) (M : Mem) (x2 : Int32), m_X7_gatherAnswers_L26 a0 x1 fu M x2 = some M9 → GW p l e { frames := 5, cells := 0, slots := 0, locals := 118 } s m args below meth c D cy Λ 3 (QcV D cy Λ NN M9) M 26 [(0, .ref (Λ a0)), (1, .int x1), (2, .int x2)] [] := by
  intro fu
  induction fu with
  | zero =>
    intro M x2  hf
    cases hf
  | succ fu ih =>
    intro M x2  hf
    unfold m_X7_gatherAnswers_L26 at hf
    refine g_iload_n (pc := 26) C 2 dX7_gatherAnswers_26 rfl rfl ?_
    refine g_aload_n (pc := 27) C 0 dX7_gatherAnswers_27 rfl rfl ?_
    refine g_getR (pc := 28) (T := 4) C hf fgX7_27 (by decide) hk0 rfl dX7_gatherAnswers_28 (fun a11 hk11 hf => ?_)
    refine g_getI (pc := 31) C fgX7_128 (by decide) hk11 rfl dX7_gatherAnswers_31 ?_
    refine g_ic_ge (pc := 34) (tgt := 63) C hf dX7_gatherAnswers_34 (by decide) (fun hf => ?_) (fun hf => ?_)
    · exact g_vret C hf dX7_gatherAnswers_63
    refine g_iload_n (pc := 37) C 1 dX7_gatherAnswers_37 rfl rfl ?_
    refine g_iload_n (pc := 38) C 2 dX7_gatherAnswers_38 rfl rfl ?_
    obtain ⟨r12, h12, hf⟩ := ob hf
    refine g_resI (pc := 39) C (rnS (As := [.int x1, .int x2]) (st := []) C (c_X7_hasBit C.2.2.2.2.2.1  h12) lkX7_223 rfl rfl (Nat.le_of_ble_eq_true rfl) ⟨⟨rfl, rfl⟩, Nat.le_of_ble_eq_true rfl, Nat.le_of_ble_eq_true rfl⟩ ⟨Nat.le_of_ble_eq_true rfl, Nat.le_of_ble_eq_true rfl⟩ dX7_gatherAnswers_39) ?_
    refine g_if_eq (pc := 42) (tgt := 57) C hf dX7_gatherAnswers_42 (by decide) (fun hf => ?_) (fun hf => ?_)
    · refine g_iinc (pc := 57) (v := (x2 + (1 : Int32))) (lv2 := [(2, .int (x2 + (1 : Int32))), (0, .ref (Λ a0)), (1, .int x1)]) C 2 dX7_gatherAnswers_57 rfl rfl (by decide) rfl ?_
      refine g_goto (pc := 60) (tgt := 26) C dX7_gatherAnswers_60 (by decide) ?_
      refine g_sub [1, 2, 0] rfl ?_
      exact ih M (x2 + (1 : Int32))  hf
    refine g_aload_n (pc := 45) C 0 dX7_gatherAnswers_45 rfl rfl ?_
    refine g_bipush (pc := 46) (v := (100 : Int32)) C dX7_gatherAnswers_46 (by decide) ?_
    refine g_iload_n (pc := 48) C 2 dX7_gatherAnswers_48 rfl rfl ?_
    refine g_iadd (pc := 49) C dX7_gatherAnswers_49 ?_
    obtain ⟨M13, h13, hf⟩ := ob hf
    refine g_resV (pc := 50) C (rnV (As := [.int ((100 : Int32) + x2)]) (st := []) C (c_X7_tryOut C.2.2.2.2.2.1 hk0 h13) lkX7_196 rfl (by decide) hk0 rfl rfl (Nat.le_of_ble_eq_true rfl) ⟨⟨rfl, rfl⟩, Nat.le_of_ble_eq_true rfl, Nat.le_of_ble_eq_true rfl⟩ ⟨Nat.le_of_ble_eq_true rfl, Nat.le_of_ble_eq_true rfl⟩ dX7_gatherAnswers_50) ?_
    refine g_aload_n (pc := 53) C 0 dX7_gatherAnswers_53 rfl rfl ?_
    obtain ⟨M14, h14, hf⟩ := ob hf
    refine g_resV (pc := 54) C (rnV (As := []) (st := []) C (c_X7_addAnswers C.2.2.2.2.2.1 hk0 h14) lkX7_238 rfl (by decide) hk0 rfl rfl (Nat.le_of_ble_eq_true rfl) ⟨⟨rfl, rfl⟩, Nat.le_of_ble_eq_true rfl, Nat.le_of_ble_eq_true rfl⟩ ⟨Nat.le_of_ble_eq_true rfl, Nat.le_of_ble_eq_true rfl⟩ dX7_gatherAnswers_54) ?_
    refine g_iinc (pc := 57) (v := (x2 + (1 : Int32))) (lv2 := [(2, .int (x2 + (1 : Int32))), (0, .ref (Λ a0)), (1, .int x1)]) C 2 dX7_gatherAnswers_57 rfl rfl (by decide) rfl ?_
    refine g_goto (pc := 60) (tgt := 26) C dX7_gatherAnswers_60 (by decide) ?_
    refine g_sub [1, 2, 0] rfl ?_
    exact ih M14 (x2 + (1 : Int32))  hf

theorem w_X7_gatherAnswers_L2 {p : Program} {l : Launch} {e : Env} {s : State} {m : MethodId} {args : Array Value} {below : List Frame} {meth : Method} {c : Code} {D : va_G} {cy : Nat → ClassId} {Λ : Nat → Nat} (C : Cx p s m args meth c cX7_gatherAnswers 3 RX7 none D cy Λ (AA Λ s.heap.size)) {a0 : Nat} {x1 : Int32}  {M9 : Mem} (hk0 : Is NN a0 8)  : ∀ (fu : Nat) (M : Mem) (x2 : Int32), m_X7_gatherAnswers_L2 a0 x1 fu M x2 = some M9 → GW p l e { frames := 5, cells := 0, slots := 0, locals := 118 } s m args below meth c D cy Λ 3 (QcV D cy Λ NN M9) M 2 [(0, .ref (Λ a0)), (1, .int x1), (2, .int x2)] [] := by
  intro fu
  induction fu with
  | zero =>
    intro M x2  hf
    cases hf
  | succ fu ih =>
    intro M x2  hf
    unfold m_X7_gatherAnswers_L2 at hf
    refine g_iload_n (pc := 2) C 2 dX7_gatherAnswers_2 rfl rfl ?_
    refine g_aload_n (pc := 3) C 0 dX7_gatherAnswers_3 rfl rfl ?_
    refine g_getR (pc := 4) (T := 9) C hf fgX7_72 (by decide) hk0 rfl dX7_gatherAnswers_4 (fun a11 hk11 hf => ?_)
    refine g_alen0 (pc := 7) C hk11 dX7_gatherAnswers_7 ?_
    refine g_ic_ge (pc := 8) (tgt := 24) C hf dX7_gatherAnswers_8 (by decide) (fun hf => ?_) (fun hf => ?_)
    · refine g_iconst (pc := 24) (v := (0 : Int32)) C dX7_gatherAnswers_24 (by decide) ?_
      refine g_istore_n (pc := 25) (lv2 := [(2, .int (0 : Int32)), (0, .ref (Λ a0)), (1, .int x1)]) C dX7_gatherAnswers_25 rfl (by decide) rfl ?_
      refine g_sub [1, 2, 0] rfl ?_
      exact w_X7_gatherAnswers_L26 C hk0 FU M (0 : Int32)  hf
    refine g_aload_n (pc := 11) C 0 dX7_gatherAnswers_11 rfl rfl ?_
    refine g_getR (pc := 12) (T := 9) C hf fgX7_72 (by decide) hk0 rfl dX7_gatherAnswers_12 (fun a12 hk12 hf => ?_)
    refine g_iload_n (pc := 15) C 2 dX7_gatherAnswers_15 rfl rfl ?_
    refine g_iconst (pc := 16) (v := (0 : Int32)) C dX7_gatherAnswers_16 (by decide) ?_
    refine g_iast (pc := 17) C hf hk12 dX7_gatherAnswers_17 (fun M13 hf => ?_)
    refine g_iinc (pc := 18) (v := (x2 + (1 : Int32))) (lv2 := [(2, .int (x2 + (1 : Int32))), (0, .ref (Λ a0)), (1, .int x1)]) C 2 dX7_gatherAnswers_18 rfl rfl (by decide) rfl ?_
    refine g_goto (pc := 21) (tgt := 2) C dX7_gatherAnswers_21 (by decide) ?_
    refine g_sub [1, 2, 0] rfl ?_
    exact ih M13 (x2 + (1 : Int32))  hf

theorem w_X7_gatherAnswers {p : Program} {l : Launch} {e : Env} {s : State} {m : MethodId} {args : Array Value} {below : List Frame} {meth : Method} {c : Code} {D : va_G} {cy : Nat → ClassId} {Λ : Nat → Nat} (C : Cx p s m args meth c cX7_gatherAnswers 3 RX7 none D cy Λ (AA Λ s.heap.size)) {M : Mem} {a0 : Nat} {x1 : Int32} {M9 : Mem} (hk0 : Is NN a0 8) (hf : m_X7_gatherAnswers M a0 x1 = some M9) : GW p l e { frames := 5, cells := 0, slots := 0, locals := 118 } s m args below meth c D cy Λ 3 (QcV D cy Λ NN M9) M 0 [(0, .ref (Λ a0)), (1, .int x1)] [] := by
  unfold m_X7_gatherAnswers at hf
  refine g_iconst (pc := 0) (v := (0 : Int32)) C dX7_gatherAnswers_0 (by decide) ?_
  refine g_istore_n (pc := 1) (lv2 := [(2, .int (0 : Int32)), (0, .ref (Λ a0)), (1, .int x1)]) C dX7_gatherAnswers_1 rfl (by decide) rfl ?_
  refine g_sub [1, 2, 0] rfl ?_
  exact w_X7_gatherAnswers_L2 C hk0 FU M (0 : Int32)  hf

theorem c_X7_gatherAnswers {l : Launch} {D : va_G} {cy : Nat → ClassId} {Λ : Nat → Nat} (hi : ∀ i j : Nat, Λ i = Λ j → i = j) {M : Mem} {a0 : Nat} {x1 : Int32} {M9 : Mem} (hk0 : Is NN a0 8) (hf : m_X7_gatherAnswers M a0 x1 = some M9) : Ct l yX7_gatherAnswers cX7_gatherAnswers 3 none { frames := 5, cells := 0, slots := 0, locals := 118 } D cy Λ [.ref (Λ a0), .int x1] NN M 0 0 (QcV D cy Λ NN M9) := ent (by decide) hi (Nat.le_of_ble_eq_true rfl) (fun p e s m args below meth c C => w_X7_gatherAnswers C hk0 hf)
theorem w_X7_ask_L29 {p : Program} {l : Launch} {e : Env} {s : State} {m : MethodId} {args : Array Value} {below : List Frame} {meth : Method} {c : Code} {D : va_G} {cy : Nat → ClassId} {Λ : Nat → Nat} (C : Cx p s m args meth c cX7_ask 6 RX7 (some .int) D cy Λ (AA Λ s.heap.size)) {a0 : Nat}  {r9 : Int32} {M9 : Mem} (hk0 : Is NN a0 8)  : ∀ (fu : Nat) (M : Mem) (x2 : Int32) (x3 : Int32) (x4 : Int32), m_X7_ask_L29 a0 fu M x2 x3 x4 = some (r9, M9) → GW p l e { frames := 6, cells := 0, slots := 0, locals := 140 } s m args below meth c D cy Λ 6 (QcI D cy Λ NN r9 M9) M 29 [(0, .ref (Λ a0)), (2, .int x2), (3, .int x3), (4, .int x4)] [] := by
  intro fu
  induction fu with
  | zero =>
    intro M x2 x3 x4  hf
    cases hf
  | succ fu ih =>
    intro M x2 x3 x4  hf
    unfold m_X7_ask_L29 at hf
    refine g_iload (pc := 29) C 3 dX7_ask_29 rfl ?_
    refine g_iconst (pc := 31) (v := (4 : Int32)) C dX7_ask_31 (by decide) ?_
    refine g_aload_n (pc := 32) C 0 dX7_ask_32 rfl rfl ?_
    refine g_getR (pc := 33) (T := 4) C hf fgX7_27 (by decide) hk0 rfl dX7_ask_33 (fun a11 hk11 hf => ?_)
    refine g_getI (pc := 36) C fgX7_106 (by decide) hk11 rfl dX7_ask_36 ?_
    refine g_imul (pc := 39) C dX7_ask_39 ?_
    refine g_ic_ge (pc := 40) (tgt := 73) C hf dX7_ask_40 (by decide) (fun hf => ?_) (fun hf => ?_)
    · refine g_iload_n (pc := 73) C 1 dX7_ask_73 rfl rfl ?_
      exact g_iretM C hf dX7_ask_74
    refine g_aload_n (pc := 43) C 0 dX7_ask_43 rfl rfl ?_
    refine g_getR (pc := 44) (T := 9) C hf fgX7_72 (by decide) hk0 rfl dX7_ask_44 (fun a12 hk12 hf => ?_)
    refine g_iload (pc := 47) C 3 dX7_ask_47 rfl ?_
    refine g_iald (pc := 49) C hf hk12 dX7_ask_49 (fun v13 hf => ?_)
    obtain ⟨r14, h14, hf⟩ := ob hf
    refine g_resI (pc := 50) C (rnS (As := [.int v13]) (st := []) C (c_J6_bitCount_0f7a4 C.2.2.2.2.2.1  h14) lkX7_215 rfl rfl (Nat.le_of_ble_eq_true rfl) ⟨⟨rfl, rfl⟩, Nat.le_of_ble_eq_true rfl, Nat.le_of_ble_eq_true rfl⟩ ⟨Nat.le_of_ble_eq_true rfl, Nat.le_of_ble_eq_true rfl⟩ dX7_ask_50) ?_
    refine g_istore (pc := 53) (lv2 := [(5, .int r14), (0, .ref (Λ a0)), (2, .int x2), (3, .int x3), (4, .int x4)]) C dX7_ask_53 (by decide) rfl ?_
    refine g_iload (pc := 55) C 0 dX7_ask_55 rfl ?_
    refine g_iload_n (pc := 57) C 3 dX7_ask_57 rfl rfl ?_
    refine g_ic_le (pc := 58) (tgt := 67) C hf dX7_ask_58 (by decide) (fun hf => ?_) (fun hf => ?_)
    · refine g_iinc (pc := 67) (v := (x4 + (1 : Int32))) (lv2 := [(4, .int (x4 + (1 : Int32))), (5, .int r14), (0, .ref (Λ a0)), (2, .int x2), (3, .int x3)]) C 4 dX7_ask_67 rfl rfl (by decide) rfl ?_
      refine g_goto (pc := 70) (tgt := 29) C dX7_ask_70 (by decide) ?_
      refine g_sub [2, 3, 4, 0] rfl ?_
      exact ih M x2 x3 (x4 + (1 : Int32))  hf
    refine g_iload (pc := 61) C 0 dX7_ask_61 rfl ?_
    refine g_istore_n (pc := 63) (lv2 := [(3, .int r14), (5, .int r14), (0, .ref (Λ a0)), (2, .int x2), (4, .int x4)]) C dX7_ask_63 rfl (by decide) rfl ?_
    refine g_iload (pc := 64) C 4 dX7_ask_64 rfl ?_
    refine g_istore_n (pc := 66) (lv2 := [(2, .int x4), (3, .int r14), (5, .int r14), (0, .ref (Λ a0)), (4, .int x4)]) C dX7_ask_66 rfl (by decide) rfl ?_
    refine g_iinc (pc := 67) (v := (x4 + (1 : Int32))) (lv2 := [(4, .int (x4 + (1 : Int32))), (2, .int x4), (3, .int r14), (5, .int r14), (0, .ref (Λ a0))]) C 4 dX7_ask_67 rfl rfl (by decide) rfl ?_
    refine g_goto (pc := 70) (tgt := 29) C dX7_ask_70 (by decide) ?_
    refine g_sub [4, 1, 2, 0] rfl ?_
    exact ih M x4 r14 (x4 + (1 : Int32))  hf

theorem w_X7_ask {p : Program} {l : Launch} {e : Env} {s : State} {m : MethodId} {args : Array Value} {below : List Frame} {meth : Method} {c : Code} {D : va_G} {cy : Nat → ClassId} {Λ : Nat → Nat} (C : Cx p s m args meth c cX7_ask 6 RX7 (some .int) D cy Λ (AA Λ s.heap.size)) {M : Mem} {a0 : Nat} {r9 : Int32} {M9 : Mem} (hk0 : Is NN a0 8) (hf : m_X7_ask M a0 = some (r9, M9)) : GW p l e { frames := 6, cells := 0, slots := 0, locals := 140 } s m args below meth c D cy Λ 6 (QcI D cy Λ NN r9 M9) M 0 [(0, .ref (Λ a0))] [] := by
  unfold m_X7_ask at hf
  refine g_aload_n (pc := 0) C 0 dX7_ask_0 rfl rfl ?_
  obtain ⟨r11, M11, h11, hf⟩ := ob2 hf
  refine g_resI (pc := 1) C (rnV (As := []) (st := []) C (c_X7_unseen C.2.2.2.2.2.1 hk0 h11) lkX7_212 rfl (by decide) hk0 rfl rfl (Nat.le_of_ble_eq_true rfl) ⟨⟨rfl, rfl⟩, Nat.le_of_ble_eq_true rfl, Nat.le_of_ble_eq_true rfl⟩ ⟨Nat.le_of_ble_eq_true rfl, Nat.le_of_ble_eq_true rfl⟩ dX7_ask_1) ?_
  refine g_istore_n (pc := 4) (lv2 := [(1, .int r11), (0, .ref (Λ a0))]) C dX7_ask_4 rfl (by decide) rfl ?_
  refine g_iload_n (pc := 5) C 0 dX7_ask_5 rfl rfl ?_
  obtain ⟨r12, h12, hf⟩ := ob hf
  refine g_resI (pc := 6) C (rnS (As := [.int r11]) (st := []) C (c_J6_bitCount_0f7a4 C.2.2.2.2.2.1  h12) lkX7_215 rfl rfl (Nat.le_of_ble_eq_true rfl) ⟨⟨rfl, rfl⟩, Nat.le_of_ble_eq_true rfl, Nat.le_of_ble_eq_true rfl⟩ ⟨Nat.le_of_ble_eq_true rfl, Nat.le_of_ble_eq_true rfl⟩ dX7_ask_6) ?_
  refine g_iconst (pc := 9) (v := (1 : Int32)) C dX7_ask_9 (by decide) ?_
  refine g_ic_gt (pc := 10) (tgt := 16) C hf dX7_ask_10 (by decide) (fun hf => ?_) (fun hf => ?_)
  · refine g_aload_n (pc := 16) C 1 dX7_ask_16 rfl rfl ?_
    refine g_iload_n (pc := 17) C 0 dX7_ask_17 rfl rfl ?_
    obtain ⟨M13, h13, hf⟩ := ob hf
    refine g_resV (pc := 18) C (rnV (As := [.int r11]) (st := []) C (c_X7_gatherAnswers C.2.2.2.2.2.1 hk0 h13) lkX7_220 rfl (by decide) hk0 rfl rfl (Nat.le_of_ble_eq_true rfl) ⟨⟨rfl, rfl⟩, Nat.le_of_ble_eq_true rfl, Nat.le_of_ble_eq_true rfl⟩ ⟨Nat.le_of_ble_eq_true rfl, Nat.le_of_ble_eq_true rfl⟩ dX7_ask_18) ?_
    refine g_bipush (pc := 21) (v := (-9 : Int32)) C dX7_ask_21 (by decide) ?_
    refine g_istore_n (pc := 23) (lv2 := [(2, .int (-9 : Int32)), (1, .int r11), (0, .ref (Λ a0))]) C dX7_ask_23 rfl (by decide) rfl ?_
    refine g_iconst (pc := 24) (v := (0 : Int32)) C dX7_ask_24 (by decide) ?_
    refine g_istore_n (pc := 25) (lv2 := [(3, .int (0 : Int32)), (2, .int (-9 : Int32)), (1, .int r11), (0, .ref (Λ a0))]) C dX7_ask_25 rfl (by decide) rfl ?_
    refine g_iconst (pc := 26) (v := (0 : Int32)) C dX7_ask_26 (by decide) ?_
    refine g_istore (pc := 27) (lv2 := [(4, .int (0 : Int32)), (3, .int (0 : Int32)), (2, .int (-9 : Int32)), (1, .int r11), (0, .ref (Λ a0))]) C dX7_ask_27 (by decide) rfl ?_
    refine g_sub [4, 2, 1, 0] rfl ?_
    exact w_X7_ask_L29 C hk0 FU M13 (-9 : Int32) (0 : Int32) (0 : Int32)  hf
  refine g_bipush (pc := 13) (v := (-9 : Int32)) C dX7_ask_13 (by decide) ?_
  exact g_iretM C hf dX7_ask_15

theorem c_X7_ask {l : Launch} {D : va_G} {cy : Nat → ClassId} {Λ : Nat → Nat} (hi : ∀ i j : Nat, Λ i = Λ j → i = j) {M : Mem} {a0 : Nat} {r9 : Int32} {M9 : Mem} (hk0 : Is NN a0 8) (hf : m_X7_ask M a0 = some (r9, M9)) : Ct l yX7_ask cX7_ask 6 (some .int) { frames := 6, cells := 0, slots := 0, locals := 140 } D cy Λ [.ref (Λ a0)] NN M 0 0 (QcI D cy Λ NN r9 M9) := ent (by decide) hi (Nat.le_of_ble_eq_true rfl) (fun p e s m args below meth c C => w_X7_ask C hk0 hf)
theorem w_X7_keep {p : Program} {l : Launch} {e : Env} {s : State} {m : MethodId} {args : Array Value} {below : List Frame} {meth : Method} {c : Code} {D : va_G} {cy : Nat → ClassId} {Λ : Nat → Nat} (C : Cx p s m args meth c cX7_keep 2 RX7 (some .int) D cy Λ (AA Λ s.heap.size)) {M : Mem} {a0 : Nat} {x1 : Int32} {r9 : Int32} {M9 : Mem} (hk0 : Is NN a0 8) (hf : m_X7_keep M a0 x1 = some (r9, M9)) : GW p l e { frames := 2, cells := 0, slots := 0, locals := 51 } s m args below meth c D cy Λ 2 (QcI D cy Λ NN r9 M9) M 0 [(0, .ref (Λ a0)), (1, .int x1)] [] := by
  unfold m_X7_keep at hf
  refine g_iload_n (pc := 0) C 1 dX7_keep_0 rfl rfl ?_
  refine g_iconst (pc := 1) (v := (2 : Int32)) C dX7_keep_1 (by decide) ?_
  obtain ⟨r11, h11, hf⟩ := ob hf
  refine g_resI (pc := 2) C (rnS (As := [.int x1, .int (2 : Int32)]) (st := []) C (c_X7_within C.2.2.2.2.2.1  h11) lkX7_76 rfl rfl (Nat.le_of_ble_eq_true rfl) ⟨⟨rfl, rfl⟩, Nat.le_of_ble_eq_true rfl, Nat.le_of_ble_eq_true rfl⟩ ⟨Nat.le_of_ble_eq_true rfl, Nat.le_of_ble_eq_true rfl⟩ dX7_keep_2) ?_
  refine g_if_ne (pc := 5) (tgt := 11) C hf dX7_keep_5 (by decide) (fun hf => ?_) (fun hf => ?_)
  · refine g_bipush (pc := 8) (v := (-2 : Int32)) C dX7_keep_8 (by decide) ?_
    exact g_iretM C hf dX7_keep_10
  refine g_aload_n (pc := 11) C 0 dX7_keep_11 rfl rfl ?_
  refine g_getR (pc := 12) (T := 12) C hf fgX7_65 (by decide) hk0 rfl dX7_keep_12 (fun a12 hk12 hf => ?_)
  refine g_iload_n (pc := 15) C 1 dX7_keep_15 rfl rfl ?_
  refine g_aald3 (pc := 16) (T := 1) C hf hk12 dX7_keep_16 (fun a13 hk13 hf => ?_)
  refine g_aload_n (pc := 17) C 0 dX7_keep_17 rfl rfl ?_
  refine g_getR (pc := 18) (T := 1) C hf fgX7_34 (by decide) hk0 rfl dX7_keep_18 (fun a14 hk14 hf => ?_)
  obtain ⟨M15, h15, hf⟩ := ob hf
  refine g_resV (pc := 21) C (rnV (As := [.ref (Λ a14)]) (st := []) C (c_X1_copyFrom C.2.2.2.2.2.1 hk13 hk14 h15) lkX7_95 rfl (by decide) hk13 rfl rfl (Nat.le_of_ble_eq_true rfl) ⟨⟨rfl, rfl⟩, Nat.le_of_ble_eq_true rfl, Nat.le_of_ble_eq_true rfl⟩ ⟨Nat.le_of_ble_eq_true rfl, Nat.le_of_ble_eq_true rfl⟩ dX7_keep_21) ?_
  refine g_aload_n (pc := 24) C 0 dX7_keep_24 rfl rfl ?_
  refine g_dup (pc := 25) C dX7_keep_25 rfl ?_
  refine g_getI (pc := 26) C fgX7_69 (by decide) hk0 rfl dX7_keep_26 ?_
  refine g_iconst (pc := 29) (v := (1 : Int32)) C dX7_keep_29 (by decide) ?_
  refine g_iload_n (pc := 30) C 1 dX7_keep_30 rfl rfl ?_
  refine g_ishl (pc := 31) C dX7_keep_31 ?_
  refine g_ior (pc := 32) C dX7_keep_32 ?_
  refine g_pI (pc := 33) C hf fpX7_69 (by decide) hk0 stX7_11 (Nat.le_of_ble_eq_true rfl) rfl rfl dX7_keep_33 (fun M16 hf => ?_)
  refine g_aload_n (pc := 36) C 0 dX7_keep_36 rfl rfl ?_
  refine g_getR (pc := 37) (T := 4) C hf fgX7_27 (by decide) hk0 rfl dX7_keep_37 (fun a17 hk17 hf => ?_)
  refine g_getI (pc := 40) C fgX7_106 (by decide) hk17 rfl dX7_keep_40 ?_
  exact g_iretM C hf dX7_keep_43

theorem c_X7_keep {l : Launch} {D : va_G} {cy : Nat → ClassId} {Λ : Nat → Nat} (hi : ∀ i j : Nat, Λ i = Λ j → i = j) {M : Mem} {a0 : Nat} {x1 : Int32} {r9 : Int32} {M9 : Mem} (hk0 : Is NN a0 8) (hf : m_X7_keep M a0 x1 = some (r9, M9)) : Ct l yX7_keep cX7_keep 2 (some .int) { frames := 2, cells := 0, slots := 0, locals := 51 } D cy Λ [.ref (Λ a0), .int x1] NN M 0 0 (QcI D cy Λ NN r9 M9) := ent (by decide) hi (Nat.le_of_ble_eq_true rfl) (fun p e s m args below meth c C => w_X7_keep C hk0 hf)
theorem w_X7_back {p : Program} {l : Launch} {e : Env} {s : State} {m : MethodId} {args : Array Value} {below : List Frame} {meth : Method} {c : Code} {D : va_G} {cy : Nat → ClassId} {Λ : Nat → Nat} (C : Cx p s m args meth c cX7_back 2 RX7 (some .int) D cy Λ (AA Λ s.heap.size)) {M : Mem} {a0 : Nat} {x1 : Int32} {r9 : Int32} {M9 : Mem} (hk0 : Is NN a0 8) (hf : m_X7_back M a0 x1 = some (r9, M9)) : GW p l e { frames := 5, cells := 0, slots := 0, locals := 117 } s m args below meth c D cy Λ 2 (QcI D cy Λ NN r9 M9) M 0 [(0, .ref (Λ a0)), (1, .int x1)] [] := by
  unfold m_X7_back at hf
  refine g_iload_n (pc := 0) C 1 dX7_back_0 rfl rfl ?_
  refine g_iconst (pc := 1) (v := (2 : Int32)) C dX7_back_1 (by decide) ?_
  obtain ⟨r11, h11, hf⟩ := ob hf
  refine g_resI (pc := 2) C (rnS (As := [.int x1, .int (2 : Int32)]) (st := []) C (c_X7_within C.2.2.2.2.2.1  h11) lkX7_76 rfl rfl (Nat.le_of_ble_eq_true rfl) ⟨⟨rfl, rfl⟩, Nat.le_of_ble_eq_true rfl, Nat.le_of_ble_eq_true rfl⟩ ⟨Nat.le_of_ble_eq_true rfl, Nat.le_of_ble_eq_true rfl⟩ dX7_back_2) ?_
  refine g_if_ne (pc := 5) (tgt := 11) C hf dX7_back_5 (by decide) (fun hf => ?_) (fun hf => ?_)
  · refine g_bipush (pc := 8) (v := (-2 : Int32)) C dX7_back_8 (by decide) ?_
    exact g_iretM C hf dX7_back_10
  refine g_aload_n (pc := 11) C 0 dX7_back_11 rfl rfl ?_
  refine g_getI (pc := 12) C fgX7_69 (by decide) hk0 rfl dX7_back_12 ?_
  refine g_iload_n (pc := 15) C 1 dX7_back_15 rfl rfl ?_
  obtain ⟨r12, h12, hf⟩ := ob hf
  refine g_resI (pc := 16) C (rnS (As := [.int (M.2 a0 11), .int x1]) (st := []) C (c_X7_hasBit C.2.2.2.2.2.1  h12) lkX7_223 rfl rfl (Nat.le_of_ble_eq_true rfl) ⟨⟨rfl, rfl⟩, Nat.le_of_ble_eq_true rfl, Nat.le_of_ble_eq_true rfl⟩ ⟨Nat.le_of_ble_eq_true rfl, Nat.le_of_ble_eq_true rfl⟩ dX7_back_16) ?_
  refine g_if_ne (pc := 19) (tgt := 25) C hf dX7_back_19 (by decide) (fun hf => ?_) (fun hf => ?_)
  · refine g_bipush (pc := 22) (v := (-3 : Int32)) C dX7_back_22 (by decide) ?_
    exact g_iretM C hf dX7_back_24
  refine g_aload_n (pc := 25) C 0 dX7_back_25 rfl rfl ?_
  refine g_getR (pc := 26) (T := 1) C hf fgX7_34 (by decide) hk0 rfl dX7_back_26 (fun a13 hk13 hf => ?_)
  refine g_aload_n (pc := 29) C 0 dX7_back_29 rfl rfl ?_
  refine g_getR (pc := 30) (T := 12) C hf fgX7_65 (by decide) hk0 rfl dX7_back_30 (fun a14 hk14 hf => ?_)
  refine g_iload_n (pc := 33) C 1 dX7_back_33 rfl rfl ?_
  refine g_aald3 (pc := 34) (T := 1) C hf hk14 dX7_back_34 (fun a15 hk15 hf => ?_)
  obtain ⟨M16, h16, hf⟩ := ob hf
  refine g_resV (pc := 35) C (rnV (As := [.ref (Λ a15)]) (st := []) C (c_X1_copyFrom C.2.2.2.2.2.1 hk13 hk15 h16) lkX7_95 rfl (by decide) hk13 rfl rfl (Nat.le_of_ble_eq_true rfl) ⟨⟨rfl, rfl⟩, Nat.le_of_ble_eq_true rfl, Nat.le_of_ble_eq_true rfl⟩ ⟨Nat.le_of_ble_eq_true rfl, Nat.le_of_ble_eq_true rfl⟩ dX7_back_35) ?_
  refine g_aload_n (pc := 38) C 0 dX7_back_38 rfl rfl ?_
  refine g_getR (pc := 39) (T := 0) C hf fgX7_54 (by decide) hk0 rfl dX7_back_39 (fun a17 hk17 hf => ?_)
  obtain ⟨M18, h18, hf⟩ := ob hf
  refine g_resV (pc := 42) C (rnV (As := []) (st := []) C (c_X0_empty C.2.2.2.2.2.1 hk17 h18) lkX7_99 rfl (by decide) hk17 rfl rfl (Nat.le_of_ble_eq_true rfl) ⟨⟨rfl, rfl⟩, Nat.le_of_ble_eq_true rfl, Nat.le_of_ble_eq_true rfl⟩ ⟨Nat.le_of_ble_eq_true rfl, Nat.le_of_ble_eq_true rfl⟩ dX7_back_42) ?_
  refine g_aload_n (pc := 45) C 0 dX7_back_45 rfl rfl ?_
  obtain ⟨M19, h19, hf⟩ := ob hf
  refine g_resV (pc := 46) C (rnV (As := []) (st := []) C (c_X7_refresh C.2.2.2.2.2.1 hk0 h19) lkX7_103 rfl (by decide) hk0 rfl rfl (Nat.le_of_ble_eq_true rfl) ⟨⟨rfl, rfl⟩, Nat.le_of_ble_eq_true rfl, Nat.le_of_ble_eq_true rfl⟩ ⟨Nat.le_of_ble_eq_true rfl, Nat.le_of_ble_eq_true rfl⟩ dX7_back_46) ?_
  refine g_aload_n (pc := 49) C 0 dX7_back_49 rfl rfl ?_
  refine g_getR (pc := 50) (T := 4) C hf fgX7_27 (by decide) hk0 rfl dX7_back_50 (fun a20 hk20 hf => ?_)
  refine g_getI (pc := 53) C fgX7_106 (by decide) hk20 rfl dX7_back_53 ?_
  exact g_iretM C hf dX7_back_56

theorem c_X7_back {l : Launch} {D : va_G} {cy : Nat → ClassId} {Λ : Nat → Nat} (hi : ∀ i j : Nat, Λ i = Λ j → i = j) {M : Mem} {a0 : Nat} {x1 : Int32} {r9 : Int32} {M9 : Mem} (hk0 : Is NN a0 8) (hf : m_X7_back M a0 x1 = some (r9, M9)) : Ct l yX7_back cX7_back 2 (some .int) { frames := 5, cells := 0, slots := 0, locals := 117 } D cy Λ [.ref (Λ a0), .int x1] NN M 0 0 (QcI D cy Λ NN r9 M9) := ent (by decide) hi (Nat.le_of_ble_eq_true rfl) (fun p e s m args below meth c C => w_X7_back C hk0 hf)
theorem w_X6_unlikeStyles_L4 {p : Program} {l : Launch} {e : Env} {s : State} {m : MethodId} {args : Array Value} {below : List Frame} {meth : Method} {c : Code} {D : va_G} {cy : Nat → ClassId} {Λ : Nat → Nat} (C : Cx p s m args meth c cX6_unlikeStyles 3 RX6 (some .int) D cy Λ (AA Λ s.heap.size)) {M : Mem} {a0 : Nat}  {r9 : Int32} (hk0 : Is NN a0 7)  : ∀ (fu : Nat) (x1 : Int32) (x2 : Int32), m_X6_unlikeStyles_L4 M a0 fu x1 x2 = some r9 → GW p l e { frames := 4, cells := 0, slots := 0, locals := 89 } s m args below meth c D cy Λ 3 (QcI D cy Λ NN r9 M) M 4 [(0, .ref (Λ a0)), (1, .int x1), (2, .int x2)] [] := by
  intro fu
  induction fu with
  | zero =>
    intro x1 x2  hf
    cases hf
  | succ fu ih =>
    intro x1 x2  hf
    unfold m_X6_unlikeStyles_L4 at hf
    refine g_iload_n (pc := 4) C 2 dX6_unlikeStyles_4 rfl rfl ?_
    refine g_aload_n (pc := 5) C 0 dX6_unlikeStyles_5 rfl rfl ?_
    refine g_getI (pc := 6) C fgX6_9 (by decide) hk0 rfl dX6_unlikeStyles_6 ?_
    refine g_ic_ge (pc := 9) (tgt := 30) C hf dX6_unlikeStyles_9 (by decide) (fun hf => ?_) (fun hf => ?_)
    · refine g_iload_n (pc := 30) C 1 dX6_unlikeStyles_30 rfl rfl ?_
      exact g_iret C hf dX6_unlikeStyles_31
    refine g_aload_n (pc := 12) C 0 dX6_unlikeStyles_12 rfl rfl ?_
    refine g_iload_n (pc := 13) C 2 dX6_unlikeStyles_13 rfl rfl ?_
    obtain ⟨r11, h11, hf⟩ := ob hf
    refine g_resI (pc := 14) C (rnV (As := [.int x2]) (st := []) C (c_X6_recordOf C.2.2.2.2.2.1 hk0 h11) lkX6_80 rfl (by decide) hk0 rfl rfl (Nat.le_of_ble_eq_true rfl) ⟨⟨rfl, rfl⟩, Nat.le_of_ble_eq_true rfl, Nat.le_of_ble_eq_true rfl⟩ ⟨Nat.le_of_ble_eq_true rfl, Nat.le_of_ble_eq_true rfl⟩ dX6_unlikeStyles_14) ?_
    refine g_iload_n (pc := 17) C 2 dX6_unlikeStyles_17 rfl rfl ?_
    refine g_ic_ne (pc := 18) (tgt := 24) C hf dX6_unlikeStyles_18 (by decide) (fun hf => ?_) (fun hf => ?_)
    · refine g_iinc (pc := 21) (v := (x1 + (1 : Int32))) (lv2 := [(1, .int (x1 + (1 : Int32))), (0, .ref (Λ a0)), (2, .int x2)]) C 1 dX6_unlikeStyles_21 rfl rfl (by decide) rfl ?_
      refine g_iinc (pc := 24) (v := (x2 + (1 : Int32))) (lv2 := [(2, .int (x2 + (1 : Int32))), (1, .int (x1 + (1 : Int32))), (0, .ref (Λ a0))]) C 2 dX6_unlikeStyles_24 rfl rfl (by decide) rfl ?_
      refine g_goto (pc := 27) (tgt := 4) C dX6_unlikeStyles_27 (by decide) ?_
      refine g_sub [2, 1, 0] rfl ?_
      exact ih (x1 + (1 : Int32)) (x2 + (1 : Int32))  hf
    refine g_iinc (pc := 24) (v := (x2 + (1 : Int32))) (lv2 := [(2, .int (x2 + (1 : Int32))), (0, .ref (Λ a0)), (1, .int x1)]) C 2 dX6_unlikeStyles_24 rfl rfl (by decide) rfl ?_
    refine g_goto (pc := 27) (tgt := 4) C dX6_unlikeStyles_27 (by decide) ?_
    refine g_sub [1, 2, 0] rfl ?_
    exact ih x1 (x2 + (1 : Int32))  hf

theorem w_X6_unlikeStyles {p : Program} {l : Launch} {e : Env} {s : State} {m : MethodId} {args : Array Value} {below : List Frame} {meth : Method} {c : Code} {D : va_G} {cy : Nat → ClassId} {Λ : Nat → Nat} (C : Cx p s m args meth c cX6_unlikeStyles 3 RX6 (some .int) D cy Λ (AA Λ s.heap.size)) {M : Mem} {a0 : Nat} {r9 : Int32} (hk0 : Is NN a0 7) (hf : m_X6_unlikeStyles M a0 = some r9) : GW p l e { frames := 4, cells := 0, slots := 0, locals := 89 } s m args below meth c D cy Λ 3 (QcI D cy Λ NN r9 M) M 0 [(0, .ref (Λ a0))] [] := by
  unfold m_X6_unlikeStyles at hf
  refine g_iconst (pc := 0) (v := (0 : Int32)) C dX6_unlikeStyles_0 (by decide) ?_
  refine g_istore_n (pc := 1) (lv2 := [(1, .int (0 : Int32)), (0, .ref (Λ a0))]) C dX6_unlikeStyles_1 rfl (by decide) rfl ?_
  refine g_iconst (pc := 2) (v := (0 : Int32)) C dX6_unlikeStyles_2 (by decide) ?_
  refine g_istore_n (pc := 3) (lv2 := [(2, .int (0 : Int32)), (1, .int (0 : Int32)), (0, .ref (Λ a0))]) C dX6_unlikeStyles_3 rfl (by decide) rfl ?_
  refine g_sub [2, 1, 0] rfl ?_
  exact w_X6_unlikeStyles_L4 C hk0 FU (0 : Int32) (0 : Int32)  hf

theorem c_X6_unlikeStyles {l : Launch} {D : va_G} {cy : Nat → ClassId} {Λ : Nat → Nat} (hi : ∀ i j : Nat, Λ i = Λ j → i = j) {M : Mem} {a0 : Nat} {r9 : Int32} (hk0 : Is NN a0 7) (hf : m_X6_unlikeStyles M a0 = some r9) : Ct l yX6_unlikeStyles cX6_unlikeStyles 3 (some .int) { frames := 4, cells := 0, slots := 0, locals := 89 } D cy Λ [.ref (Λ a0)] NN M 0 0 (QcI D cy Λ NN r9 M) := ent (by decide) hi (Nat.le_of_ble_eq_true rfl) (fun p e s m args below meth c C => w_X6_unlikeStyles C hk0 hf)
theorem w_X7_count {p : Program} {l : Launch} {e : Env} {s : State} {m : MethodId} {args : Array Value} {below : List Frame} {meth : Method} {c : Code} {D : va_G} {cy : Nat → ClassId} {Λ : Nat → Nat} (C : Cx p s m args meth c cX7_count 2 RX7 (some .int) D cy Λ (AA Λ s.heap.size)) {M : Mem} {a0 : Nat} {x1 : Int32} {r9 : Int32} (hk0 : Is NN a0 8) (hf : m_X7_count M a0 x1 = some r9) : GW p l e { frames := 5, cells := 0, slots := 0, locals := 111 } s m args below meth c D cy Λ 2 (QcI D cy Λ NN r9 M) M 0 [(0, .ref (Λ a0)), (1, .int x1)] [] := by
  unfold m_X7_count at hf
  refine g_iload_n (pc := 0) C 1 dX7_count_0 rfl rfl ?_
  refine g_case hf (fun hx hf => ?_) (fun hx0 hf => ?_)
  · refine g_tin (pc := 1) (tgt := 44) (v := (0 : Int32)) (i := 0) C dX7_count_1 hx (by decide) (by decide) rfl (by decide) ?_
    refine g_aload_n (pc := 44) C 0 dX7_count_44 rfl rfl ?_
    refine g_getR (pc := 45) (T := 4) C hf fgX7_27 (by decide) hk0 rfl dX7_count_45 (fun a11 hk11 hf => ?_)
    refine g_getI (pc := 48) C fgX7_106 (by decide) hk11 rfl dX7_count_48 ?_
    exact g_iret C hf dX7_count_51
  refine g_case hf (fun hx hf => ?_) (fun hx1 hf => ?_)
  · refine g_tin (pc := 1) (tgt := 52) (v := (1 : Int32)) (i := 0) C dX7_count_1 hx (by decide) (by decide) rfl (by decide) ?_
    refine g_aload_n (pc := 52) C 0 dX7_count_52 rfl rfl ?_
    refine g_getR (pc := 53) (T := 4) C hf fgX7_27 (by decide) hk0 rfl dX7_count_53 (fun a12 hk12 hf => ?_)
    refine g_getI (pc := 56) C fgX7_128 (by decide) hk12 rfl dX7_count_56 ?_
    exact g_iret C hf dX7_count_59
  refine g_case hf (fun hx hf => ?_) (fun hx2 hf => ?_)
  · refine g_tin (pc := 1) (tgt := 60) (v := (2 : Int32)) (i := 0) C dX7_count_1 hx (by decide) (by decide) rfl (by decide) ?_
    refine g_aload_n (pc := 60) C 0 dX7_count_60 rfl rfl ?_
    refine g_getR (pc := 61) (T := 1) C hf fgX7_34 (by decide) hk0 rfl dX7_count_61 (fun a13 hk13 hf => ?_)
    refine g_getI (pc := 64) C fgX7_226 (by decide) hk13 rfl dX7_count_64 ?_
    exact g_iret C hf dX7_count_67
  refine g_case hf (fun hx hf => ?_) (fun hx3 hf => ?_)
  · refine g_tin (pc := 1) (tgt := 68) (v := (3 : Int32)) (i := 0) C dX7_count_1 hx (by decide) (by decide) rfl (by decide) ?_
    refine g_aload_n (pc := 68) C 0 dX7_count_68 rfl rfl ?_
    refine g_getR (pc := 69) (T := 6) C hf fgX7_44 (by decide) hk0 rfl dX7_count_69 (fun a14 hk14 hf => ?_)
    obtain ⟨r15, h15, hf⟩ := ob hf
    refine g_resI (pc := 72) C (rnV (As := []) (st := []) C (c_X6_unlikeStyles C.2.2.2.2.2.1 hk14 h15) lkX7_229 rfl (by decide) hk14 rfl rfl (Nat.le_of_ble_eq_true rfl) ⟨⟨rfl, rfl⟩, Nat.le_of_ble_eq_true rfl, Nat.le_of_ble_eq_true rfl⟩ ⟨Nat.le_of_ble_eq_true rfl, Nat.le_of_ble_eq_true rfl⟩ dX7_count_72) ?_
    exact g_iret C hf dX7_count_75
  refine g_case hf (fun hx hf => ?_) (fun hx4 hf => ?_)
  · refine g_tin (pc := 1) (tgt := 76) (v := (4 : Int32)) (i := 0) C dX7_count_1 hx (by decide) (by decide) rfl (by decide) ?_
    refine g_aload_n (pc := 76) C 0 dX7_count_76 rfl rfl ?_
    refine g_getR (pc := 77) (T := 5) C hf fgX7_61 (by decide) hk0 rfl dX7_count_77 (fun a16 hk16 hf => ?_)
    refine g_getI (pc := 80) C fgX7_207 (by decide) hk16 rfl dX7_count_80 ?_
    exact g_iret C hf dX7_count_83
  refine g_case hf (fun hx hf => ?_) (fun hx5 hf => ?_)
  · refine g_tin (pc := 1) (tgt := 84) (v := (5 : Int32)) (i := 0) C dX7_count_1 hx (by decide) (by decide) rfl (by decide) ?_
    refine g_aload_n (pc := 84) C 0 dX7_count_84 rfl rfl ?_
    refine g_getI (pc := 85) C fgX7_13 (by decide) hk0 rfl dX7_count_85 ?_
    exact g_iret C hf dX7_count_88
  refine g_case hf (fun hx hf => ?_) (fun hx6 hf => ?_)
  · refine g_tin (pc := 1) (tgt := 89) (v := (6 : Int32)) (i := 0) C dX7_count_1 hx (by decide) (by decide) rfl (by decide) ?_
    refine g_aload_n (pc := 89) C 0 dX7_count_89 rfl rfl ?_
    refine g_getR (pc := 90) (T := 0) C hf fgX7_54 (by decide) hk0 rfl dX7_count_90 (fun a17 hk17 hf => ?_)
    refine g_getI (pc := 93) C fgX7_171 (by decide) hk17 rfl dX7_count_93 ?_
    exact g_iret C hf dX7_count_96
  refine g_tout (pc := 1) (tgt := 97) C 6 dX7_count_1 rfl (by decide) (fun i hi => ?_) (by decide) ?_
  · rcases (show i = 0 ∨ i = 1 ∨ i = 2 ∨ i = 3 ∨ i = 4 ∨ i = 5 ∨ i = 6 by omega) with rfl | rfl | rfl | rfl | rfl | rfl | rfl
    · exact hx0
    · exact hx1
    · exact hx2
    · exact hx3
    · exact hx4
    · exact hx5
    · exact hx6
  refine g_bipush (pc := 97) (v := (-2 : Int32)) C dX7_count_97 (by decide) ?_
  exact g_iret C hf dX7_count_99

theorem c_X7_count {l : Launch} {D : va_G} {cy : Nat → ClassId} {Λ : Nat → Nat} (hi : ∀ i j : Nat, Λ i = Λ j → i = j) {M : Mem} {a0 : Nat} {x1 : Int32} {r9 : Int32} (hk0 : Is NN a0 8) (hf : m_X7_count M a0 x1 = some r9) : Ct l yX7_count cX7_count 2 (some .int) { frames := 5, cells := 0, slots := 0, locals := 111 } D cy Λ [.ref (Λ a0), .int x1] NN M 0 0 (QcI D cy Λ NN r9 M) := ent (by decide) hi (Nat.le_of_ble_eq_true rfl) (fun p e s m args below meth c C => w_X7_count C hk0 hf)
theorem w_X8_in {p : Program} {l : Launch} {e : Env} {s : State} {m : MethodId} {args : Array Value} {below : List Frame} {meth : Method} {c : Code} {D : va_G} {cy : Nat → ClassId} {Λ : Nat → Nat} (C : Cx p s m args meth c cX8_in 3 RX8 (some .boolean) D cy Λ (AA Λ s.heap.size)) {M : Mem} {x0 : Int32} {x1 : Int32} {x2 : Int32} {r9 : Int32}  (hf : m_X8_in x0 x1 x2 = some r9) : GW p l e { frames := 0, cells := 0, slots := 0, locals := 0 } s m args below meth c D cy Λ 3 (QcI D cy Λ NN r9 M) M 0 [(0, .int x0), (1, .int x1), (2, .int x2)] [] := by
  unfold m_X8_in at hf
  refine g_iload_n (pc := 0) C 0 dX8_in_0 rfl rfl ?_
  refine g_iload_n (pc := 1) C 1 dX8_in_1 rfl rfl ?_
  refine g_ic_lt (pc := 2) (tgt := 14) C hf dX8_in_2 (by decide) (fun hf => ?_) (fun hf => ?_)
  · refine g_iconst (pc := 14) (v := (0 : Int32)) C dX8_in_14 (by decide) ?_
    exact g_zret C (by decide) hf dX8_in_15
  refine g_iload_n (pc := 5) C 0 dX8_in_5 rfl rfl ?_
  refine g_iload_n (pc := 6) C 2 dX8_in_6 rfl rfl ?_
  refine g_ic_gt (pc := 7) (tgt := 14) C hf dX8_in_7 (by decide) (fun hf => ?_) (fun hf => ?_)
  · refine g_iconst (pc := 14) (v := (0 : Int32)) C dX8_in_14 (by decide) ?_
    exact g_zret C (by decide) hf dX8_in_15
  refine g_iconst (pc := 10) (v := (1 : Int32)) C dX8_in_10 (by decide) ?_
  refine g_goto (pc := 11) (tgt := 15) C dX8_in_11 (by decide) ?_
  exact g_zret C (by decide) hf dX8_in_15

theorem c_X8_in {l : Launch} {D : va_G} {cy : Nat → ClassId} {Λ : Nat → Nat} (hi : ∀ i j : Nat, Λ i = Λ j → i = j) {M : Mem} {x0 : Int32} {x1 : Int32} {x2 : Int32} {r9 : Int32}  (hf : m_X8_in x0 x1 x2 = some r9) : Ct l yX8_in cX8_in 3 (some .boolean) { frames := 0, cells := 0, slots := 0, locals := 0 } D cy Λ [.int x0, .int x1, .int x2] NN M 0 0 (QcI D cy Λ NN r9 M) := ent (by decide) hi (Nat.le_of_ble_eq_true rfl) (fun p e s m args below meth c C => w_X8_in C  hf)
theorem w_X8_has {p : Program} {l : Launch} {e : Env} {s : State} {m : MethodId} {args : Array Value} {below : List Frame} {meth : Method} {c : Code} {D : va_G} {cy : Nat → ClassId} {Λ : Nat → Nat} (C : Cx p s m args meth c cX8_has 2 RX8 (some .boolean) D cy Λ (AA Λ s.heap.size)) {M : Mem} {x0 : Int32} {x1 : Int32} {r9 : Int32}  (hf : m_X8_has x0 x1 = some r9) : GW p l e { frames := 0, cells := 0, slots := 0, locals := 0 } s m args below meth c D cy Λ 2 (QcI D cy Λ NN r9 M) M 0 [(0, .int x0), (1, .int x1)] [] := by
  unfold m_X8_has at hf
  refine g_iload_n (pc := 0) C 0 dX8_has_0 rfl rfl ?_
  refine g_iload_n (pc := 1) C 1 dX8_has_1 rfl rfl ?_
  refine g_ishr (pc := 2) C dX8_has_2 ?_
  refine g_iconst (pc := 3) (v := (1 : Int32)) C dX8_has_3 (by decide) ?_
  refine g_iand (pc := 4) C dX8_has_4 ?_
  refine g_iconst (pc := 5) (v := (1 : Int32)) C dX8_has_5 (by decide) ?_
  refine g_ic_ne (pc := 6) (tgt := 13) C hf dX8_has_6 (by decide) (fun hf => ?_) (fun hf => ?_)
  · refine g_iconst (pc := 9) (v := (1 : Int32)) C dX8_has_9 (by decide) ?_
    refine g_goto (pc := 10) (tgt := 14) C dX8_has_10 (by decide) ?_
    exact g_zret C (by decide) hf dX8_has_14
  refine g_iconst (pc := 13) (v := (0 : Int32)) C dX8_has_13 (by decide) ?_
  exact g_zret C (by decide) hf dX8_has_14

theorem c_X8_has {l : Launch} {D : va_G} {cy : Nat → ClassId} {Λ : Nat → Nat} (hi : ∀ i j : Nat, Λ i = Λ j → i = j) {M : Mem} {x0 : Int32} {x1 : Int32} {r9 : Int32}  (hf : m_X8_has x0 x1 = some r9) : Ct l yX8_has cX8_has 2 (some .boolean) { frames := 0, cells := 0, slots := 0, locals := 0 } D cy Λ [.int x0, .int x1] NN M 0 0 (QcI D cy Λ NN r9 M) := ent (by decide) hi (Nat.le_of_ble_eq_true rfl) (fun p e s m args below meth c C => w_X8_has C  hf)
theorem w_X8_ones_L4 {p : Program} {l : Launch} {e : Env} {s : State} {m : MethodId} {args : Array Value} {below : List Frame} {meth : Method} {c : Code} {D : va_G} {cy : Nat → ClassId} {Λ : Nat → Nat} (C : Cx p s m args meth c cX8_ones 3 RX8 (some .int) D cy Λ (AA Λ s.heap.size)) {M : Mem} {x0 : Int32}  {r9 : Int32}   : ∀ (fu : Nat) (x1 : Int32) (x2 : Int32), m_X8_ones_L4 x0 fu x1 x2 = some r9 → GW p l e { frames := 0, cells := 0, slots := 0, locals := 0 } s m args below meth c D cy Λ 3 (QcI D cy Λ NN r9 M) M 4 [(0, .int x0), (1, .int x1), (2, .int x2)] [] := by
  intro fu
  induction fu with
  | zero =>
    intro x1 x2  hf
    cases hf
  | succ fu ih =>
    intro x1 x2  hf
    unfold m_X8_ones_L4 at hf
    refine g_iload_n (pc := 4) C 2 dX8_ones_4 rfl rfl ?_
    refine g_if_eq (pc := 5) (tgt := 20) C hf dX8_ones_5 (by decide) (fun hf => ?_) (fun hf => ?_)
    · refine g_iload_n (pc := 20) C 1 dX8_ones_20 rfl rfl ?_
      exact g_iret C hf dX8_ones_21
    refine g_iinc (pc := 8) (v := (x1 + (1 : Int32))) (lv2 := [(1, .int (x1 + (1 : Int32))), (0, .int x0), (2, .int x2)]) C 1 dX8_ones_8 rfl rfl (by decide) rfl ?_
    refine g_iload_n (pc := 11) C 2 dX8_ones_11 rfl rfl ?_
    refine g_iload_n (pc := 12) C 2 dX8_ones_12 rfl rfl ?_
    refine g_iconst (pc := 13) (v := (1 : Int32)) C dX8_ones_13 (by decide) ?_
    refine g_isub (pc := 14) C dX8_ones_14 ?_
    refine g_iand (pc := 15) C dX8_ones_15 ?_
    refine g_istore_n (pc := 16) (lv2 := [(2, .int (x2 &&& (x2 - (1 : Int32)))), (1, .int (x1 + (1 : Int32))), (0, .int x0)]) C dX8_ones_16 rfl (by decide) rfl ?_
    refine g_goto (pc := 17) (tgt := 4) C dX8_ones_17 (by decide) ?_
    refine g_sub [2, 1, 0] rfl ?_
    exact ih (x1 + (1 : Int32)) (x2 &&& (x2 - (1 : Int32)))  hf

theorem w_X8_ones {p : Program} {l : Launch} {e : Env} {s : State} {m : MethodId} {args : Array Value} {below : List Frame} {meth : Method} {c : Code} {D : va_G} {cy : Nat → ClassId} {Λ : Nat → Nat} (C : Cx p s m args meth c cX8_ones 3 RX8 (some .int) D cy Λ (AA Λ s.heap.size)) {M : Mem} {x0 : Int32} {r9 : Int32}  (hf : m_X8_ones x0 = some r9) : GW p l e { frames := 0, cells := 0, slots := 0, locals := 0 } s m args below meth c D cy Λ 3 (QcI D cy Λ NN r9 M) M 0 [(0, .int x0)] [] := by
  unfold m_X8_ones at hf
  refine g_iconst (pc := 0) (v := (0 : Int32)) C dX8_ones_0 (by decide) ?_
  refine g_istore_n (pc := 1) (lv2 := [(1, .int (0 : Int32)), (0, .int x0)]) C dX8_ones_1 rfl (by decide) rfl ?_
  refine g_iload_n (pc := 2) C 1 dX8_ones_2 rfl rfl ?_
  refine g_istore_n (pc := 3) (lv2 := [(2, .int x0), (1, .int (0 : Int32)), (0, .int x0)]) C dX8_ones_3 rfl (by decide) rfl ?_
  refine g_sub [2, 1, 0] rfl ?_
  exact w_X8_ones_L4 C  FU (0 : Int32) x0  hf

theorem c_X8_ones {l : Launch} {D : va_G} {cy : Nat → ClassId} {Λ : Nat → Nat} (hi : ∀ i j : Nat, Λ i = Λ j → i = j) {M : Mem} {x0 : Int32} {r9 : Int32}  (hf : m_X8_ones x0 = some r9) : Ct l yX8_ones cX8_ones 3 (some .int) { frames := 0, cells := 0, slots := 0, locals := 0 } D cy Λ [.int x0] NN M 0 0 (QcI D cy Λ NN r9 M) := ent (by decide) hi (Nat.le_of_ble_eq_true rfl) (fun p e s m args below meth c C => w_X8_ones C  hf)
theorem w_X8_type {p : Program} {l : Launch} {e : Env} {s : State} {m : MethodId} {args : Array Value} {below : List Frame} {meth : Method} {c : Code} {D : va_G} {cy : Nat → ClassId} {Λ : Nat → Nat} (C : Cx p s m args meth c cX8_type 2 RX8 (some .int) D cy Λ (AA Λ s.heap.size)) {M : Mem} {a0 : Nat} {x1 : Int32} {r9 : Int32} {M9 : Mem} (hk0 : Is NN a0 9) (hf : m_X8_type M a0 x1 = some (r9, M9)) : GW p l e { frames := 1, cells := 0, slots := 0, locals := 22 } s m args below meth c D cy Λ 2 (QcI D cy Λ NN r9 M9) M 0 [(0, .ref (Λ a0)), (1, .int x1)] [] := by
  unfold m_X8_type at hf
  refine g_aload_n (pc := 0) C 0 dX8_type_0 rfl rfl ?_
  refine g_iconst (pc := 1) (v := (0 : Int32)) C dX8_type_1 (by decide) ?_
  refine g_pI (pc := 2) C hf fpX8_56 (by decide) hk0 stX8_0 (Nat.le_of_ble_eq_true rfl) rfl rfl dX8_type_2 (fun M11 hf => ?_)
  refine g_iload_n (pc := 5) C 1 dX8_type_5 rfl rfl ?_
  refine g_iconst (pc := 6) (v := (0 : Int32)) C dX8_type_6 (by decide) ?_
  refine g_sipush (pc := 7) (v := (255 : Int32)) C dX8_type_7 (by decide) ?_
  obtain ⟨r12, h12, hf⟩ := ob hf
  refine g_resI (pc := 10) C (rnS (As := [.int x1, .int (0 : Int32), .int (255 : Int32)]) (st := []) C (c_X8_in C.2.2.2.2.2.1  h12) lkX8_60 rfl rfl (Nat.le_of_ble_eq_true rfl) ⟨⟨rfl, rfl⟩, Nat.le_of_ble_eq_true rfl, Nat.le_of_ble_eq_true rfl⟩ ⟨Nat.le_of_ble_eq_true rfl, Nat.le_of_ble_eq_true rfl⟩ dX8_type_10) ?_
  refine g_if_ne (pc := 13) (tgt := 19) C hf dX8_type_13 (by decide) (fun hf => ?_) (fun hf => ?_)
  · refine g_bipush (pc := 16) (v := (-2 : Int32)) C dX8_type_16 (by decide) ?_
    exact g_iretM C hf dX8_type_18
  refine g_aload_n (pc := 19) C 0 dX8_type_19 rfl rfl ?_
  refine g_getI (pc := 20) C fgX8_64 (by decide) hk0 rfl dX8_type_20 ?_
  refine g_bipush (pc := 23) (v := (120 : Int32)) C dX8_type_23 (by decide) ?_
  refine g_ic_ne (pc := 25) (tgt := 31) C hf dX8_type_25 (by decide) (fun hf => ?_) (fun hf => ?_)
  · refine g_bipush (pc := 28) (v := (-4 : Int32)) C dX8_type_28 (by decide) ?_
    exact g_iretM C hf dX8_type_30
  refine g_aload_n (pc := 31) C 0 dX8_type_31 rfl rfl ?_
  refine g_getR (pc := 32) (T := 9) C hf fgX8_7 (by decide) hk0 rfl dX8_type_32 (fun a13 hk13 hf => ?_)
  refine g_aload_n (pc := 35) C 0 dX8_type_35 rfl rfl ?_
  refine g_getI (pc := 36) C fgX8_64 (by decide) hk0 rfl dX8_type_36 ?_
  refine g_iload_n (pc := 39) C 1 dX8_type_39 rfl rfl ?_
  refine g_iast (pc := 40) C hf hk13 dX8_type_40 (fun M14 hf => ?_)
  refine g_aload_n (pc := 41) C 0 dX8_type_41 rfl rfl ?_
  refine g_dup (pc := 42) C dX8_type_42 rfl ?_
  refine g_getI (pc := 43) C fgX8_64 (by decide) hk0 rfl dX8_type_43 ?_
  refine g_iconst (pc := 46) (v := (1 : Int32)) C dX8_type_46 (by decide) ?_
  refine g_iadd (pc := 47) C dX8_type_47 ?_
  refine g_pI (pc := 48) C hf fpX8_64 (by decide) hk0 stX8_2 (Nat.le_of_ble_eq_true rfl) rfl rfl dX8_type_48 (fun M15 hf => ?_)
  refine g_aload_n (pc := 51) C 0 dX8_type_51 rfl rfl ?_
  refine g_getI (pc := 52) C fgX8_64 (by decide) hk0 rfl dX8_type_52 ?_
  exact g_iretM C hf dX8_type_55

theorem c_X8_type {l : Launch} {D : va_G} {cy : Nat → ClassId} {Λ : Nat → Nat} (hi : ∀ i j : Nat, Λ i = Λ j → i = j) {M : Mem} {a0 : Nat} {x1 : Int32} {r9 : Int32} {M9 : Mem} (hk0 : Is NN a0 9) (hf : m_X8_type M a0 x1 = some (r9, M9)) : Ct l yX8_type cX8_type 2 (some .int) { frames := 1, cells := 0, slots := 0, locals := 22 } D cy Λ [.ref (Λ a0), .int x1] NN M 0 0 (QcI D cy Λ NN r9 M9) := ent (by decide) hi (Nat.le_of_ble_eq_true rfl) (fun p e s m args below meth c C => w_X8_type C hk0 hf)
theorem w_X8_clear {p : Program} {l : Launch} {e : Env} {s : State} {m : MethodId} {args : Array Value} {below : List Frame} {meth : Method} {c : Code} {D : va_G} {cy : Nat → ClassId} {Λ : Nat → Nat} (C : Cx p s m args meth c cX8_clear 2 RX8 (some .int) D cy Λ (AA Λ s.heap.size)) {M : Mem} {a0 : Nat} {r9 : Int32} {M9 : Mem} (hk0 : Is NN a0 9) (hf : m_X8_clear M a0 = some (r9, M9)) : GW p l e { frames := 0, cells := 0, slots := 0, locals := 0 } s m args below meth c D cy Λ 2 (QcI D cy Λ NN r9 M9) M 0 [(0, .ref (Λ a0))] [] := by
  unfold m_X8_clear at hf
  refine g_aload_n (pc := 0) C 0 dX8_clear_0 rfl rfl ?_
  refine g_iconst (pc := 1) (v := (0 : Int32)) C dX8_clear_1 (by decide) ?_
  refine g_pI (pc := 2) C hf fpX8_56 (by decide) hk0 stX8_0 (Nat.le_of_ble_eq_true rfl) rfl rfl dX8_clear_2 (fun M11 hf => ?_)
  refine g_aload_n (pc := 5) C 0 dX8_clear_5 rfl rfl ?_
  refine g_getI (pc := 6) C fgX8_64 (by decide) hk0 rfl dX8_clear_6 ?_
  refine g_istore_n (pc := 9) (lv2 := [(1, .int (M11.2 a0 2)), (0, .ref (Λ a0))]) C dX8_clear_9 rfl (by decide) rfl ?_
  refine g_aload_n (pc := 10) C 1 dX8_clear_10 rfl rfl ?_
  refine g_iconst (pc := 11) (v := (0 : Int32)) C dX8_clear_11 (by decide) ?_
  refine g_pI (pc := 12) C hf fpX8_64 (by decide) hk0 stX8_2 (Nat.le_of_ble_eq_true rfl) rfl rfl dX8_clear_12 (fun M12 hf => ?_)
  refine g_iload_n (pc := 15) C 0 dX8_clear_15 rfl rfl ?_
  exact g_iretM C hf dX8_clear_16

theorem c_X8_clear {l : Launch} {D : va_G} {cy : Nat → ClassId} {Λ : Nat → Nat} (hi : ∀ i j : Nat, Λ i = Λ j → i = j) {M : Mem} {a0 : Nat} {r9 : Int32} {M9 : Mem} (hk0 : Is NN a0 9) (hf : m_X8_clear M a0 = some (r9, M9)) : Ct l yX8_clear cX8_clear 2 (some .int) { frames := 0, cells := 0, slots := 0, locals := 0 } D cy Λ [.ref (Λ a0)] NN M 0 0 (QcI D cy Λ NN r9 M9) := ent (by decide) hi (Nat.le_of_ble_eq_true rfl) (fun p e s m args below meth c C => w_X8_clear C hk0 hf)
theorem w_X8_letterAt {p : Program} {l : Launch} {e : Env} {s : State} {m : MethodId} {args : Array Value} {below : List Frame} {meth : Method} {c : Code} {D : va_G} {cy : Nat → ClassId} {Λ : Nat → Nat} (C : Cx p s m args meth c cX8_letterAt 2 RX8 (some .int) D cy Λ (AA Λ s.heap.size)) {M : Mem} {a0 : Nat} {x1 : Int32} {r9 : Int32} (hk0 : Is NN a0 9) (hf : m_X8_letterAt M a0 x1 = some r9) : GW p l e { frames := 0, cells := 0, slots := 0, locals := 0 } s m args below meth c D cy Λ 2 (QcI D cy Λ NN r9 M) M 0 [(0, .ref (Λ a0)), (1, .int x1)] [] := by
  unfold m_X8_letterAt at hf
  refine g_iload_n (pc := 0) C 1 dX8_letterAt_0 rfl rfl ?_
  refine g_aload_n (pc := 1) C 0 dX8_letterAt_1 rfl rfl ?_
  refine g_getI (pc := 2) C fgX8_64 (by decide) hk0 rfl dX8_letterAt_2 ?_
  refine g_ic_ge (pc := 5) (tgt := 17) C hf dX8_letterAt_5 (by decide) (fun hf => ?_) (fun hf => ?_)
  · refine g_iconst (pc := 17) (v := (-1 : Int32)) C dX8_letterAt_17 (by decide) ?_
    exact g_iret C hf dX8_letterAt_18
  refine g_aload_n (pc := 8) C 0 dX8_letterAt_8 rfl rfl ?_
  refine g_getR (pc := 9) (T := 9) C hf fgX8_7 (by decide) hk0 rfl dX8_letterAt_9 (fun a11 hk11 hf => ?_)
  refine g_iload_n (pc := 12) C 1 dX8_letterAt_12 rfl rfl ?_
  refine g_iald (pc := 13) C hf hk11 dX8_letterAt_13 (fun v12 hf => ?_)
  refine g_goto (pc := 14) (tgt := 18) C dX8_letterAt_14 (by decide) ?_
  exact g_iret C hf dX8_letterAt_18

theorem c_X8_letterAt {l : Launch} {D : va_G} {cy : Nat → ClassId} {Λ : Nat → Nat} (hi : ∀ i j : Nat, Λ i = Λ j → i = j) {M : Mem} {a0 : Nat} {x1 : Int32} {r9 : Int32} (hk0 : Is NN a0 9) (hf : m_X8_letterAt M a0 x1 = some r9) : Ct l yX8_letterAt cX8_letterAt 2 (some .int) { frames := 0, cells := 0, slots := 0, locals := 0 } D cy Λ [.ref (Λ a0), .int x1] NN M 0 0 (QcI D cy Λ NN r9 M) := ent (by decide) hi (Nat.le_of_ble_eq_true rfl) (fun p e s m args below meth c C => w_X8_letterAt C hk0 hf)
theorem w_X8_isSign {p : Program} {l : Launch} {e : Env} {s : State} {m : MethodId} {args : Array Value} {below : List Frame} {meth : Method} {c : Code} {D : va_G} {cy : Nat → ClassId} {Λ : Nat → Nat} (C : Cx p s m args meth c cX8_isSign 1 RX8 (some .boolean) D cy Λ (AA Λ s.heap.size)) {M : Mem} {x0 : Int32} {r9 : Int32}  (hf : m_X8_isSign x0 = some r9) : GW p l e { frames := 1, cells := 0, slots := 0, locals := 22 } s m args below meth c D cy Λ 1 (QcI D cy Λ NN r9 M) M 0 [(0, .int x0)] [] := by
  unfold m_X8_isSign at hf
  refine g_iload_n (pc := 0) C 0 dX8_isSign_0 rfl rfl ?_
  refine g_bipush (pc := 1) (v := (78 : Int32)) C dX8_isSign_1 (by decide) ?_
  refine g_ic_eq (pc := 3) (tgt := 87) C hf dX8_isSign_3 (by decide) (fun hf => ?_) (fun hf => ?_)
  · refine g_iconst (pc := 87) (v := (1 : Int32)) C dX8_isSign_87 (by decide) ?_
    refine g_goto (pc := 88) (tgt := 92) C dX8_isSign_88 (by decide) ?_
    exact g_zret C (by decide) hf dX8_isSign_92
  refine g_iload_n (pc := 6) C 0 dX8_isSign_6 rfl rfl ?_
  refine g_bipush (pc := 7) (v := (82 : Int32)) C dX8_isSign_7 (by decide) ?_
  refine g_ic_eq (pc := 9) (tgt := 87) C hf dX8_isSign_9 (by decide) (fun hf => ?_) (fun hf => ?_)
  · refine g_iconst (pc := 87) (v := (1 : Int32)) C dX8_isSign_87 (by decide) ?_
    refine g_goto (pc := 88) (tgt := 92) C dX8_isSign_88 (by decide) ?_
    exact g_zret C (by decide) hf dX8_isSign_92
  refine g_iload_n (pc := 12) C 0 dX8_isSign_12 rfl rfl ?_
  refine g_bipush (pc := 13) (v := (85 : Int32)) C dX8_isSign_13 (by decide) ?_
  refine g_ic_eq (pc := 15) (tgt := 87) C hf dX8_isSign_15 (by decide) (fun hf => ?_) (fun hf => ?_)
  · refine g_iconst (pc := 87) (v := (1 : Int32)) C dX8_isSign_87 (by decide) ?_
    refine g_goto (pc := 88) (tgt := 92) C dX8_isSign_88 (by decide) ?_
    exact g_zret C (by decide) hf dX8_isSign_92
  refine g_iload_n (pc := 18) C 0 dX8_isSign_18 rfl rfl ?_
  refine g_bipush (pc := 19) (v := (97 : Int32)) C dX8_isSign_19 (by decide) ?_
  refine g_bipush (pc := 21) (v := (100 : Int32)) C dX8_isSign_21 (by decide) ?_
  obtain ⟨r11, h11, hf⟩ := ob hf
  refine g_resI (pc := 23) C (rnS (As := [.int x0, .int (97 : Int32), .int (100 : Int32)]) (st := []) C (c_X8_in C.2.2.2.2.2.1  h11) lkX8_60 rfl rfl (Nat.le_of_ble_eq_true rfl) ⟨⟨rfl, rfl⟩, Nat.le_of_ble_eq_true rfl, Nat.le_of_ble_eq_true rfl⟩ ⟨Nat.le_of_ble_eq_true rfl, Nat.le_of_ble_eq_true rfl⟩ dX8_isSign_23) ?_
  refine g_if_ne (pc := 26) (tgt := 87) C hf dX8_isSign_26 (by decide) (fun hf => ?_) (fun hf => ?_)
  · refine g_iload_n (pc := 29) C 0 dX8_isSign_29 rfl rfl ?_
    refine g_bipush (pc := 30) (v := (112 : Int32)) C dX8_isSign_30 (by decide) ?_
    refine g_bipush (pc := 32) (v := (115 : Int32)) C dX8_isSign_32 (by decide) ?_
    obtain ⟨r12, h12, hf⟩ := ob hf
    refine g_resI (pc := 34) C (rnS (As := [.int x0, .int (112 : Int32), .int (115 : Int32)]) (st := []) C (c_X8_in C.2.2.2.2.2.1  h12) lkX8_60 rfl rfl (Nat.le_of_ble_eq_true rfl) ⟨⟨rfl, rfl⟩, Nat.le_of_ble_eq_true rfl, Nat.le_of_ble_eq_true rfl⟩ ⟨Nat.le_of_ble_eq_true rfl, Nat.le_of_ble_eq_true rfl⟩ dX8_isSign_34) ?_
    refine g_if_ne (pc := 37) (tgt := 87) C hf dX8_isSign_37 (by decide) (fun hf => ?_) (fun hf => ?_)
    · refine g_iload_n (pc := 40) C 0 dX8_isSign_40 rfl rfl ?_
      refine g_bipush (pc := 41) (v := (119 : Int32)) C dX8_isSign_41 (by decide) ?_
      refine g_bipush (pc := 43) (v := (122 : Int32)) C dX8_isSign_43 (by decide) ?_
      obtain ⟨r13, h13, hf⟩ := ob hf
      refine g_resI (pc := 45) C (rnS (As := [.int x0, .int (119 : Int32), .int (122 : Int32)]) (st := []) C (c_X8_in C.2.2.2.2.2.1  h13) lkX8_60 rfl rfl (Nat.le_of_ble_eq_true rfl) ⟨⟨rfl, rfl⟩, Nat.le_of_ble_eq_true rfl, Nat.le_of_ble_eq_true rfl⟩ ⟨Nat.le_of_ble_eq_true rfl, Nat.le_of_ble_eq_true rfl⟩ dX8_isSign_45) ?_
      refine g_if_ne (pc := 48) (tgt := 87) C hf dX8_isSign_48 (by decide) (fun hf => ?_) (fun hf => ?_)
      · refine g_iload_n (pc := 51) C 0 dX8_isSign_51 rfl rfl ?_
        refine g_bipush (pc := 52) (v := (62 : Int32)) C dX8_isSign_52 (by decide) ?_
        refine g_ic_eq (pc := 54) (tgt := 87) C hf dX8_isSign_54 (by decide) (fun hf => ?_) (fun hf => ?_)
        · refine g_iconst (pc := 87) (v := (1 : Int32)) C dX8_isSign_87 (by decide) ?_
          refine g_goto (pc := 88) (tgt := 92) C dX8_isSign_88 (by decide) ?_
          exact g_zret C (by decide) hf dX8_isSign_92
        refine g_iload_n (pc := 57) C 0 dX8_isSign_57 rfl rfl ?_
        refine g_bipush (pc := 58) (v := (47 : Int32)) C dX8_isSign_58 (by decide) ?_
        refine g_ic_eq (pc := 60) (tgt := 87) C hf dX8_isSign_60 (by decide) (fun hf => ?_) (fun hf => ?_)
        · refine g_iconst (pc := 87) (v := (1 : Int32)) C dX8_isSign_87 (by decide) ?_
          refine g_goto (pc := 88) (tgt := 92) C dX8_isSign_88 (by decide) ?_
          exact g_zret C (by decide) hf dX8_isSign_92
        refine g_iload_n (pc := 63) C 0 dX8_isSign_63 rfl rfl ?_
        refine g_bipush (pc := 64) (v := (46 : Int32)) C dX8_isSign_64 (by decide) ?_
        refine g_ic_eq (pc := 66) (tgt := 87) C hf dX8_isSign_66 (by decide) (fun hf => ?_) (fun hf => ?_)
        · refine g_iconst (pc := 87) (v := (1 : Int32)) C dX8_isSign_87 (by decide) ?_
          refine g_goto (pc := 88) (tgt := 92) C dX8_isSign_88 (by decide) ?_
          exact g_zret C (by decide) hf dX8_isSign_92
        refine g_iload_n (pc := 69) C 0 dX8_isSign_69 rfl rfl ?_
        refine g_bipush (pc := 70) (v := (58 : Int32)) C dX8_isSign_70 (by decide) ?_
        refine g_ic_eq (pc := 72) (tgt := 87) C hf dX8_isSign_72 (by decide) (fun hf => ?_) (fun hf => ?_)
        · refine g_iconst (pc := 87) (v := (1 : Int32)) C dX8_isSign_87 (by decide) ?_
          refine g_goto (pc := 88) (tgt := 92) C dX8_isSign_88 (by decide) ?_
          exact g_zret C (by decide) hf dX8_isSign_92
        refine g_iload_n (pc := 75) C 0 dX8_isSign_75 rfl rfl ?_
        refine g_bipush (pc := 76) (v := (33 : Int32)) C dX8_isSign_76 (by decide) ?_
        refine g_ic_eq (pc := 78) (tgt := 87) C hf dX8_isSign_78 (by decide) (fun hf => ?_) (fun hf => ?_)
        · refine g_iconst (pc := 87) (v := (1 : Int32)) C dX8_isSign_87 (by decide) ?_
          refine g_goto (pc := 88) (tgt := 92) C dX8_isSign_88 (by decide) ?_
          exact g_zret C (by decide) hf dX8_isSign_92
        refine g_iload_n (pc := 81) C 0 dX8_isSign_81 rfl rfl ?_
        refine g_bipush (pc := 82) (v := (59 : Int32)) C dX8_isSign_82 (by decide) ?_
        refine g_ic_ne (pc := 84) (tgt := 91) C hf dX8_isSign_84 (by decide) (fun hf => ?_) (fun hf => ?_)
        · refine g_iconst (pc := 87) (v := (1 : Int32)) C dX8_isSign_87 (by decide) ?_
          refine g_goto (pc := 88) (tgt := 92) C dX8_isSign_88 (by decide) ?_
          exact g_zret C (by decide) hf dX8_isSign_92
        refine g_iconst (pc := 91) (v := (0 : Int32)) C dX8_isSign_91 (by decide) ?_
        exact g_zret C (by decide) hf dX8_isSign_92
      refine g_iconst (pc := 87) (v := (1 : Int32)) C dX8_isSign_87 (by decide) ?_
      refine g_goto (pc := 88) (tgt := 92) C dX8_isSign_88 (by decide) ?_
      exact g_zret C (by decide) hf dX8_isSign_92
    refine g_iconst (pc := 87) (v := (1 : Int32)) C dX8_isSign_87 (by decide) ?_
    refine g_goto (pc := 88) (tgt := 92) C dX8_isSign_88 (by decide) ?_
    exact g_zret C (by decide) hf dX8_isSign_92
  refine g_iconst (pc := 87) (v := (1 : Int32)) C dX8_isSign_87 (by decide) ?_
  refine g_goto (pc := 88) (tgt := 92) C dX8_isSign_88 (by decide) ?_
  exact g_zret C (by decide) hf dX8_isSign_92

theorem c_X8_isSign {l : Launch} {D : va_G} {cy : Nat → ClassId} {Λ : Nat → Nat} (hi : ∀ i j : Nat, Λ i = Λ j → i = j) {M : Mem} {x0 : Int32} {r9 : Int32}  (hf : m_X8_isSign x0 = some r9) : Ct l yX8_isSign cX8_isSign 1 (some .boolean) { frames := 1, cells := 0, slots := 0, locals := 22 } D cy Λ [.int x0] NN M 0 0 (QcI D cy Λ NN r9 M) := ent (by decide) hi (Nat.le_of_ble_eq_true rfl) (fun p e s m args below meth c C => w_X8_isSign C  hf)
theorem w_X8_advances_L71 {p : Program} {l : Launch} {e : Env} {s : State} {m : MethodId} {args : Array Value} {below : List Frame} {meth : Method} {c : Code} {D : va_G} {cy : Nat → ClassId} {Λ : Nat → Nat} (C : Cx p s m args meth c cX8_advances 2 RX8 none D cy Λ (AA Λ s.heap.size)) {a0 : Nat}  {M9 : Mem} (hk0 : Is NN a0 9)  : ∀ (fu : Nat) (M : Mem), m_X8_advances_L71 a0 fu M = some M9 → GW p l e { frames := 2, cells := 0, slots := 0, locals := 42 } s m args below meth c D cy Λ 2 (QcV D cy Λ NN M9) M 71 [(0, .ref (Λ a0))] [] := by
  intro fu
  induction fu with
  | zero =>
    intro M  hf
    cases hf
  | succ fu ih =>
    intro M  hf
    unfold m_X8_advances_L71 at hf
    refine g_aload_n (pc := 71) C 0 dX8_advances_71 rfl rfl ?_
    refine g_aload_n (pc := 72) C 0 dX8_advances_72 rfl rfl ?_
    refine g_getI (pc := 73) C fgX8_67 (by decide) hk0 rfl dX8_advances_73 ?_
    obtain ⟨r11, h11, hf⟩ := ob hf
    refine g_resI (pc := 76) C (rnV (As := [.int (M.2 a0 3)]) (st := []) C (c_X8_letterAt C.2.2.2.2.2.1 hk0 h11) lkX8_70 rfl (by decide) hk0 rfl rfl (Nat.le_of_ble_eq_true rfl) ⟨⟨rfl, rfl⟩, Nat.le_of_ble_eq_true rfl, Nat.le_of_ble_eq_true rfl⟩ ⟨Nat.le_of_ble_eq_true rfl, Nat.le_of_ble_eq_true rfl⟩ dX8_advances_76) ?_
    refine g_bipush (pc := 79) (v := (48 : Int32)) C dX8_advances_79 (by decide) ?_
    refine g_bipush (pc := 81) (v := (57 : Int32)) C dX8_advances_81 (by decide) ?_
    obtain ⟨r12, h12, hf⟩ := ob hf
    refine g_resI (pc := 83) C (rnS (As := [.int r11, .int (48 : Int32), .int (57 : Int32)]) (st := []) C (c_X8_in C.2.2.2.2.2.1  h12) lkX8_60 rfl rfl (Nat.le_of_ble_eq_true rfl) ⟨⟨rfl, rfl⟩, Nat.le_of_ble_eq_true rfl, Nat.le_of_ble_eq_true rfl⟩ ⟨Nat.le_of_ble_eq_true rfl, Nat.le_of_ble_eq_true rfl⟩ dX8_advances_83) ?_
    refine g_if_eq (pc := 86) (tgt := 141) C hf dX8_advances_86 (by decide) (fun hf => ?_) (fun hf => ?_)
    · refine g_aload_n (pc := 141) C 0 dX8_advances_141 rfl rfl ?_
      refine g_aload_n (pc := 142) C 0 dX8_advances_142 rfl rfl ?_
      refine g_getI (pc := 143) C fgX8_80 (by decide) hk0 rfl dX8_advances_143 ?_
      refine g_bipush (pc := 146) (v := (9 : Int32)) C dX8_advances_146 (by decide) ?_
      refine g_ic_gt (pc := 148) (tgt := 164) C hf dX8_advances_148 (by decide) (fun hf => ?_) (fun hf => ?_)
      · refine g_iconst (pc := 164) (v := (3 : Int32)) C dX8_advances_164 (by decide) ?_
        refine g_goto (pc := 165) (tgt := 169) C dX8_advances_165 (by decide) ?_
        refine g_pI (pc := 169) C hf fpX8_77 (by decide) hk0 stX8_4 (Nat.le_of_ble_eq_true rfl) rfl rfl dX8_advances_169 (fun M13 hf => ?_)
        refine g_goto (pc := 172) (tgt := 206) C dX8_advances_172 (by decide) ?_
        exact g_vret C hf dX8_advances_206
      refine g_aload_n (pc := 151) C 0 dX8_advances_151 rfl rfl ?_
      refine g_getI (pc := 152) C fgX8_67 (by decide) hk0 rfl dX8_advances_152 ?_
      refine g_aload_n (pc := 155) C 0 dX8_advances_155 rfl rfl ?_
      refine g_getI (pc := 156) C fgX8_74 (by decide) hk0 rfl dX8_advances_156 ?_
      refine g_isub (pc := 159) C dX8_advances_159 ?_
      refine g_iconst (pc := 160) (v := (1 : Int32)) C dX8_advances_160 (by decide) ?_
      refine g_ic_le (pc := 161) (tgt := 168) C hf dX8_advances_161 (by decide) (fun hf => ?_) (fun hf => ?_)
      · refine g_iconst (pc := 168) (v := (2 : Int32)) C dX8_advances_168 (by decide) ?_
        refine g_pI (pc := 169) C hf fpX8_77 (by decide) hk0 stX8_4 (Nat.le_of_ble_eq_true rfl) rfl rfl dX8_advances_169 (fun M14 hf => ?_)
        refine g_goto (pc := 172) (tgt := 206) C dX8_advances_172 (by decide) ?_
        exact g_vret C hf dX8_advances_206
      refine g_iconst (pc := 164) (v := (3 : Int32)) C dX8_advances_164 (by decide) ?_
      refine g_goto (pc := 165) (tgt := 169) C dX8_advances_165 (by decide) ?_
      refine g_pI (pc := 169) C hf fpX8_77 (by decide) hk0 stX8_4 (Nat.le_of_ble_eq_true rfl) rfl rfl dX8_advances_169 (fun M15 hf => ?_)
      refine g_goto (pc := 172) (tgt := 206) C dX8_advances_172 (by decide) ?_
      exact g_vret C hf dX8_advances_206
    refine g_aload_n (pc := 89) C 0 dX8_advances_89 rfl rfl ?_
    refine g_aload_n (pc := 90) C 0 dX8_advances_90 rfl rfl ?_
    refine g_getI (pc := 91) C fgX8_80 (by decide) hk0 rfl dX8_advances_91 ?_
    refine g_bipush (pc := 94) (v := (9 : Int32)) C dX8_advances_94 (by decide) ?_
    refine g_ic_le (pc := 96) (tgt := 106) C hf dX8_advances_96 (by decide) (fun hf => ?_) (fun hf => ?_)
    · refine g_bipush (pc := 106) (v := (10 : Int32)) C dX8_advances_106 (by decide) ?_
      refine g_aload_n (pc := 108) C 0 dX8_advances_108 rfl rfl ?_
      refine g_getI (pc := 109) C fgX8_80 (by decide) hk0 rfl dX8_advances_109 ?_
      refine g_imul (pc := 112) C dX8_advances_112 ?_
      refine g_aload_n (pc := 113) C 0 dX8_advances_113 rfl rfl ?_
      refine g_aload_n (pc := 114) C 0 dX8_advances_114 rfl rfl ?_
      refine g_getI (pc := 115) C fgX8_67 (by decide) hk0 rfl dX8_advances_115 ?_
      obtain ⟨r16, h16, hf⟩ := ob hf
      refine g_resI (pc := 118) C (rnV (As := [.int (M.2 a0 3)]) (st := [.int ((10 : Int32) * (M.2 a0 6)), .ref (Λ a0)]) C (c_X8_letterAt C.2.2.2.2.2.1 hk0 h16) lkX8_70 rfl (by decide) hk0 rfl rfl (Nat.le_of_ble_eq_true rfl) ⟨⟨rfl, rfl⟩, Nat.le_of_ble_eq_true rfl, Nat.le_of_ble_eq_true rfl⟩ ⟨Nat.le_of_ble_eq_true rfl, Nat.le_of_ble_eq_true rfl⟩ dX8_advances_118) ?_
      refine g_iadd (pc := 121) C dX8_advances_121 ?_
      refine g_bipush (pc := 122) (v := (48 : Int32)) C dX8_advances_122 (by decide) ?_
      refine g_isub (pc := 124) C dX8_advances_124 ?_
      refine g_pI (pc := 125) C hf fpX8_80 (by decide) hk0 stX8_6 (Nat.le_of_ble_eq_true rfl) rfl rfl dX8_advances_125 (fun M17 hf => ?_)
      refine g_aload_n (pc := 128) C 0 dX8_advances_128 rfl rfl ?_
      refine g_dup (pc := 129) C dX8_advances_129 rfl ?_
      refine g_getI (pc := 130) C fgX8_67 (by decide) hk0 rfl dX8_advances_130 ?_
      refine g_iconst (pc := 133) (v := (1 : Int32)) C dX8_advances_133 (by decide) ?_
      refine g_iadd (pc := 134) C dX8_advances_134 ?_
      refine g_pI (pc := 135) C hf fpX8_67 (by decide) hk0 stX8_3 (Nat.le_of_ble_eq_true rfl) rfl rfl dX8_advances_135 (fun M18 hf => ?_)
      refine g_goto (pc := 138) (tgt := 71) C dX8_advances_138 (by decide) ?_
      exact ih M18  hf
    refine g_aload_n (pc := 99) C 0 dX8_advances_99 rfl rfl ?_
    refine g_getI (pc := 100) C fgX8_80 (by decide) hk0 rfl dX8_advances_100 ?_
    refine g_goto (pc := 103) (tgt := 125) C dX8_advances_103 (by decide) ?_
    refine g_pI (pc := 125) C hf fpX8_80 (by decide) hk0 stX8_6 (Nat.le_of_ble_eq_true rfl) rfl rfl dX8_advances_125 (fun M19 hf => ?_)
    refine g_aload_n (pc := 128) C 0 dX8_advances_128 rfl rfl ?_
    refine g_dup (pc := 129) C dX8_advances_129 rfl ?_
    refine g_getI (pc := 130) C fgX8_67 (by decide) hk0 rfl dX8_advances_130 ?_
    refine g_iconst (pc := 133) (v := (1 : Int32)) C dX8_advances_133 (by decide) ?_
    refine g_iadd (pc := 134) C dX8_advances_134 ?_
    refine g_pI (pc := 135) C hf fpX8_67 (by decide) hk0 stX8_3 (Nat.le_of_ble_eq_true rfl) rfl rfl dX8_advances_135 (fun M20 hf => ?_)
    refine g_goto (pc := 138) (tgt := 71) C dX8_advances_138 (by decide) ?_
    exact ih M20  hf

theorem w_X8_advances_L0 {p : Program} {l : Launch} {e : Env} {s : State} {m : MethodId} {args : Array Value} {below : List Frame} {meth : Method} {c : Code} {D : va_G} {cy : Nat → ClassId} {Λ : Nat → Nat} (C : Cx p s m args meth c cX8_advances 2 RX8 none D cy Λ (AA Λ s.heap.size)) {a0 : Nat}  {M9 : Mem} (hk0 : Is NN a0 9)  : ∀ (fu : Nat) (M : Mem), m_X8_advances_L0 a0 fu M = some M9 → GW p l e { frames := 2, cells := 0, slots := 0, locals := 42 } s m args below meth c D cy Λ 2 (QcV D cy Λ NN M9) M 0 [(0, .ref (Λ a0))] [] := by
  intro fu
  induction fu with
  | zero =>
    intro M  hf
    cases hf
  | succ fu ih =>
    intro M  hf
    unfold m_X8_advances_L0 at hf
    refine g_aload_n (pc := 0) C 0 dX8_advances_0 rfl rfl ?_
    refine g_aload_n (pc := 1) C 0 dX8_advances_1 rfl rfl ?_
    refine g_getI (pc := 2) C fgX8_67 (by decide) hk0 rfl dX8_advances_2 ?_
    obtain ⟨r11, h11, hf⟩ := ob hf
    refine g_resI (pc := 5) C (rnV (As := [.int (M.2 a0 3)]) (st := []) C (c_X8_letterAt C.2.2.2.2.2.1 hk0 h11) lkX8_70 rfl (by decide) hk0 rfl rfl (Nat.le_of_ble_eq_true rfl) ⟨⟨rfl, rfl⟩, Nat.le_of_ble_eq_true rfl, Nat.le_of_ble_eq_true rfl⟩ ⟨Nat.le_of_ble_eq_true rfl, Nat.le_of_ble_eq_true rfl⟩ dX8_advances_5) ?_
    refine g_bipush (pc := 8) (v := (32 : Int32)) C dX8_advances_8 (by decide) ?_
    refine g_ic_ne (pc := 10) (tgt := 26) C hf dX8_advances_10 (by decide) (fun hf => ?_) (fun hf => ?_)
    · refine g_aload_n (pc := 13) C 0 dX8_advances_13 rfl rfl ?_
      refine g_dup (pc := 14) C dX8_advances_14 rfl ?_
      refine g_getI (pc := 15) C fgX8_67 (by decide) hk0 rfl dX8_advances_15 ?_
      refine g_iconst (pc := 18) (v := (1 : Int32)) C dX8_advances_18 (by decide) ?_
      refine g_iadd (pc := 19) C dX8_advances_19 ?_
      refine g_pI (pc := 20) C hf fpX8_67 (by decide) hk0 stX8_3 (Nat.le_of_ble_eq_true rfl) rfl rfl dX8_advances_20 (fun M12 hf => ?_)
      refine g_goto (pc := 23) (tgt := 0) C dX8_advances_23 (by decide) ?_
      exact ih M12  hf
    refine g_aload_n (pc := 26) C 0 dX8_advances_26 rfl rfl ?_
    refine g_aload_n (pc := 27) C 0 dX8_advances_27 rfl rfl ?_
    refine g_getI (pc := 28) C fgX8_67 (by decide) hk0 rfl dX8_advances_28 ?_
    refine g_pI (pc := 31) C hf fpX8_74 (by decide) hk0 stX8_5 (Nat.le_of_ble_eq_true rfl) rfl rfl dX8_advances_31 (fun M13 hf => ?_)
    refine g_aload_n (pc := 34) C 0 dX8_advances_34 rfl rfl ?_
    refine g_aload_n (pc := 35) C 0 dX8_advances_35 rfl rfl ?_
    refine g_getI (pc := 36) C fgX8_67 (by decide) hk0 rfl dX8_advances_36 ?_
    obtain ⟨r14, h14, hf⟩ := ob hf
    refine g_resI (pc := 39) C (rnV (As := [.int (M13.2 a0 3)]) (st := []) C (c_X8_letterAt C.2.2.2.2.2.1 hk0 h14) lkX8_70 rfl (by decide) hk0 rfl rfl (Nat.le_of_ble_eq_true rfl) ⟨⟨rfl, rfl⟩, Nat.le_of_ble_eq_true rfl, Nat.le_of_ble_eq_true rfl⟩ ⟨Nat.le_of_ble_eq_true rfl, Nat.le_of_ble_eq_true rfl⟩ dX8_advances_39) ?_
    refine g_istore_n (pc := 42) (lv2 := [(1, .int r14), (0, .ref (Λ a0))]) C dX8_advances_42 rfl (by decide) rfl ?_
    refine g_iload_n (pc := 43) C 0 dX8_advances_43 rfl rfl ?_
    refine g_if_ge (pc := 44) (tgt := 55) C hf dX8_advances_44 (by decide) (fun hf => ?_) (fun hf => ?_)
    · refine g_iload_n (pc := 55) C 0 dX8_advances_55 rfl rfl ?_
      refine g_bipush (pc := 56) (v := (48 : Int32)) C dX8_advances_56 (by decide) ?_
      refine g_bipush (pc := 58) (v := (57 : Int32)) C dX8_advances_58 (by decide) ?_
      obtain ⟨r15, h15, hf⟩ := ob hf
      refine g_resI (pc := 60) C (rnS (As := [.int r14, .int (48 : Int32), .int (57 : Int32)]) (st := []) C (c_X8_in C.2.2.2.2.2.1  h15) lkX8_60 rfl rfl (Nat.le_of_ble_eq_true rfl) ⟨⟨rfl, rfl⟩, Nat.le_of_ble_eq_true rfl, Nat.le_of_ble_eq_true rfl⟩ ⟨Nat.le_of_ble_eq_true rfl, Nat.le_of_ble_eq_true rfl⟩ dX8_advances_60) ?_
      refine g_if_eq (pc := 63) (tgt := 175) C hf dX8_advances_63 (by decide) (fun hf => ?_) (fun hf => ?_)
      · refine g_aload_n (pc := 175) C 1 dX8_advances_175 rfl rfl ?_
        refine g_dup (pc := 176) C dX8_advances_176 rfl ?_
        refine g_getI (pc := 177) C fgX8_67 (by decide) hk0 rfl dX8_advances_177 ?_
        refine g_iconst (pc := 180) (v := (1 : Int32)) C dX8_advances_180 (by decide) ?_
        refine g_iadd (pc := 181) C dX8_advances_181 ?_
        refine g_pI (pc := 182) C hf fpX8_67 (by decide) hk0 stX8_3 (Nat.le_of_ble_eq_true rfl) rfl rfl dX8_advances_182 (fun M16 hf => ?_)
        refine g_aload_n (pc := 185) C 1 dX8_advances_185 rfl rfl ?_
        refine g_iload_n (pc := 186) C 0 dX8_advances_186 rfl rfl ?_
        refine g_pI (pc := 187) C hf fpX8_80 (by decide) hk0 stX8_6 (Nat.le_of_ble_eq_true rfl) rfl rfl dX8_advances_187 (fun M17 hf => ?_)
        refine g_aload_n (pc := 190) C 1 dX8_advances_190 rfl rfl ?_
        refine g_iload_n (pc := 191) C 0 dX8_advances_191 rfl rfl ?_
        obtain ⟨r18, h18, hf⟩ := ob hf
        refine g_resI (pc := 192) C (rnS (As := [.int r14]) (st := [.ref (Λ a0)]) C (c_X8_isSign C.2.2.2.2.2.1  h18) lkX8_83 rfl rfl (Nat.le_of_ble_eq_true rfl) ⟨⟨rfl, rfl⟩, Nat.le_of_ble_eq_true rfl, Nat.le_of_ble_eq_true rfl⟩ ⟨Nat.le_of_ble_eq_true rfl, Nat.le_of_ble_eq_true rfl⟩ dX8_advances_192) ?_
        refine g_if_eq (pc := 195) (tgt := 202) C hf dX8_advances_195 (by decide) (fun hf => ?_) (fun hf => ?_)
        · refine g_iconst (pc := 202) (v := (3 : Int32)) C dX8_advances_202 (by decide) ?_
          refine g_pI (pc := 203) C hf fpX8_77 (by decide) hk0 stX8_4 (Nat.le_of_ble_eq_true rfl) rfl rfl dX8_advances_203 (fun M19 hf => ?_)
          exact g_vret C hf dX8_advances_206
        refine g_iconst (pc := 198) (v := (1 : Int32)) C dX8_advances_198 (by decide) ?_
        refine g_goto (pc := 199) (tgt := 203) C dX8_advances_199 (by decide) ?_
        refine g_pI (pc := 203) C hf fpX8_77 (by decide) hk0 stX8_4 (Nat.le_of_ble_eq_true rfl) rfl rfl dX8_advances_203 (fun M20 hf => ?_)
        exact g_vret C hf dX8_advances_206
      refine g_aload_n (pc := 66) C 1 dX8_advances_66 rfl rfl ?_
      refine g_iconst (pc := 67) (v := (0 : Int32)) C dX8_advances_67 (by decide) ?_
      refine g_pI (pc := 68) C hf fpX8_80 (by decide) hk0 stX8_6 (Nat.le_of_ble_eq_true rfl) rfl rfl dX8_advances_68 (fun M21 hf => ?_)
      refine g_sub [1] rfl ?_
      exact w_X8_advances_L71 C hk0 FU M21  hf
    refine g_aload_n (pc := 47) C 1 dX8_advances_47 rfl rfl ?_
    refine g_iconst (pc := 48) (v := (0 : Int32)) C dX8_advances_48 (by decide) ?_
    refine g_pI (pc := 49) C hf fpX8_77 (by decide) hk0 stX8_4 (Nat.le_of_ble_eq_true rfl) rfl rfl dX8_advances_49 (fun M22 hf => ?_)
    refine g_goto (pc := 52) (tgt := 206) C dX8_advances_52 (by decide) ?_
    exact g_vret C hf dX8_advances_206

theorem w_X8_advances {p : Program} {l : Launch} {e : Env} {s : State} {m : MethodId} {args : Array Value} {below : List Frame} {meth : Method} {c : Code} {D : va_G} {cy : Nat → ClassId} {Λ : Nat → Nat} (C : Cx p s m args meth c cX8_advances 2 RX8 none D cy Λ (AA Λ s.heap.size)) {M : Mem} {a0 : Nat} {M9 : Mem} (hk0 : Is NN a0 9) (hf : m_X8_advances M a0 = some M9) : GW p l e { frames := 2, cells := 0, slots := 0, locals := 42 } s m args below meth c D cy Λ 2 (QcV D cy Λ NN M9) M 0 [(0, .ref (Λ a0))] [] := by
  unfold m_X8_advances at hf
  exact w_X8_advances_L0 C hk0 FU M  hf

theorem c_X8_advances {l : Launch} {D : va_G} {cy : Nat → ClassId} {Λ : Nat → Nat} (hi : ∀ i j : Nat, Λ i = Λ j → i = j) {M : Mem} {a0 : Nat} {M9 : Mem} (hk0 : Is NN a0 9) (hf : m_X8_advances M a0 = some M9) : Ct l yX8_advances cX8_advances 2 none { frames := 2, cells := 0, slots := 0, locals := 42 } D cy Λ [.ref (Λ a0)] NN M 0 0 (QcV D cy Λ NN M9) := ent (by decide) hi (Nat.le_of_ble_eq_true rfl) (fun p e s m args below meth c C => w_X8_advances C hk0 hf)
theorem w_X8_isWell {p : Program} {l : Launch} {e : Env} {s : State} {m : MethodId} {args : Array Value} {below : List Frame} {meth : Method} {c : Code} {D : va_G} {cy : Nat → ClassId} {Λ : Nat → Nat} (C : Cx p s m args meth c cX8_isWell 1 RX8 (some .boolean) D cy Λ (AA Λ s.heap.size)) {M : Mem} {a0 : Nat} {r9 : Int32} (hk0 : Is NN a0 9) (hf : m_X8_isWell M a0 = some r9) : GW p l e { frames := 0, cells := 0, slots := 0, locals := 0 } s m args below meth c D cy Λ 1 (QcI D cy Λ NN r9 M) M 0 [(0, .ref (Λ a0))] [] := by
  unfold m_X8_isWell at hf
  refine g_aload_n (pc := 0) C 0 dX8_isWell_0 rfl rfl ?_
  refine g_getI (pc := 1) C fgX8_87 (by decide) hk0 rfl dX8_isWell_1 ?_
  refine g_if_ge (pc := 4) (tgt := 11) C hf dX8_isWell_4 (by decide) (fun hf => ?_) (fun hf => ?_)
  · refine g_iconst (pc := 11) (v := (0 : Int32)) C dX8_isWell_11 (by decide) ?_
    exact g_zret C (by decide) hf dX8_isWell_12
  refine g_iconst (pc := 7) (v := (1 : Int32)) C dX8_isWell_7 (by decide) ?_
  refine g_goto (pc := 8) (tgt := 12) C dX8_isWell_8 (by decide) ?_
  exact g_zret C (by decide) hf dX8_isWell_12

theorem c_X8_isWell {l : Launch} {D : va_G} {cy : Nat → ClassId} {Λ : Nat → Nat} (hi : ∀ i j : Nat, Λ i = Λ j → i = j) {M : Mem} {a0 : Nat} {r9 : Int32} (hk0 : Is NN a0 9) (hf : m_X8_isWell M a0 = some r9) : Ct l yX8_isWell cX8_isWell 1 (some .boolean) { frames := 0, cells := 0, slots := 0, locals := 0 } D cy Λ [.ref (Λ a0)] NN M 0 0 (QcI D cy Λ NN r9 M) := ent (by decide) hi (Nat.le_of_ble_eq_true rfl) (fun p e s m args below meth c C => w_X8_isWell C hk0 hf)
theorem w_X8_takes {p : Program} {l : Launch} {e : Env} {s : State} {m : MethodId} {args : Array Value} {below : List Frame} {meth : Method} {c : Code} {D : va_G} {cy : Nat → ClassId} {Λ : Nat → Nat} (C : Cx p s m args meth c cX8_takes 3 RX8 (some .int) D cy Λ (AA Λ s.heap.size)) {M : Mem} {a0 : Nat} {x1 : Int32} {r9 : Int32} {M9 : Mem} (hk0 : Is NN a0 9) (hf : m_X8_takes M a0 x1 = some (r9, M9)) : GW p l e { frames := 3, cells := 0, slots := 0, locals := 63 } s m args below meth c D cy Λ 3 (QcI D cy Λ NN r9 M9) M 0 [(0, .ref (Λ a0)), (1, .int x1)] [] := by
  unfold m_X8_takes at hf
  refine g_aload_n (pc := 0) C 0 dX8_takes_0 rfl rfl ?_
  obtain ⟨r11, h11, hf⟩ := ob hf
  refine g_resI (pc := 1) C (rnV (As := []) (st := []) C (c_X8_isWell C.2.2.2.2.2.1 hk0 h11) lkX8_90 rfl (by decide) hk0 rfl rfl (Nat.le_of_ble_eq_true rfl) ⟨⟨rfl, rfl⟩, Nat.le_of_ble_eq_true rfl, Nat.le_of_ble_eq_true rfl⟩ ⟨Nat.le_of_ble_eq_true rfl, Nat.le_of_ble_eq_true rfl⟩ dX8_takes_1) ?_
  refine g_if_ne (pc := 4) (tgt := 9) C hf dX8_takes_4 (by decide) (fun hf => ?_) (fun hf => ?_)
  · refine g_iconst (pc := 7) (v := (0 : Int32)) C dX8_takes_7 (by decide) ?_
    exact g_iretM C hf dX8_takes_8
  refine g_iload_n (pc := 9) C 1 dX8_takes_9 rfl rfl ?_
  refine g_if_ne (pc := 10) (tgt := 23) C hf dX8_takes_10 (by decide) (fun hf => ?_) (fun hf => ?_)
  · refine g_aload_n (pc := 13) C 0 dX8_takes_13 rfl rfl ?_
    refine g_aload_n (pc := 14) C 0 dX8_takes_14 rfl rfl ?_
    refine g_getI (pc := 15) C fgX8_74 (by decide) hk0 rfl dX8_takes_15 ?_
    refine g_pI (pc := 18) C hf fpX8_87 (by decide) hk0 stX8_7 (Nat.le_of_ble_eq_true rfl) rfl rfl dX8_takes_18 (fun M12 hf => ?_)
    refine g_iconst (pc := 21) (v := (0 : Int32)) C dX8_takes_21 (by decide) ?_
    exact g_iretM C hf dX8_takes_22
  refine g_aload_n (pc := 23) C 0 dX8_takes_23 rfl rfl ?_
  refine g_getI (pc := 24) C fgX8_80 (by decide) hk0 rfl dX8_takes_24 ?_
  refine g_istore_n (pc := 27) (lv2 := [(2, .int (M.2 a0 6)), (0, .ref (Λ a0)), (1, .int x1)]) C dX8_takes_27 rfl (by decide) rfl ?_
  refine g_aload_n (pc := 28) C 1 dX8_takes_28 rfl rfl ?_
  obtain ⟨M13, h13, hf⟩ := ob hf
  refine g_resV (pc := 29) C (rnV (As := []) (st := []) C (c_X8_advances C.2.2.2.2.2.1 hk0 h13) lkX8_94 rfl (by decide) hk0 rfl rfl (Nat.le_of_ble_eq_true rfl) ⟨⟨rfl, rfl⟩, Nat.le_of_ble_eq_true rfl, Nat.le_of_ble_eq_true rfl⟩ ⟨Nat.le_of_ble_eq_true rfl, Nat.le_of_ble_eq_true rfl⟩ dX8_takes_29) ?_
  refine g_iload_n (pc := 32) C 0 dX8_takes_32 rfl rfl ?_
  exact g_iretM C hf dX8_takes_33

theorem c_X8_takes {l : Launch} {D : va_G} {cy : Nat → ClassId} {Λ : Nat → Nat} (hi : ∀ i j : Nat, Λ i = Λ j → i = j) {M : Mem} {a0 : Nat} {x1 : Int32} {r9 : Int32} {M9 : Mem} (hk0 : Is NN a0 9) (hf : m_X8_takes M a0 x1 = some (r9, M9)) : Ct l yX8_takes cX8_takes 3 (some .int) { frames := 3, cells := 0, slots := 0, locals := 63 } D cy Λ [.ref (Λ a0), .int x1] NN M 0 0 (QcI D cy Λ NN r9 M9) := ent (by decide) hi (Nat.le_of_ble_eq_true rfl) (fun p e s m args below meth c C => w_X8_takes C hk0 hf)
theorem w_X8_isThis {p : Program} {l : Launch} {e : Env} {s : State} {m : MethodId} {args : Array Value} {below : List Frame} {meth : Method} {c : Code} {D : va_G} {cy : Nat → ClassId} {Λ : Nat → Nat} (C : Cx p s m args meth c cX8_isThis 2 RX8 (some .boolean) D cy Λ (AA Λ s.heap.size)) {M : Mem} {a0 : Nat} {x1 : Int32} {r9 : Int32} (hk0 : Is NN a0 9) (hf : m_X8_isThis M a0 x1 = some r9) : GW p l e { frames := 1, cells := 0, slots := 0, locals := 20 } s m args below meth c D cy Λ 2 (QcI D cy Λ NN r9 M) M 0 [(0, .ref (Λ a0)), (1, .int x1)] [] := by
  unfold m_X8_isThis at hf
  refine g_aload_n (pc := 0) C 0 dX8_isThis_0 rfl rfl ?_
  obtain ⟨r11, h11, hf⟩ := ob hf
  refine g_resI (pc := 1) C (rnV (As := []) (st := []) C (c_X8_isWell C.2.2.2.2.2.1 hk0 h11) lkX8_90 rfl (by decide) hk0 rfl rfl (Nat.le_of_ble_eq_true rfl) ⟨⟨rfl, rfl⟩, Nat.le_of_ble_eq_true rfl, Nat.le_of_ble_eq_true rfl⟩ ⟨Nat.le_of_ble_eq_true rfl, Nat.le_of_ble_eq_true rfl⟩ dX8_isThis_1) ?_
  refine g_if_eq (pc := 4) (tgt := 27) C hf dX8_isThis_4 (by decide) (fun hf => ?_) (fun hf => ?_)
  · refine g_iconst (pc := 27) (v := (0 : Int32)) C dX8_isThis_27 (by decide) ?_
    exact g_zret C (by decide) hf dX8_isThis_28
  refine g_aload_n (pc := 7) C 0 dX8_isThis_7 rfl rfl ?_
  refine g_getI (pc := 8) C fgX8_77 (by decide) hk0 rfl dX8_isThis_8 ?_
  refine g_iconst (pc := 11) (v := (1 : Int32)) C dX8_isThis_11 (by decide) ?_
  refine g_ic_ne (pc := 12) (tgt := 27) C hf dX8_isThis_12 (by decide) (fun hf => ?_) (fun hf => ?_)
  · refine g_aload_n (pc := 15) C 0 dX8_isThis_15 rfl rfl ?_
    refine g_getI (pc := 16) C fgX8_80 (by decide) hk0 rfl dX8_isThis_16 ?_
    refine g_iload_n (pc := 19) C 1 dX8_isThis_19 rfl rfl ?_
    refine g_ic_ne (pc := 20) (tgt := 27) C hf dX8_isThis_20 (by decide) (fun hf => ?_) (fun hf => ?_)
    · refine g_iconst (pc := 23) (v := (1 : Int32)) C dX8_isThis_23 (by decide) ?_
      refine g_goto (pc := 24) (tgt := 28) C dX8_isThis_24 (by decide) ?_
      exact g_zret C (by decide) hf dX8_isThis_28
    refine g_iconst (pc := 27) (v := (0 : Int32)) C dX8_isThis_27 (by decide) ?_
    exact g_zret C (by decide) hf dX8_isThis_28
  refine g_iconst (pc := 27) (v := (0 : Int32)) C dX8_isThis_27 (by decide) ?_
  exact g_zret C (by decide) hf dX8_isThis_28

theorem c_X8_isThis {l : Launch} {D : va_G} {cy : Nat → ClassId} {Λ : Nat → Nat} (hi : ∀ i j : Nat, Λ i = Λ j → i = j) {M : Mem} {a0 : Nat} {x1 : Int32} {r9 : Int32} (hk0 : Is NN a0 9) (hf : m_X8_isThis M a0 x1 = some r9) : Ct l yX8_isThis cX8_isThis 2 (some .boolean) { frames := 1, cells := 0, slots := 0, locals := 20 } D cy Λ [.ref (Λ a0), .int x1] NN M 0 0 (QcI D cy Λ NN r9 M) := ent (by decide) hi (Nat.le_of_ble_eq_true rfl) (fun p e s m args below meth c C => w_X8_isThis C hk0 hf)
theorem w_X8_isFrom {p : Program} {l : Launch} {e : Env} {s : State} {m : MethodId} {args : Array Value} {below : List Frame} {meth : Method} {c : Code} {D : va_G} {cy : Nat → ClassId} {Λ : Nat → Nat} (C : Cx p s m args meth c cX8_isFrom 3 RX8 (some .boolean) D cy Λ (AA Λ s.heap.size)) {M : Mem} {a0 : Nat} {x1 : Int32} {x2 : Int32} {r9 : Int32} (hk0 : Is NN a0 9) (hf : m_X8_isFrom M a0 x1 x2 = some r9) : GW p l e { frames := 1, cells := 0, slots := 0, locals := 22 } s m args below meth c D cy Λ 3 (QcI D cy Λ NN r9 M) M 0 [(0, .ref (Λ a0)), (1, .int x1), (2, .int x2)] [] := by
  unfold m_X8_isFrom at hf
  refine g_aload_n (pc := 0) C 0 dX8_isFrom_0 rfl rfl ?_
  obtain ⟨r11, h11, hf⟩ := ob hf
  refine g_resI (pc := 1) C (rnV (As := []) (st := []) C (c_X8_isWell C.2.2.2.2.2.1 hk0 h11) lkX8_90 rfl (by decide) hk0 rfl rfl (Nat.le_of_ble_eq_true rfl) ⟨⟨rfl, rfl⟩, Nat.le_of_ble_eq_true rfl, Nat.le_of_ble_eq_true rfl⟩ ⟨Nat.le_of_ble_eq_true rfl, Nat.le_of_ble_eq_true rfl⟩ dX8_isFrom_1) ?_
  refine g_if_eq (pc := 4) (tgt := 31) C hf dX8_isFrom_4 (by decide) (fun hf => ?_) (fun hf => ?_)
  · refine g_iconst (pc := 31) (v := (0 : Int32)) C dX8_isFrom_31 (by decide) ?_
    exact g_zret C (by decide) hf dX8_isFrom_32
  refine g_aload_n (pc := 7) C 0 dX8_isFrom_7 rfl rfl ?_
  refine g_getI (pc := 8) C fgX8_77 (by decide) hk0 rfl dX8_isFrom_8 ?_
  refine g_iconst (pc := 11) (v := (1 : Int32)) C dX8_isFrom_11 (by decide) ?_
  refine g_ic_ne (pc := 12) (tgt := 31) C hf dX8_isFrom_12 (by decide) (fun hf => ?_) (fun hf => ?_)
  · refine g_aload_n (pc := 15) C 0 dX8_isFrom_15 rfl rfl ?_
    refine g_getI (pc := 16) C fgX8_80 (by decide) hk0 rfl dX8_isFrom_16 ?_
    refine g_iload_n (pc := 19) C 1 dX8_isFrom_19 rfl rfl ?_
    refine g_iload_n (pc := 20) C 2 dX8_isFrom_20 rfl rfl ?_
    obtain ⟨r12, h12, hf⟩ := ob hf
    refine g_resI (pc := 21) C (rnS (As := [.int (M.2 a0 6), .int x1, .int x2]) (st := []) C (c_X8_in C.2.2.2.2.2.1  h12) lkX8_60 rfl rfl (Nat.le_of_ble_eq_true rfl) ⟨⟨rfl, rfl⟩, Nat.le_of_ble_eq_true rfl, Nat.le_of_ble_eq_true rfl⟩ ⟨Nat.le_of_ble_eq_true rfl, Nat.le_of_ble_eq_true rfl⟩ dX8_isFrom_21) ?_
    refine g_if_eq (pc := 24) (tgt := 31) C hf dX8_isFrom_24 (by decide) (fun hf => ?_) (fun hf => ?_)
    · refine g_iconst (pc := 31) (v := (0 : Int32)) C dX8_isFrom_31 (by decide) ?_
      exact g_zret C (by decide) hf dX8_isFrom_32
    refine g_iconst (pc := 27) (v := (1 : Int32)) C dX8_isFrom_27 (by decide) ?_
    refine g_goto (pc := 28) (tgt := 32) C dX8_isFrom_28 (by decide) ?_
    exact g_zret C (by decide) hf dX8_isFrom_32
  refine g_iconst (pc := 31) (v := (0 : Int32)) C dX8_isFrom_31 (by decide) ?_
  exact g_zret C (by decide) hf dX8_isFrom_32

theorem c_X8_isFrom {l : Launch} {D : va_G} {cy : Nat → ClassId} {Λ : Nat → Nat} (hi : ∀ i j : Nat, Λ i = Λ j → i = j) {M : Mem} {a0 : Nat} {x1 : Int32} {x2 : Int32} {r9 : Int32} (hk0 : Is NN a0 9) (hf : m_X8_isFrom M a0 x1 x2 = some r9) : Ct l yX8_isFrom cX8_isFrom 3 (some .boolean) { frames := 1, cells := 0, slots := 0, locals := 22 } D cy Λ [.ref (Λ a0), .int x1, .int x2] NN M 0 0 (QcI D cy Λ NN r9 M) := ent (by decide) hi (Nat.le_of_ble_eq_true rfl) (fun p e s m args below meth c C => w_X8_isFrom C hk0 hf)
theorem w_X8_begins_L41 {p : Program} {l : Launch} {e : Env} {s : State} {m : MethodId} {args : Array Value} {below : List Frame} {meth : Method} {c : Code} {D : va_G} {cy : Nat → ClassId} {Λ : Nat → Nat} (C : Cx p s m args meth c cX8_begins 2 RX8 none D cy Λ (AA Λ s.heap.size)) {a0 : Nat}  {M9 : Mem} (hk0 : Is NN a0 9)  : ∀ (fu : Nat) (M : Mem) (x1 : Int32), m_X8_begins_L41 a0 fu M x1 = some M9 → GW p l e { frames := 0, cells := 0, slots := 0, locals := 0 } s m args below meth c D cy Λ 2 (QcV D cy Λ NN M9) M 41 [(0, .ref (Λ a0)), (1, .int x1)] [] := by
  intro fu
  induction fu with
  | zero =>
    intro M x1  hf
    cases hf
  | succ fu ih =>
    intro M x1  hf
    unfold m_X8_begins_L41 at hf
    refine g_iload_n (pc := 41) C 1 dX8_begins_41 rfl rfl ?_
    refine g_bipush (pc := 42) (v := (19 : Int32)) C dX8_begins_42 (by decide) ?_
    refine g_ic_ge (pc := 44) (tgt := 60) C hf dX8_begins_44 (by decide) (fun hf => ?_) (fun hf => ?_)
    · exact g_vret C hf dX8_begins_60
    refine g_aload_n (pc := 47) C 0 dX8_begins_47 rfl rfl ?_
    refine g_getR (pc := 48) (T := 9) C hf fgX8_19 (by decide) hk0 rfl dX8_begins_48 (fun a11 hk11 hf => ?_)
    refine g_iload_n (pc := 51) C 1 dX8_begins_51 rfl rfl ?_
    refine g_iconst (pc := 52) (v := (0 : Int32)) C dX8_begins_52 (by decide) ?_
    refine g_iast (pc := 53) C hf hk11 dX8_begins_53 (fun M12 hf => ?_)
    refine g_iinc (pc := 54) (v := (x1 + (1 : Int32))) (lv2 := [(1, .int (x1 + (1 : Int32))), (0, .ref (Λ a0))]) C 1 dX8_begins_54 rfl rfl (by decide) rfl ?_
    refine g_goto (pc := 57) (tgt := 41) C dX8_begins_57 (by decide) ?_
    refine g_sub [1, 0] rfl ?_
    exact ih M12 (x1 + (1 : Int32))  hf

theorem w_X8_begins_L2 {p : Program} {l : Launch} {e : Env} {s : State} {m : MethodId} {args : Array Value} {below : List Frame} {meth : Method} {c : Code} {D : va_G} {cy : Nat → ClassId} {Λ : Nat → Nat} (C : Cx p s m args meth c cX8_begins 2 RX8 none D cy Λ (AA Λ s.heap.size)) {a0 : Nat}  {M9 : Mem} (hk0 : Is NN a0 9)  : ∀ (fu : Nat) (M : Mem) (x1 : Int32), m_X8_begins_L2 a0 fu M x1 = some M9 → GW p l e { frames := 0, cells := 0, slots := 0, locals := 0 } s m args below meth c D cy Λ 2 (QcV D cy Λ NN M9) M 2 [(0, .ref (Λ a0)), (1, .int x1)] [] := by
  intro fu
  induction fu with
  | zero =>
    intro M x1  hf
    cases hf
  | succ fu ih =>
    intro M x1  hf
    unfold m_X8_begins_L2 at hf
    refine g_iload_n (pc := 2) C 1 dX8_begins_2 rfl rfl ?_
    refine g_sipush (pc := 3) (v := (140 : Int32)) C dX8_begins_3 (by decide) ?_
    refine g_ic_ge (pc := 6) (tgt := 39) C hf dX8_begins_6 (by decide) (fun hf => ?_) (fun hf => ?_)
    · refine g_iconst (pc := 39) (v := (0 : Int32)) C dX8_begins_39 (by decide) ?_
      refine g_istore_n (pc := 40) (lv2 := [(1, .int (0 : Int32)), (0, .ref (Λ a0))]) C dX8_begins_40 rfl (by decide) rfl ?_
      refine g_sub [1, 0] rfl ?_
      exact w_X8_begins_L41 C hk0 FU M (0 : Int32)  hf
    refine g_aload_n (pc := 9) C 0 dX8_begins_9 rfl rfl ?_
    refine g_getR (pc := 10) (T := 9) C hf fgX8_16 (by decide) hk0 rfl dX8_begins_10 (fun a11 hk11 hf => ?_)
    refine g_iload_n (pc := 13) C 1 dX8_begins_13 rfl rfl ?_
    refine g_iload_n (pc := 14) C 1 dX8_begins_14 rfl rfl ?_
    refine g_bipush (pc := 15) (v := (20 : Int32)) C dX8_begins_15 (by decide) ?_
    refine g_ic_lt (pc := 17) (tgt := 31) C hf dX8_begins_17 (by decide) (fun hf => ?_) (fun hf => ?_)
    · refine g_iconst (pc := 31) (v := (0 : Int32)) C dX8_begins_31 (by decide) ?_
      refine g_iast (pc := 32) C hf hk11 dX8_begins_32 (fun M12 hf => ?_)
      refine g_iinc (pc := 33) (v := (x1 + (1 : Int32))) (lv2 := [(1, .int (x1 + (1 : Int32))), (0, .ref (Λ a0))]) C 1 dX8_begins_33 rfl rfl (by decide) rfl ?_
      refine g_goto (pc := 36) (tgt := 2) C dX8_begins_36 (by decide) ?_
      refine g_sub [1, 0] rfl ?_
      exact ih M12 (x1 + (1 : Int32))  hf
    refine g_iload_n (pc := 20) C 1 dX8_begins_20 rfl rfl ?_
    refine g_bipush (pc := 21) (v := (44 : Int32)) C dX8_begins_21 (by decide) ?_
    refine g_ic_ge (pc := 23) (tgt := 31) C hf dX8_begins_23 (by decide) (fun hf => ?_) (fun hf => ?_)
    · refine g_iconst (pc := 31) (v := (0 : Int32)) C dX8_begins_31 (by decide) ?_
      refine g_iast (pc := 32) C hf hk11 dX8_begins_32 (fun M13 hf => ?_)
      refine g_iinc (pc := 33) (v := (x1 + (1 : Int32))) (lv2 := [(1, .int (x1 + (1 : Int32))), (0, .ref (Λ a0))]) C 1 dX8_begins_33 rfl rfl (by decide) rfl ?_
      refine g_goto (pc := 36) (tgt := 2) C dX8_begins_36 (by decide) ?_
      refine g_sub [1, 0] rfl ?_
      exact ih M13 (x1 + (1 : Int32))  hf
    refine g_bipush (pc := 26) (v := (-9 : Int32)) C dX8_begins_26 (by decide) ?_
    refine g_goto (pc := 28) (tgt := 32) C dX8_begins_28 (by decide) ?_
    refine g_iast (pc := 32) C hf hk11 dX8_begins_32 (fun M14 hf => ?_)
    refine g_iinc (pc := 33) (v := (x1 + (1 : Int32))) (lv2 := [(1, .int (x1 + (1 : Int32))), (0, .ref (Λ a0))]) C 1 dX8_begins_33 rfl rfl (by decide) rfl ?_
    refine g_goto (pc := 36) (tgt := 2) C dX8_begins_36 (by decide) ?_
    refine g_sub [1, 0] rfl ?_
    exact ih M14 (x1 + (1 : Int32))  hf

theorem w_X8_begins {p : Program} {l : Launch} {e : Env} {s : State} {m : MethodId} {args : Array Value} {below : List Frame} {meth : Method} {c : Code} {D : va_G} {cy : Nat → ClassId} {Λ : Nat → Nat} (C : Cx p s m args meth c cX8_begins 2 RX8 none D cy Λ (AA Λ s.heap.size)) {M : Mem} {a0 : Nat} {M9 : Mem} (hk0 : Is NN a0 9) (hf : m_X8_begins M a0 = some M9) : GW p l e { frames := 0, cells := 0, slots := 0, locals := 0 } s m args below meth c D cy Λ 2 (QcV D cy Λ NN M9) M 0 [(0, .ref (Λ a0))] [] := by
  unfold m_X8_begins at hf
  refine g_iconst (pc := 0) (v := (0 : Int32)) C dX8_begins_0 (by decide) ?_
  refine g_istore_n (pc := 1) (lv2 := [(1, .int (0 : Int32)), (0, .ref (Λ a0))]) C dX8_begins_1 rfl (by decide) rfl ?_
  refine g_sub [1, 0] rfl ?_
  exact w_X8_begins_L2 C hk0 FU M (0 : Int32)  hf

theorem c_X8_begins {l : Launch} {D : va_G} {cy : Nat → ClassId} {Λ : Nat → Nat} (hi : ∀ i j : Nat, Λ i = Λ j → i = j) {M : Mem} {a0 : Nat} {M9 : Mem} (hk0 : Is NN a0 9) (hf : m_X8_begins M a0 = some M9) : Ct l yX8_begins cX8_begins 2 none { frames := 0, cells := 0, slots := 0, locals := 0 } D cy Λ [.ref (Λ a0)] NN M 0 0 (QcV D cy Λ NN M9) := ent (by decide) hi (Nat.le_of_ble_eq_true rfl) (fun p e s m args below meth c C => w_X8_begins C hk0 hf)
theorem w_X8_readsNode_L111 {p : Program} {l : Launch} {e : Env} {s : State} {m : MethodId} {args : Array Value} {below : List Frame} {meth : Method} {c : Code} {D : va_G} {cy : Nat → ClassId} {Λ : Nat → Nat} (C : Cx p s m args meth c cX8_readsNode 3 RX8 none D cy Λ (AA Λ s.heap.size)) {a0 : Nat} {k72 : Mem → Int32 → Option Mem} {M9 : Mem} (hk0 : Is NN a0 9) (hK72 : ∀ (M : Mem) (x1 : Int32), k72 M x1 = some M9 → GW p l e { frames := 4, cells := 0, slots := 0, locals := 85 } s m args below meth c D cy Λ 3 (QcV D cy Λ NN M9) M 72 [(0, .ref (Λ a0)), (1, .int x1)] []) : ∀ (M : Mem) (x1 : Int32) (s0 : Int32) (g1 : Nat), Is NN g1 9 → m_X8_readsNode_L111 a0 k72 M x1 s0 g1 = some M9 → GW p l e { frames := 4, cells := 0, slots := 0, locals := 85 } s m args below meth c D cy Λ 3 (QcV D cy Λ NN M9) M 111 [(0, .ref (Λ a0)), (1, .int x1)] [.int s0, .ref (Λ g1)] := by
  intro M x1 s0 g1 hk_g1 hf
  unfold m_X8_readsNode_L111 at hf
  obtain ⟨r11, M11, h11, hf⟩ := ob2 hf
  refine g_resI (pc := 111) C (rnV (As := [.int s0]) (st := []) C (c_X8_takes C.2.2.2.2.2.1 hk_g1 h11) lkX8_97 rfl (by decide) hk_g1 rfl rfl (Nat.le_of_ble_eq_true rfl) ⟨⟨rfl, rfl⟩, Nat.le_of_ble_eq_true rfl, Nat.le_of_ble_eq_true rfl⟩ ⟨Nat.le_of_ble_eq_true rfl, Nat.le_of_ble_eq_true rfl⟩ dX8_readsNode_111) ?_
  refine g_bipush (pc := 114) (v := (112 : Int32)) C dX8_readsNode_114 (by decide) ?_
  refine g_isub (pc := 116) C dX8_readsNode_116 ?_
  refine g_istore_n (pc := 117) (lv2 := [(2, .int (r11 - (112 : Int32))), (0, .ref (Λ a0)), (1, .int x1)]) C dX8_readsNode_117 rfl (by decide) rfl ?_
  refine g_aload_n (pc := 118) C 1 dX8_readsNode_118 rfl rfl ?_
  refine g_getR (pc := 119) (T := 9) C hf fgX8_19 (by decide) hk0 rfl dX8_readsNode_119 (fun a12 hk12 hf => ?_)
  refine g_bipush (pc := 122) (v := (9 : Int32)) C dX8_readsNode_122 (by decide) ?_
  refine g_iload_n (pc := 124) C 2 dX8_readsNode_124 rfl rfl ?_
  refine g_iadd (pc := 125) C dX8_readsNode_125 ?_
  refine g_dup2 (pc := 126) C dX8_readsNode_126 rfl rfl ?_
  refine g_iald (pc := 127) C hf hk12 dX8_readsNode_127 (fun v13 hf => ?_)
  refine g_aload_n (pc := 128) C 1 dX8_readsNode_128 rfl rfl ?_
  obtain ⟨r14, h14, hf⟩ := ob hf
  refine g_resI (pc := 129) C (rnV (As := []) (st := [.int v13, .int ((9 : Int32) + x1), .ref (Λ a12)]) C (c_X8_isWell C.2.2.2.2.2.1 hk0 h14) lkX8_90 rfl (by decide) hk0 rfl rfl (Nat.le_of_ble_eq_true rfl) ⟨⟨rfl, rfl⟩, Nat.le_of_ble_eq_true rfl, Nat.le_of_ble_eq_true rfl⟩ ⟨Nat.le_of_ble_eq_true rfl, Nat.le_of_ble_eq_true rfl⟩ dX8_readsNode_129) ?_
  refine g_if_eq (pc := 132) (tgt := 141) C hf dX8_readsNode_132 (by decide) (fun hf => ?_) (fun hf => ?_)
  · refine g_iconst (pc := 141) (v := (0 : Int32)) C dX8_readsNode_141 (by decide) ?_
    refine g_ior (pc := 142) C dX8_readsNode_142 ?_
    refine g_iast (pc := 143) C hf hk12 dX8_readsNode_143 (fun M15 hf => ?_)
    refine g_goto (pc := 144) (tgt := 72) C dX8_readsNode_144 (by decide) ?_
    refine g_sub [1, 2] rfl ?_
    exact hK72 M15 x1  hf
  refine g_iconst (pc := 135) (v := (1 : Int32)) C dX8_readsNode_135 (by decide) ?_
  refine g_iload_n (pc := 136) C 0 dX8_readsNode_136 rfl rfl ?_
  refine g_ishl (pc := 137) C dX8_readsNode_137 ?_
  refine g_goto (pc := 138) (tgt := 142) C dX8_readsNode_138 (by decide) ?_
  refine g_ior (pc := 142) C dX8_readsNode_142 ?_
  refine g_iast (pc := 143) C hf hk12 dX8_readsNode_143 (fun M16 hf => ?_)
  refine g_goto (pc := 144) (tgt := 72) C dX8_readsNode_144 (by decide) ?_
  refine g_sub [1, 2] rfl ?_
  exact hK72 M16 x1  hf

theorem w_X8_readsNode_L72 {p : Program} {l : Launch} {e : Env} {s : State} {m : MethodId} {args : Array Value} {below : List Frame} {meth : Method} {c : Code} {D : va_G} {cy : Nat → ClassId} {Λ : Nat → Nat} (C : Cx p s m args meth c cX8_readsNode 3 RX8 none D cy Λ (AA Λ s.heap.size)) {a0 : Nat}  {M9 : Mem} (hk0 : Is NN a0 9)  : ∀ (fu : Nat) (M : Mem) (x1 : Int32), m_X8_readsNode_L72 a0 fu M x1 = some M9 → GW p l e { frames := 4, cells := 0, slots := 0, locals := 85 } s m args below meth c D cy Λ 3 (QcV D cy Λ NN M9) M 72 [(0, .ref (Λ a0)), (1, .int x1)] [] := by
  intro fu
  induction fu with
  | zero =>
    intro M x1  hf
    cases hf
  | succ fu ih =>
    intro M x1  hf
    unfold m_X8_readsNode_L72 at hf
    refine g_aload_n (pc := 72) C 0 dX8_readsNode_72 rfl rfl ?_
    refine g_bipush (pc := 73) (v := (112 : Int32)) C dX8_readsNode_73 (by decide) ?_
    refine g_bipush (pc := 75) (v := (115 : Int32)) C dX8_readsNode_75 (by decide) ?_
    obtain ⟨r11, h11, hf⟩ := ob hf
    refine g_resI (pc := 77) C (rnV (As := [.int (112 : Int32), .int (115 : Int32)]) (st := []) C (c_X8_isFrom C.2.2.2.2.2.1 hk0 h11) lkX8_101 rfl (by decide) hk0 rfl rfl (Nat.le_of_ble_eq_true rfl) ⟨⟨rfl, rfl⟩, Nat.le_of_ble_eq_true rfl, Nat.le_of_ble_eq_true rfl⟩ ⟨Nat.le_of_ble_eq_true rfl, Nat.le_of_ble_eq_true rfl⟩ dX8_readsNode_77) ?_
    refine g_if_eq (pc := 80) (tgt := 147) C hf dX8_readsNode_80 (by decide) (fun hf => ?_) (fun hf => ?_)
    · refine g_aload_n (pc := 147) C 0 dX8_readsNode_147 rfl rfl ?_
      refine g_getR (pc := 148) (T := 9) C hf fgX8_16 (by decide) hk0 rfl dX8_readsNode_148 (fun a12 hk12 hf => ?_)
      refine g_iconst (pc := 151) (v := (0 : Int32)) C dX8_readsNode_151 (by decide) ?_
      refine g_dup2 (pc := 152) C dX8_readsNode_152 rfl rfl ?_
      refine g_iald (pc := 153) C hf hk12 dX8_readsNode_153 (fun v13 hf => ?_)
      refine g_iconst (pc := 154) (v := (1 : Int32)) C dX8_readsNode_154 (by decide) ?_
      refine g_iadd (pc := 155) C dX8_readsNode_155 ?_
      refine g_iast (pc := 156) C hf hk12 dX8_readsNode_156 (fun M14 hf => ?_)
      exact g_vret C hf dX8_readsNode_157
    refine g_aload_n (pc := 83) C 0 dX8_readsNode_83 rfl rfl ?_
    refine g_aload_n (pc := 84) C 0 dX8_readsNode_84 rfl rfl ?_
    refine g_getR (pc := 85) (T := 9) C hf fgX8_19 (by decide) hk0 rfl dX8_readsNode_85 (fun a15 hk15 hf => ?_)
    refine g_bipush (pc := 88) (v := (9 : Int32)) C dX8_readsNode_88 (by decide) ?_
    refine g_iload_n (pc := 90) C 1 dX8_readsNode_90 rfl rfl ?_
    refine g_iadd (pc := 91) C dX8_readsNode_91 ?_
    refine g_iald (pc := 92) C hf hk15 dX8_readsNode_92 (fun v16 hf => ?_)
    refine g_aload_n (pc := 93) C 0 dX8_readsNode_93 rfl rfl ?_
    refine g_getI (pc := 94) C fgX8_80 (by decide) hk0 rfl dX8_readsNode_94 ?_
    refine g_bipush (pc := 97) (v := (112 : Int32)) C dX8_readsNode_97 (by decide) ?_
    refine g_isub (pc := 99) C dX8_readsNode_99 ?_
    obtain ⟨r17, h17, hf⟩ := ob hf
    refine g_resI (pc := 100) C (rnS (As := [.int v16, .int ((M.2 a0 6) - (112 : Int32))]) (st := [.ref (Λ a0)]) C (c_X8_has C.2.2.2.2.2.1  h17) lkX8_105 rfl rfl (Nat.le_of_ble_eq_true rfl) ⟨⟨rfl, rfl⟩, Nat.le_of_ble_eq_true rfl, Nat.le_of_ble_eq_true rfl⟩ ⟨Nat.le_of_ble_eq_true rfl, Nat.le_of_ble_eq_true rfl⟩ dX8_readsNode_100) ?_
    refine g_if_ne (pc := 103) (tgt := 110) C hf dX8_readsNode_103 (by decide) (fun hf => ?_) (fun hf => ?_)
    · refine g_iconst (pc := 106) (v := (1 : Int32)) C dX8_readsNode_106 (by decide) ?_
      refine g_goto (pc := 107) (tgt := 111) C dX8_readsNode_107 (by decide) ?_
      exact w_X8_readsNode_L111 C hk0 ih M x1 (1 : Int32) a0 hk0 hf
    refine g_iconst (pc := 110) (v := (0 : Int32)) C dX8_readsNode_110 (by decide) ?_
    exact w_X8_readsNode_L111 C hk0 ih M x1 (0 : Int32) a0 hk0 hf

theorem w_X8_readsNode_L48 {p : Program} {l : Launch} {e : Env} {s : State} {m : MethodId} {args : Array Value} {below : List Frame} {meth : Method} {c : Code} {D : va_G} {cy : Nat → ClassId} {Λ : Nat → Nat} (C : Cx p s m args meth c cX8_readsNode 3 RX8 none D cy Λ (AA Λ s.heap.size)) {a0 : Nat}  {M9 : Mem} (hk0 : Is NN a0 9)  : ∀ (M : Mem) (x1 : Int32) (s0 : Int32) (s1 : Int32) (g2 : Nat), Is NN g2 10 → m_X8_readsNode_L48 a0 M x1 s0 s1 g2 = some M9 → GW p l e { frames := 4, cells := 0, slots := 0, locals := 85 } s m args below meth c D cy Λ 3 (QcV D cy Λ NN M9) M 48 [(0, .ref (Λ a0)), (1, .int x1)] [.int s0, .int s1, .ref (Λ g2)] := by
  intro M x1 s0 s1 g2 hk_g2 hf
  unfold m_X8_readsNode_L48 at hf
  refine g_iast (pc := 48) C hf hk_g2 dX8_readsNode_48 (fun M11 hf => ?_)
  refine g_aload_n (pc := 49) C 0 dX8_readsNode_49 rfl rfl ?_
  refine g_getR (pc := 50) (T := 9) C hf fgX8_19 (by decide) hk0 rfl dX8_readsNode_50 (fun a12 hk12 hf => ?_)
  refine g_iconst (pc := 53) (v := (0 : Int32)) C dX8_readsNode_53 (by decide) ?_
  refine g_iload_n (pc := 54) C 1 dX8_readsNode_54 rfl rfl ?_
  refine g_iadd (pc := 55) C dX8_readsNode_55 ?_
  refine g_aload_n (pc := 56) C 0 dX8_readsNode_56 rfl rfl ?_
  refine g_aload_n (pc := 57) C 0 dX8_readsNode_57 rfl rfl ?_
  refine g_bipush (pc := 58) (v := (97 : Int32)) C dX8_readsNode_58 (by decide) ?_
  refine g_bipush (pc := 60) (v := (100 : Int32)) C dX8_readsNode_60 (by decide) ?_
  obtain ⟨r13, h13, hf⟩ := ob hf
  refine g_resI (pc := 62) C (rnV (As := [.int (97 : Int32), .int (100 : Int32)]) (st := [.ref (Λ a0), .int ((0 : Int32) + x1), .ref (Λ a12)]) C (c_X8_isFrom C.2.2.2.2.2.1 hk0 h13) lkX8_101 rfl (by decide) hk0 rfl rfl (Nat.le_of_ble_eq_true rfl) ⟨⟨rfl, rfl⟩, Nat.le_of_ble_eq_true rfl, Nat.le_of_ble_eq_true rfl⟩ ⟨Nat.le_of_ble_eq_true rfl, Nat.le_of_ble_eq_true rfl⟩ dX8_readsNode_62) ?_
  obtain ⟨r14, M14, h14, hf⟩ := ob2 hf
  refine g_resI (pc := 65) C (rnV (As := [.int r13]) (st := [.int ((0 : Int32) + x1), .ref (Λ a12)]) C (c_X8_takes C.2.2.2.2.2.1 hk0 h14) lkX8_97 rfl (by decide) hk0 rfl rfl (Nat.le_of_ble_eq_true rfl) ⟨⟨rfl, rfl⟩, Nat.le_of_ble_eq_true rfl, Nat.le_of_ble_eq_true rfl⟩ ⟨Nat.le_of_ble_eq_true rfl, Nat.le_of_ble_eq_true rfl⟩ dX8_readsNode_65) ?_
  refine g_bipush (pc := 68) (v := (97 : Int32)) C dX8_readsNode_68 (by decide) ?_
  refine g_isub (pc := 70) C dX8_readsNode_70 ?_
  refine g_iast (pc := 71) C hf hk12 dX8_readsNode_71 (fun M15 hf => ?_)
  exact w_X8_readsNode_L72 C hk0 FU M15 x1  hf

theorem w_X8_readsNode {p : Program} {l : Launch} {e : Env} {s : State} {m : MethodId} {args : Array Value} {below : List Frame} {meth : Method} {c : Code} {D : va_G} {cy : Nat → ClassId} {Λ : Nat → Nat} (C : Cx p s m args meth c cX8_readsNode 3 RX8 none D cy Λ (AA Λ s.heap.size)) {M : Mem} {a0 : Nat} {M9 : Mem} (hk0 : Is NN a0 9) (hf : m_X8_readsNode M a0 = some M9) : GW p l e { frames := 4, cells := 0, slots := 0, locals := 85 } s m args below meth c D cy Λ 3 (QcV D cy Λ NN M9) M 0 [(0, .ref (Λ a0))] [] := by
  unfold m_X8_readsNode at hf
  refine g_aload_n (pc := 0) C 0 dX8_readsNode_0 rfl rfl ?_
  refine g_getR (pc := 1) (T := 9) C hf fgX8_16 (by decide) hk0 rfl dX8_readsNode_1 (fun a11 hk11 hf => ?_)
  refine g_iconst (pc := 4) (v := (0 : Int32)) C dX8_readsNode_4 (by decide) ?_
  refine g_iald (pc := 5) C hf hk11 dX8_readsNode_5 (fun v12 hf => ?_)
  refine g_istore_n (pc := 6) (lv2 := [(1, .int v12), (0, .ref (Λ a0))]) C dX8_readsNode_6 rfl (by decide) rfl ?_
  refine g_aload_n (pc := 7) C 1 dX8_readsNode_7 rfl rfl ?_
  refine g_getR (pc := 8) (T := 9) C hf fgX8_16 (by decide) hk0 rfl dX8_readsNode_8 (fun a13 hk13 hf => ?_)
  refine g_iconst (pc := 11) (v := (3 : Int32)) C dX8_readsNode_11 (by decide) ?_
  refine g_iload_n (pc := 12) C 0 dX8_readsNode_12 rfl rfl ?_
  refine g_iadd (pc := 13) C dX8_readsNode_13 ?_
  refine g_iload_n (pc := 14) C 0 dX8_readsNode_14 rfl rfl ?_
  refine g_if_ne (pc := 15) (tgt := 23) C hf dX8_readsNode_15 (by decide) (fun hf => ?_) (fun hf => ?_)
  · refine g_bipush (pc := 18) (v := (-9 : Int32)) C dX8_readsNode_18 (by decide) ?_
    refine g_goto (pc := 20) (tgt := 48) C dX8_readsNode_20 (by decide) ?_
    refine g_sub [1, 0] rfl ?_
    exact w_X8_readsNode_L48 C hk0 M v12 (-9 : Int32) ((3 : Int32) + v12) a13 hk13 hf
  refine g_aload_n (pc := 23) C 1 dX8_readsNode_23 rfl rfl ?_
  refine g_aload_n (pc := 24) C 1 dX8_readsNode_24 rfl rfl ?_
  refine g_getI (pc := 25) C fgX8_77 (by decide) hk0 rfl dX8_readsNode_25 ?_
  refine g_iconst (pc := 28) (v := (2 : Int32)) C dX8_readsNode_28 (by decide) ?_
  refine g_ic_ne (pc := 29) (tgt := 44) C hf dX8_readsNode_29 (by decide) (fun hf => ?_) (fun hf => ?_)
  · refine g_aload_n (pc := 32) C 1 dX8_readsNode_32 rfl rfl ?_
    refine g_getI (pc := 33) C fgX8_80 (by decide) hk0 rfl dX8_readsNode_33 ?_
    refine g_iload_n (pc := 36) C 0 dX8_readsNode_36 rfl rfl ?_
    refine g_ic_ge (pc := 37) (tgt := 44) C hf dX8_readsNode_37 (by decide) (fun hf => ?_) (fun hf => ?_)
    · refine g_iconst (pc := 44) (v := (0 : Int32)) C dX8_readsNode_44 (by decide) ?_
      obtain ⟨r14, M14, h14, hf⟩ := ob2 hf
      refine g_resI (pc := 45) C (rnV (As := [.int (0 : Int32)]) (st := [.int ((3 : Int32) + v12), .ref (Λ a13)]) C (c_X8_takes C.2.2.2.2.2.1 hk0 h14) lkX8_97 rfl (by decide) hk0 rfl rfl (Nat.le_of_ble_eq_true rfl) ⟨⟨rfl, rfl⟩, Nat.le_of_ble_eq_true rfl, Nat.le_of_ble_eq_true rfl⟩ ⟨Nat.le_of_ble_eq_true rfl, Nat.le_of_ble_eq_true rfl⟩ dX8_readsNode_45) ?_
      refine g_sub [1, 0] rfl ?_
      exact w_X8_readsNode_L48 C hk0 M14 v12 r14 ((3 : Int32) + v12) a13 hk13 hf
    refine g_iconst (pc := 40) (v := (1 : Int32)) C dX8_readsNode_40 (by decide) ?_
    refine g_goto (pc := 41) (tgt := 45) C dX8_readsNode_41 (by decide) ?_
    obtain ⟨r15, M15, h15, hf⟩ := ob2 hf
    refine g_resI (pc := 45) C (rnV (As := [.int (1 : Int32)]) (st := [.int ((3 : Int32) + v12), .ref (Λ a13)]) C (c_X8_takes C.2.2.2.2.2.1 hk0 h15) lkX8_97 rfl (by decide) hk0 rfl rfl (Nat.le_of_ble_eq_true rfl) ⟨⟨rfl, rfl⟩, Nat.le_of_ble_eq_true rfl, Nat.le_of_ble_eq_true rfl⟩ ⟨Nat.le_of_ble_eq_true rfl, Nat.le_of_ble_eq_true rfl⟩ dX8_readsNode_45) ?_
    refine g_sub [1, 0] rfl ?_
    exact w_X8_readsNode_L48 C hk0 M15 v12 r15 ((3 : Int32) + v12) a13 hk13 hf
  refine g_iconst (pc := 44) (v := (0 : Int32)) C dX8_readsNode_44 (by decide) ?_
  obtain ⟨r16, M16, h16, hf⟩ := ob2 hf
  refine g_resI (pc := 45) C (rnV (As := [.int (0 : Int32)]) (st := [.int ((3 : Int32) + v12), .ref (Λ a13)]) C (c_X8_takes C.2.2.2.2.2.1 hk0 h16) lkX8_97 rfl (by decide) hk0 rfl rfl (Nat.le_of_ble_eq_true rfl) ⟨⟨rfl, rfl⟩, Nat.le_of_ble_eq_true rfl, Nat.le_of_ble_eq_true rfl⟩ ⟨Nat.le_of_ble_eq_true rfl, Nat.le_of_ble_eq_true rfl⟩ dX8_readsNode_45) ?_
  refine g_sub [1, 0] rfl ?_
  exact w_X8_readsNode_L48 C hk0 M16 v12 r16 ((3 : Int32) + v12) a13 hk13 hf

theorem c_X8_readsNode {l : Launch} {D : va_G} {cy : Nat → ClassId} {Λ : Nat → Nat} (hi : ∀ i j : Nat, Λ i = Λ j → i = j) {M : Mem} {a0 : Nat} {M9 : Mem} (hk0 : Is NN a0 9) (hf : m_X8_readsNode M a0 = some M9) : Ct l yX8_readsNode cX8_readsNode 3 none { frames := 4, cells := 0, slots := 0, locals := 85 } D cy Λ [.ref (Λ a0)] NN M 0 0 (QcV D cy Λ NN M9) := ent (by decide) hi (Nat.le_of_ble_eq_true rfl) (fun p e s m args below meth c C => w_X8_readsNode C hk0 hf)
theorem w_X8_readsCompound_L84 {p : Program} {l : Launch} {e : Env} {s : State} {m : MethodId} {args : Array Value} {below : List Frame} {meth : Method} {c : Code} {D : va_G} {cy : Nat → ClassId} {Λ : Nat → Nat} (C : Cx p s m args meth c cX8_readsCompound 4 RX8 none D cy Λ (AA Λ s.heap.size)) {a0 : Nat} {x1 : Int32} {k30 : Mem → Int32 → Option Mem} {M9 : Mem} (hk0 : Is NN a0 9) (hK30 : ∀ (M : Mem) (x2 : Int32), k30 M x2 = some M9 → GW p l e { frames := 4, cells := 0, slots := 0, locals := 85 } s m args below meth c D cy Λ 4 (QcV D cy Λ NN M9) M 30 [(0, .ref (Λ a0)), (1, .int x1), (2, .int x2)] []) : ∀ (M : Mem) (s0 : Int32) (g1 : Nat), Is NN g1 9 → m_X8_readsCompound_L84 a0 x1 k30 M s0 g1 = some M9 → GW p l e { frames := 4, cells := 0, slots := 0, locals := 85 } s m args below meth c D cy Λ 4 (QcV D cy Λ NN M9) M 84 [(0, .ref (Λ a0)), (1, .int x1)] [.int s0, .ref (Λ g1)] := by
  intro M s0 g1 hk_g1 hf
  unfold m_X8_readsCompound_L84 at hf
  obtain ⟨r11, M11, h11, hf⟩ := ob2 hf
  refine g_resI (pc := 84) C (rnV (As := [.int s0]) (st := []) C (c_X8_takes C.2.2.2.2.2.1 hk_g1 h11) lkX8_97 rfl (by decide) hk_g1 rfl rfl (Nat.le_of_ble_eq_true rfl) ⟨⟨rfl, rfl⟩, Nat.le_of_ble_eq_true rfl, Nat.le_of_ble_eq_true rfl⟩ ⟨Nat.le_of_ble_eq_true rfl, Nat.le_of_ble_eq_true rfl⟩ dX8_readsCompound_84) ?_
  refine g_bipush (pc := 87) (v := (112 : Int32)) C dX8_readsCompound_87 (by decide) ?_
  refine g_isub (pc := 89) C dX8_readsCompound_89 ?_
  refine g_istore_n (pc := 90) (lv2 := [(3, .int (r11 - (112 : Int32))), (0, .ref (Λ a0)), (1, .int x1)]) C dX8_readsCompound_90 rfl (by decide) rfl ?_
  refine g_aload_n (pc := 91) C 1 dX8_readsCompound_91 rfl rfl ?_
  refine g_getR (pc := 92) (T := 9) C hf fgX8_16 (by decide) hk0 rfl dX8_readsCompound_92 (fun a12 hk12 hf => ?_)
  refine g_bipush (pc := 95) (v := (44 : Int32)) C dX8_readsCompound_95 (by decide) ?_
  refine g_iload_n (pc := 97) C 2 dX8_readsCompound_97 rfl rfl ?_
  refine g_iadd (pc := 98) C dX8_readsCompound_98 ?_
  refine g_dup2 (pc := 99) C dX8_readsCompound_99 rfl rfl ?_
  refine g_iald (pc := 100) C hf hk12 dX8_readsCompound_100 (fun v13 hf => ?_)
  refine g_aload_n (pc := 101) C 1 dX8_readsCompound_101 rfl rfl ?_
  obtain ⟨r14, h14, hf⟩ := ob hf
  refine g_resI (pc := 102) C (rnV (As := []) (st := [.int v13, .int ((44 : Int32) + x1), .ref (Λ a12)]) C (c_X8_isWell C.2.2.2.2.2.1 hk0 h14) lkX8_90 rfl (by decide) hk0 rfl rfl (Nat.le_of_ble_eq_true rfl) ⟨⟨rfl, rfl⟩, Nat.le_of_ble_eq_true rfl, Nat.le_of_ble_eq_true rfl⟩ ⟨Nat.le_of_ble_eq_true rfl, Nat.le_of_ble_eq_true rfl⟩ dX8_readsCompound_102) ?_
  refine g_if_eq (pc := 105) (tgt := 114) C hf dX8_readsCompound_105 (by decide) (fun hf => ?_) (fun hf => ?_)
  · refine g_iconst (pc := 114) (v := (0 : Int32)) C dX8_readsCompound_114 (by decide) ?_
    refine g_ior (pc := 115) C dX8_readsCompound_115 ?_
    refine g_iast (pc := 116) C hf hk12 dX8_readsCompound_116 (fun M15 hf => ?_)
    refine g_iconst (pc := 117) (v := (1 : Int32)) C dX8_readsCompound_117 (by decide) ?_
    refine g_istore_n (pc := 118) (lv2 := [(2, .int (1 : Int32)), (3, .int (r11 - (112 : Int32))), (0, .ref (Λ a0)), (1, .int x1)]) C dX8_readsCompound_118 rfl (by decide) rfl ?_
    refine g_goto (pc := 119) (tgt := 30) C dX8_readsCompound_119 (by decide) ?_
    refine g_sub [2, 3, 0] rfl ?_
    exact hK30 M15 (1 : Int32)  hf
  refine g_iconst (pc := 108) (v := (1 : Int32)) C dX8_readsCompound_108 (by decide) ?_
  refine g_iload_n (pc := 109) C 0 dX8_readsCompound_109 rfl rfl ?_
  refine g_ishl (pc := 110) C dX8_readsCompound_110 ?_
  refine g_goto (pc := 111) (tgt := 115) C dX8_readsCompound_111 (by decide) ?_
  refine g_ior (pc := 115) C dX8_readsCompound_115 ?_
  refine g_iast (pc := 116) C hf hk12 dX8_readsCompound_116 (fun M16 hf => ?_)
  refine g_iconst (pc := 117) (v := (1 : Int32)) C dX8_readsCompound_117 (by decide) ?_
  refine g_istore_n (pc := 118) (lv2 := [(2, .int (1 : Int32)), (3, .int (r11 - (112 : Int32))), (0, .ref (Λ a0)), (1, .int x1)]) C dX8_readsCompound_118 rfl (by decide) rfl ?_
  refine g_goto (pc := 119) (tgt := 30) C dX8_readsCompound_119 (by decide) ?_
  refine g_sub [2, 3, 0] rfl ?_
  exact hK30 M16 (1 : Int32)  hf

theorem w_X8_readsCompound_L30 {p : Program} {l : Launch} {e : Env} {s : State} {m : MethodId} {args : Array Value} {below : List Frame} {meth : Method} {c : Code} {D : va_G} {cy : Nat → ClassId} {Λ : Nat → Nat} (C : Cx p s m args meth c cX8_readsCompound 4 RX8 none D cy Λ (AA Λ s.heap.size)) {a0 : Nat} {x1 : Int32}  {M9 : Mem} (hk0 : Is NN a0 9)  : ∀ (fu : Nat) (M : Mem) (x2 : Int32), m_X8_readsCompound_L30 a0 x1 fu M x2 = some M9 → GW p l e { frames := 4, cells := 0, slots := 0, locals := 85 } s m args below meth c D cy Λ 4 (QcV D cy Λ NN M9) M 30 [(0, .ref (Λ a0)), (1, .int x1), (2, .int x2)] [] := by
  intro fu
  induction fu with
  | zero =>
    intro M x2  hf
    cases hf
  | succ fu ih =>
    intro M x2  hf
    unfold m_X8_readsCompound_L30 at hf
    refine g_aload_n (pc := 30) C 0 dX8_readsCompound_30 rfl rfl ?_
    refine g_bipush (pc := 31) (v := (46 : Int32)) C dX8_readsCompound_31 (by decide) ?_
    obtain ⟨r11, h11, hf⟩ := ob hf
    refine g_resI (pc := 33) C (rnV (As := [.int (46 : Int32)]) (st := []) C (c_X8_isThis C.2.2.2.2.2.1 hk0 h11) lkX8_108 rfl (by decide) hk0 rfl rfl (Nat.le_of_ble_eq_true rfl) ⟨⟨rfl, rfl⟩, Nat.le_of_ble_eq_true rfl, Nat.le_of_ble_eq_true rfl⟩ ⟨Nat.le_of_ble_eq_true rfl, Nat.le_of_ble_eq_true rfl⟩ dX8_readsCompound_33) ?_
    refine g_if_eq (pc := 36) (tgt := 122) C hf dX8_readsCompound_36 (by decide) (fun hf => ?_) (fun hf => ?_)
    · refine g_iload_n (pc := 122) C 2 dX8_readsCompound_122 rfl rfl ?_
      refine g_if_ne (pc := 123) (tgt := 132) C hf dX8_readsCompound_123 (by decide) (fun hf => ?_) (fun hf => ?_)
      · refine g_aload_n (pc := 126) C 0 dX8_readsCompound_126 rfl rfl ?_
        refine g_iconst (pc := 127) (v := (0 : Int32)) C dX8_readsCompound_127 (by decide) ?_
        obtain ⟨r12, M12, h12, hf⟩ := ob2 hf
        refine g_resI (pc := 128) C (rnV (As := [.int (0 : Int32)]) (st := []) C (c_X8_takes C.2.2.2.2.2.1 hk0 h12) lkX8_97 rfl (by decide) hk0 rfl rfl (Nat.le_of_ble_eq_true rfl) ⟨⟨rfl, rfl⟩, Nat.le_of_ble_eq_true rfl, Nat.le_of_ble_eq_true rfl⟩ ⟨Nat.le_of_ble_eq_true rfl, Nat.le_of_ble_eq_true rfl⟩ dX8_readsCompound_128) ?_
        refine g_pop (pc := 131) C dX8_readsCompound_131 rfl ?_
        exact g_vret C hf dX8_readsCompound_132
      exact g_vret C hf dX8_readsCompound_132
    refine g_aload_n (pc := 39) C 0 dX8_readsCompound_39 rfl rfl ?_
    refine g_iconst (pc := 40) (v := (1 : Int32)) C dX8_readsCompound_40 (by decide) ?_
    obtain ⟨r13, M13, h13, hf⟩ := ob2 hf
    refine g_resI (pc := 41) C (rnV (As := [.int (1 : Int32)]) (st := []) C (c_X8_takes C.2.2.2.2.2.1 hk0 h13) lkX8_97 rfl (by decide) hk0 rfl rfl (Nat.le_of_ble_eq_true rfl) ⟨⟨rfl, rfl⟩, Nat.le_of_ble_eq_true rfl, Nat.le_of_ble_eq_true rfl⟩ ⟨Nat.le_of_ble_eq_true rfl, Nat.le_of_ble_eq_true rfl⟩ dX8_readsCompound_41) ?_
    refine g_pop (pc := 44) C dX8_readsCompound_44 rfl ?_
    refine g_aload_n (pc := 45) C 0 dX8_readsCompound_45 rfl rfl ?_
    refine g_aload_n (pc := 46) C 0 dX8_readsCompound_46 rfl rfl ?_
    refine g_bipush (pc := 47) (v := (112 : Int32)) C dX8_readsCompound_47 (by decide) ?_
    refine g_bipush (pc := 49) (v := (115 : Int32)) C dX8_readsCompound_49 (by decide) ?_
    obtain ⟨r14, h14, hf⟩ := ob hf
    refine g_resI (pc := 51) C (rnV (As := [.int (112 : Int32), .int (115 : Int32)]) (st := [.ref (Λ a0)]) C (c_X8_isFrom C.2.2.2.2.2.1 hk0 h14) lkX8_101 rfl (by decide) hk0 rfl rfl (Nat.le_of_ble_eq_true rfl) ⟨⟨rfl, rfl⟩, Nat.le_of_ble_eq_true rfl, Nat.le_of_ble_eq_true rfl⟩ ⟨Nat.le_of_ble_eq_true rfl, Nat.le_of_ble_eq_true rfl⟩ dX8_readsCompound_51) ?_
    refine g_if_eq (pc := 54) (tgt := 83) C hf dX8_readsCompound_54 (by decide) (fun hf => ?_) (fun hf => ?_)
    · refine g_iconst (pc := 83) (v := (0 : Int32)) C dX8_readsCompound_83 (by decide) ?_
      refine g_sub [0, 1] rfl ?_
      exact w_X8_readsCompound_L84 C hk0 ih M13 (0 : Int32) a0 hk0 hf
    refine g_aload_n (pc := 57) C 0 dX8_readsCompound_57 rfl rfl ?_
    refine g_getR (pc := 58) (T := 9) C hf fgX8_16 (by decide) hk0 rfl dX8_readsCompound_58 (fun a15 hk15 hf => ?_)
    refine g_bipush (pc := 61) (v := (44 : Int32)) C dX8_readsCompound_61 (by decide) ?_
    refine g_iload_n (pc := 63) C 1 dX8_readsCompound_63 rfl rfl ?_
    refine g_iadd (pc := 64) C dX8_readsCompound_64 ?_
    refine g_iald (pc := 65) C hf hk15 dX8_readsCompound_65 (fun v16 hf => ?_)
    refine g_aload_n (pc := 66) C 0 dX8_readsCompound_66 rfl rfl ?_
    refine g_getI (pc := 67) C fgX8_80 (by decide) hk0 rfl dX8_readsCompound_67 ?_
    refine g_bipush (pc := 70) (v := (112 : Int32)) C dX8_readsCompound_70 (by decide) ?_
    refine g_isub (pc := 72) C dX8_readsCompound_72 ?_
    obtain ⟨r17, h17, hf⟩ := ob hf
    refine g_resI (pc := 73) C (rnS (As := [.int v16, .int ((M13.2 a0 6) - (112 : Int32))]) (st := [.ref (Λ a0)]) C (c_X8_has C.2.2.2.2.2.1  h17) lkX8_105 rfl rfl (Nat.le_of_ble_eq_true rfl) ⟨⟨rfl, rfl⟩, Nat.le_of_ble_eq_true rfl, Nat.le_of_ble_eq_true rfl⟩ ⟨Nat.le_of_ble_eq_true rfl, Nat.le_of_ble_eq_true rfl⟩ dX8_readsCompound_73) ?_
    refine g_if_ne (pc := 76) (tgt := 83) C hf dX8_readsCompound_76 (by decide) (fun hf => ?_) (fun hf => ?_)
    · refine g_iconst (pc := 79) (v := (1 : Int32)) C dX8_readsCompound_79 (by decide) ?_
      refine g_goto (pc := 80) (tgt := 84) C dX8_readsCompound_80 (by decide) ?_
      refine g_sub [0, 1] rfl ?_
      exact w_X8_readsCompound_L84 C hk0 ih M13 (1 : Int32) a0 hk0 hf
    refine g_iconst (pc := 83) (v := (0 : Int32)) C dX8_readsCompound_83 (by decide) ?_
    refine g_sub [0, 1] rfl ?_
    exact w_X8_readsCompound_L84 C hk0 ih M13 (0 : Int32) a0 hk0 hf

theorem w_X8_readsCompound {p : Program} {l : Launch} {e : Env} {s : State} {m : MethodId} {args : Array Value} {below : List Frame} {meth : Method} {c : Code} {D : va_G} {cy : Nat → ClassId} {Λ : Nat → Nat} (C : Cx p s m args meth c cX8_readsCompound 4 RX8 none D cy Λ (AA Λ s.heap.size)) {M : Mem} {a0 : Nat} {x1 : Int32} {M9 : Mem} (hk0 : Is NN a0 9) (hf : m_X8_readsCompound M a0 x1 = some M9) : GW p l e { frames := 4, cells := 0, slots := 0, locals := 85 } s m args below meth c D cy Λ 4 (QcV D cy Λ NN M9) M 0 [(0, .ref (Λ a0)), (1, .int x1)] [] := by
  unfold m_X8_readsCompound at hf
  refine g_aload_n (pc := 0) C 0 dX8_readsCompound_0 rfl rfl ?_
  refine g_bipush (pc := 1) (v := (97 : Int32)) C dX8_readsCompound_1 (by decide) ?_
  refine g_bipush (pc := 3) (v := (100 : Int32)) C dX8_readsCompound_3 (by decide) ?_
  obtain ⟨r11, h11, hf⟩ := ob hf
  refine g_resI (pc := 5) C (rnV (As := [.int (97 : Int32), .int (100 : Int32)]) (st := []) C (c_X8_isFrom C.2.2.2.2.2.1 hk0 h11) lkX8_101 rfl (by decide) hk0 rfl rfl (Nat.le_of_ble_eq_true rfl) ⟨⟨rfl, rfl⟩, Nat.le_of_ble_eq_true rfl, Nat.le_of_ble_eq_true rfl⟩ ⟨Nat.le_of_ble_eq_true rfl, Nat.le_of_ble_eq_true rfl⟩ dX8_readsCompound_5) ?_
  refine g_istore_n (pc := 8) (lv2 := [(2, .int r11), (0, .ref (Λ a0)), (1, .int x1)]) C dX8_readsCompound_8 rfl (by decide) rfl ?_
  refine g_iload_n (pc := 9) C 0 dX8_readsCompound_9 rfl rfl ?_
  refine g_if_eq (pc := 10) (tgt := 30) C hf dX8_readsCompound_10 (by decide) (fun hf => ?_) (fun hf => ?_)
  · refine g_sub [1, 2, 0] rfl ?_
    exact w_X8_readsCompound_L30 C hk0 FU M r11  hf
  refine g_aload_n (pc := 13) C 1 dX8_readsCompound_13 rfl rfl ?_
  refine g_getR (pc := 14) (T := 9) C hf fgX8_16 (by decide) hk0 rfl dX8_readsCompound_14 (fun a12 hk12 hf => ?_)
  refine g_bipush (pc := 17) (v := (20 : Int32)) C dX8_readsCompound_17 (by decide) ?_
  refine g_iload_n (pc := 19) C 2 dX8_readsCompound_19 rfl rfl ?_
  refine g_iadd (pc := 20) C dX8_readsCompound_20 ?_
  refine g_aload_n (pc := 21) C 1 dX8_readsCompound_21 rfl rfl ?_
  refine g_iconst (pc := 22) (v := (1 : Int32)) C dX8_readsCompound_22 (by decide) ?_
  obtain ⟨r13, M13, h13, hf⟩ := ob2 hf
  refine g_resI (pc := 23) C (rnV (As := [.int (1 : Int32)]) (st := [.int ((20 : Int32) + x1), .ref (Λ a12)]) C (c_X8_takes C.2.2.2.2.2.1 hk0 h13) lkX8_97 rfl (by decide) hk0 rfl rfl (Nat.le_of_ble_eq_true rfl) ⟨⟨rfl, rfl⟩, Nat.le_of_ble_eq_true rfl, Nat.le_of_ble_eq_true rfl⟩ ⟨Nat.le_of_ble_eq_true rfl, Nat.le_of_ble_eq_true rfl⟩ dX8_readsCompound_23) ?_
  refine g_bipush (pc := 26) (v := (97 : Int32)) C dX8_readsCompound_26 (by decide) ?_
  refine g_isub (pc := 28) C dX8_readsCompound_28 ?_
  refine g_iast (pc := 29) C hf hk12 dX8_readsCompound_29 (fun M14 hf => ?_)
  refine g_sub [1, 2, 0] rfl ?_
  exact w_X8_readsCompound_L30 C hk0 FU M14 r11  hf

theorem c_X8_readsCompound {l : Launch} {D : va_G} {cy : Nat → ClassId} {Λ : Nat → Nat} (hi : ∀ i j : Nat, Λ i = Λ j → i = j) {M : Mem} {a0 : Nat} {x1 : Int32} {M9 : Mem} (hk0 : Is NN a0 9) (hf : m_X8_readsCompound M a0 x1 = some M9) : Ct l yX8_readsCompound cX8_readsCompound 4 none { frames := 4, cells := 0, slots := 0, locals := 85 } D cy Λ [.ref (Λ a0), .int x1] NN M 0 0 (QcV D cy Λ NN M9) := ent (by decide) hi (Nat.le_of_ble_eq_true rfl) (fun p e s m args below meth c C => w_X8_readsCompound C hk0 hf)
theorem w_X8_readsDeclarations_L137 {p : Program} {l : Launch} {e : Env} {s : State} {m : MethodId} {args : Array Value} {below : List Frame} {meth : Method} {c : Code} {D : va_G} {cy : Nat → ClassId} {Λ : Nat → Nat} (C : Cx p s m args meth c cX8_readsDeclarations 4 RX8 none D cy Λ (AA Λ s.heap.size)) {a0 : Nat} {x1 : Int32} {k0 : Mem → Option Mem} {M9 : Mem} (hk0 : Is NN a0 9) (hK0 : ∀ (M : Mem), k0 M = some M9 → GW p l e { frames := 4, cells := 0, slots := 0, locals := 85 } s m args below meth c D cy Λ 4 (QcV D cy Λ NN M9) M 0 [(0, .ref (Λ a0)), (1, .int x1)] []) : ∀ (M : Mem), m_X8_readsDeclarations_L137 a0 x1 k0 M = some M9 → GW p l e { frames := 4, cells := 0, slots := 0, locals := 85 } s m args below meth c D cy Λ 4 (QcV D cy Λ NN M9) M 137 [(0, .ref (Λ a0)), (1, .int x1)] [] := by
  intro M  hf
  unfold m_X8_readsDeclarations_L137 at hf
  refine g_aload_n (pc := 137) C 0 dX8_readsDeclarations_137 rfl rfl ?_
  obtain ⟨r11, h11, hf⟩ := ob hf
  refine g_resI (pc := 138) C (rnV (As := []) (st := []) C (c_X8_isWell C.2.2.2.2.2.1 hk0 h11) lkX8_90 rfl (by decide) hk0 rfl rfl (Nat.le_of_ble_eq_true rfl) ⟨⟨rfl, rfl⟩, Nat.le_of_ble_eq_true rfl, Nat.le_of_ble_eq_true rfl⟩ ⟨Nat.le_of_ble_eq_true rfl, Nat.le_of_ble_eq_true rfl⟩ dX8_readsDeclarations_138) ?_
  refine g_if_eq (pc := 141) (tgt := 160) C hf dX8_readsDeclarations_141 (by decide) (fun hf => ?_) (fun hf => ?_)
  · exact g_vret C hf dX8_readsDeclarations_160
  refine g_aload_n (pc := 144) C 0 dX8_readsDeclarations_144 rfl rfl ?_
  refine g_bipush (pc := 145) (v := (59 : Int32)) C dX8_readsDeclarations_145 (by decide) ?_
  obtain ⟨r12, h12, hf⟩ := ob hf
  refine g_resI (pc := 147) C (rnV (As := [.int (59 : Int32)]) (st := []) C (c_X8_isThis C.2.2.2.2.2.1 hk0 h12) lkX8_108 rfl (by decide) hk0 rfl rfl (Nat.le_of_ble_eq_true rfl) ⟨⟨rfl, rfl⟩, Nat.le_of_ble_eq_true rfl, Nat.le_of_ble_eq_true rfl⟩ ⟨Nat.le_of_ble_eq_true rfl, Nat.le_of_ble_eq_true rfl⟩ dX8_readsDeclarations_147) ?_
  refine g_if_ne (pc := 150) (tgt := 160) C hf dX8_readsDeclarations_150 (by decide) (fun hf => ?_) (fun hf => ?_)
  · refine g_aload_n (pc := 153) C 0 dX8_readsDeclarations_153 rfl rfl ?_
    refine g_getI (pc := 154) C fgX8_77 (by decide) hk0 rfl dX8_readsDeclarations_154 ?_
    refine g_if_ne (pc := 157) (tgt := 0) C hf dX8_readsDeclarations_157 (by decide) (fun hf => ?_) (fun hf => ?_)
    · exact g_vret C hf dX8_readsDeclarations_160
    exact hK0 M  hf
  exact g_vret C hf dX8_readsDeclarations_160

theorem w_X8_readsDeclarations_L67 {p : Program} {l : Launch} {e : Env} {s : State} {m : MethodId} {args : Array Value} {below : List Frame} {meth : Method} {c : Code} {D : va_G} {cy : Nat → ClassId} {Λ : Nat → Nat} (C : Cx p s m args meth c cX8_readsDeclarations 4 RX8 none D cy Λ (AA Λ s.heap.size)) {a0 : Nat} {x1 : Int32} {k0 : Mem → Option Mem} {M9 : Mem} (hk0 : Is NN a0 9) (hK0 : ∀ (M : Mem), k0 M = some M9 → GW p l e { frames := 4, cells := 0, slots := 0, locals := 85 } s m args below meth c D cy Λ 4 (QcV D cy Λ NN M9) M 0 [(0, .ref (Λ a0)), (1, .int x1)] []) : ∀ (M : Mem) (x2 : Int32) (s0 : Int32) (g1 : Nat), Is NN g1 9 → m_X8_readsDeclarations_L67 a0 x1 k0 M x2 s0 g1 = some M9 → GW p l e { frames := 4, cells := 0, slots := 0, locals := 85 } s m args below meth c D cy Λ 4 (QcV D cy Λ NN M9) M 67 [(0, .ref (Λ a0)), (1, .int x1), (2, .int x2)] [.int s0, .ref (Λ g1)] := by
  intro M x2 s0 g1 hk_g1 hf
  unfold m_X8_readsDeclarations_L67 at hf
  obtain ⟨r11, M11, h11, hf⟩ := ob2 hf
  refine g_resI (pc := 67) C (rnV (As := [.int s0]) (st := []) C (c_X8_takes C.2.2.2.2.2.1 hk_g1 h11) lkX8_97 rfl (by decide) hk_g1 rfl rfl (Nat.le_of_ble_eq_true rfl) ⟨⟨rfl, rfl⟩, Nat.le_of_ble_eq_true rfl, Nat.le_of_ble_eq_true rfl⟩ ⟨Nat.le_of_ble_eq_true rfl, Nat.le_of_ble_eq_true rfl⟩ dX8_readsDeclarations_67) ?_
  refine g_istore_n (pc := 70) (lv2 := [(3, .int r11), (0, .ref (Λ a0)), (1, .int x1), (2, .int x2)]) C dX8_readsDeclarations_70 rfl (by decide) rfl ?_
  refine g_aload_n (pc := 71) C 1 dX8_readsDeclarations_71 rfl rfl ?_
  obtain ⟨r12, h12, hf⟩ := ob hf
  refine g_resI (pc := 72) C (rnV (As := []) (st := []) C (c_X8_isWell C.2.2.2.2.2.1 hk0 h12) lkX8_90 rfl (by decide) hk0 rfl rfl (Nat.le_of_ble_eq_true rfl) ⟨⟨rfl, rfl⟩, Nat.le_of_ble_eq_true rfl, Nat.le_of_ble_eq_true rfl⟩ ⟨Nat.le_of_ble_eq_true rfl, Nat.le_of_ble_eq_true rfl⟩ dX8_readsDeclarations_72) ?_
  refine g_if_eq (pc := 75) (tgt := 137) C hf dX8_readsDeclarations_75 (by decide) (fun hf => ?_) (fun hf => ?_)
  · refine g_sub [1, 2] rfl ?_
    exact w_X8_readsDeclarations_L137 C hk0 hK0 M11  hf
  refine g_aload_n (pc := 78) C 1 dX8_readsDeclarations_78 rfl rfl ?_
  refine g_getR (pc := 79) (T := 9) C hf fgX8_16 (by decide) hk0 rfl dX8_readsDeclarations_79 (fun a13 hk13 hf => ?_)
  refine g_bipush (pc := 82) (v := (92 : Int32)) C dX8_readsDeclarations_82 (by decide) ?_
  refine g_iload_n (pc := 84) C 2 dX8_readsDeclarations_84 rfl rfl ?_
  refine g_iadd (pc := 85) C dX8_readsDeclarations_85 ?_
  refine g_dup2 (pc := 86) C dX8_readsDeclarations_86 rfl rfl ?_
  refine g_iald (pc := 87) C hf hk13 dX8_readsDeclarations_87 (fun v14 hf => ?_)
  refine g_iconst (pc := 88) (v := (1 : Int32)) C dX8_readsDeclarations_88 (by decide) ?_
  refine g_iload_n (pc := 89) C 3 dX8_readsDeclarations_89 rfl rfl ?_
  refine g_ishl (pc := 90) C dX8_readsDeclarations_90 ?_
  refine g_ior (pc := 91) C dX8_readsDeclarations_91 ?_
  refine g_iast (pc := 92) C hf hk13 dX8_readsDeclarations_92 (fun M15 hf => ?_)
  refine g_aload_n (pc := 93) C 1 dX8_readsDeclarations_93 rfl rfl ?_
  refine g_getR (pc := 94) (T := 9) C hf fgX8_16 (by decide) hk0 rfl dX8_readsDeclarations_94 (fun a16 hk16 hf => ?_)
  refine g_bipush (pc := 97) (v := (108 : Int32)) C dX8_readsDeclarations_97 (by decide) ?_
  refine g_iconst (pc := 99) (v := (4 : Int32)) C dX8_readsDeclarations_99 (by decide) ?_
  refine g_iload_n (pc := 100) C 2 dX8_readsDeclarations_100 rfl rfl ?_
  refine g_imul (pc := 101) C dX8_readsDeclarations_101 ?_
  refine g_iadd (pc := 102) C dX8_readsDeclarations_102 ?_
  refine g_iload_n (pc := 103) C 3 dX8_readsDeclarations_103 rfl rfl ?_
  refine g_iadd (pc := 104) C dX8_readsDeclarations_104 ?_
  refine g_iload_n (pc := 105) C 0 dX8_readsDeclarations_105 rfl rfl ?_
  refine g_iast (pc := 106) C hf hk16 dX8_readsDeclarations_106 (fun M17 hf => ?_)
  refine g_aload_n (pc := 107) C 1 dX8_readsDeclarations_107 rfl rfl ?_
  refine g_bipush (pc := 108) (v := (33 : Int32)) C dX8_readsDeclarations_108 (by decide) ?_
  obtain ⟨r18, h18, hf⟩ := ob hf
  refine g_resI (pc := 110) C (rnV (As := [.int (33 : Int32)]) (st := []) C (c_X8_isThis C.2.2.2.2.2.1 hk0 h18) lkX8_108 rfl (by decide) hk0 rfl rfl (Nat.le_of_ble_eq_true rfl) ⟨⟨rfl, rfl⟩, Nat.le_of_ble_eq_true rfl, Nat.le_of_ble_eq_true rfl⟩ ⟨Nat.le_of_ble_eq_true rfl, Nat.le_of_ble_eq_true rfl⟩ dX8_readsDeclarations_110) ?_
  refine g_if_eq (pc := 113) (tgt := 137) C hf dX8_readsDeclarations_113 (by decide) (fun hf => ?_) (fun hf => ?_)
  · refine g_sub [1, 2] rfl ?_
    exact w_X8_readsDeclarations_L137 C hk0 hK0 M17  hf
  refine g_aload_n (pc := 116) C 1 dX8_readsDeclarations_116 rfl rfl ?_
  refine g_iconst (pc := 117) (v := (1 : Int32)) C dX8_readsDeclarations_117 (by decide) ?_
  obtain ⟨r19, M19, h19, hf⟩ := ob2 hf
  refine g_resI (pc := 118) C (rnV (As := [.int (1 : Int32)]) (st := []) C (c_X8_takes C.2.2.2.2.2.1 hk0 h19) lkX8_97 rfl (by decide) hk0 rfl rfl (Nat.le_of_ble_eq_true rfl) ⟨⟨rfl, rfl⟩, Nat.le_of_ble_eq_true rfl, Nat.le_of_ble_eq_true rfl⟩ ⟨Nat.le_of_ble_eq_true rfl, Nat.le_of_ble_eq_true rfl⟩ dX8_readsDeclarations_118) ?_
  refine g_pop (pc := 121) C dX8_readsDeclarations_121 rfl ?_
  refine g_aload_n (pc := 122) C 1 dX8_readsDeclarations_122 rfl rfl ?_
  refine g_getR (pc := 123) (T := 9) C hf fgX8_16 (by decide) hk0 rfl dX8_readsDeclarations_123 (fun a20 hk20 hf => ?_)
  refine g_bipush (pc := 126) (v := (100 : Int32)) C dX8_readsDeclarations_126 (by decide) ?_
  refine g_iload_n (pc := 128) C 2 dX8_readsDeclarations_128 rfl rfl ?_
  refine g_iadd (pc := 129) C dX8_readsDeclarations_129 ?_
  refine g_dup2 (pc := 130) C dX8_readsDeclarations_130 rfl rfl ?_
  refine g_iald (pc := 131) C hf hk20 dX8_readsDeclarations_131 (fun v21 hf => ?_)
  refine g_iconst (pc := 132) (v := (1 : Int32)) C dX8_readsDeclarations_132 (by decide) ?_
  refine g_iload_n (pc := 133) C 3 dX8_readsDeclarations_133 rfl rfl ?_
  refine g_ishl (pc := 134) C dX8_readsDeclarations_134 ?_
  refine g_ior (pc := 135) C dX8_readsDeclarations_135 ?_
  refine g_iast (pc := 136) C hf hk20 dX8_readsDeclarations_136 (fun M22 hf => ?_)
  refine g_sub [1, 2] rfl ?_
  exact w_X8_readsDeclarations_L137 C hk0 hK0 M22  hf

theorem w_X8_readsDeclarations_L39 {p : Program} {l : Launch} {e : Env} {s : State} {m : MethodId} {args : Array Value} {below : List Frame} {meth : Method} {c : Code} {D : va_G} {cy : Nat → ClassId} {Λ : Nat → Nat} (C : Cx p s m args meth c cX8_readsDeclarations 4 RX8 none D cy Λ (AA Λ s.heap.size)) {a0 : Nat} {x1 : Int32} {k0 : Mem → Option Mem} {M9 : Mem} (hk0 : Is NN a0 9) (hK0 : ∀ (M : Mem), k0 M = some M9 → GW p l e { frames := 4, cells := 0, slots := 0, locals := 85 } s m args below meth c D cy Λ 4 (QcV D cy Λ NN M9) M 0 [(0, .ref (Λ a0)), (1, .int x1)] []) : ∀ (M : Mem) (s0 : Int32) (g1 : Nat), Is NN g1 9 → m_X8_readsDeclarations_L39 a0 x1 k0 M s0 g1 = some M9 → GW p l e { frames := 4, cells := 0, slots := 0, locals := 85 } s m args below meth c D cy Λ 4 (QcV D cy Λ NN M9) M 39 [(0, .ref (Λ a0)), (1, .int x1)] [.int s0, .ref (Λ g1)] := by
  intro M s0 g1 hk_g1 hf
  unfold m_X8_readsDeclarations_L39 at hf
  obtain ⟨r11, M11, h11, hf⟩ := ob2 hf
  refine g_resI (pc := 39) C (rnV (As := [.int s0]) (st := []) C (c_X8_takes C.2.2.2.2.2.1 hk_g1 h11) lkX8_97 rfl (by decide) hk_g1 rfl rfl (Nat.le_of_ble_eq_true rfl) ⟨⟨rfl, rfl⟩, Nat.le_of_ble_eq_true rfl, Nat.le_of_ble_eq_true rfl⟩ ⟨Nat.le_of_ble_eq_true rfl, Nat.le_of_ble_eq_true rfl⟩ dX8_readsDeclarations_39) ?_
  refine g_bipush (pc := 42) (v := (119 : Int32)) C dX8_readsDeclarations_42 (by decide) ?_
  refine g_isub (pc := 44) C dX8_readsDeclarations_44 ?_
  refine g_istore_n (pc := 45) (lv2 := [(2, .int (r11 - (119 : Int32))), (0, .ref (Λ a0)), (1, .int x1)]) C dX8_readsDeclarations_45 rfl (by decide) rfl ?_
  refine g_aload_n (pc := 46) C 1 dX8_readsDeclarations_46 rfl rfl ?_
  refine g_aload_n (pc := 47) C 1 dX8_readsDeclarations_47 rfl rfl ?_
  obtain ⟨r12, h12, hf⟩ := ob hf
  refine g_resI (pc := 48) C (rnV (As := []) (st := [.ref (Λ a0)]) C (c_X8_isWell C.2.2.2.2.2.1 hk0 h12) lkX8_90 rfl (by decide) hk0 rfl rfl (Nat.le_of_ble_eq_true rfl) ⟨⟨rfl, rfl⟩, Nat.le_of_ble_eq_true rfl, Nat.le_of_ble_eq_true rfl⟩ ⟨Nat.le_of_ble_eq_true rfl, Nat.le_of_ble_eq_true rfl⟩ dX8_readsDeclarations_48) ?_
  refine g_if_eq (pc := 51) (tgt := 66) C hf dX8_readsDeclarations_51 (by decide) (fun hf => ?_) (fun hf => ?_)
  · refine g_iconst (pc := 66) (v := (0 : Int32)) C dX8_readsDeclarations_66 (by decide) ?_
    refine g_sub [1, 2, 0] rfl ?_
    exact w_X8_readsDeclarations_L67 C hk0 hK0 M11 (r11 - (119 : Int32)) (0 : Int32) a0 hk0 hf
  refine g_aload_n (pc := 54) C 1 dX8_readsDeclarations_54 rfl rfl ?_
  refine g_getI (pc := 55) C fgX8_77 (by decide) hk0 rfl dX8_readsDeclarations_55 ?_
  refine g_iconst (pc := 58) (v := (2 : Int32)) C dX8_readsDeclarations_58 (by decide) ?_
  refine g_ic_ne (pc := 59) (tgt := 66) C hf dX8_readsDeclarations_59 (by decide) (fun hf => ?_) (fun hf => ?_)
  · refine g_iconst (pc := 62) (v := (1 : Int32)) C dX8_readsDeclarations_62 (by decide) ?_
    refine g_goto (pc := 63) (tgt := 67) C dX8_readsDeclarations_63 (by decide) ?_
    refine g_sub [1, 2, 0] rfl ?_
    exact w_X8_readsDeclarations_L67 C hk0 hK0 M11 (r11 - (119 : Int32)) (1 : Int32) a0 hk0 hf
  refine g_iconst (pc := 66) (v := (0 : Int32)) C dX8_readsDeclarations_66 (by decide) ?_
  refine g_sub [1, 2, 0] rfl ?_
  exact w_X8_readsDeclarations_L67 C hk0 hK0 M11 (r11 - (119 : Int32)) (0 : Int32) a0 hk0 hf
