theorem w_X7_within {p : Program} {l : Launch} {e : Env} {s : State} {m : MethodId} {args : Array Value} {below : List Frame} {meth : Method} {c : Code} {D : va_G} {cy : Nat → ClassId} {Λ : Nat → Nat} (C : Cx p s m args meth c cX7_within 2 RX7 (some .boolean) D cy Λ (AA Λ s.heap.size)) {M : Mem} {x0 : Int32} {x1 : Int32} {r9 : Int32}  (hf : m_X7_within x0 x1 = some r9) : GW p l e { frames := 0, cells := 0, slots := 0, locals := 0 } s m args below meth c D cy Λ 2 (QcI D cy Λ NN r9 M) M 0 [(0, .int x0), (1, .int x1)] [] := by
  unfold m_X7_within at hf
  refine g_iload_n (pc := 0) C 0 dX7_within_0 rfl rfl ?_
  refine g_if_lt (pc := 1) (tgt := 13) C hf dX7_within_1 (by decide) (fun hf => ?_) (fun hf => ?_)
  · refine g_iconst (pc := 13) (v := (0 : Int32)) C dX7_within_13 (by decide) ?_
    exact g_zret C (by decide) hf dX7_within_14
  refine g_iload_n (pc := 4) C 0 dX7_within_4 rfl rfl ?_
  refine g_iload_n (pc := 5) C 1 dX7_within_5 rfl rfl ?_
  refine g_ic_ge (pc := 6) (tgt := 13) C hf dX7_within_6 (by decide) (fun hf => ?_) (fun hf => ?_)
  · refine g_iconst (pc := 13) (v := (0 : Int32)) C dX7_within_13 (by decide) ?_
    exact g_zret C (by decide) hf dX7_within_14
  refine g_iconst (pc := 9) (v := (1 : Int32)) C dX7_within_9 (by decide) ?_
  refine g_goto (pc := 10) (tgt := 14) C dX7_within_10 (by decide) ?_
  exact g_zret C (by decide) hf dX7_within_14

theorem c_X7_within {l : Launch} {D : va_G} {cy : Nat → ClassId} {Λ : Nat → Nat} (hi : ∀ i j : Nat, Λ i = Λ j → i = j) {M : Mem} {x0 : Int32} {x1 : Int32} {r9 : Int32}  (hf : m_X7_within x0 x1 = some r9) : Ct l yX7_within cX7_within 2 (some .boolean) { frames := 0, cells := 0, slots := 0, locals := 0 } D cy Λ [.int x0, .int x1] NN M 0 0 (QcI D cy Λ NN r9 M) := ent (by decide) hi (Nat.le_of_ble_eq_true rfl) (fun p e s m args below meth c C => w_X7_within C  hf)
theorem w_X7_type {p : Program} {l : Launch} {e : Env} {s : State} {m : MethodId} {args : Array Value} {below : List Frame} {meth : Method} {c : Code} {D : va_G} {cy : Nat → ClassId} {Λ : Nat → Nat} (C : Cx p s m args meth c cX7_type 2 RX7 (some .int) D cy Λ (AA Λ s.heap.size)) {M : Mem} {a0 : Nat} {x1 : Int32} {r9 : Int32} {M9 : Mem} (hk0 : Is NN a0 8) (hf : m_X7_type M a0 x1 = some (r9, M9)) : GW p l e { frames := 1, cells := 0, slots := 0, locals := 21 } s m args below meth c D cy Λ 2 (QcI D cy Λ NN r9 M9) M 0 [(0, .ref (Λ a0)), (1, .int x1)] [] := by
  unfold m_X7_type at hf
  refine g_iload_n (pc := 0) C 1 dX7_type_0 rfl rfl ?_
  refine g_sipush (pc := 1) (v := (256 : Int32)) C dX7_type_1 (by decide) ?_
  obtain ⟨r11, h11, hf⟩ := ob hf
  refine g_resI (pc := 4) C (rnS (As := [.int x1, .int (256 : Int32)]) (st := []) C (c_X7_within C.2.2.2.2.2.1  h11) lkX7_76 rfl rfl (Nat.le_of_ble_eq_true rfl) ⟨⟨rfl, rfl⟩, Nat.le_of_ble_eq_true rfl, Nat.le_of_ble_eq_true rfl⟩ ⟨Nat.le_of_ble_eq_true rfl, Nat.le_of_ble_eq_true rfl⟩ dX7_type_4) ?_
  refine g_if_ne (pc := 7) (tgt := 13) C hf dX7_type_7 (by decide) (fun hf => ?_) (fun hf => ?_)
  · refine g_bipush (pc := 10) (v := (-2 : Int32)) C dX7_type_10 (by decide) ?_
    exact g_iretM C hf dX7_type_12
  refine g_aload_n (pc := 13) C 0 dX7_type_13 rfl rfl ?_
  refine g_getI (pc := 14) C fgX7_13 (by decide) hk0 rfl dX7_type_14 ?_
  refine g_bipush (pc := 17) (v := (120 : Int32)) C dX7_type_17 (by decide) ?_
  obtain ⟨r12, h12, hf⟩ := ob hf
  refine g_resI (pc := 19) C (rnS (As := [.int (M.2 a0 1), .int (120 : Int32)]) (st := []) C (c_X7_within C.2.2.2.2.2.1  h12) lkX7_76 rfl rfl (Nat.le_of_ble_eq_true rfl) ⟨⟨rfl, rfl⟩, Nat.le_of_ble_eq_true rfl, Nat.le_of_ble_eq_true rfl⟩ ⟨Nat.le_of_ble_eq_true rfl, Nat.le_of_ble_eq_true rfl⟩ dX7_type_19) ?_
  refine g_if_ne (pc := 22) (tgt := 28) C hf dX7_type_22 (by decide) (fun hf => ?_) (fun hf => ?_)
  · refine g_bipush (pc := 25) (v := (-4 : Int32)) C dX7_type_25 (by decide) ?_
    exact g_iretM C hf dX7_type_27
  refine g_aload_n (pc := 28) C 0 dX7_type_28 rfl rfl ?_
  refine g_getR (pc := 29) (T := 10) C hf fgX7_9 (by decide) hk0 rfl dX7_type_29 (fun a13 hk13 hf => ?_)
  refine g_aload_n (pc := 32) C 0 dX7_type_32 rfl rfl ?_
  refine g_getI (pc := 33) C fgX7_13 (by decide) hk0 rfl dX7_type_33 ?_
  refine g_iload_n (pc := 36) C 1 dX7_type_36 rfl rfl ?_
  refine g_i2c (pc := 37) C dX7_type_37 ?_
  refine g_cast (pc := 38) C hf hk13 dX7_type_38 (fun M14 hf => ?_)
  refine g_aload_n (pc := 39) C 0 dX7_type_39 rfl rfl ?_
  refine g_dup (pc := 40) C dX7_type_40 rfl ?_
  refine g_getI (pc := 41) C fgX7_13 (by decide) hk0 rfl dX7_type_41 ?_
  refine g_iconst (pc := 44) (v := (1 : Int32)) C dX7_type_44 (by decide) ?_
  refine g_iadd (pc := 45) C dX7_type_45 ?_
  refine g_pI (pc := 46) C hf fpX7_13 (by decide) hk0 stX7_1 (Nat.le_of_ble_eq_true rfl) rfl rfl dX7_type_46 (fun M15 hf => ?_)
  refine g_aload_n (pc := 49) C 0 dX7_type_49 rfl rfl ?_
  refine g_getI (pc := 50) C fgX7_13 (by decide) hk0 rfl dX7_type_50 ?_
  exact g_iretM C hf dX7_type_53

theorem c_X7_type {l : Launch} {D : va_G} {cy : Nat → ClassId} {Λ : Nat → Nat} (hi : ∀ i j : Nat, Λ i = Λ j → i = j) {M : Mem} {a0 : Nat} {x1 : Int32} {r9 : Int32} {M9 : Mem} (hk0 : Is NN a0 8) (hf : m_X7_type M a0 x1 = some (r9, M9)) : Ct l yX7_type cX7_type 2 (some .int) { frames := 1, cells := 0, slots := 0, locals := 21 } D cy Λ [.ref (Λ a0), .int x1] NN M 0 0 (QcI D cy Λ NN r9 M9) := ent (by decide) hi (Nat.le_of_ble_eq_true rfl) (fun p e s m args below meth c C => w_X7_type C hk0 hf)
theorem w_X7_clear {p : Program} {l : Launch} {e : Env} {s : State} {m : MethodId} {args : Array Value} {below : List Frame} {meth : Method} {c : Code} {D : va_G} {cy : Nat → ClassId} {Λ : Nat → Nat} (C : Cx p s m args meth c cX7_clear 2 RX7 (some .int) D cy Λ (AA Λ s.heap.size)) {M : Mem} {a0 : Nat} {r9 : Int32} {M9 : Mem} (hk0 : Is NN a0 8) (hf : m_X7_clear M a0 = some (r9, M9)) : GW p l e { frames := 0, cells := 0, slots := 0, locals := 0 } s m args below meth c D cy Λ 2 (QcI D cy Λ NN r9 M9) M 0 [(0, .ref (Λ a0))] [] := by
  unfold m_X7_clear at hf
  refine g_aload_n (pc := 0) C 0 dX7_clear_0 rfl rfl ?_
  refine g_getI (pc := 1) C fgX7_13 (by decide) hk0 rfl dX7_clear_1 ?_
  refine g_istore_n (pc := 4) (lv2 := [(1, .int (M.2 a0 1)), (0, .ref (Λ a0))]) C dX7_clear_4 rfl (by decide) rfl ?_
  refine g_aload_n (pc := 5) C 1 dX7_clear_5 rfl rfl ?_
  refine g_iconst (pc := 6) (v := (0 : Int32)) C dX7_clear_6 (by decide) ?_
  refine g_pI (pc := 7) C hf fpX7_13 (by decide) hk0 stX7_1 (Nat.le_of_ble_eq_true rfl) rfl rfl dX7_clear_7 (fun M11 hf => ?_)
  refine g_iload_n (pc := 10) C 0 dX7_clear_10 rfl rfl ?_
  exact g_iretM C hf dX7_clear_11

theorem c_X7_clear {l : Launch} {D : va_G} {cy : Nat → ClassId} {Λ : Nat → Nat} (hi : ∀ i j : Nat, Λ i = Λ j → i = j) {M : Mem} {a0 : Nat} {r9 : Int32} {M9 : Mem} (hk0 : Is NN a0 8) (hf : m_X7_clear M a0 = some (r9, M9)) : Ct l yX7_clear cX7_clear 2 (some .int) { frames := 0, cells := 0, slots := 0, locals := 0 } D cy Λ [.ref (Λ a0)] NN M 0 0 (QcI D cy Λ NN r9 M9) := ent (by decide) hi (Nat.le_of_ble_eq_true rfl) (fun p e s m args below meth c C => w_X7_clear C hk0 hf)
theorem w_X4_empty {p : Program} {l : Launch} {e : Env} {s : State} {m : MethodId} {args : Array Value} {below : List Frame} {meth : Method} {c : Code} {D : va_G} {cy : Nat → ClassId} {Λ : Nat → Nat} (C : Cx p s m args meth c cX4_empty 1 RX4 none D cy Λ (AA Λ s.heap.size)) {M : Mem} {a0 : Nat} {M9 : Mem} (hk0 : Is NN a0 5) (hf : m_X4_empty M a0 = some M9) : GW p l e { frames := 0, cells := 0, slots := 0, locals := 0 } s m args below meth c D cy Λ 1 (QcV D cy Λ NN M9) M 0 [(0, .ref (Λ a0))] [] := by
  unfold m_X4_empty at hf
  refine g_aload_n (pc := 0) C 0 dX4_empty_0 rfl rfl ?_
  refine g_iconst (pc := 1) (v := (0 : Int32)) C dX4_empty_1 (by decide) ?_
  refine g_pI (pc := 2) C hf fpX4_9 (by decide) hk0 stX4_0 (Nat.le_of_ble_eq_true rfl) rfl rfl dX4_empty_2 (fun M11 hf => ?_)
  refine g_aload_n (pc := 5) C 0 dX4_empty_5 rfl rfl ?_
  refine g_iconst (pc := 6) (v := (0 : Int32)) C dX4_empty_6 (by decide) ?_
  refine g_pI (pc := 7) C hf fpX4_15 (by decide) hk0 stX4_1 (Nat.le_of_ble_eq_true rfl) rfl rfl dX4_empty_7 (fun M12 hf => ?_)
  refine g_aload_n (pc := 10) C 0 dX4_empty_10 rfl rfl ?_
  refine g_getR (pc := 11) (T := 1) C hf fgX4_28 (by decide) hk0 rfl dX4_empty_11 (fun a13 hk13 hf => ?_)
  refine g_iconst (pc := 14) (v := (0 : Int32)) C dX4_empty_14 (by decide) ?_
  refine g_pI (pc := 15) C hf fpX4_39 (by decide) hk13 stX1_2 (Nat.le_of_ble_eq_true rfl) rfl rfl dX4_empty_15 (fun M14 hf => ?_)
  exact g_vret C hf dX4_empty_18

theorem c_X4_empty {l : Launch} {D : va_G} {cy : Nat → ClassId} {Λ : Nat → Nat} (hi : ∀ i j : Nat, Λ i = Λ j → i = j) {M : Mem} {a0 : Nat} {M9 : Mem} (hk0 : Is NN a0 5) (hf : m_X4_empty M a0 = some M9) : Ct l yX4_empty cX4_empty 1 none { frames := 0, cells := 0, slots := 0, locals := 0 } D cy Λ [.ref (Λ a0)] NN M 0 0 (QcV D cy Λ NN M9) := ent (by decide) hi (Nat.le_of_ble_eq_true rfl) (fun p e s m args below meth c C => w_X4_empty C hk0 hf)
theorem w_X2_isDigitAt {p : Program} {l : Launch} {e : Env} {s : State} {m : MethodId} {args : Array Value} {below : List Frame} {meth : Method} {c : Code} {D : va_G} {cy : Nat → ClassId} {Λ : Nat → Nat} (C : Cx p s m args meth c cX2_isDigitAt 2 RX2 (some .boolean) D cy Λ (AA Λ s.heap.size)) {M : Mem} {a0 : Nat} {x1 : Int32} {r9 : Int32} (hk0 : Is NN a0 3) (hf : m_X2_isDigitAt M a0 x1 = some r9) : GW p l e { frames := 0, cells := 0, slots := 0, locals := 0 } s m args below meth c D cy Λ 2 (QcI D cy Λ NN r9 M) M 0 [(0, .ref (Λ a0)), (1, .int x1)] [] := by
  unfold m_X2_isDigitAt at hf
  refine g_iload_n (pc := 0) C 1 dX2_isDigitAt_0 rfl rfl ?_
  refine g_aload_n (pc := 1) C 0 dX2_isDigitAt_1 rfl rfl ?_
  refine g_getI (pc := 2) C fgX2_15 (by decide) hk0 rfl dX2_isDigitAt_2 ?_
  refine g_ic_ge (pc := 5) (tgt := 34) C hf dX2_isDigitAt_5 (by decide) (fun hf => ?_) (fun hf => ?_)
  · refine g_iconst (pc := 34) (v := (0 : Int32)) C dX2_isDigitAt_34 (by decide) ?_
    exact g_zret C (by decide) hf dX2_isDigitAt_35
  refine g_aload_n (pc := 8) C 0 dX2_isDigitAt_8 rfl rfl ?_
  refine g_getR (pc := 9) (T := 10) C hf fgX2_9 (by decide) hk0 rfl dX2_isDigitAt_9 (fun a11 hk11 hf => ?_)
  refine g_iload_n (pc := 12) C 1 dX2_isDigitAt_12 rfl rfl ?_
  refine g_cald (pc := 13) C hf hk11 dX2_isDigitAt_13 (fun v12 hf => ?_)
  refine g_bipush (pc := 14) (v := (48 : Int32)) C dX2_isDigitAt_14 (by decide) ?_
  refine g_ic_lt (pc := 16) (tgt := 34) C hf dX2_isDigitAt_16 (by decide) (fun hf => ?_) (fun hf => ?_)
  · refine g_iconst (pc := 34) (v := (0 : Int32)) C dX2_isDigitAt_34 (by decide) ?_
    exact g_zret C (by decide) hf dX2_isDigitAt_35
  refine g_aload_n (pc := 19) C 0 dX2_isDigitAt_19 rfl rfl ?_
  refine g_getR (pc := 20) (T := 10) C hf fgX2_9 (by decide) hk0 rfl dX2_isDigitAt_20 (fun a13 hk13 hf => ?_)
  refine g_iload_n (pc := 23) C 1 dX2_isDigitAt_23 rfl rfl ?_
  refine g_cald (pc := 24) C hf hk13 dX2_isDigitAt_24 (fun v14 hf => ?_)
  refine g_bipush (pc := 25) (v := (57 : Int32)) C dX2_isDigitAt_25 (by decide) ?_
  refine g_ic_gt (pc := 27) (tgt := 34) C hf dX2_isDigitAt_27 (by decide) (fun hf => ?_) (fun hf => ?_)
  · refine g_iconst (pc := 34) (v := (0 : Int32)) C dX2_isDigitAt_34 (by decide) ?_
    exact g_zret C (by decide) hf dX2_isDigitAt_35
  refine g_iconst (pc := 30) (v := (1 : Int32)) C dX2_isDigitAt_30 (by decide) ?_
  refine g_goto (pc := 31) (tgt := 35) C dX2_isDigitAt_31 (by decide) ?_
  exact g_zret C (by decide) hf dX2_isDigitAt_35

theorem c_X2_isDigitAt {l : Launch} {D : va_G} {cy : Nat → ClassId} {Λ : Nat → Nat} (hi : ∀ i j : Nat, Λ i = Λ j → i = j) {M : Mem} {a0 : Nat} {x1 : Int32} {r9 : Int32} (hk0 : Is NN a0 3) (hf : m_X2_isDigitAt M a0 x1 = some r9) : Ct l yX2_isDigitAt cX2_isDigitAt 2 (some .boolean) { frames := 0, cells := 0, slots := 0, locals := 0 } D cy Λ [.ref (Λ a0), .int x1] NN M 0 0 (QcI D cy Λ NN r9 M) := ent (by decide) hi (Nat.le_of_ble_eq_true rfl) (fun p e s m args below meth c C => w_X2_isDigitAt C hk0 hf)
theorem w_X2_advance_L86 {p : Program} {l : Launch} {e : Env} {s : State} {m : MethodId} {args : Array Value} {below : List Frame} {meth : Method} {c : Code} {D : va_G} {cy : Nat → ClassId} {Λ : Nat → Nat} (C : Cx p s m args meth c cX2_advance 1 RX2 none D cy Λ (AA Λ s.heap.size)) {a0 : Nat}  {M9 : Mem} (hk0 : Is NN a0 3)  : ∀ (fu : Nat) (M : Mem), m_X2_advance_L86 a0 fu M = some M9 → GW p l e { frames := 1, cells := 0, slots := 0, locals := 21 } s m args below meth c D cy Λ 1 (QcV D cy Λ NN M9) M 86 [(0, .ref (Λ a0))] [] := by
  intro fu
  induction fu with
  | zero =>
    intro M  hf
    cases hf
  | succ fu ih =>
    intro M  hf
    unfold m_X2_advance_L86 at hf
    refine g_aload_n (pc := 86) C 0 dX2_advance_86 rfl rfl ?_
    refine g_getI (pc := 87) C fgX2_19 (by decide) hk0 rfl dX2_advance_87 ?_
    refine g_aload_n (pc := 90) C 0 dX2_advance_90 rfl rfl ?_
    refine g_getI (pc := 91) C fgX2_15 (by decide) hk0 rfl dX2_advance_91 ?_
    refine g_ic_ge (pc := 94) (tgt := 138) C hf dX2_advance_94 (by decide) (fun hf => ?_) (fun hf => ?_)
    · exact g_vret C hf dX2_advance_138
    refine g_aload_n (pc := 97) C 0 dX2_advance_97 rfl rfl ?_
    refine g_aload_n (pc := 98) C 0 dX2_advance_98 rfl rfl ?_
    refine g_getI (pc := 99) C fgX2_22 (by decide) hk0 rfl dX2_advance_99 ?_
    obtain ⟨r11, h11, hf⟩ := ob hf
    refine g_resI (pc := 102) C (rnV (As := [.int (M.2 a0 3)]) (st := []) C (c_X2_isDigitAt C.2.2.2.2.2.1 hk0 h11) lkX2_54 rfl (by decide) hk0 rfl rfl (Nat.le_of_ble_eq_true rfl) ⟨⟨rfl, rfl⟩, Nat.le_of_ble_eq_true rfl, Nat.le_of_ble_eq_true rfl⟩ ⟨Nat.le_of_ble_eq_true rfl, Nat.le_of_ble_eq_true rfl⟩ dX2_advance_102) ?_
    refine g_if_eq (pc := 105) (tgt := 138) C hf dX2_advance_105 (by decide) (fun hf => ?_) (fun hf => ?_)
    · exact g_vret C hf dX2_advance_138
    refine g_aload_n (pc := 108) C 0 dX2_advance_108 rfl rfl ?_
    refine g_aload_n (pc := 109) C 0 dX2_advance_109 rfl rfl ?_
    refine g_getI (pc := 110) C fgX2_19 (by decide) hk0 rfl dX2_advance_110 ?_
    obtain ⟨r12, h12, hf⟩ := ob hf
    refine g_resI (pc := 113) C (rnV (As := [.int (M.2 a0 2)]) (st := []) C (c_X2_isDigitAt C.2.2.2.2.2.1 hk0 h12) lkX2_54 rfl (by decide) hk0 rfl rfl (Nat.le_of_ble_eq_true rfl) ⟨⟨rfl, rfl⟩, Nat.le_of_ble_eq_true rfl, Nat.le_of_ble_eq_true rfl⟩ ⟨Nat.le_of_ble_eq_true rfl, Nat.le_of_ble_eq_true rfl⟩ dX2_advance_113) ?_
    refine g_if_eq (pc := 116) (tgt := 138) C hf dX2_advance_116 (by decide) (fun hf => ?_) (fun hf => ?_)
    · exact g_vret C hf dX2_advance_138
    refine g_aload_n (pc := 119) C 0 dX2_advance_119 rfl rfl ?_
    refine g_bipush (pc := 120) (v := (-2 : Int32)) C dX2_advance_120 (by decide) ?_
    refine g_pI (pc := 122) C hf fpX2_25 (by decide) hk0 stX2_4 (Nat.le_of_ble_eq_true rfl) rfl rfl dX2_advance_122 (fun M13 hf => ?_)
    refine g_aload_n (pc := 125) C 0 dX2_advance_125 rfl rfl ?_
    refine g_dup (pc := 126) C dX2_advance_126 rfl ?_
    refine g_getI (pc := 127) C fgX2_19 (by decide) hk0 rfl dX2_advance_127 ?_
    refine g_iconst (pc := 130) (v := (1 : Int32)) C dX2_advance_130 (by decide) ?_
    refine g_iadd (pc := 131) C dX2_advance_131 ?_
    refine g_pI (pc := 132) C hf fpX2_19 (by decide) hk0 stX2_2 (Nat.le_of_ble_eq_true rfl) rfl rfl dX2_advance_132 (fun M14 hf => ?_)
    refine g_goto (pc := 135) (tgt := 86) C dX2_advance_135 (by decide) ?_
    exact ih M14  hf

theorem w_X2_advance_L38 {p : Program} {l : Launch} {e : Env} {s : State} {m : MethodId} {args : Array Value} {below : List Frame} {meth : Method} {c : Code} {D : va_G} {cy : Nat → ClassId} {Λ : Nat → Nat} (C : Cx p s m args meth c cX2_advance 1 RX2 none D cy Λ (AA Λ s.heap.size)) {a0 : Nat}  {M9 : Mem} (hk0 : Is NN a0 3)  : ∀ (M : Mem), m_X2_advance_L38 a0 M = some M9 → GW p l e { frames := 1, cells := 0, slots := 0, locals := 21 } s m args below meth c D cy Λ 1 (QcV D cy Λ NN M9) M 38 [(0, .ref (Λ a0))] [] := by
  intro M  hf
  unfold m_X2_advance_L38 at hf
  refine g_aload_n (pc := 38) C 0 dX2_advance_38 rfl rfl ?_
  refine g_aload_n (pc := 39) C 0 dX2_advance_39 rfl rfl ?_
  refine g_getI (pc := 40) C fgX2_19 (by decide) hk0 rfl dX2_advance_40 ?_
  refine g_pI (pc := 43) C hf fpX2_22 (by decide) hk0 stX2_3 (Nat.le_of_ble_eq_true rfl) rfl rfl dX2_advance_43 (fun M11 hf => ?_)
  refine g_aload_n (pc := 46) C 0 dX2_advance_46 rfl rfl ?_
  refine g_getI (pc := 47) C fgX2_19 (by decide) hk0 rfl dX2_advance_47 ?_
  refine g_aload_n (pc := 50) C 0 dX2_advance_50 rfl rfl ?_
  refine g_getI (pc := 51) C fgX2_15 (by decide) hk0 rfl dX2_advance_51 ?_
  refine g_ic_lt (pc := 54) (tgt := 63) C hf dX2_advance_54 (by decide) (fun hf => ?_) (fun hf => ?_)
  · refine g_aload_n (pc := 63) C 0 dX2_advance_63 rfl rfl ?_
    refine g_aload_n (pc := 64) C 0 dX2_advance_64 rfl rfl ?_
    refine g_getR (pc := 65) (T := 10) C hf fgX2_9 (by decide) hk0 rfl dX2_advance_65 (fun a12 hk12 hf => ?_)
    refine g_aload_n (pc := 68) C 0 dX2_advance_68 rfl rfl ?_
    refine g_getI (pc := 69) C fgX2_19 (by decide) hk0 rfl dX2_advance_69 ?_
    refine g_cald (pc := 72) C hf hk12 dX2_advance_72 (fun v13 hf => ?_)
    refine g_pI (pc := 73) C hf fpX2_25 (by decide) hk0 stX2_4 (Nat.le_of_ble_eq_true rfl) rfl rfl dX2_advance_73 (fun M14 hf => ?_)
    refine g_aload_n (pc := 76) C 0 dX2_advance_76 rfl rfl ?_
    refine g_dup (pc := 77) C dX2_advance_77 rfl ?_
    refine g_getI (pc := 78) C fgX2_19 (by decide) hk0 rfl dX2_advance_78 ?_
    refine g_iconst (pc := 81) (v := (1 : Int32)) C dX2_advance_81 (by decide) ?_
    refine g_iadd (pc := 82) C dX2_advance_82 ?_
    refine g_pI (pc := 83) C hf fpX2_19 (by decide) hk0 stX2_2 (Nat.le_of_ble_eq_true rfl) rfl rfl dX2_advance_83 (fun M15 hf => ?_)
    exact w_X2_advance_L86 C hk0 FU M15  hf
  refine g_aload_n (pc := 57) C 0 dX2_advance_57 rfl rfl ?_
  refine g_iconst (pc := 58) (v := (-1 : Int32)) C dX2_advance_58 (by decide) ?_
  refine g_pI (pc := 59) C hf fpX2_25 (by decide) hk0 stX2_4 (Nat.le_of_ble_eq_true rfl) rfl rfl dX2_advance_59 (fun M16 hf => ?_)
  exact g_vret C hf dX2_advance_62

theorem w_X2_advance_L0 {p : Program} {l : Launch} {e : Env} {s : State} {m : MethodId} {args : Array Value} {below : List Frame} {meth : Method} {c : Code} {D : va_G} {cy : Nat → ClassId} {Λ : Nat → Nat} (C : Cx p s m args meth c cX2_advance 1 RX2 none D cy Λ (AA Λ s.heap.size)) {a0 : Nat}  {M9 : Mem} (hk0 : Is NN a0 3)  : ∀ (fu : Nat) (M : Mem), m_X2_advance_L0 a0 fu M = some M9 → GW p l e { frames := 1, cells := 0, slots := 0, locals := 21 } s m args below meth c D cy Λ 1 (QcV D cy Λ NN M9) M 0 [(0, .ref (Λ a0))] [] := by
  intro fu
  induction fu with
  | zero =>
    intro M  hf
    cases hf
  | succ fu ih =>
    intro M  hf
    unfold m_X2_advance_L0 at hf
    refine g_aload_n (pc := 0) C 0 dX2_advance_0 rfl rfl ?_
    refine g_getI (pc := 1) C fgX2_19 (by decide) hk0 rfl dX2_advance_1 ?_
    refine g_aload_n (pc := 4) C 0 dX2_advance_4 rfl rfl ?_
    refine g_getI (pc := 5) C fgX2_15 (by decide) hk0 rfl dX2_advance_5 ?_
    refine g_ic_ge (pc := 8) (tgt := 38) C hf dX2_advance_8 (by decide) (fun hf => ?_) (fun hf => ?_)
    · exact w_X2_advance_L38 C hk0 M  hf
    refine g_aload_n (pc := 11) C 0 dX2_advance_11 rfl rfl ?_
    refine g_getR (pc := 12) (T := 10) C hf fgX2_9 (by decide) hk0 rfl dX2_advance_12 (fun a11 hk11 hf => ?_)
    refine g_aload_n (pc := 15) C 0 dX2_advance_15 rfl rfl ?_
    refine g_getI (pc := 16) C fgX2_19 (by decide) hk0 rfl dX2_advance_16 ?_
    refine g_cald (pc := 19) C hf hk11 dX2_advance_19 (fun v12 hf => ?_)
    refine g_bipush (pc := 20) (v := (32 : Int32)) C dX2_advance_20 (by decide) ?_
    refine g_ic_ne (pc := 22) (tgt := 38) C hf dX2_advance_22 (by decide) (fun hf => ?_) (fun hf => ?_)
    · refine g_aload_n (pc := 25) C 0 dX2_advance_25 rfl rfl ?_
      refine g_dup (pc := 26) C dX2_advance_26 rfl ?_
      refine g_getI (pc := 27) C fgX2_19 (by decide) hk0 rfl dX2_advance_27 ?_
      refine g_iconst (pc := 30) (v := (1 : Int32)) C dX2_advance_30 (by decide) ?_
      refine g_iadd (pc := 31) C dX2_advance_31 ?_
      refine g_pI (pc := 32) C hf fpX2_19 (by decide) hk0 stX2_2 (Nat.le_of_ble_eq_true rfl) rfl rfl dX2_advance_32 (fun M13 hf => ?_)
      refine g_goto (pc := 35) (tgt := 0) C dX2_advance_35 (by decide) ?_
      exact ih M13  hf
    exact w_X2_advance_L38 C hk0 M  hf

theorem w_X2_advance {p : Program} {l : Launch} {e : Env} {s : State} {m : MethodId} {args : Array Value} {below : List Frame} {meth : Method} {c : Code} {D : va_G} {cy : Nat → ClassId} {Λ : Nat → Nat} (C : Cx p s m args meth c cX2_advance 1 RX2 none D cy Λ (AA Λ s.heap.size)) {M : Mem} {a0 : Nat} {M9 : Mem} (hk0 : Is NN a0 3) (hf : m_X2_advance M a0 = some M9) : GW p l e { frames := 1, cells := 0, slots := 0, locals := 21 } s m args below meth c D cy Λ 1 (QcV D cy Λ NN M9) M 0 [(0, .ref (Λ a0))] [] := by
  unfold m_X2_advance at hf
  exact w_X2_advance_L0 C hk0 FU M  hf

theorem c_X2_advance {l : Launch} {D : va_G} {cy : Nat → ClassId} {Λ : Nat → Nat} (hi : ∀ i j : Nat, Λ i = Λ j → i = j) {M : Mem} {a0 : Nat} {M9 : Mem} (hk0 : Is NN a0 3) (hf : m_X2_advance M a0 = some M9) : Ct l yX2_advance cX2_advance 1 none { frames := 1, cells := 0, slots := 0, locals := 21 } D cy Λ [.ref (Λ a0)] NN M 0 0 (QcV D cy Λ NN M9) := ent (by decide) hi (Nat.le_of_ble_eq_true rfl) (fun p e s m args below meth c C => w_X2_advance C hk0 hf)
theorem w_X2_isDigit {p : Program} {l : Launch} {e : Env} {s : State} {m : MethodId} {args : Array Value} {below : List Frame} {meth : Method} {c : Code} {D : va_G} {cy : Nat → ClassId} {Λ : Nat → Nat} (C : Cx p s m args meth c cX2_isDigit 1 RX2 (some .boolean) D cy Λ (AA Λ s.heap.size)) {M : Mem} {a0 : Nat} {r9 : Int32} (hk0 : Is NN a0 3) (hf : m_X2_isDigit M a0 = some r9) : GW p l e { frames := 0, cells := 0, slots := 0, locals := 0 } s m args below meth c D cy Λ 1 (QcI D cy Λ NN r9 M) M 0 [(0, .ref (Λ a0))] [] := by
  unfold m_X2_isDigit at hf
  refine g_aload_n (pc := 0) C 0 dX2_isDigit_0 rfl rfl ?_
  refine g_getI (pc := 1) C fgX2_25 (by decide) hk0 rfl dX2_isDigit_1 ?_
  refine g_bipush (pc := 4) (v := (48 : Int32)) C dX2_isDigit_4 (by decide) ?_
  refine g_ic_lt (pc := 6) (tgt := 22) C hf dX2_isDigit_6 (by decide) (fun hf => ?_) (fun hf => ?_)
  · refine g_iconst (pc := 22) (v := (0 : Int32)) C dX2_isDigit_22 (by decide) ?_
    exact g_zret C (by decide) hf dX2_isDigit_23
  refine g_aload_n (pc := 9) C 0 dX2_isDigit_9 rfl rfl ?_
  refine g_getI (pc := 10) C fgX2_25 (by decide) hk0 rfl dX2_isDigit_10 ?_
  refine g_bipush (pc := 13) (v := (57 : Int32)) C dX2_isDigit_13 (by decide) ?_
  refine g_ic_gt (pc := 15) (tgt := 22) C hf dX2_isDigit_15 (by decide) (fun hf => ?_) (fun hf => ?_)
  · refine g_iconst (pc := 22) (v := (0 : Int32)) C dX2_isDigit_22 (by decide) ?_
    exact g_zret C (by decide) hf dX2_isDigit_23
  refine g_iconst (pc := 18) (v := (1 : Int32)) C dX2_isDigit_18 (by decide) ?_
  refine g_goto (pc := 19) (tgt := 23) C dX2_isDigit_19 (by decide) ?_
  exact g_zret C (by decide) hf dX2_isDigit_23

theorem c_X2_isDigit {l : Launch} {D : va_G} {cy : Nat → ClassId} {Λ : Nat → Nat} (hi : ∀ i j : Nat, Λ i = Λ j → i = j) {M : Mem} {a0 : Nat} {r9 : Int32} (hk0 : Is NN a0 3) (hf : m_X2_isDigit M a0 = some r9) : Ct l yX2_isDigit cX2_isDigit 1 (some .boolean) { frames := 0, cells := 0, slots := 0, locals := 0 } D cy Λ [.ref (Λ a0)] NN M 0 0 (QcI D cy Λ NN r9 M) := ent (by decide) hi (Nat.le_of_ble_eq_true rfl) (fun p e s m args below meth c C => w_X2_isDigit C hk0 hf)
theorem w_X2_isTag {p : Program} {l : Launch} {e : Env} {s : State} {m : MethodId} {args : Array Value} {below : List Frame} {meth : Method} {c : Code} {D : va_G} {cy : Nat → ClassId} {Λ : Nat → Nat} (C : Cx p s m args meth c cX2_isTag 1 RX2 (some .boolean) D cy Λ (AA Λ s.heap.size)) {M : Mem} {a0 : Nat} {r9 : Int32} (hk0 : Is NN a0 3) (hf : m_X2_isTag M a0 = some r9) : GW p l e { frames := 0, cells := 0, slots := 0, locals := 0 } s m args below meth c D cy Λ 1 (QcI D cy Λ NN r9 M) M 0 [(0, .ref (Λ a0))] [] := by
  unfold m_X2_isTag at hf
  refine g_aload_n (pc := 0) C 0 dX2_isTag_0 rfl rfl ?_
  refine g_getI (pc := 1) C fgX2_25 (by decide) hk0 rfl dX2_isTag_1 ?_
  refine g_bipush (pc := 4) (v := (97 : Int32)) C dX2_isTag_4 (by decide) ?_
  refine g_ic_lt (pc := 6) (tgt := 22) C hf dX2_isTag_6 (by decide) (fun hf => ?_) (fun hf => ?_)
  · refine g_iconst (pc := 22) (v := (0 : Int32)) C dX2_isTag_22 (by decide) ?_
    exact g_zret C (by decide) hf dX2_isTag_23
  refine g_aload_n (pc := 9) C 0 dX2_isTag_9 rfl rfl ?_
  refine g_getI (pc := 10) C fgX2_25 (by decide) hk0 rfl dX2_isTag_10 ?_
  refine g_bipush (pc := 13) (v := (100 : Int32)) C dX2_isTag_13 (by decide) ?_
  refine g_ic_gt (pc := 15) (tgt := 22) C hf dX2_isTag_15 (by decide) (fun hf => ?_) (fun hf => ?_)
  · refine g_iconst (pc := 22) (v := (0 : Int32)) C dX2_isTag_22 (by decide) ?_
    exact g_zret C (by decide) hf dX2_isTag_23
  refine g_iconst (pc := 18) (v := (1 : Int32)) C dX2_isTag_18 (by decide) ?_
  refine g_goto (pc := 19) (tgt := 23) C dX2_isTag_19 (by decide) ?_
  exact g_zret C (by decide) hf dX2_isTag_23

theorem c_X2_isTag {l : Launch} {D : va_G} {cy : Nat → ClassId} {Λ : Nat → Nat} (hi : ∀ i j : Nat, Λ i = Λ j → i = j) {M : Mem} {a0 : Nat} {r9 : Int32} (hk0 : Is NN a0 3) (hf : m_X2_isTag M a0 = some r9) : Ct l yX2_isTag cX2_isTag 1 (some .boolean) { frames := 0, cells := 0, slots := 0, locals := 0 } D cy Λ [.ref (Λ a0)] NN M 0 0 (QcI D cy Λ NN r9 M) := ent (by decide) hi (Nat.le_of_ble_eq_true rfl) (fun p e s m args below meth c C => w_X2_isTag C hk0 hf)
theorem w_X2_isClass {p : Program} {l : Launch} {e : Env} {s : State} {m : MethodId} {args : Array Value} {below : List Frame} {meth : Method} {c : Code} {D : va_G} {cy : Nat → ClassId} {Λ : Nat → Nat} (C : Cx p s m args meth c cX2_isClass 1 RX2 (some .boolean) D cy Λ (AA Λ s.heap.size)) {M : Mem} {a0 : Nat} {r9 : Int32} (hk0 : Is NN a0 3) (hf : m_X2_isClass M a0 = some r9) : GW p l e { frames := 0, cells := 0, slots := 0, locals := 0 } s m args below meth c D cy Λ 1 (QcI D cy Λ NN r9 M) M 0 [(0, .ref (Λ a0))] [] := by
  unfold m_X2_isClass at hf
  refine g_aload_n (pc := 0) C 0 dX2_isClass_0 rfl rfl ?_
  refine g_getI (pc := 1) C fgX2_25 (by decide) hk0 rfl dX2_isClass_1 ?_
  refine g_bipush (pc := 4) (v := (112 : Int32)) C dX2_isClass_4 (by decide) ?_
  refine g_ic_lt (pc := 6) (tgt := 22) C hf dX2_isClass_6 (by decide) (fun hf => ?_) (fun hf => ?_)
  · refine g_iconst (pc := 22) (v := (0 : Int32)) C dX2_isClass_22 (by decide) ?_
    exact g_zret C (by decide) hf dX2_isClass_23
  refine g_aload_n (pc := 9) C 0 dX2_isClass_9 rfl rfl ?_
  refine g_getI (pc := 10) C fgX2_25 (by decide) hk0 rfl dX2_isClass_10 ?_
  refine g_bipush (pc := 13) (v := (115 : Int32)) C dX2_isClass_13 (by decide) ?_
  refine g_ic_gt (pc := 15) (tgt := 22) C hf dX2_isClass_15 (by decide) (fun hf => ?_) (fun hf => ?_)
  · refine g_iconst (pc := 22) (v := (0 : Int32)) C dX2_isClass_22 (by decide) ?_
    exact g_zret C (by decide) hf dX2_isClass_23
  refine g_iconst (pc := 18) (v := (1 : Int32)) C dX2_isClass_18 (by decide) ?_
  refine g_goto (pc := 19) (tgt := 23) C dX2_isClass_19 (by decide) ?_
  exact g_zret C (by decide) hf dX2_isClass_23

theorem c_X2_isClass {l : Launch} {D : va_G} {cy : Nat → ClassId} {Λ : Nat → Nat} (hi : ∀ i j : Nat, Λ i = Λ j → i = j) {M : Mem} {a0 : Nat} {r9 : Int32} (hk0 : Is NN a0 3) (hf : m_X2_isClass M a0 = some r9) : Ct l yX2_isClass cX2_isClass 1 (some .boolean) { frames := 0, cells := 0, slots := 0, locals := 0 } D cy Λ [.ref (Λ a0)] NN M 0 0 (QcI D cy Λ NN r9 M) := ent (by decide) hi (Nat.le_of_ble_eq_true rfl) (fun p e s m args below meth c C => w_X2_isClass C hk0 hf)
theorem w_X2_take {p : Program} {l : Launch} {e : Env} {s : State} {m : MethodId} {args : Array Value} {below : List Frame} {meth : Method} {c : Code} {D : va_G} {cy : Nat → ClassId} {Λ : Nat → Nat} (C : Cx p s m args meth c cX2_take 2 RX2 (some .boolean) D cy Λ (AA Λ s.heap.size)) {M : Mem} {a0 : Nat} {x1 : Int32} {r9 : Int32} {M9 : Mem} (hk0 : Is NN a0 3) (hf : m_X2_take M a0 x1 = some (r9, M9)) : GW p l e { frames := 2, cells := 0, slots := 0, locals := 41 } s m args below meth c D cy Λ 2 (QcI D cy Λ NN r9 M9) M 0 [(0, .ref (Λ a0)), (1, .int x1)] [] := by
  unfold m_X2_take at hf
  refine g_aload_n (pc := 0) C 0 dX2_take_0 rfl rfl ?_
  refine g_getI (pc := 1) C fgX2_25 (by decide) hk0 rfl dX2_take_1 ?_
  refine g_iload_n (pc := 4) C 1 dX2_take_4 rfl rfl ?_
  refine g_ic_eq (pc := 5) (tgt := 10) C hf dX2_take_5 (by decide) (fun hf => ?_) (fun hf => ?_)
  · refine g_aload_n (pc := 10) C 0 dX2_take_10 rfl rfl ?_
    obtain ⟨M11, h11, hf⟩ := ob hf
    refine g_resV (pc := 11) C (rnV (As := []) (st := []) C (c_X2_advance C.2.2.2.2.2.1 hk0 h11) lkX2_44 rfl (by decide) hk0 rfl rfl (Nat.le_of_ble_eq_true rfl) ⟨⟨rfl, rfl⟩, Nat.le_of_ble_eq_true rfl, Nat.le_of_ble_eq_true rfl⟩ ⟨Nat.le_of_ble_eq_true rfl, Nat.le_of_ble_eq_true rfl⟩ dX2_take_11) ?_
    refine g_iconst (pc := 14) (v := (1 : Int32)) C dX2_take_14 (by decide) ?_
    exact g_zretM C (by decide) hf dX2_take_15
  refine g_iconst (pc := 8) (v := (0 : Int32)) C dX2_take_8 (by decide) ?_
  exact g_zretM C (by decide) hf dX2_take_9

theorem c_X2_take {l : Launch} {D : va_G} {cy : Nat → ClassId} {Λ : Nat → Nat} (hi : ∀ i j : Nat, Λ i = Λ j → i = j) {M : Mem} {a0 : Nat} {x1 : Int32} {r9 : Int32} {M9 : Mem} (hk0 : Is NN a0 3) (hf : m_X2_take M a0 x1 = some (r9, M9)) : Ct l yX2_take cX2_take 2 (some .boolean) { frames := 2, cells := 0, slots := 0, locals := 41 } D cy Λ [.ref (Λ a0), .int x1] NN M 0 0 (QcI D cy Λ NN r9 M9) := ent (by decide) hi (Nat.le_of_ble_eq_true rfl) (fun p e s m args below meth c C => w_X2_take C hk0 hf)
theorem w_X4_addNode_L55 {p : Program} {l : Launch} {e : Env} {s : State} {m : MethodId} {args : Array Value} {below : List Frame} {meth : Method} {c : Code} {D : va_G} {cy : Nat → ClassId} {Λ : Nat → Nat} (C : Cx p s m args meth c cX4_addNode 4 RX4 none D cy Λ (AA Λ s.heap.size)) {a0 : Nat} {x1 : Int32} {x2 : Int32} {x3 : Int32}  {M9 : Mem} (hk0 : Is NN a0 5)  : ∀ (M : Mem) (s0 : Int32) (s1 : Int32) (g2 : Nat), Is NN g2 10 → m_X4_addNode_L55 a0 x1 x2 x3 M s0 s1 g2 = some M9 → GW p l e { frames := 1, cells := 0, slots := 0, locals := 21 } s m args below meth c D cy Λ 4 (QcV D cy Λ NN M9) M 55 [(0, .ref (Λ a0)), (1, .int x1), (2, .int x2), (3, .int x3)] [.int s0, .int s1, .ref (Λ g2)] := by
  intro M s0 s1 g2 hk_g2 hf
  unfold m_X4_addNode_L55 at hf
  refine g_iast (pc := 55) C hf hk_g2 dX4_addNode_55 (fun M11 hf => ?_)
  refine g_aload_n (pc := 56) C 0 dX4_addNode_56 rfl rfl ?_
  refine g_getR (pc := 57) (T := 1) C hf fgX4_28 (by decide) hk0 rfl dX4_addNode_57 (fun a12 hk12 hf => ?_)
  refine g_getR (pc := 60) (T := 9) C hf fgX4_46 (by decide) hk12 rfl dX4_addNode_60 (fun a13 hk13 hf => ?_)
  refine g_aload_n (pc := 63) C 0 dX4_addNode_63 rfl rfl ?_
  refine g_getI (pc := 64) C fgX4_9 (by decide) hk0 rfl dX4_addNode_64 ?_
  refine g_iload_n (pc := 67) C 2 dX4_addNode_67 rfl rfl ?_
  refine g_iast (pc := 68) C hf hk13 dX4_addNode_68 (fun M14 hf => ?_)
  refine g_aload_n (pc := 69) C 0 dX4_addNode_69 rfl rfl ?_
  refine g_getR (pc := 70) (T := 1) C hf fgX4_28 (by decide) hk0 rfl dX4_addNode_70 (fun a15 hk15 hf => ?_)
  refine g_getR (pc := 73) (T := 9) C hf fgX4_49 (by decide) hk15 rfl dX4_addNode_73 (fun a16 hk16 hf => ?_)
  refine g_aload_n (pc := 76) C 0 dX4_addNode_76 rfl rfl ?_
  refine g_getI (pc := 77) C fgX4_9 (by decide) hk0 rfl dX4_addNode_77 ?_
  refine g_iload_n (pc := 80) C 3 dX4_addNode_80 rfl rfl ?_
  refine g_iast (pc := 81) C hf hk16 dX4_addNode_81 (fun M17 hf => ?_)
  refine g_aload_n (pc := 82) C 0 dX4_addNode_82 rfl rfl ?_
  refine g_dup (pc := 83) C dX4_addNode_83 rfl ?_
  refine g_getI (pc := 84) C fgX4_9 (by decide) hk0 rfl dX4_addNode_84 ?_
  refine g_iconst (pc := 87) (v := (1 : Int32)) C dX4_addNode_87 (by decide) ?_
  refine g_iadd (pc := 88) C dX4_addNode_88 ?_
  refine g_pI (pc := 89) C hf fpX4_9 (by decide) hk0 stX4_0 (Nat.le_of_ble_eq_true rfl) rfl rfl dX4_addNode_89 (fun M18 hf => ?_)
  exact g_vret C hf dX4_addNode_92

theorem w_X4_addNode {p : Program} {l : Launch} {e : Env} {s : State} {m : MethodId} {args : Array Value} {below : List Frame} {meth : Method} {c : Code} {D : va_G} {cy : Nat → ClassId} {Λ : Nat → Nat} (C : Cx p s m args meth c cX4_addNode 4 RX4 none D cy Λ (AA Λ s.heap.size)) {M : Mem} {a0 : Nat} {x1 : Int32} {x2 : Int32} {x3 : Int32} {M9 : Mem} (hk0 : Is NN a0 5) (hf : m_X4_addNode M a0 x1 x2 x3 = some M9) : GW p l e { frames := 1, cells := 0, slots := 0, locals := 21 } s m args below meth c D cy Λ 4 (QcV D cy Λ NN M9) M 0 [(0, .ref (Λ a0)), (1, .int x1), (2, .int x2), (3, .int x3)] [] := by
  unfold m_X4_addNode at hf
  refine g_aload_n (pc := 0) C 0 dX4_addNode_0 rfl rfl ?_
  refine g_getI (pc := 1) C fgX4_9 (by decide) hk0 rfl dX4_addNode_1 ?_
  refine g_bipush (pc := 4) (v := (9 : Int32)) C dX4_addNode_4 (by decide) ?_
  obtain ⟨r11, h11, hf⟩ := ob hf
  refine g_resI (pc := 6) C (rnSN (As := [.int (M.2 a0 0), .int (9 : Int32)]) (st := []) C (c_X7_within C.2.2.2.2.2.1  h11) lknX4_42 rfl rfl (Nat.le_of_ble_eq_true rfl) ⟨⟨rfl, rfl⟩, Nat.le_of_ble_eq_true rfl, Nat.le_of_ble_eq_true rfl⟩ ⟨Nat.le_of_ble_eq_true rfl, Nat.le_of_ble_eq_true rfl⟩ dX4_addNode_6) ?_
  refine g_if_eq (pc := 9) (tgt := 92) C hf dX4_addNode_9 (by decide) (fun hf => ?_) (fun hf => ?_)
  · exact g_vret C hf dX4_addNode_92
  refine g_aload_n (pc := 12) C 0 dX4_addNode_12 rfl rfl ?_
  refine g_getR (pc := 13) (T := 9) C hf fgX4_18 (by decide) hk0 rfl dX4_addNode_13 (fun a12 hk12 hf => ?_)
  refine g_aload_n (pc := 16) C 0 dX4_addNode_16 rfl rfl ?_
  refine g_getI (pc := 17) C fgX4_9 (by decide) hk0 rfl dX4_addNode_17 ?_
  refine g_iload_n (pc := 20) C 1 dX4_addNode_20 rfl rfl ?_
  refine g_iast (pc := 21) C hf hk12 dX4_addNode_21 (fun M13 hf => ?_)
  refine g_aload_n (pc := 22) C 0 dX4_addNode_22 rfl rfl ?_
  refine g_getR (pc := 23) (T := 9) C hf fgX4_22 (by decide) hk0 rfl dX4_addNode_23 (fun a14 hk14 hf => ?_)
  refine g_aload_n (pc := 26) C 0 dX4_addNode_26 rfl rfl ?_
  refine g_getI (pc := 27) C fgX4_9 (by decide) hk0 rfl dX4_addNode_27 ?_
  refine g_iload_n (pc := 30) C 1 dX4_addNode_30 rfl rfl ?_
  refine g_aload_n (pc := 31) C 0 dX4_addNode_31 rfl rfl ?_
  refine g_getI (pc := 32) C fgX4_9 (by decide) hk0 rfl dX4_addNode_32 ?_
  obtain ⟨r15, h15, hf⟩ := ob hf
  refine g_resI (pc := 35) C (rnSN (As := [.int x1, .int (M13.2 a0 0)]) (st := [.int (M13.2 a0 0), .ref (Λ a14)]) C (c_X7_within C.2.2.2.2.2.1  h15) lknX4_42 rfl rfl (Nat.le_of_ble_eq_true rfl) ⟨⟨rfl, rfl⟩, Nat.le_of_ble_eq_true rfl, Nat.le_of_ble_eq_true rfl⟩ ⟨Nat.le_of_ble_eq_true rfl, Nat.le_of_ble_eq_true rfl⟩ dX4_addNode_35) ?_
  refine g_if_eq (pc := 38) (tgt := 54) C hf dX4_addNode_38 (by decide) (fun hf => ?_) (fun hf => ?_)
  · refine g_iconst (pc := 54) (v := (0 : Int32)) C dX4_addNode_54 (by decide) ?_
    exact w_X4_addNode_L55 C hk0 M13 (0 : Int32) (M13.2 a0 0) a14 hk14 hf
  refine g_aload_n (pc := 41) C 0 dX4_addNode_41 rfl rfl ?_
  refine g_getR (pc := 42) (T := 9) C hf fgX4_22 (by decide) hk0 rfl dX4_addNode_42 (fun a16 hk16 hf => ?_)
  refine g_iload_n (pc := 45) C 1 dX4_addNode_45 rfl rfl ?_
  refine g_iald (pc := 46) C hf hk16 dX4_addNode_46 (fun v17 hf => ?_)
  refine g_iconst (pc := 47) (v := (1 : Int32)) C dX4_addNode_47 (by decide) ?_
  refine g_iload_n (pc := 48) C 1 dX4_addNode_48 rfl rfl ?_
  refine g_ishl (pc := 49) C dX4_addNode_49 ?_
  refine g_ior (pc := 50) C dX4_addNode_50 ?_
  refine g_goto (pc := 51) (tgt := 55) C dX4_addNode_51 (by decide) ?_
  exact w_X4_addNode_L55 C hk0 M13 (v17 ||| ((1 : Int32) <<< (x1 &&& 31))) (M13.2 a0 0) a14 hk14 hf

theorem c_X4_addNode {l : Launch} {D : va_G} {cy : Nat → ClassId} {Λ : Nat → Nat} (hi : ∀ i j : Nat, Λ i = Λ j → i = j) {M : Mem} {a0 : Nat} {x1 : Int32} {x2 : Int32} {x3 : Int32} {M9 : Mem} (hk0 : Is NN a0 5) (hf : m_X4_addNode M a0 x1 x2 x3 = some M9) : Ct l yX4_addNode cX4_addNode 4 none { frames := 1, cells := 0, slots := 0, locals := 21 } D cy Λ [.ref (Λ a0), .int x1, .int x2, .int x3] NN M 0 0 (QcV D cy Λ NN M9) := ent (by decide) hi (Nat.le_of_ble_eq_true rfl) (fun p e s m args below meth c C => w_X4_addNode C hk0 hf)
theorem w_X2_readNode_L146 {p : Program} {l : Launch} {e : Env} {s : State} {m : MethodId} {args : Array Value} {below : List Frame} {meth : Method} {c : Code} {D : va_G} {cy : Nat → ClassId} {Λ : Nat → Nat} (C : Cx p s m args meth c cX2_readNode 6 RX2 (some .boolean) D cy Λ (AA Λ s.heap.size)) {a0 : Nat}  {r9 : Int32} {M9 : Mem} (hk0 : Is NN a0 3)  : ∀ (M : Mem) (x1 : Int32) (x2 : Int32) (x3 : Int32), m_X2_readNode_L146 a0 M x1 x2 x3 = some (r9, M9) → GW p l e { frames := 3, cells := 0, slots := 0, locals := 62 } s m args below meth c D cy Λ 6 (QcI D cy Λ NN r9 M9) M 146 [(0, .ref (Λ a0)), (1, .int x1), (2, .int x2), (3, .int x3)] [] := by
  intro M x1 x2 x3  hf
  unfold m_X2_readNode_L146 at hf
  refine g_aload_n (pc := 146) C 0 dX2_readNode_146 rfl rfl ?_
  refine g_bipush (pc := 147) (v := (59 : Int32)) C dX2_readNode_147 (by decide) ?_
  obtain ⟨r11, M11, h11, hf⟩ := ob2 hf
  refine g_resI (pc := 149) C (rnV (As := [.int (59 : Int32)]) (st := []) C (c_X2_take C.2.2.2.2.2.1 hk0 h11) lkX2_70 rfl (by decide) hk0 rfl rfl (Nat.le_of_ble_eq_true rfl) ⟨⟨rfl, rfl⟩, Nat.le_of_ble_eq_true rfl, Nat.le_of_ble_eq_true rfl⟩ ⟨Nat.le_of_ble_eq_true rfl, Nat.le_of_ble_eq_true rfl⟩ dX2_readNode_149) ?_
  refine g_if_ne (pc := 152) (tgt := 157) C hf dX2_readNode_152 (by decide) (fun hf => ?_) (fun hf => ?_)
  · refine g_iconst (pc := 155) (v := (0 : Int32)) C dX2_readNode_155 (by decide) ?_
    exact g_zretM C (by decide) hf dX2_readNode_156
  refine g_aload_n (pc := 157) C 0 dX2_readNode_157 rfl rfl ?_
  refine g_getR (pc := 158) (T := 4) C hf fgX2_31 (by decide) hk0 rfl dX2_readNode_158 (fun a12 hk12 hf => ?_)
  refine g_iload_n (pc := 161) C 1 dX2_readNode_161 rfl rfl ?_
  refine g_iload_n (pc := 162) C 2 dX2_readNode_162 rfl rfl ?_
  refine g_iload_n (pc := 163) C 3 dX2_readNode_163 rfl rfl ?_
  obtain ⟨M13, h13, hf⟩ := ob hf
  refine g_resV (pc := 164) C (rnV (As := [.int x1, .int x2, .int x3]) (st := []) C (c_X4_addNode C.2.2.2.2.2.1 hk12 h13) lkX2_73 rfl (by decide) hk12 rfl rfl (Nat.le_of_ble_eq_true rfl) ⟨⟨rfl, rfl⟩, Nat.le_of_ble_eq_true rfl, Nat.le_of_ble_eq_true rfl⟩ ⟨Nat.le_of_ble_eq_true rfl, Nat.le_of_ble_eq_true rfl⟩ dX2_readNode_164) ?_
  refine g_iconst (pc := 167) (v := (1 : Int32)) C dX2_readNode_167 (by decide) ?_
  exact g_zretM C (by decide) hf dX2_readNode_168

theorem w_X2_readNode_L98 {p : Program} {l : Launch} {e : Env} {s : State} {m : MethodId} {args : Array Value} {below : List Frame} {meth : Method} {c : Code} {D : va_G} {cy : Nat → ClassId} {Λ : Nat → Nat} (C : Cx p s m args meth c cX2_readNode 6 RX2 (some .boolean) D cy Λ (AA Λ s.heap.size)) {a0 : Nat}  {r9 : Int32} {M9 : Mem} (hk0 : Is NN a0 3)  : ∀ (fu : Nat) (M : Mem) (x1 : Int32) (x2 : Int32) (x3 : Int32) (x4 : Int32), m_X2_readNode_L98 a0 fu M x1 x2 x3 x4 = some (r9, M9) → GW p l e { frames := 3, cells := 0, slots := 0, locals := 62 } s m args below meth c D cy Λ 6 (QcI D cy Λ NN r9 M9) M 98 [(0, .ref (Λ a0)), (1, .int x1), (2, .int x2), (3, .int x3), (4, .int x4)] [] := by
  intro fu
  induction fu with
  | zero =>
    intro M x1 x2 x3 x4  hf
    cases hf
  | succ fu ih =>
    intro M x1 x2 x3 x4  hf
    unfold m_X2_readNode_L98 at hf
    refine g_iload (pc := 98) C 4 dX2_readNode_98 rfl ?_
    refine g_iconst (pc := 100) (v := (4 : Int32)) C dX2_readNode_100 (by decide) ?_
    refine g_ic_ge (pc := 101) (tgt := 146) C hf dX2_readNode_101 (by decide) (fun hf => ?_) (fun hf => ?_)
    · refine g_sub [0, 1, 2, 3] rfl ?_
      exact w_X2_readNode_L146 C hk0 M x1 x2 x3  hf
    refine g_aload_n (pc := 104) C 0 dX2_readNode_104 rfl rfl ?_
    obtain ⟨r11, h11, hf⟩ := ob hf
    refine g_resI (pc := 105) C (rnV (As := []) (st := []) C (c_X2_isClass C.2.2.2.2.2.1 hk0 h11) lkX2_67 rfl (by decide) hk0 rfl rfl (Nat.le_of_ble_eq_true rfl) ⟨⟨rfl, rfl⟩, Nat.le_of_ble_eq_true rfl, Nat.le_of_ble_eq_true rfl⟩ ⟨Nat.le_of_ble_eq_true rfl, Nat.le_of_ble_eq_true rfl⟩ dX2_readNode_105) ?_
    refine g_if_eq (pc := 108) (tgt := 146) C hf dX2_readNode_108 (by decide) (fun hf => ?_) (fun hf => ?_)
    · refine g_sub [0, 1, 2, 3] rfl ?_
      exact w_X2_readNode_L146 C hk0 M x1 x2 x3  hf
    refine g_iconst (pc := 111) (v := (1 : Int32)) C dX2_readNode_111 (by decide) ?_
    refine g_aload_n (pc := 112) C 0 dX2_readNode_112 rfl rfl ?_
    refine g_getI (pc := 113) C fgX2_25 (by decide) hk0 rfl dX2_readNode_113 ?_
    refine g_bipush (pc := 116) (v := (112 : Int32)) C dX2_readNode_116 (by decide) ?_
    refine g_isub (pc := 118) C dX2_readNode_118 ?_
    refine g_ishl (pc := 119) C dX2_readNode_119 ?_
    refine g_istore (pc := 120) (lv2 := [(5, .int ((1 : Int32) <<< (((M.2 a0 4) - (112 : Int32)) &&& 31))), (0, .ref (Λ a0)), (1, .int x1), (2, .int x2), (3, .int x3), (4, .int x4)]) C dX2_readNode_120 (by decide) rfl ?_
    refine g_iload_n (pc := 122) C 4 dX2_readNode_122 rfl rfl ?_
    refine g_iload (pc := 123) C 0 dX2_readNode_123 rfl ?_
    refine g_iand (pc := 125) C dX2_readNode_125 ?_
    refine g_if_eq (pc := 126) (tgt := 131) C hf dX2_readNode_126 (by decide) (fun hf => ?_) (fun hf => ?_)
    · refine g_iload_n (pc := 131) C 4 dX2_readNode_131 rfl rfl ?_
      refine g_iload (pc := 132) C 0 dX2_readNode_132 rfl ?_
      refine g_ior (pc := 134) C dX2_readNode_134 ?_
      refine g_istore_n (pc := 135) (lv2 := [(3, .int (x3 ||| ((1 : Int32) <<< (((M.2 a0 4) - (112 : Int32)) &&& 31)))), (5, .int ((1 : Int32) <<< (((M.2 a0 4) - (112 : Int32)) &&& 31))), (0, .ref (Λ a0)), (1, .int x1), (2, .int x2), (4, .int x4)]) C dX2_readNode_135 rfl (by decide) rfl ?_
      refine g_aload_n (pc := 136) C 2 dX2_readNode_136 rfl rfl ?_
      obtain ⟨M12, h12, hf⟩ := ob hf
      refine g_resV (pc := 137) C (rnV (As := []) (st := []) C (c_X2_advance C.2.2.2.2.2.1 hk0 h12) lkX2_44 rfl (by decide) hk0 rfl rfl (Nat.le_of_ble_eq_true rfl) ⟨⟨rfl, rfl⟩, Nat.le_of_ble_eq_true rfl, Nat.le_of_ble_eq_true rfl⟩ ⟨Nat.le_of_ble_eq_true rfl, Nat.le_of_ble_eq_true rfl⟩ dX2_readNode_137) ?_
      refine g_iinc (pc := 140) (v := (x4 + (1 : Int32))) (lv2 := [(4, .int (x4 + (1 : Int32))), (3, .int (x3 ||| ((1 : Int32) <<< (((M.2 a0 4) - (112 : Int32)) &&& 31)))), (5, .int ((1 : Int32) <<< (((M.2 a0 4) - (112 : Int32)) &&& 31))), (0, .ref (Λ a0)), (1, .int x1), (2, .int x2)]) C 5 dX2_readNode_140 rfl rfl (by decide) rfl ?_
      refine g_goto (pc := 143) (tgt := 98) C dX2_readNode_143 (by decide) ?_
      refine g_sub [3, 4, 5, 1, 0] rfl ?_
      exact ih M12 x1 x2 (x3 ||| ((1 : Int32) <<< (((M.2 a0 4) - (112 : Int32)) &&& 31))) (x4 + (1 : Int32))  hf
    refine g_iconst (pc := 129) (v := (0 : Int32)) C dX2_readNode_129 (by decide) ?_
    exact g_zretM C (by decide) hf dX2_readNode_130

theorem w_X2_readNode_L72 {p : Program} {l : Launch} {e : Env} {s : State} {m : MethodId} {args : Array Value} {below : List Frame} {meth : Method} {c : Code} {D : va_G} {cy : Nat → ClassId} {Λ : Nat → Nat} (C : Cx p s m args meth c cX2_readNode 6 RX2 (some .boolean) D cy Λ (AA Λ s.heap.size)) {a0 : Nat}  {r9 : Int32} {M9 : Mem} (hk0 : Is NN a0 3)  : ∀ (M : Mem) (x1 : Int32), m_X2_readNode_L72 a0 M x1 = some (r9, M9) → GW p l e { frames := 3, cells := 0, slots := 0, locals := 62 } s m args below meth c D cy Λ 6 (QcI D cy Λ NN r9 M9) M 72 [(0, .ref (Λ a0)), (1, .int x1)] [] := by
  intro M x1  hf
  unfold m_X2_readNode_L72 at hf
  refine g_aload_n (pc := 72) C 0 dX2_readNode_72 rfl rfl ?_
  obtain ⟨r11, h11, hf⟩ := ob hf
  refine g_resI (pc := 73) C (rnV (As := []) (st := []) C (c_X2_isTag C.2.2.2.2.2.1 hk0 h11) lkX2_64 rfl (by decide) hk0 rfl rfl (Nat.le_of_ble_eq_true rfl) ⟨⟨rfl, rfl⟩, Nat.le_of_ble_eq_true rfl, Nat.le_of_ble_eq_true rfl⟩ ⟨Nat.le_of_ble_eq_true rfl, Nat.le_of_ble_eq_true rfl⟩ dX2_readNode_73) ?_
  refine g_if_ne (pc := 76) (tgt := 81) C hf dX2_readNode_76 (by decide) (fun hf => ?_) (fun hf => ?_)
  · refine g_iconst (pc := 79) (v := (0 : Int32)) C dX2_readNode_79 (by decide) ?_
    exact g_zretM C (by decide) hf dX2_readNode_80
  refine g_aload_n (pc := 81) C 0 dX2_readNode_81 rfl rfl ?_
  refine g_getI (pc := 82) C fgX2_25 (by decide) hk0 rfl dX2_readNode_82 ?_
  refine g_bipush (pc := 85) (v := (97 : Int32)) C dX2_readNode_85 (by decide) ?_
  refine g_isub (pc := 87) C dX2_readNode_87 ?_
  refine g_istore_n (pc := 88) (lv2 := [(2, .int ((M.2 a0 4) - (97 : Int32))), (0, .ref (Λ a0)), (1, .int x1)]) C dX2_readNode_88 rfl (by decide) rfl ?_
  refine g_aload_n (pc := 89) C 1 dX2_readNode_89 rfl rfl ?_
  obtain ⟨M12, h12, hf⟩ := ob hf
  refine g_resV (pc := 90) C (rnV (As := []) (st := []) C (c_X2_advance C.2.2.2.2.2.1 hk0 h12) lkX2_44 rfl (by decide) hk0 rfl rfl (Nat.le_of_ble_eq_true rfl) ⟨⟨rfl, rfl⟩, Nat.le_of_ble_eq_true rfl, Nat.le_of_ble_eq_true rfl⟩ ⟨Nat.le_of_ble_eq_true rfl, Nat.le_of_ble_eq_true rfl⟩ dX2_readNode_90) ?_
  refine g_iconst (pc := 93) (v := (0 : Int32)) C dX2_readNode_93 (by decide) ?_
  refine g_istore_n (pc := 94) (lv2 := [(3, .int (0 : Int32)), (2, .int ((M.2 a0 4) - (97 : Int32))), (0, .ref (Λ a0)), (1, .int x1)]) C dX2_readNode_94 rfl (by decide) rfl ?_
  refine g_iconst (pc := 95) (v := (0 : Int32)) C dX2_readNode_95 (by decide) ?_
  refine g_istore (pc := 96) (lv2 := [(4, .int (0 : Int32)), (3, .int (0 : Int32)), (2, .int ((M.2 a0 4) - (97 : Int32))), (0, .ref (Λ a0)), (1, .int x1)]) C dX2_readNode_96 (by decide) rfl ?_
  refine g_sub [3, 4, 2, 1, 0] rfl ?_
  exact w_X2_readNode_L98 C hk0 FU M12 x1 ((M.2 a0 4) - (97 : Int32)) (0 : Int32) (0 : Int32)  hf

theorem w_X2_readNode {p : Program} {l : Launch} {e : Env} {s : State} {m : MethodId} {args : Array Value} {below : List Frame} {meth : Method} {c : Code} {D : va_G} {cy : Nat → ClassId} {Λ : Nat → Nat} (C : Cx p s m args meth c cX2_readNode 6 RX2 (some .boolean) D cy Λ (AA Λ s.heap.size)) {M : Mem} {a0 : Nat} {r9 : Int32} {M9 : Mem} (hk0 : Is NN a0 3) (hf : m_X2_readNode M a0 = some (r9, M9)) : GW p l e { frames := 3, cells := 0, slots := 0, locals := 62 } s m args below meth c D cy Λ 6 (QcI D cy Λ NN r9 M9) M 0 [(0, .ref (Λ a0))] [] := by
  unfold m_X2_readNode at hf
  refine g_aload_n (pc := 0) C 0 dX2_readNode_0 rfl rfl ?_
  refine g_getI (pc := 1) C fgX2_25 (by decide) hk0 rfl dX2_readNode_1 ?_
  refine g_bipush (pc := 4) (v := (78 : Int32)) C dX2_readNode_4 (by decide) ?_
  refine g_ic_ne (pc := 6) (tgt := 21) C hf dX2_readNode_6 (by decide) (fun hf => ?_) (fun hf => ?_)
  · refine g_aload_n (pc := 9) C 0 dX2_readNode_9 rfl rfl ?_
    refine g_getR (pc := 10) (T := 4) C hf fgX2_31 (by decide) hk0 rfl dX2_readNode_10 (fun a11 hk11 hf => ?_)
    refine g_getI (pc := 13) C fgX2_58 (by decide) hk11 rfl dX2_readNode_13 ?_
    refine g_bipush (pc := 16) (v := (9 : Int32)) C dX2_readNode_16 (by decide) ?_
    refine g_ic_lt (pc := 18) (tgt := 23) C hf dX2_readNode_18 (by decide) (fun hf => ?_) (fun hf => ?_)
    · refine g_aload_n (pc := 23) C 0 dX2_readNode_23 rfl rfl ?_
      obtain ⟨M12, h12, hf⟩ := ob hf
      refine g_resV (pc := 24) C (rnV (As := []) (st := []) C (c_X2_advance C.2.2.2.2.2.1 hk0 h12) lkX2_44 rfl (by decide) hk0 rfl rfl (Nat.le_of_ble_eq_true rfl) ⟨⟨rfl, rfl⟩, Nat.le_of_ble_eq_true rfl, Nat.le_of_ble_eq_true rfl⟩ ⟨Nat.le_of_ble_eq_true rfl, Nat.le_of_ble_eq_true rfl⟩ dX2_readNode_24) ?_
      refine g_bipush (pc := 27) (v := (-9 : Int32)) C dX2_readNode_27 (by decide) ?_
      refine g_istore_n (pc := 29) (lv2 := [(1, .int (-9 : Int32)), (0, .ref (Λ a0))]) C dX2_readNode_29 rfl (by decide) rfl ?_
      refine g_aload_n (pc := 30) C 1 dX2_readNode_30 rfl rfl ?_
      refine g_getR (pc := 31) (T := 4) C hf fgX2_31 (by decide) hk0 rfl dX2_readNode_31 (fun a13 hk13 hf => ?_)
      refine g_getI (pc := 34) C fgX2_58 (by decide) hk13 rfl dX2_readNode_34 ?_
      refine g_if_le (pc := 37) (tgt := 72) C hf dX2_readNode_37 (by decide) (fun hf => ?_) (fun hf => ?_)
      · refine g_sub [1, 0] rfl ?_
        exact w_X2_readNode_L72 C hk0 M12 (-9 : Int32)  hf
      refine g_aload_n (pc := 40) C 1 dX2_readNode_40 rfl rfl ?_
      refine g_getI (pc := 41) C fgX2_25 (by decide) hk0 rfl dX2_readNode_41 ?_
      refine g_bipush (pc := 44) (v := (48 : Int32)) C dX2_readNode_44 (by decide) ?_
      refine g_isub (pc := 46) C dX2_readNode_46 ?_
      refine g_istore_n (pc := 47) (lv2 := [(1, .int ((M12.2 a0 4) - (48 : Int32))), (0, .ref (Λ a0))]) C dX2_readNode_47 rfl (by decide) rfl ?_
      refine g_aload_n (pc := 48) C 1 dX2_readNode_48 rfl rfl ?_
      obtain ⟨r14, h14, hf⟩ := ob hf
      refine g_resI (pc := 49) C (rnV (As := []) (st := []) C (c_X2_isDigit C.2.2.2.2.2.1 hk0 h14) lkX2_61 rfl (by decide) hk0 rfl rfl (Nat.le_of_ble_eq_true rfl) ⟨⟨rfl, rfl⟩, Nat.le_of_ble_eq_true rfl, Nat.le_of_ble_eq_true rfl⟩ ⟨Nat.le_of_ble_eq_true rfl, Nat.le_of_ble_eq_true rfl⟩ dX2_readNode_49) ?_
      refine g_if_eq (pc := 52) (tgt := 66) C hf dX2_readNode_52 (by decide) (fun hf => ?_) (fun hf => ?_)
      · refine g_iconst (pc := 66) (v := (0 : Int32)) C dX2_readNode_66 (by decide) ?_
        exact g_zretM C (by decide) hf dX2_readNode_67
      refine g_iload_n (pc := 55) C 0 dX2_readNode_55 rfl rfl ?_
      refine g_aload_n (pc := 56) C 1 dX2_readNode_56 rfl rfl ?_
      refine g_getR (pc := 57) (T := 4) C hf fgX2_31 (by decide) hk0 rfl dX2_readNode_57 (fun a15 hk15 hf => ?_)
      refine g_getI (pc := 60) C fgX2_58 (by decide) hk15 rfl dX2_readNode_60 ?_
      refine g_ic_lt (pc := 63) (tgt := 68) C hf dX2_readNode_63 (by decide) (fun hf => ?_) (fun hf => ?_)
      · refine g_aload_n (pc := 68) C 1 dX2_readNode_68 rfl rfl ?_
        obtain ⟨M16, h16, hf⟩ := ob hf
        refine g_resV (pc := 69) C (rnV (As := []) (st := []) C (c_X2_advance C.2.2.2.2.2.1 hk0 h16) lkX2_44 rfl (by decide) hk0 rfl rfl (Nat.le_of_ble_eq_true rfl) ⟨⟨rfl, rfl⟩, Nat.le_of_ble_eq_true rfl, Nat.le_of_ble_eq_true rfl⟩ ⟨Nat.le_of_ble_eq_true rfl, Nat.le_of_ble_eq_true rfl⟩ dX2_readNode_69) ?_
        refine g_sub [1, 0] rfl ?_
        exact w_X2_readNode_L72 C hk0 M16 ((M12.2 a0 4) - (48 : Int32))  hf
      refine g_iconst (pc := 66) (v := (0 : Int32)) C dX2_readNode_66 (by decide) ?_
      exact g_zretM C (by decide) hf dX2_readNode_67
    refine g_iconst (pc := 21) (v := (0 : Int32)) C dX2_readNode_21 (by decide) ?_
    exact g_zretM C (by decide) hf dX2_readNode_22
  refine g_iconst (pc := 21) (v := (0 : Int32)) C dX2_readNode_21 (by decide) ?_
  exact g_zretM C (by decide) hf dX2_readNode_22

theorem c_X2_readNode {l : Launch} {D : va_G} {cy : Nat → ClassId} {Λ : Nat → Nat} (hi : ∀ i j : Nat, Λ i = Λ j → i = j) {M : Mem} {a0 : Nat} {r9 : Int32} {M9 : Mem} (hk0 : Is NN a0 3) (hf : m_X2_readNode M a0 = some (r9, M9)) : Ct l yX2_readNode cX2_readNode 6 (some .boolean) { frames := 3, cells := 0, slots := 0, locals := 62 } D cy Λ [.ref (Λ a0)] NN M 0 0 (QcI D cy Λ NN r9 M9) := ent (by decide) hi (Nat.le_of_ble_eq_true rfl) (fun p e s m args below meth c C => w_X2_readNode C hk0 hf)
theorem w_X3_begin {p : Program} {l : Launch} {e : Env} {s : State} {m : MethodId} {args : Array Value} {below : List Frame} {meth : Method} {c : Code} {D : va_G} {cy : Nat → ClassId} {Λ : Nat → Nat} (C : Cx p s m args meth c cX3_begin 2 RX3 none D cy Λ (AA Λ s.heap.size)) {M : Mem} {a0 : Nat} {x1 : Int32} {M9 : Mem} (hk0 : Is NN a0 4) (hf : m_X3_begin M a0 x1 = some M9) : GW p l e { frames := 0, cells := 0, slots := 0, locals := 0 } s m args below meth c D cy Λ 2 (QcV D cy Λ NN M9) M 0 [(0, .ref (Λ a0)), (1, .int x1)] [] := by
  unfold m_X3_begin at hf
  refine g_aload_n (pc := 0) C 0 dX3_begin_0 rfl rfl ?_
  refine g_iload_n (pc := 1) C 1 dX3_begin_1 rfl rfl ?_
  refine g_pZ (pc := 2) C hf fpX3_28 (by decide) hk0 stX3_0 (Nat.le_of_ble_eq_true rfl) dX3_begin_2 (fun M11 hf => ?_)
  refine g_aload_n (pc := 5) C 0 dX3_begin_5 rfl rfl ?_
  refine g_iconst (pc := 6) (v := (0 : Int32)) C dX3_begin_6 (by decide) ?_
  refine g_pI (pc := 7) C hf fpX3_32 (by decide) hk0 stX3_1 (Nat.le_of_ble_eq_true rfl) rfl rfl dX3_begin_7 (fun M12 hf => ?_)
  refine g_aload_n (pc := 10) C 0 dX3_begin_10 rfl rfl ?_
  refine g_iconst (pc := 11) (v := (0 : Int32)) C dX3_begin_11 (by decide) ?_
  refine g_pI (pc := 12) C hf fpX3_36 (by decide) hk0 stX3_2 (Nat.le_of_ble_eq_true rfl) rfl rfl dX3_begin_12 (fun M13 hf => ?_)
  refine g_aload_n (pc := 15) C 0 dX3_begin_15 rfl rfl ?_
  refine g_iconst (pc := 16) (v := (0 : Int32)) C dX3_begin_16 (by decide) ?_
  refine g_pI (pc := 17) C hf fpX3_39 (by decide) hk0 stX3_3 (Nat.le_of_ble_eq_true rfl) rfl rfl dX3_begin_17 (fun M14 hf => ?_)
  refine g_aload_n (pc := 20) C 0 dX3_begin_20 rfl rfl ?_
  refine g_iconst (pc := 21) (v := (0 : Int32)) C dX3_begin_21 (by decide) ?_
  refine g_pI (pc := 22) C hf fpX3_42 (by decide) hk0 stX3_4 (Nat.le_of_ble_eq_true rfl) rfl rfl dX3_begin_22 (fun M15 hf => ?_)
  exact g_vret C hf dX3_begin_25

theorem c_X3_begin {l : Launch} {D : va_G} {cy : Nat → ClassId} {Λ : Nat → Nat} (hi : ∀ i j : Nat, Λ i = Λ j → i = j) {M : Mem} {a0 : Nat} {x1 : Int32} {M9 : Mem} (hk0 : Is NN a0 4) (hf : m_X3_begin M a0 x1 = some M9) : Ct l yX3_begin cX3_begin 2 none { frames := 0, cells := 0, slots := 0, locals := 0 } D cy Λ [.ref (Λ a0), .int x1] NN M 0 0 (QcV D cy Λ NN M9) := ent (by decide) hi (Nat.le_of_ble_eq_true rfl) (fun p e s m args below meth c C => w_X3_begin C hk0 hf)
theorem w_J6_bitCount_0f7a4 {p : Program} {l : Launch} {e : Env} {s : State} {m : MethodId} {args : Array Value} {below : List Frame} {meth : Method} {c : Code} {D : va_G} {cy : Nat → ClassId} {Λ : Nat → Nat} (C : Cx p s m args meth c cJ6_bitCount_0f7a4 1 RJ6 (some .int) D cy Λ (AA Λ s.heap.size)) {M : Mem} {x0 : Int32} {r9 : Int32}  (hf : m_J6_bitCount_0f7a4 x0 = some r9) : GW p l e { frames := 0, cells := 0, slots := 0, locals := 0 } s m args below meth c D cy Λ 1 (QcI D cy Λ NN r9 M) M 0 [(0, .int x0)] [] := by
  unfold m_J6_bitCount_0f7a4 at hf
  refine g_iload_n (pc := 0) C 0 dJ6_bitCount_0f7a4_0 rfl rfl ?_
  refine g_iload_n (pc := 1) C 0 dJ6_bitCount_0f7a4_1 rfl rfl ?_
  refine g_iconst (pc := 2) (v := (1 : Int32)) C dJ6_bitCount_0f7a4_2 (by decide) ?_
  refine g_iushr (pc := 3) C dJ6_bitCount_0f7a4_3 ?_
  refine g_ldcw (pc := 4) C tw_403 dJ6_bitCount_0f7a4_4 ?_
  refine g_iand (pc := 7) C dJ6_bitCount_0f7a4_7 ?_
  refine g_isub (pc := 8) C dJ6_bitCount_0f7a4_8 ?_
  refine g_nm hf (fun y11 hf => ?_)
  refine g_istore_n (pc := 9) (lv2 := [(0, .int y11)]) C dJ6_bitCount_0f7a4_9 rfl (by decide) rfl ?_
  refine g_iload_n (pc := 10) C 0 dJ6_bitCount_0f7a4_10 rfl rfl ?_
  refine g_ldcw (pc := 11) C tw_404 dJ6_bitCount_0f7a4_11 ?_
  refine g_iand (pc := 14) C dJ6_bitCount_0f7a4_14 ?_
  refine g_iload_n (pc := 15) C 0 dJ6_bitCount_0f7a4_15 rfl rfl ?_
  refine g_iconst (pc := 16) (v := (2 : Int32)) C dJ6_bitCount_0f7a4_16 (by decide) ?_
  refine g_iushr (pc := 17) C dJ6_bitCount_0f7a4_17 ?_
  refine g_ldcw (pc := 18) C tw_404 dJ6_bitCount_0f7a4_18 ?_
  refine g_iand (pc := 21) C dJ6_bitCount_0f7a4_21 ?_
  refine g_iadd (pc := 22) C dJ6_bitCount_0f7a4_22 ?_
  refine g_nm hf (fun y12 hf => ?_)
  refine g_istore_n (pc := 23) (lv2 := [(0, .int y12)]) C dJ6_bitCount_0f7a4_23 rfl (by decide) rfl ?_
  refine g_iload_n (pc := 24) C 0 dJ6_bitCount_0f7a4_24 rfl rfl ?_
  refine g_iload_n (pc := 25) C 0 dJ6_bitCount_0f7a4_25 rfl rfl ?_
  refine g_iconst (pc := 26) (v := (4 : Int32)) C dJ6_bitCount_0f7a4_26 (by decide) ?_
  refine g_iushr (pc := 27) C dJ6_bitCount_0f7a4_27 ?_
  refine g_iadd (pc := 28) C dJ6_bitCount_0f7a4_28 ?_
  refine g_ldcw (pc := 29) C tw_405 dJ6_bitCount_0f7a4_29 ?_
  refine g_iand (pc := 32) C dJ6_bitCount_0f7a4_32 ?_
  refine g_nm hf (fun y13 hf => ?_)
  refine g_istore_n (pc := 33) (lv2 := [(0, .int y13)]) C dJ6_bitCount_0f7a4_33 rfl (by decide) rfl ?_
  refine g_iload_n (pc := 34) C 0 dJ6_bitCount_0f7a4_34 rfl rfl ?_
  refine g_iload_n (pc := 35) C 0 dJ6_bitCount_0f7a4_35 rfl rfl ?_
  refine g_bipush (pc := 36) (v := (8 : Int32)) C dJ6_bitCount_0f7a4_36 (by decide) ?_
  refine g_iushr (pc := 38) C dJ6_bitCount_0f7a4_38 ?_
  refine g_iadd (pc := 39) C dJ6_bitCount_0f7a4_39 ?_
  refine g_nm hf (fun y14 hf => ?_)
  refine g_istore_n (pc := 40) (lv2 := [(0, .int y14)]) C dJ6_bitCount_0f7a4_40 rfl (by decide) rfl ?_
  refine g_iload_n (pc := 41) C 0 dJ6_bitCount_0f7a4_41 rfl rfl ?_
  refine g_iload_n (pc := 42) C 0 dJ6_bitCount_0f7a4_42 rfl rfl ?_
  refine g_bipush (pc := 43) (v := (16 : Int32)) C dJ6_bitCount_0f7a4_43 (by decide) ?_
  refine g_iushr (pc := 45) C dJ6_bitCount_0f7a4_45 ?_
  refine g_iadd (pc := 46) C dJ6_bitCount_0f7a4_46 ?_
  refine g_nm hf (fun y15 hf => ?_)
  refine g_istore_n (pc := 47) (lv2 := [(0, .int y15)]) C dJ6_bitCount_0f7a4_47 rfl (by decide) rfl ?_
  refine g_iload_n (pc := 48) C 0 dJ6_bitCount_0f7a4_48 rfl rfl ?_
  refine g_bipush (pc := 49) (v := (63 : Int32)) C dJ6_bitCount_0f7a4_49 (by decide) ?_
  refine g_iand (pc := 51) C dJ6_bitCount_0f7a4_51 ?_
  exact g_iret C hf dJ6_bitCount_0f7a4_52

theorem c_J6_bitCount_0f7a4 {l : Launch} {D : va_G} {cy : Nat → ClassId} {Λ : Nat → Nat} (hi : ∀ i j : Nat, Λ i = Λ j → i = j) {M : Mem} {x0 : Int32} {r9 : Int32}  (hf : m_J6_bitCount_0f7a4 x0 = some r9) : Ct l yJ6_bitCount_0f7a4 cJ6_bitCount_0f7a4 1 (some .int) { frames := 0, cells := 0, slots := 0, locals := 0 } D cy Λ [.int x0] NN M 0 0 (QcI D cy Λ NN r9 M) := ent (by decide) hi (Nat.le_of_ble_eq_true rfl) (fun p e s m args below meth c C => w_J6_bitCount_0f7a4 C  hf)
theorem w_X3_addCompound {p : Program} {l : Launch} {e : Env} {s : State} {m : MethodId} {args : Array Value} {below : List Frame} {meth : Method} {c : Code} {D : va_G} {cy : Nat → ClassId} {Λ : Nat → Nat} (C : Cx p s m args meth c cX3_addCompound 4 RX3 none D cy Λ (AA Λ s.heap.size)) {M : Mem} {a0 : Nat} {x1 : Int32} {x2 : Int32} {x3 : Int32} {M9 : Mem} (hk0 : Is NN a0 4) (hf : m_X3_addCompound M a0 x1 x2 x3 = some M9) : GW p l e { frames := 1, cells := 0, slots := 0, locals := 21 } s m args below meth c D cy Λ 4 (QcV D cy Λ NN M9) M 0 [(0, .ref (Λ a0)), (1, .int x1), (2, .int x2), (3, .int x3)] [] := by
  unfold m_X3_addCompound at hf
  refine g_aload_n (pc := 0) C 0 dX3_addCompound_0 rfl rfl ?_
  refine g_getI (pc := 1) C fgX3_32 (by decide) hk0 rfl dX3_addCompound_1 ?_
  refine g_iconst (pc := 4) (v := (3 : Int32)) C dX3_addCompound_4 (by decide) ?_
  obtain ⟨r11, h11, hf⟩ := ob hf
  refine g_resI (pc := 5) C (rnSN (As := [.int (M.2 a0 1), .int (3 : Int32)]) (st := []) C (c_X7_within C.2.2.2.2.2.1  h11) lknX3_45 rfl rfl (Nat.le_of_ble_eq_true rfl) ⟨⟨rfl, rfl⟩, Nat.le_of_ble_eq_true rfl, Nat.le_of_ble_eq_true rfl⟩ ⟨Nat.le_of_ble_eq_true rfl, Nat.le_of_ble_eq_true rfl⟩ dX3_addCompound_5) ?_
  refine g_if_eq (pc := 8) (tgt := 79) C hf dX3_addCompound_8 (by decide) (fun hf => ?_) (fun hf => ?_)
  · exact g_vret C hf dX3_addCompound_79
  refine g_aload_n (pc := 11) C 0 dX3_addCompound_11 rfl rfl ?_
  refine g_getR (pc := 12) (T := 9) C hf fgX3_9 (by decide) hk0 rfl dX3_addCompound_12 (fun a12 hk12 hf => ?_)
  refine g_aload_n (pc := 15) C 0 dX3_addCompound_15 rfl rfl ?_
  refine g_getI (pc := 16) C fgX3_32 (by decide) hk0 rfl dX3_addCompound_16 ?_
  refine g_iload_n (pc := 19) C 1 dX3_addCompound_19 rfl rfl ?_
  refine g_iast (pc := 20) C hf hk12 dX3_addCompound_20 (fun M13 hf => ?_)
  refine g_aload_n (pc := 21) C 0 dX3_addCompound_21 rfl rfl ?_
  refine g_getR (pc := 22) (T := 9) C hf fgX3_15 (by decide) hk0 rfl dX3_addCompound_22 (fun a14 hk14 hf => ?_)
  refine g_aload_n (pc := 25) C 0 dX3_addCompound_25 rfl rfl ?_
  refine g_getI (pc := 26) C fgX3_32 (by decide) hk0 rfl dX3_addCompound_26 ?_
  refine g_iload_n (pc := 29) C 2 dX3_addCompound_29 rfl rfl ?_
  refine g_iast (pc := 30) C hf hk14 dX3_addCompound_30 (fun M15 hf => ?_)
  refine g_aload_n (pc := 31) C 0 dX3_addCompound_31 rfl rfl ?_
  refine g_getR (pc := 32) (T := 11) C hf fgX3_18 (by decide) hk0 rfl dX3_addCompound_32 (fun a16 hk16 hf => ?_)
  refine g_aload_n (pc := 35) C 0 dX3_addCompound_35 rfl rfl ?_
  refine g_getI (pc := 36) C fgX3_32 (by decide) hk0 rfl dX3_addCompound_36 ?_
  refine g_iload_n (pc := 39) C 3 dX3_addCompound_39 rfl rfl ?_
  refine g_zast (pc := 40) C hf hk16 dX3_addCompound_40 (fun M17 hf => ?_)
  refine g_aload_n (pc := 41) C 0 dX3_addCompound_41 rfl rfl ?_
  refine g_dup (pc := 42) C dX3_addCompound_42 rfl ?_
  refine g_getI (pc := 43) C fgX3_32 (by decide) hk0 rfl dX3_addCompound_43 ?_
  refine g_iconst (pc := 46) (v := (1 : Int32)) C dX3_addCompound_46 (by decide) ?_
  refine g_iadd (pc := 47) C dX3_addCompound_47 ?_
  refine g_pI (pc := 48) C hf fpX3_32 (by decide) hk0 stX3_1 (Nat.le_of_ble_eq_true rfl) rfl rfl dX3_addCompound_48 (fun M18 hf => ?_)
  refine g_aload_n (pc := 51) C 0 dX3_addCompound_51 rfl rfl ?_
  refine g_dup (pc := 52) C dX3_addCompound_52 rfl ?_
  refine g_getI (pc := 53) C fgX3_36 (by decide) hk0 rfl dX3_addCompound_53 ?_
  refine g_bipush (pc := 56) (v := (10 : Int32)) C dX3_addCompound_56 (by decide) ?_
  refine g_iload_n (pc := 58) C 2 dX3_addCompound_58 rfl rfl ?_
  obtain ⟨r19, h19, hf⟩ := ob hf
  refine g_resI (pc := 59) C (rnS (As := [.int x2]) (st := [.int (10 : Int32), .int (M18.2 a0 2), .ref (Λ a0)]) C (c_J6_bitCount_0f7a4 C.2.2.2.2.2.1  h19) lkX3_49 rfl rfl (Nat.le_of_ble_eq_true rfl) ⟨⟨rfl, rfl⟩, Nat.le_of_ble_eq_true rfl, Nat.le_of_ble_eq_true rfl⟩ ⟨Nat.le_of_ble_eq_true rfl, Nat.le_of_ble_eq_true rfl⟩ dX3_addCompound_59) ?_
  refine g_imul (pc := 62) C dX3_addCompound_62 ?_
  refine g_iload_n (pc := 63) C 1 dX3_addCompound_63 rfl rfl ?_
  refine g_bipush (pc := 64) (v := (-9 : Int32)) C dX3_addCompound_64 (by decide) ?_
  refine g_ic_ne (pc := 66) (tgt := 73) C hf dX3_addCompound_66 (by decide) (fun hf => ?_) (fun hf => ?_)
  · refine g_iconst (pc := 69) (v := (0 : Int32)) C dX3_addCompound_69 (by decide) ?_
    refine g_goto (pc := 70) (tgt := 74) C dX3_addCompound_70 (by decide) ?_
    refine g_iadd (pc := 74) C dX3_addCompound_74 ?_
    refine g_iadd (pc := 75) C dX3_addCompound_75 ?_
    refine g_pI (pc := 76) C hf fpX3_36 (by decide) hk0 stX3_2 (Nat.le_of_ble_eq_true rfl) rfl rfl dX3_addCompound_76 (fun M20 hf => ?_)
    exact g_vret C hf dX3_addCompound_79
  refine g_iconst (pc := 73) (v := (1 : Int32)) C dX3_addCompound_73 (by decide) ?_
  refine g_iadd (pc := 74) C dX3_addCompound_74 ?_
  refine g_iadd (pc := 75) C dX3_addCompound_75 ?_
  refine g_pI (pc := 76) C hf fpX3_36 (by decide) hk0 stX3_2 (Nat.le_of_ble_eq_true rfl) rfl rfl dX3_addCompound_76 (fun M21 hf => ?_)
  exact g_vret C hf dX3_addCompound_79

theorem c_X3_addCompound {l : Launch} {D : va_G} {cy : Nat → ClassId} {Λ : Nat → Nat} (hi : ∀ i j : Nat, Λ i = Λ j → i = j) {M : Mem} {a0 : Nat} {x1 : Int32} {x2 : Int32} {x3 : Int32} {M9 : Mem} (hk0 : Is NN a0 4) (hf : m_X3_addCompound M a0 x1 x2 x3 = some M9) : Ct l yX3_addCompound cX3_addCompound 4 none { frames := 1, cells := 0, slots := 0, locals := 21 } D cy Λ [.ref (Λ a0), .int x1, .int x2, .int x3] NN M 0 0 (QcV D cy Λ NN M9) := ent (by decide) hi (Nat.le_of_ble_eq_true rfl) (fun p e s m args below meth c C => w_X3_addCompound C hk0 hf)
theorem w_X2_readCompound_L81 {p : Program} {l : Launch} {e : Env} {s : State} {m : MethodId} {args : Array Value} {below : List Frame} {meth : Method} {c : Code} {D : va_G} {cy : Nat → ClassId} {Λ : Nat → Nat} (C : Cx p s m args meth c cX2_readCompound 7 RX2 (some .boolean) D cy Λ (AA Λ s.heap.size)) {a0 : Nat} {a1 : Nat} {x2 : Int32} {k42 : Mem → Int32 → Int32 → Int32 → Option (Int32 × Mem)} {r9 : Int32} {M9 : Mem} (hk0 : Is NN a0 3) (hk1 : Is NN a1 4) (hK42 : ∀ (M : Mem) (x3 : Int32) (x4 : Int32) (x5 : Int32), k42 M x3 x4 x5 = some (r9, M9) → GW p l e { frames := 2, cells := 0, slots := 0, locals := 44 } s m args below meth c D cy Λ 7 (QcI D cy Λ NN r9 M9) M 42 [(0, .ref (Λ a0)), (1, .ref (Λ a1)), (2, .int x2), (3, .int x3), (4, .int x4), (5, .int x5)] []) : ∀ (M : Mem) (x3 : Int32) (x4 : Int32) (x5 : Int32) (s0 : Int32), m_X2_readCompound_L81 a0 a1 x2 k42 M x3 x4 x5 s0 = some (r9, M9) → GW p l e { frames := 2, cells := 0, slots := 0, locals := 44 } s m args below meth c D cy Λ 7 (QcI D cy Λ NN r9 M9) M 81 [(0, .ref (Λ a0)), (1, .ref (Λ a1)), (2, .int x2), (3, .int x3), (4, .int x4), (5, .int x5)] [.int s0] := by
  intro M x3 x4 x5 s0  hf
  unfold m_X2_readCompound_L81 at hf
  refine g_istore (pc := 81) (lv2 := [(6, .int s0), (0, .ref (Λ a0)), (1, .ref (Λ a1)), (2, .int x2), (3, .int x3), (4, .int x4), (5, .int x5)]) C dX2_readCompound_81 (by decide) rfl ?_
  refine g_iload (pc := 83) C 0 dX2_readCompound_83 rfl ?_
  refine g_if_eq (pc := 85) (tgt := 96) C hf dX2_readCompound_85 (by decide) (fun hf => ?_) (fun hf => ?_)
  · refine g_iconst (pc := 96) (v := (0 : Int32)) C dX2_readCompound_96 (by decide) ?_
    exact g_zretM C (by decide) hf dX2_readCompound_97
  refine g_iload (pc := 88) C 5 dX2_readCompound_88 rfl ?_
  refine g_iload (pc := 90) C 0 dX2_readCompound_90 rfl ?_
  refine g_iand (pc := 92) C dX2_readCompound_92 ?_
  refine g_if_eq (pc := 93) (tgt := 98) C hf dX2_readCompound_93 (by decide) (fun hf => ?_) (fun hf => ?_)
  · refine g_iload (pc := 98) C 5 dX2_readCompound_98 rfl ?_
    refine g_iload (pc := 100) C 0 dX2_readCompound_100 rfl ?_
    refine g_ior (pc := 102) C dX2_readCompound_102 ?_
    refine g_istore (pc := 103) (lv2 := [(4, .int (x4 ||| s0)), (6, .int s0), (0, .ref (Λ a0)), (1, .ref (Λ a1)), (2, .int x2), (3, .int x3), (5, .int x5)]) C dX2_readCompound_103 (by decide) rfl ?_
    refine g_aload_n (pc := 105) C 2 dX2_readCompound_105 rfl rfl ?_
    obtain ⟨M11, h11, hf⟩ := ob hf
    refine g_resV (pc := 106) C (rnV (As := []) (st := []) C (c_X2_advance C.2.2.2.2.2.1 hk0 h11) lkX2_44 rfl (by decide) hk0 rfl rfl (Nat.le_of_ble_eq_true rfl) ⟨⟨rfl, rfl⟩, Nat.le_of_ble_eq_true rfl, Nat.le_of_ble_eq_true rfl⟩ ⟨Nat.le_of_ble_eq_true rfl, Nat.le_of_ble_eq_true rfl⟩ dX2_readCompound_106) ?_
    refine g_iinc (pc := 109) (v := (x5 + (1 : Int32))) (lv2 := [(5, .int (x5 + (1 : Int32))), (4, .int (x4 ||| s0)), (6, .int s0), (0, .ref (Λ a0)), (1, .ref (Λ a1)), (2, .int x2), (3, .int x3)]) C 6 dX2_readCompound_109 rfl rfl (by decide) rfl ?_
    refine g_goto (pc := 112) (tgt := 42) C dX2_readCompound_112 (by decide) ?_
    refine g_sub [3, 4, 5, 6, 1, 0] rfl ?_
    exact hK42 M11 x3 (x4 ||| s0) (x5 + (1 : Int32))  hf
  refine g_iconst (pc := 96) (v := (0 : Int32)) C dX2_readCompound_96 (by decide) ?_
  exact g_zretM C (by decide) hf dX2_readCompound_97

theorem w_X2_readCompound_L42 {p : Program} {l : Launch} {e : Env} {s : State} {m : MethodId} {args : Array Value} {below : List Frame} {meth : Method} {c : Code} {D : va_G} {cy : Nat → ClassId} {Λ : Nat → Nat} (C : Cx p s m args meth c cX2_readCompound 7 RX2 (some .boolean) D cy Λ (AA Λ s.heap.size)) {a0 : Nat} {a1 : Nat} {x2 : Int32}  {r9 : Int32} {M9 : Mem} (hk0 : Is NN a0 3) (hk1 : Is NN a1 4)  : ∀ (fu : Nat) (M : Mem) (x3 : Int32) (x4 : Int32) (x5 : Int32), m_X2_readCompound_L42 a0 a1 x2 fu M x3 x4 x5 = some (r9, M9) → GW p l e { frames := 2, cells := 0, slots := 0, locals := 44 } s m args below meth c D cy Λ 7 (QcI D cy Λ NN r9 M9) M 42 [(0, .ref (Λ a0)), (1, .ref (Λ a1)), (2, .int x2), (3, .int x3), (4, .int x4), (5, .int x5)] [] := by
  intro fu
  induction fu with
  | zero =>
    intro M x3 x4 x5  hf
    cases hf
  | succ fu ih =>
    intro M x3 x4 x5  hf
    unfold m_X2_readCompound_L42 at hf
    refine g_iload (pc := 42) C 5 dX2_readCompound_42 rfl ?_
    refine g_iconst (pc := 44) (v := (4 : Int32)) C dX2_readCompound_44 (by decide) ?_
    refine g_ic_gt (pc := 45) (tgt := 115) C hf dX2_readCompound_45 (by decide) (fun hf => ?_) (fun hf => ?_)
    · refine g_aload_n (pc := 115) C 1 dX2_readCompound_115 rfl rfl ?_
      refine g_iload_n (pc := 116) C 3 dX2_readCompound_116 rfl rfl ?_
      refine g_iload (pc := 117) C 4 dX2_readCompound_117 rfl ?_
      refine g_iload_n (pc := 119) C 2 dX2_readCompound_119 rfl rfl ?_
      obtain ⟨M11, h11, hf⟩ := ob hf
      refine g_resV (pc := 120) C (rnV (As := [.int x3, .int x4, .int x2]) (st := []) C (c_X3_addCompound C.2.2.2.2.2.1 hk1 h11) lkX2_111 rfl (by decide) hk1 rfl rfl (Nat.le_of_ble_eq_true rfl) ⟨⟨rfl, rfl⟩, Nat.le_of_ble_eq_true rfl, Nat.le_of_ble_eq_true rfl⟩ ⟨Nat.le_of_ble_eq_true rfl, Nat.le_of_ble_eq_true rfl⟩ dX2_readCompound_120) ?_
      refine g_iconst (pc := 123) (v := (1 : Int32)) C dX2_readCompound_123 (by decide) ?_
      exact g_zretM C (by decide) hf dX2_readCompound_124
    refine g_aload_n (pc := 48) C 0 dX2_readCompound_48 rfl rfl ?_
    refine g_getI (pc := 49) C fgX2_25 (by decide) hk0 rfl dX2_readCompound_49 ?_
    refine g_bipush (pc := 52) (v := (46 : Int32)) C dX2_readCompound_52 (by decide) ?_
    refine g_ic_ne (pc := 54) (tgt := 115) C hf dX2_readCompound_54 (by decide) (fun hf => ?_) (fun hf => ?_)
    · refine g_aload_n (pc := 57) C 0 dX2_readCompound_57 rfl rfl ?_
      obtain ⟨M12, h12, hf⟩ := ob hf
      refine g_resV (pc := 58) C (rnV (As := []) (st := []) C (c_X2_advance C.2.2.2.2.2.1 hk0 h12) lkX2_44 rfl (by decide) hk0 rfl rfl (Nat.le_of_ble_eq_true rfl) ⟨⟨rfl, rfl⟩, Nat.le_of_ble_eq_true rfl, Nat.le_of_ble_eq_true rfl⟩ ⟨Nat.le_of_ble_eq_true rfl, Nat.le_of_ble_eq_true rfl⟩ dX2_readCompound_58) ?_
      refine g_aload_n (pc := 61) C 0 dX2_readCompound_61 rfl rfl ?_
      obtain ⟨r13, h13, hf⟩ := ob hf
      refine g_resI (pc := 62) C (rnV (As := []) (st := []) C (c_X2_isClass C.2.2.2.2.2.1 hk0 h13) lkX2_67 rfl (by decide) hk0 rfl rfl (Nat.le_of_ble_eq_true rfl) ⟨⟨rfl, rfl⟩, Nat.le_of_ble_eq_true rfl, Nat.le_of_ble_eq_true rfl⟩ ⟨Nat.le_of_ble_eq_true rfl, Nat.le_of_ble_eq_true rfl⟩ dX2_readCompound_62) ?_
      refine g_if_eq (pc := 65) (tgt := 80) C hf dX2_readCompound_65 (by decide) (fun hf => ?_) (fun hf => ?_)
      · refine g_iconst (pc := 80) (v := (0 : Int32)) C dX2_readCompound_80 (by decide) ?_
        exact w_X2_readCompound_L81 C hk0 hk1 ih M12 x3 x4 x5 (0 : Int32)  hf
      refine g_iconst (pc := 68) (v := (1 : Int32)) C dX2_readCompound_68 (by decide) ?_
      refine g_aload_n (pc := 69) C 0 dX2_readCompound_69 rfl rfl ?_
      refine g_getI (pc := 70) C fgX2_25 (by decide) hk0 rfl dX2_readCompound_70 ?_
      refine g_bipush (pc := 73) (v := (112 : Int32)) C dX2_readCompound_73 (by decide) ?_
      refine g_isub (pc := 75) C dX2_readCompound_75 ?_
      refine g_ishl (pc := 76) C dX2_readCompound_76 ?_
      refine g_goto (pc := 77) (tgt := 81) C dX2_readCompound_77 (by decide) ?_
      exact w_X2_readCompound_L81 C hk0 hk1 ih M12 x3 x4 x5 ((1 : Int32) <<< (((M12.2 a0 4) - (112 : Int32)) &&& 31))  hf
    refine g_aload_n (pc := 115) C 1 dX2_readCompound_115 rfl rfl ?_
    refine g_iload_n (pc := 116) C 3 dX2_readCompound_116 rfl rfl ?_
    refine g_iload (pc := 117) C 4 dX2_readCompound_117 rfl ?_
    refine g_iload_n (pc := 119) C 2 dX2_readCompound_119 rfl rfl ?_
    obtain ⟨M14, h14, hf⟩ := ob hf
    refine g_resV (pc := 120) C (rnV (As := [.int x3, .int x4, .int x2]) (st := []) C (c_X3_addCompound C.2.2.2.2.2.1 hk1 h14) lkX2_111 rfl (by decide) hk1 rfl rfl (Nat.le_of_ble_eq_true rfl) ⟨⟨rfl, rfl⟩, Nat.le_of_ble_eq_true rfl, Nat.le_of_ble_eq_true rfl⟩ ⟨Nat.le_of_ble_eq_true rfl, Nat.le_of_ble_eq_true rfl⟩ dX2_readCompound_120) ?_
    refine g_iconst (pc := 123) (v := (1 : Int32)) C dX2_readCompound_123 (by decide) ?_
    exact g_zretM C (by decide) hf dX2_readCompound_124

theorem w_X2_readCompound {p : Program} {l : Launch} {e : Env} {s : State} {m : MethodId} {args : Array Value} {below : List Frame} {meth : Method} {c : Code} {D : va_G} {cy : Nat → ClassId} {Λ : Nat → Nat} (C : Cx p s m args meth c cX2_readCompound 7 RX2 (some .boolean) D cy Λ (AA Λ s.heap.size)) {M : Mem} {a0 : Nat} {a1 : Nat} {x2 : Int32} {r9 : Int32} {M9 : Mem} (hk0 : Is NN a0 3) (hk1 : Is NN a1 4) (hf : m_X2_readCompound M a0 a1 x2 = some (r9, M9)) : GW p l e { frames := 2, cells := 0, slots := 0, locals := 44 } s m args below meth c D cy Λ 7 (QcI D cy Λ NN r9 M9) M 0 [(0, .ref (Λ a0)), (1, .ref (Λ a1)), (2, .int x2)] [] := by
  unfold m_X2_readCompound at hf
  refine g_bipush (pc := 0) (v := (-9 : Int32)) C dX2_readCompound_0 (by decide) ?_
  refine g_istore_n (pc := 2) (lv2 := [(3, .int (-9 : Int32)), (0, .ref (Λ a0)), (1, .ref (Λ a1)), (2, .int x2)]) C dX2_readCompound_2 rfl (by decide) rfl ?_
  refine g_aload_n (pc := 3) C 1 dX2_readCompound_3 rfl rfl ?_
  obtain ⟨r11, h11, hf⟩ := ob hf
  refine g_resI (pc := 4) C (rnV (As := []) (st := []) C (c_X2_isTag C.2.2.2.2.2.1 hk0 h11) lkX2_64 rfl (by decide) hk0 rfl rfl (Nat.le_of_ble_eq_true rfl) ⟨⟨rfl, rfl⟩, Nat.le_of_ble_eq_true rfl, Nat.le_of_ble_eq_true rfl⟩ ⟨Nat.le_of_ble_eq_true rfl, Nat.le_of_ble_eq_true rfl⟩ dX2_readCompound_4) ?_
  refine g_if_eq (pc := 7) (tgt := 25) C hf dX2_readCompound_7 (by decide) (fun hf => ?_) (fun hf => ?_)
  · refine g_aload_n (pc := 25) C 1 dX2_readCompound_25 rfl rfl ?_
    refine g_getI (pc := 26) C fgX2_25 (by decide) hk0 rfl dX2_readCompound_26 ?_
    refine g_bipush (pc := 29) (v := (46 : Int32)) C dX2_readCompound_29 (by decide) ?_
    refine g_ic_eq (pc := 31) (tgt := 36) C hf dX2_readCompound_31 (by decide) (fun hf => ?_) (fun hf => ?_)
    · refine g_iconst (pc := 36) (v := (0 : Int32)) C dX2_readCompound_36 (by decide) ?_
      refine g_istore (pc := 37) (lv2 := [(4, .int (0 : Int32)), (3, .int (-9 : Int32)), (0, .ref (Λ a0)), (1, .ref (Λ a1)), (2, .int x2)]) C dX2_readCompound_37 (by decide) rfl ?_
      refine g_iconst (pc := 39) (v := (0 : Int32)) C dX2_readCompound_39 (by decide) ?_
      refine g_istore (pc := 40) (lv2 := [(5, .int (0 : Int32)), (4, .int (0 : Int32)), (3, .int (-9 : Int32)), (0, .ref (Λ a0)), (1, .ref (Λ a1)), (2, .int x2)]) C dX2_readCompound_40 (by decide) rfl ?_
      refine g_sub [3, 4, 5, 2, 1, 0] rfl ?_
      exact w_X2_readCompound_L42 C hk0 hk1 FU M (-9 : Int32) (0 : Int32) (0 : Int32)  hf
    refine g_iconst (pc := 34) (v := (0 : Int32)) C dX2_readCompound_34 (by decide) ?_
    exact g_zretM C (by decide) hf dX2_readCompound_35
  refine g_aload_n (pc := 10) C 1 dX2_readCompound_10 rfl rfl ?_
  refine g_getI (pc := 11) C fgX2_25 (by decide) hk0 rfl dX2_readCompound_11 ?_
  refine g_bipush (pc := 14) (v := (97 : Int32)) C dX2_readCompound_14 (by decide) ?_
  refine g_isub (pc := 16) C dX2_readCompound_16 ?_
  refine g_istore_n (pc := 17) (lv2 := [(3, .int ((M.2 a0 4) - (97 : Int32))), (0, .ref (Λ a0)), (1, .ref (Λ a1)), (2, .int x2)]) C dX2_readCompound_17 rfl (by decide) rfl ?_
  refine g_aload_n (pc := 18) C 1 dX2_readCompound_18 rfl rfl ?_
  obtain ⟨M12, h12, hf⟩ := ob hf
  refine g_resV (pc := 19) C (rnV (As := []) (st := []) C (c_X2_advance C.2.2.2.2.2.1 hk0 h12) lkX2_44 rfl (by decide) hk0 rfl rfl (Nat.le_of_ble_eq_true rfl) ⟨⟨rfl, rfl⟩, Nat.le_of_ble_eq_true rfl, Nat.le_of_ble_eq_true rfl⟩ ⟨Nat.le_of_ble_eq_true rfl, Nat.le_of_ble_eq_true rfl⟩ dX2_readCompound_19) ?_
  refine g_goto (pc := 22) (tgt := 36) C dX2_readCompound_22 (by decide) ?_
  refine g_iconst (pc := 36) (v := (0 : Int32)) C dX2_readCompound_36 (by decide) ?_
  refine g_istore (pc := 37) (lv2 := [(4, .int (0 : Int32)), (3, .int ((M.2 a0 4) - (97 : Int32))), (0, .ref (Λ a0)), (1, .ref (Λ a1)), (2, .int x2)]) C dX2_readCompound_37 (by decide) rfl ?_
  refine g_iconst (pc := 39) (v := (0 : Int32)) C dX2_readCompound_39 (by decide) ?_
  refine g_istore (pc := 40) (lv2 := [(5, .int (0 : Int32)), (4, .int (0 : Int32)), (3, .int ((M.2 a0 4) - (97 : Int32))), (0, .ref (Λ a0)), (1, .ref (Λ a1)), (2, .int x2)]) C dX2_readCompound_40 (by decide) rfl ?_
  refine g_sub [3, 4, 5, 2, 1, 0] rfl ?_
  exact w_X2_readCompound_L42 C hk0 hk1 FU M12 ((M.2 a0 4) - (97 : Int32)) (0 : Int32) (0 : Int32)  hf

theorem c_X2_readCompound {l : Launch} {D : va_G} {cy : Nat → ClassId} {Λ : Nat → Nat} (hi : ∀ i j : Nat, Λ i = Λ j → i = j) {M : Mem} {a0 : Nat} {a1 : Nat} {x2 : Int32} {r9 : Int32} {M9 : Mem} (hk0 : Is NN a0 3) (hk1 : Is NN a1 4) (hf : m_X2_readCompound M a0 a1 x2 = some (r9, M9)) : Ct l yX2_readCompound cX2_readCompound 7 (some .boolean) { frames := 2, cells := 0, slots := 0, locals := 44 } D cy Λ [.ref (Λ a0), .ref (Λ a1), .int x2] NN M 0 0 (QcI D cy Λ NN r9 M9) := ent (by decide) hi (Nat.le_of_ble_eq_true rfl) (fun p e s m args below meth c C => w_X2_readCompound C hk0 hk1 hf)
theorem w_X2_isJoint {p : Program} {l : Launch} {e : Env} {s : State} {m : MethodId} {args : Array Value} {below : List Frame} {meth : Method} {c : Code} {D : va_G} {cy : Nat → ClassId} {Λ : Nat → Nat} (C : Cx p s m args meth c cX2_isJoint 1 RX2 (some .boolean) D cy Λ (AA Λ s.heap.size)) {M : Mem} {a0 : Nat} {r9 : Int32} (hk0 : Is NN a0 3) (hf : m_X2_isJoint M a0 = some r9) : GW p l e { frames := 0, cells := 0, slots := 0, locals := 0 } s m args below meth c D cy Λ 1 (QcI D cy Λ NN r9 M) M 0 [(0, .ref (Λ a0))] [] := by
  unfold m_X2_isJoint at hf
  refine g_aload_n (pc := 0) C 0 dX2_isJoint_0 rfl rfl ?_
  refine g_getI (pc := 1) C fgX2_25 (by decide) hk0 rfl dX2_isJoint_1 ?_
  refine g_bipush (pc := 4) (v := (62 : Int32)) C dX2_isJoint_4 (by decide) ?_
  refine g_ic_eq (pc := 6) (tgt := 18) C hf dX2_isJoint_6 (by decide) (fun hf => ?_) (fun hf => ?_)
  · refine g_iconst (pc := 18) (v := (1 : Int32)) C dX2_isJoint_18 (by decide) ?_
    refine g_goto (pc := 19) (tgt := 23) C dX2_isJoint_19 (by decide) ?_
    exact g_zret C (by decide) hf dX2_isJoint_23
  refine g_aload_n (pc := 9) C 0 dX2_isJoint_9 rfl rfl ?_
  refine g_getI (pc := 10) C fgX2_25 (by decide) hk0 rfl dX2_isJoint_10 ?_
  refine g_bipush (pc := 13) (v := (47 : Int32)) C dX2_isJoint_13 (by decide) ?_
  refine g_ic_ne (pc := 15) (tgt := 22) C hf dX2_isJoint_15 (by decide) (fun hf => ?_) (fun hf => ?_)
  · refine g_iconst (pc := 18) (v := (1 : Int32)) C dX2_isJoint_18 (by decide) ?_
    refine g_goto (pc := 19) (tgt := 23) C dX2_isJoint_19 (by decide) ?_
    exact g_zret C (by decide) hf dX2_isJoint_23
  refine g_iconst (pc := 22) (v := (0 : Int32)) C dX2_isJoint_22 (by decide) ?_
  exact g_zret C (by decide) hf dX2_isJoint_23

theorem c_X2_isJoint {l : Launch} {D : va_G} {cy : Nat → ClassId} {Λ : Nat → Nat} (hi : ∀ i j : Nat, Λ i = Λ j → i = j) {M : Mem} {a0 : Nat} {r9 : Int32} (hk0 : Is NN a0 3) (hf : m_X2_isJoint M a0 = some r9) : Ct l yX2_isJoint cX2_isJoint 1 (some .boolean) { frames := 0, cells := 0, slots := 0, locals := 0 } D cy Λ [.ref (Λ a0)] NN M 0 0 (QcI D cy Λ NN r9 M) := ent (by decide) hi (Nat.le_of_ble_eq_true rfl) (fun p e s m args below meth c C => w_X2_isJoint C hk0 hf)
theorem w_X2_readSelector_L39 {p : Program} {l : Launch} {e : Env} {s : State} {m : MethodId} {args : Array Value} {below : List Frame} {meth : Method} {c : Code} {D : va_G} {cy : Nat → ClassId} {Λ : Nat → Nat} (C : Cx p s m args meth c cX2_readSelector 4 RX2 (some .boolean) D cy Λ (AA Λ s.heap.size)) {a0 : Nat} {a1 : Nat} {k13 : Mem → Int32 → Option (Int32 × Mem)} {r9 : Int32} {M9 : Mem} (hk0 : Is NN a0 3) (hk1 : Is NN a1 4) (hK13 : ∀ (M : Mem) (x2 : Int32), k13 M x2 = some (r9, M9) → GW p l e { frames := 3, cells := 0, slots := 0, locals := 70 } s m args below meth c D cy Λ 4 (QcI D cy Λ NN r9 M9) M 13 [(0, .ref (Λ a0)), (1, .ref (Λ a1)), (2, .int x2)] []) : ∀ (M : Mem) (x2 : Int32) (s0 : Int32), m_X2_readSelector_L39 a0 a1 k13 M x2 s0 = some (r9, M9) → GW p l e { frames := 3, cells := 0, slots := 0, locals := 70 } s m args below meth c D cy Λ 4 (QcI D cy Λ NN r9 M9) M 39 [(0, .ref (Λ a0)), (1, .ref (Λ a1)), (2, .int x2)] [.int s0] := by
  intro M x2 s0  hf
  unfold m_X2_readSelector_L39 at hf
  refine g_istore_n (pc := 39) (lv2 := [(3, .int s0), (0, .ref (Λ a0)), (1, .ref (Λ a1)), (2, .int x2)]) C dX2_readSelector_39 rfl (by decide) rfl ?_
  refine g_aload_n (pc := 40) C 1 dX2_readSelector_40 rfl rfl ?_
  obtain ⟨M11, h11, hf⟩ := ob hf
  refine g_resV (pc := 41) C (rnV (As := []) (st := []) C (c_X2_advance C.2.2.2.2.2.1 hk0 h11) lkX2_44 rfl (by decide) hk0 rfl rfl (Nat.le_of_ble_eq_true rfl) ⟨⟨rfl, rfl⟩, Nat.le_of_ble_eq_true rfl, Nat.le_of_ble_eq_true rfl⟩ ⟨Nat.le_of_ble_eq_true rfl, Nat.le_of_ble_eq_true rfl⟩ dX2_readSelector_41) ?_
  refine g_aload_n (pc := 44) C 1 dX2_readSelector_44 rfl rfl ?_
  refine g_aload_n (pc := 45) C 2 dX2_readSelector_45 rfl rfl ?_
  refine g_iload_n (pc := 46) C 0 dX2_readSelector_46 rfl rfl ?_
  obtain ⟨r12, M12, h12, hf⟩ := ob2 hf
  refine g_resI (pc := 47) C (rnV (As := [.ref (Λ a1), .int s0]) (st := []) C (c_X2_readCompound C.2.2.2.2.2.1 hk0 hk1 h12) lkX2_104 rfl (by decide) hk0 rfl rfl (Nat.le_of_ble_eq_true rfl) ⟨⟨rfl, rfl⟩, Nat.le_of_ble_eq_true rfl, Nat.le_of_ble_eq_true rfl⟩ ⟨Nat.le_of_ble_eq_true rfl, Nat.le_of_ble_eq_true rfl⟩ dX2_readSelector_47) ?_
  refine g_if_ne (pc := 50) (tgt := 55) C hf dX2_readSelector_50 (by decide) (fun hf => ?_) (fun hf => ?_)
  · refine g_iconst (pc := 53) (v := (0 : Int32)) C dX2_readSelector_53 (by decide) ?_
    exact g_zretM C (by decide) hf dX2_readSelector_54
  refine g_iinc (pc := 55) (v := (x2 + (1 : Int32))) (lv2 := [(2, .int (x2 + (1 : Int32))), (3, .int s0), (0, .ref (Λ a0)), (1, .ref (Λ a1))]) C 3 dX2_readSelector_55 rfl rfl (by decide) rfl ?_
  refine g_goto (pc := 58) (tgt := 13) C dX2_readSelector_58 (by decide) ?_
  refine g_sub [2, 3, 0] rfl ?_
  exact hK13 M12 (x2 + (1 : Int32))  hf

theorem w_X2_readSelector_L13 {p : Program} {l : Launch} {e : Env} {s : State} {m : MethodId} {args : Array Value} {below : List Frame} {meth : Method} {c : Code} {D : va_G} {cy : Nat → ClassId} {Λ : Nat → Nat} (C : Cx p s m args meth c cX2_readSelector 4 RX2 (some .boolean) D cy Λ (AA Λ s.heap.size)) {a0 : Nat} {a1 : Nat}  {r9 : Int32} {M9 : Mem} (hk0 : Is NN a0 3) (hk1 : Is NN a1 4)  : ∀ (fu : Nat) (M : Mem) (x2 : Int32), m_X2_readSelector_L13 a0 a1 fu M x2 = some (r9, M9) → GW p l e { frames := 3, cells := 0, slots := 0, locals := 70 } s m args below meth c D cy Λ 4 (QcI D cy Λ NN r9 M9) M 13 [(0, .ref (Λ a0)), (1, .ref (Λ a1)), (2, .int x2)] [] := by
  intro fu
  induction fu with
  | zero =>
    intro M x2  hf
    cases hf
  | succ fu ih =>
    intro M x2  hf
    unfold m_X2_readSelector_L13 at hf
    refine g_iload_n (pc := 13) C 2 dX2_readSelector_13 rfl rfl ?_
    refine g_iconst (pc := 14) (v := (3 : Int32)) C dX2_readSelector_14 (by decide) ?_
    refine g_ic_ge (pc := 15) (tgt := 61) C hf dX2_readSelector_15 (by decide) (fun hf => ?_) (fun hf => ?_)
    · refine g_iconst (pc := 61) (v := (1 : Int32)) C dX2_readSelector_61 (by decide) ?_
      exact g_zretM C (by decide) hf dX2_readSelector_62
    refine g_aload_n (pc := 18) C 0 dX2_readSelector_18 rfl rfl ?_
    obtain ⟨r11, h11, hf⟩ := ob hf
    refine g_resI (pc := 19) C (rnV (As := []) (st := []) C (c_X2_isJoint C.2.2.2.2.2.1 hk0 h11) lkX2_108 rfl (by decide) hk0 rfl rfl (Nat.le_of_ble_eq_true rfl) ⟨⟨rfl, rfl⟩, Nat.le_of_ble_eq_true rfl, Nat.le_of_ble_eq_true rfl⟩ ⟨Nat.le_of_ble_eq_true rfl, Nat.le_of_ble_eq_true rfl⟩ dX2_readSelector_19) ?_
    refine g_if_eq (pc := 22) (tgt := 61) C hf dX2_readSelector_22 (by decide) (fun hf => ?_) (fun hf => ?_)
    · refine g_iconst (pc := 61) (v := (1 : Int32)) C dX2_readSelector_61 (by decide) ?_
      exact g_zretM C (by decide) hf dX2_readSelector_62
    refine g_aload_n (pc := 25) C 0 dX2_readSelector_25 rfl rfl ?_
    refine g_getI (pc := 26) C fgX2_25 (by decide) hk0 rfl dX2_readSelector_26 ?_
    refine g_bipush (pc := 29) (v := (62 : Int32)) C dX2_readSelector_29 (by decide) ?_
    refine g_ic_ne (pc := 31) (tgt := 38) C hf dX2_readSelector_31 (by decide) (fun hf => ?_) (fun hf => ?_)
    · refine g_iconst (pc := 34) (v := (1 : Int32)) C dX2_readSelector_34 (by decide) ?_
      refine g_goto (pc := 35) (tgt := 39) C dX2_readSelector_35 (by decide) ?_
      exact w_X2_readSelector_L39 C hk0 hk1 ih M x2 (1 : Int32)  hf
    refine g_iconst (pc := 38) (v := (0 : Int32)) C dX2_readSelector_38 (by decide) ?_
    exact w_X2_readSelector_L39 C hk0 hk1 ih M x2 (0 : Int32)  hf

theorem w_X2_readSelector {p : Program} {l : Launch} {e : Env} {s : State} {m : MethodId} {args : Array Value} {below : List Frame} {meth : Method} {c : Code} {D : va_G} {cy : Nat → ClassId} {Λ : Nat → Nat} (C : Cx p s m args meth c cX2_readSelector 4 RX2 (some .boolean) D cy Λ (AA Λ s.heap.size)) {M : Mem} {a0 : Nat} {a1 : Nat} {r9 : Int32} {M9 : Mem} (hk0 : Is NN a0 3) (hk1 : Is NN a1 4) (hf : m_X2_readSelector M a0 a1 = some (r9, M9)) : GW p l e { frames := 3, cells := 0, slots := 0, locals := 70 } s m args below meth c D cy Λ 4 (QcI D cy Λ NN r9 M9) M 0 [(0, .ref (Λ a0)), (1, .ref (Λ a1))] [] := by
  unfold m_X2_readSelector at hf
  refine g_aload_n (pc := 0) C 0 dX2_readSelector_0 rfl rfl ?_
  refine g_aload_n (pc := 1) C 1 dX2_readSelector_1 rfl rfl ?_
  refine g_iconst (pc := 2) (v := (0 : Int32)) C dX2_readSelector_2 (by decide) ?_
  obtain ⟨r11, M11, h11, hf⟩ := ob2 hf
  refine g_resI (pc := 3) C (rnV (As := [.ref (Λ a1), .int (0 : Int32)]) (st := []) C (c_X2_readCompound C.2.2.2.2.2.1 hk0 hk1 h11) lkX2_104 rfl (by decide) hk0 rfl rfl (Nat.le_of_ble_eq_true rfl) ⟨⟨rfl, rfl⟩, Nat.le_of_ble_eq_true rfl, Nat.le_of_ble_eq_true rfl⟩ ⟨Nat.le_of_ble_eq_true rfl, Nat.le_of_ble_eq_true rfl⟩ dX2_readSelector_3) ?_
  refine g_if_ne (pc := 6) (tgt := 11) C hf dX2_readSelector_6 (by decide) (fun hf => ?_) (fun hf => ?_)
  · refine g_iconst (pc := 9) (v := (0 : Int32)) C dX2_readSelector_9 (by decide) ?_
    exact g_zretM C (by decide) hf dX2_readSelector_10
  refine g_iconst (pc := 11) (v := (1 : Int32)) C dX2_readSelector_11 (by decide) ?_
  refine g_istore_n (pc := 12) (lv2 := [(2, .int (1 : Int32)), (0, .ref (Λ a0)), (1, .ref (Λ a1))]) C dX2_readSelector_12 rfl (by decide) rfl ?_
  refine g_sub [1, 2, 0] rfl ?_
  exact w_X2_readSelector_L13 C hk0 hk1 FU M11 (1 : Int32)  hf

theorem c_X2_readSelector {l : Launch} {D : va_G} {cy : Nat → ClassId} {Λ : Nat → Nat} (hi : ∀ i j : Nat, Λ i = Λ j → i = j) {M : Mem} {a0 : Nat} {a1 : Nat} {r9 : Int32} {M9 : Mem} (hk0 : Is NN a0 3) (hk1 : Is NN a1 4) (hf : m_X2_readSelector M a0 a1 = some (r9, M9)) : Ct l yX2_readSelector cX2_readSelector 4 (some .boolean) { frames := 3, cells := 0, slots := 0, locals := 70 } D cy Λ [.ref (Λ a0), .ref (Λ a1)] NN M 0 0 (QcI D cy Λ NN r9 M9) := ent (by decide) hi (Nat.le_of_ble_eq_true rfl) (fun p e s m args below meth c C => w_X2_readSelector C hk0 hk1 hf)
theorem w_X2_isProperty {p : Program} {l : Launch} {e : Env} {s : State} {m : MethodId} {args : Array Value} {below : List Frame} {meth : Method} {c : Code} {D : va_G} {cy : Nat → ClassId} {Λ : Nat → Nat} (C : Cx p s m args meth c cX2_isProperty 1 RX2 (some .boolean) D cy Λ (AA Λ s.heap.size)) {M : Mem} {a0 : Nat} {r9 : Int32} (hk0 : Is NN a0 3) (hf : m_X2_isProperty M a0 = some r9) : GW p l e { frames := 0, cells := 0, slots := 0, locals := 0 } s m args below meth c D cy Λ 1 (QcI D cy Λ NN r9 M) M 0 [(0, .ref (Λ a0))] [] := by
  unfold m_X2_isProperty at hf
  refine g_aload_n (pc := 0) C 0 dX2_isProperty_0 rfl rfl ?_
  refine g_getI (pc := 1) C fgX2_25 (by decide) hk0 rfl dX2_isProperty_1 ?_
  refine g_bipush (pc := 4) (v := (119 : Int32)) C dX2_isProperty_4 (by decide) ?_
  refine g_ic_lt (pc := 6) (tgt := 22) C hf dX2_isProperty_6 (by decide) (fun hf => ?_) (fun hf => ?_)
  · refine g_iconst (pc := 22) (v := (0 : Int32)) C dX2_isProperty_22 (by decide) ?_
    exact g_zret C (by decide) hf dX2_isProperty_23
  refine g_aload_n (pc := 9) C 0 dX2_isProperty_9 rfl rfl ?_
  refine g_getI (pc := 10) C fgX2_25 (by decide) hk0 rfl dX2_isProperty_10 ?_
  refine g_bipush (pc := 13) (v := (122 : Int32)) C dX2_isProperty_13 (by decide) ?_
  refine g_ic_gt (pc := 15) (tgt := 22) C hf dX2_isProperty_15 (by decide) (fun hf => ?_) (fun hf => ?_)
  · refine g_iconst (pc := 22) (v := (0 : Int32)) C dX2_isProperty_22 (by decide) ?_
    exact g_zret C (by decide) hf dX2_isProperty_23
  refine g_iconst (pc := 18) (v := (1 : Int32)) C dX2_isProperty_18 (by decide) ?_
  refine g_goto (pc := 19) (tgt := 23) C dX2_isProperty_19 (by decide) ?_
  exact g_zret C (by decide) hf dX2_isProperty_23

theorem c_X2_isProperty {l : Launch} {D : va_G} {cy : Nat → ClassId} {Λ : Nat → Nat} (hi : ∀ i j : Nat, Λ i = Λ j → i = j) {M : Mem} {a0 : Nat} {r9 : Int32} (hk0 : Is NN a0 3) (hf : m_X2_isProperty M a0 = some r9) : Ct l yX2_isProperty cX2_isProperty 1 (some .boolean) { frames := 0, cells := 0, slots := 0, locals := 0 } D cy Λ [.ref (Λ a0)] NN M 0 0 (QcI D cy Λ NN r9 M) := ent (by decide) hi (Nat.le_of_ble_eq_true rfl) (fun p e s m args below meth c C => w_X2_isProperty C hk0 hf)
theorem w_X7_hasBit {p : Program} {l : Launch} {e : Env} {s : State} {m : MethodId} {args : Array Value} {below : List Frame} {meth : Method} {c : Code} {D : va_G} {cy : Nat → ClassId} {Λ : Nat → Nat} (C : Cx p s m args meth c cX7_hasBit 2 RX7 (some .boolean) D cy Λ (AA Λ s.heap.size)) {M : Mem} {x0 : Int32} {x1 : Int32} {r9 : Int32}  (hf : m_X7_hasBit x0 x1 = some r9) : GW p l e { frames := 0, cells := 0, slots := 0, locals := 0 } s m args below meth c D cy Λ 2 (QcI D cy Λ NN r9 M) M 0 [(0, .int x0), (1, .int x1)] [] := by
  unfold m_X7_hasBit at hf
  refine g_iload_n (pc := 0) C 0 dX7_hasBit_0 rfl rfl ?_
  refine g_iload_n (pc := 1) C 1 dX7_hasBit_1 rfl rfl ?_
  refine g_ishr (pc := 2) C dX7_hasBit_2 ?_
  refine g_iconst (pc := 3) (v := (1 : Int32)) C dX7_hasBit_3 (by decide) ?_
  refine g_iand (pc := 4) C dX7_hasBit_4 ?_
  refine g_iconst (pc := 5) (v := (1 : Int32)) C dX7_hasBit_5 (by decide) ?_
  refine g_ic_ne (pc := 6) (tgt := 13) C hf dX7_hasBit_6 (by decide) (fun hf => ?_) (fun hf => ?_)
  · refine g_iconst (pc := 9) (v := (1 : Int32)) C dX7_hasBit_9 (by decide) ?_
    refine g_goto (pc := 10) (tgt := 14) C dX7_hasBit_10 (by decide) ?_
    exact g_zret C (by decide) hf dX7_hasBit_14
  refine g_iconst (pc := 13) (v := (0 : Int32)) C dX7_hasBit_13 (by decide) ?_
  exact g_zret C (by decide) hf dX7_hasBit_14

theorem c_X7_hasBit {l : Launch} {D : va_G} {cy : Nat → ClassId} {Λ : Nat → Nat} (hi : ∀ i j : Nat, Λ i = Λ j → i = j) {M : Mem} {x0 : Int32} {x1 : Int32} {r9 : Int32}  (hf : m_X7_hasBit x0 x1 = some r9) : Ct l yX7_hasBit cX7_hasBit 2 (some .boolean) { frames := 0, cells := 0, slots := 0, locals := 0 } D cy Λ [.int x0, .int x1] NN M 0 0 (QcI D cy Λ NN r9 M) := ent (by decide) hi (Nat.le_of_ble_eq_true rfl) (fun p e s m args below meth c C => w_X7_hasBit C  hf)
theorem w_X3_level {p : Program} {l : Launch} {e : Env} {s : State} {m : MethodId} {args : Array Value} {below : List Frame} {meth : Method} {c : Code} {D : va_G} {cy : Nat → ClassId} {Λ : Nat → Nat} (C : Cx p s m args meth c cX3_level 2 RX3 (some .int) D cy Λ (AA Λ s.heap.size)) {M : Mem} {a0 : Nat} {x1 : Int32} {r9 : Int32} (hk0 : Is NN a0 4) (hf : m_X3_level M a0 x1 = some r9) : GW p l e { frames := 0, cells := 0, slots := 0, locals := 0 } s m args below meth c D cy Λ 2 (QcI D cy Λ NN r9 M) M 0 [(0, .ref (Λ a0)), (1, .int x1)] [] := by
  unfold m_X3_level at hf
  refine g_iload_n (pc := 0) C 1 dX3_level_0 rfl rfl ?_
  refine g_if_eq (pc := 1) (tgt := 17) C hf dX3_level_1 (by decide) (fun hf => ?_) (fun hf => ?_)
  · refine g_aload_n (pc := 17) C 0 dX3_level_17 rfl rfl ?_
    refine g_getI (pc := 18) C fgX3_28 (by decide) hk0 rfl dX3_level_18 ?_
    refine g_if_eq (pc := 21) (tgt := 28) C hf dX3_level_21 (by decide) (fun hf => ?_) (fun hf => ?_)
    · refine g_iconst (pc := 28) (v := (1 : Int32)) C dX3_level_28 (by decide) ?_
      exact g_iret C hf dX3_level_29
    refine g_iconst (pc := 24) (v := (0 : Int32)) C dX3_level_24 (by decide) ?_
    refine g_goto (pc := 25) (tgt := 29) C dX3_level_25 (by decide) ?_
    exact g_iret C hf dX3_level_29
  refine g_aload_n (pc := 4) C 0 dX3_level_4 rfl rfl ?_
  refine g_getI (pc := 5) C fgX3_28 (by decide) hk0 rfl dX3_level_5 ?_
  refine g_if_eq (pc := 8) (tgt := 15) C hf dX3_level_8 (by decide) (fun hf => ?_) (fun hf => ?_)
  · refine g_iconst (pc := 15) (v := (2 : Int32)) C dX3_level_15 (by decide) ?_
    exact g_iret C hf dX3_level_16
  refine g_iconst (pc := 11) (v := (3 : Int32)) C dX3_level_11 (by decide) ?_
  refine g_goto (pc := 12) (tgt := 16) C dX3_level_12 (by decide) ?_
  exact g_iret C hf dX3_level_16

theorem c_X3_level {l : Launch} {D : va_G} {cy : Nat → ClassId} {Λ : Nat → Nat} (hi : ∀ i j : Nat, Λ i = Λ j → i = j) {M : Mem} {a0 : Nat} {x1 : Int32} {r9 : Int32} (hk0 : Is NN a0 4) (hf : m_X3_level M a0 x1 = some r9) : Ct l yX3_level cX3_level 2 (some .int) { frames := 0, cells := 0, slots := 0, locals := 0 } D cy Λ [.ref (Λ a0), .int x1] NN M 0 0 (QcI D cy Λ NN r9 M) := ent (by decide) hi (Nat.le_of_ble_eq_true rfl) (fun p e s m args below meth c C => w_X3_level C hk0 hf)
theorem w_X3_declare_L43 {p : Program} {l : Launch} {e : Env} {s : State} {m : MethodId} {args : Array Value} {below : List Frame} {meth : Method} {c : Code} {D : va_G} {cy : Nat → ClassId} {Λ : Nat → Nat} (C : Cx p s m args meth c cX3_declare 4 RX3 none D cy Λ (AA Λ s.heap.size)) {a0 : Nat} {x1 : Int32} {x2 : Int32} {x3 : Int32}  {M9 : Mem} (hk0 : Is NN a0 4)  : ∀ (M : Mem) (s0 : Int32) (s1 : Int32) (g2 : Nat), Is NN g2 4 → m_X3_declare_L43 a0 x1 x2 x3 M s0 s1 g2 = some M9 → GW p l e { frames := 1, cells := 0, slots := 0, locals := 21 } s m args below meth c D cy Λ 4 (QcV D cy Λ NN M9) M 43 [(0, .ref (Λ a0)), (1, .int x1), (2, .int x2), (3, .int x3)] [.int s0, .int s1, .ref (Λ g2)] := by
  intro M s0 s1 g2 hk_g2 hf
  unfold m_X3_declare_L43 at hf
  refine g_ior (pc := 43) C dX3_declare_43 ?_
  refine g_pI (pc := 44) C hf fpX3_42 (by decide) hk_g2 stX3_4 (Nat.le_of_ble_eq_true rfl) rfl rfl dX3_declare_44 (fun M11 hf => ?_)
  refine g_aload_n (pc := 47) C 0 dX3_declare_47 rfl rfl ?_
  refine g_getR (pc := 48) (T := 9) C hf fgX3_25 (by decide) hk0 rfl dX3_declare_48 (fun a12 hk12 hf => ?_)
  refine g_iload_n (pc := 51) C 1 dX3_declare_51 rfl rfl ?_
  refine g_sipush (pc := 52) (v := (1000 : Int32)) C dX3_declare_52 (by decide) ?_
  refine g_aload_n (pc := 55) C 0 dX3_declare_55 rfl rfl ?_
  refine g_iload_n (pc := 56) C 3 dX3_declare_56 rfl rfl ?_
  obtain ⟨r13, h13, hf⟩ := ob hf
  refine g_resI (pc := 57) C (rnV (As := [.int x3]) (st := [.int (1000 : Int32), .int x1, .ref (Λ a12)]) C (c_X3_level C.2.2.2.2.2.1 hk0 h13) lkX3_55 rfl (by decide) hk0 rfl rfl (Nat.le_of_ble_eq_true rfl) ⟨⟨rfl, rfl⟩, Nat.le_of_ble_eq_true rfl, Nat.le_of_ble_eq_true rfl⟩ ⟨Nat.le_of_ble_eq_true rfl, Nat.le_of_ble_eq_true rfl⟩ dX3_declare_57) ?_
  refine g_imul (pc := 60) C dX3_declare_60 ?_
  refine g_aload_n (pc := 61) C 0 dX3_declare_61 rfl rfl ?_
  refine g_getI (pc := 62) C fgX3_36 (by decide) hk0 rfl dX3_declare_62 ?_
  refine g_iadd (pc := 65) C dX3_declare_65 ?_
  refine g_iast (pc := 66) C hf hk12 dX3_declare_66 (fun M14 hf => ?_)
  exact g_vret C hf dX3_declare_67

theorem w_X3_declare {p : Program} {l : Launch} {e : Env} {s : State} {m : MethodId} {args : Array Value} {below : List Frame} {meth : Method} {c : Code} {D : va_G} {cy : Nat → ClassId} {Λ : Nat → Nat} (C : Cx p s m args meth c cX3_declare 4 RX3 none D cy Λ (AA Λ s.heap.size)) {M : Mem} {a0 : Nat} {x1 : Int32} {x2 : Int32} {x3 : Int32} {M9 : Mem} (hk0 : Is NN a0 4) (hf : m_X3_declare M a0 x1 x2 x3 = some M9) : GW p l e { frames := 1, cells := 0, slots := 0, locals := 21 } s m args below meth c D cy Λ 4 (QcV D cy Λ NN M9) M 0 [(0, .ref (Λ a0)), (1, .int x1), (2, .int x2), (3, .int x3)] [] := by
  unfold m_X3_declare at hf
  refine g_iload_n (pc := 0) C 1 dX3_declare_0 rfl rfl ?_
  refine g_iconst (pc := 1) (v := (4 : Int32)) C dX3_declare_1 (by decide) ?_
  obtain ⟨r11, h11, hf⟩ := ob hf
  refine g_resI (pc := 2) C (rnSN (As := [.int x1, .int (4 : Int32)]) (st := []) C (c_X7_within C.2.2.2.2.2.1  h11) lknX3_45 rfl rfl (Nat.le_of_ble_eq_true rfl) ⟨⟨rfl, rfl⟩, Nat.le_of_ble_eq_true rfl, Nat.le_of_ble_eq_true rfl⟩ ⟨Nat.le_of_ble_eq_true rfl, Nat.le_of_ble_eq_true rfl⟩ dX3_declare_2) ?_
  refine g_if_eq (pc := 5) (tgt := 67) C hf dX3_declare_5 (by decide) (fun hf => ?_) (fun hf => ?_)
  · exact g_vret C hf dX3_declare_67
  refine g_aload_n (pc := 8) C 0 dX3_declare_8 rfl rfl ?_
  refine g_getR (pc := 9) (T := 9) C hf fgX3_22 (by decide) hk0 rfl dX3_declare_9 (fun a12 hk12 hf => ?_)
  refine g_iload_n (pc := 12) C 1 dX3_declare_12 rfl rfl ?_
  refine g_iload_n (pc := 13) C 2 dX3_declare_13 rfl rfl ?_
  refine g_iast (pc := 14) C hf hk12 dX3_declare_14 (fun M13 hf => ?_)
  refine g_aload_n (pc := 15) C 0 dX3_declare_15 rfl rfl ?_
  refine g_dup (pc := 16) C dX3_declare_16 rfl ?_
  refine g_getI (pc := 17) C fgX3_39 (by decide) hk0 rfl dX3_declare_17 ?_
  refine g_iconst (pc := 20) (v := (1 : Int32)) C dX3_declare_20 (by decide) ?_
  refine g_iload_n (pc := 21) C 1 dX3_declare_21 rfl rfl ?_
  refine g_ishl (pc := 22) C dX3_declare_22 ?_
  refine g_ior (pc := 23) C dX3_declare_23 ?_
  refine g_pI (pc := 24) C hf fpX3_39 (by decide) hk0 stX3_3 (Nat.le_of_ble_eq_true rfl) rfl rfl dX3_declare_24 (fun M14 hf => ?_)
  refine g_aload_n (pc := 27) C 0 dX3_declare_27 rfl rfl ?_
  refine g_dup (pc := 28) C dX3_declare_28 rfl ?_
  refine g_getI (pc := 29) C fgX3_42 (by decide) hk0 rfl dX3_declare_29 ?_
  refine g_iload_n (pc := 32) C 3 dX3_declare_32 rfl rfl ?_
  refine g_if_eq (pc := 33) (tgt := 42) C hf dX3_declare_33 (by decide) (fun hf => ?_) (fun hf => ?_)
  · refine g_iconst (pc := 42) (v := (0 : Int32)) C dX3_declare_42 (by decide) ?_
    exact w_X3_declare_L43 C hk0 M14 (0 : Int32) (M14.2 a0 4) a0 hk0 hf
  refine g_iconst (pc := 36) (v := (1 : Int32)) C dX3_declare_36 (by decide) ?_
  refine g_iload_n (pc := 37) C 1 dX3_declare_37 rfl rfl ?_
  refine g_ishl (pc := 38) C dX3_declare_38 ?_
  refine g_goto (pc := 39) (tgt := 43) C dX3_declare_39 (by decide) ?_
  exact w_X3_declare_L43 C hk0 M14 ((1 : Int32) <<< (x1 &&& 31)) (M14.2 a0 4) a0 hk0 hf

theorem c_X3_declare {l : Launch} {D : va_G} {cy : Nat → ClassId} {Λ : Nat → Nat} (hi : ∀ i j : Nat, Λ i = Λ j → i = j) {M : Mem} {a0 : Nat} {x1 : Int32} {x2 : Int32} {x3 : Int32} {M9 : Mem} (hk0 : Is NN a0 4) (hf : m_X3_declare M a0 x1 x2 x3 = some M9) : Ct l yX3_declare cX3_declare 4 none { frames := 1, cells := 0, slots := 0, locals := 21 } D cy Λ [.ref (Λ a0), .int x1, .int x2, .int x3] NN M 0 0 (QcV D cy Λ NN M9) := ent (by decide) hi (Nat.le_of_ble_eq_true rfl) (fun p e s m args below meth c C => w_X3_declare C hk0 hf)
theorem w_X2_readDeclaration {p : Program} {l : Launch} {e : Env} {s : State} {m : MethodId} {args : Array Value} {below : List Frame} {meth : Method} {c : Code} {D : va_G} {cy : Nat → ClassId} {Λ : Nat → Nat} (C : Cx p s m args meth c cX2_readDeclaration 4 RX2 (some .boolean) D cy Λ (AA Λ s.heap.size)) {M : Mem} {a0 : Nat} {a1 : Nat} {r9 : Int32} {M9 : Mem} (hk0 : Is NN a0 3) (hk1 : Is NN a1 4) (hf : m_X2_readDeclaration M a0 a1 = some (r9, M9)) : GW p l e { frames := 3, cells := 0, slots := 0, locals := 62 } s m args below meth c D cy Λ 4 (QcI D cy Λ NN r9 M9) M 0 [(0, .ref (Λ a0)), (1, .ref (Λ a1))] [] := by
  unfold m_X2_readDeclaration at hf
  refine g_aload_n (pc := 0) C 0 dX2_readDeclaration_0 rfl rfl ?_
  refine g_getI (pc := 1) C fgX2_25 (by decide) hk0 rfl dX2_readDeclaration_1 ?_
  refine g_bipush (pc := 4) (v := (119 : Int32)) C dX2_readDeclaration_4 (by decide) ?_
  refine g_isub (pc := 6) C dX2_readDeclaration_6 ?_
  refine g_istore_n (pc := 7) (lv2 := [(2, .int ((M.2 a0 4) - (119 : Int32))), (0, .ref (Λ a0)), (1, .ref (Λ a1))]) C dX2_readDeclaration_7 rfl (by decide) rfl ?_
  refine g_aload_n (pc := 8) C 1 dX2_readDeclaration_8 rfl rfl ?_
  obtain ⟨r11, h11, hf⟩ := ob hf
  refine g_resI (pc := 9) C (rnV (As := []) (st := []) C (c_X2_isProperty C.2.2.2.2.2.1 hk0 h11) lkX2_118 rfl (by decide) hk0 rfl rfl (Nat.le_of_ble_eq_true rfl) ⟨⟨rfl, rfl⟩, Nat.le_of_ble_eq_true rfl, Nat.le_of_ble_eq_true rfl⟩ ⟨Nat.le_of_ble_eq_true rfl, Nat.le_of_ble_eq_true rfl⟩ dX2_readDeclaration_9) ?_
  refine g_if_eq (pc := 12) (tgt := 26) C hf dX2_readDeclaration_12 (by decide) (fun hf => ?_) (fun hf => ?_)
  · refine g_iconst (pc := 26) (v := (0 : Int32)) C dX2_readDeclaration_26 (by decide) ?_
    exact g_zretM C (by decide) hf dX2_readDeclaration_27
  refine g_aload_n (pc := 15) C 2 dX2_readDeclaration_15 rfl rfl ?_
  refine g_getI (pc := 16) C fgX2_121 (by decide) hk1 rfl dX2_readDeclaration_16 ?_
  refine g_iload_n (pc := 19) C 0 dX2_readDeclaration_19 rfl rfl ?_
  obtain ⟨r12, h12, hf⟩ := ob hf
  refine g_resI (pc := 20) C (rnSN (As := [.int (M.2 a1 3), .int ((M.2 a0 4) - (119 : Int32))]) (st := []) C (c_X7_hasBit C.2.2.2.2.2.1  h12) lknX2_124 rfl rfl (Nat.le_of_ble_eq_true rfl) ⟨⟨rfl, rfl⟩, Nat.le_of_ble_eq_true rfl, Nat.le_of_ble_eq_true rfl⟩ ⟨Nat.le_of_ble_eq_true rfl, Nat.le_of_ble_eq_true rfl⟩ dX2_readDeclaration_20) ?_
  refine g_if_eq (pc := 23) (tgt := 28) C hf dX2_readDeclaration_23 (by decide) (fun hf => ?_) (fun hf => ?_)
  · refine g_aload_n (pc := 28) C 1 dX2_readDeclaration_28 rfl rfl ?_
    obtain ⟨M13, h13, hf⟩ := ob hf
    refine g_resV (pc := 29) C (rnV (As := []) (st := []) C (c_X2_advance C.2.2.2.2.2.1 hk0 h13) lkX2_44 rfl (by decide) hk0 rfl rfl (Nat.le_of_ble_eq_true rfl) ⟨⟨rfl, rfl⟩, Nat.le_of_ble_eq_true rfl, Nat.le_of_ble_eq_true rfl⟩ ⟨Nat.le_of_ble_eq_true rfl, Nat.le_of_ble_eq_true rfl⟩ dX2_readDeclaration_29) ?_
    refine g_aload_n (pc := 32) C 1 dX2_readDeclaration_32 rfl rfl ?_
    obtain ⟨r14, h14, hf⟩ := ob hf
    refine g_resI (pc := 33) C (rnV (As := []) (st := []) C (c_X2_isDigit C.2.2.2.2.2.1 hk0 h14) lkX2_61 rfl (by decide) hk0 rfl rfl (Nat.le_of_ble_eq_true rfl) ⟨⟨rfl, rfl⟩, Nat.le_of_ble_eq_true rfl, Nat.le_of_ble_eq_true rfl⟩ ⟨Nat.le_of_ble_eq_true rfl, Nat.le_of_ble_eq_true rfl⟩ dX2_readDeclaration_33) ?_
    refine g_if_ne (pc := 36) (tgt := 41) C hf dX2_readDeclaration_36 (by decide) (fun hf => ?_) (fun hf => ?_)
    · refine g_iconst (pc := 39) (v := (0 : Int32)) C dX2_readDeclaration_39 (by decide) ?_
      exact g_zretM C (by decide) hf dX2_readDeclaration_40
    refine g_aload_n (pc := 41) C 1 dX2_readDeclaration_41 rfl rfl ?_
    refine g_getI (pc := 42) C fgX2_25 (by decide) hk0 rfl dX2_readDeclaration_42 ?_
    refine g_bipush (pc := 45) (v := (48 : Int32)) C dX2_readDeclaration_45 (by decide) ?_
    refine g_isub (pc := 47) C dX2_readDeclaration_47 ?_
    refine g_istore_n (pc := 48) (lv2 := [(3, .int ((M13.2 a0 4) - (48 : Int32))), (2, .int ((M.2 a0 4) - (119 : Int32))), (0, .ref (Λ a0)), (1, .ref (Λ a1))]) C dX2_readDeclaration_48 rfl (by decide) rfl ?_
    refine g_aload_n (pc := 49) C 2 dX2_readDeclaration_49 rfl rfl ?_
    obtain ⟨M15, h15, hf⟩ := ob hf
    refine g_resV (pc := 50) C (rnV (As := []) (st := []) C (c_X2_advance C.2.2.2.2.2.1 hk0 h15) lkX2_44 rfl (by decide) hk0 rfl rfl (Nat.le_of_ble_eq_true rfl) ⟨⟨rfl, rfl⟩, Nat.le_of_ble_eq_true rfl, Nat.le_of_ble_eq_true rfl⟩ ⟨Nat.le_of_ble_eq_true rfl, Nat.le_of_ble_eq_true rfl⟩ dX2_readDeclaration_50) ?_
    refine g_aload_n (pc := 53) C 3 dX2_readDeclaration_53 rfl rfl ?_
    refine g_iload_n (pc := 54) C 1 dX2_readDeclaration_54 rfl rfl ?_
    refine g_iload_n (pc := 55) C 0 dX2_readDeclaration_55 rfl rfl ?_
    refine g_aload_n (pc := 56) C 2 dX2_readDeclaration_56 rfl rfl ?_
    refine g_bipush (pc := 57) (v := (33 : Int32)) C dX2_readDeclaration_57 (by decide) ?_
    obtain ⟨r16, M16, h16, hf⟩ := ob2 hf
    refine g_resI (pc := 59) C (rnV (As := [.int (33 : Int32)]) (st := [.int ((M13.2 a0 4) - (48 : Int32)), .int ((M.2 a0 4) - (119 : Int32)), .ref (Λ a1)]) C (c_X2_take C.2.2.2.2.2.1 hk0 h16) lkX2_70 rfl (by decide) hk0 rfl rfl (Nat.le_of_ble_eq_true rfl) ⟨⟨rfl, rfl⟩, Nat.le_of_ble_eq_true rfl, Nat.le_of_ble_eq_true rfl⟩ ⟨Nat.le_of_ble_eq_true rfl, Nat.le_of_ble_eq_true rfl⟩ dX2_readDeclaration_59) ?_
    obtain ⟨M17, h17, hf⟩ := ob hf
    refine g_resV (pc := 62) C (rnV (As := [.int ((M.2 a0 4) - (119 : Int32)), .int ((M13.2 a0 4) - (48 : Int32)), .int r16]) (st := []) C (c_X3_declare C.2.2.2.2.2.1 hk1 h17) lkX2_127 rfl (by decide) hk1 rfl rfl (Nat.le_of_ble_eq_true rfl) ⟨⟨rfl, rfl⟩, Nat.le_of_ble_eq_true rfl, Nat.le_of_ble_eq_true rfl⟩ ⟨Nat.le_of_ble_eq_true rfl, Nat.le_of_ble_eq_true rfl⟩ dX2_readDeclaration_62) ?_
    refine g_iconst (pc := 65) (v := (1 : Int32)) C dX2_readDeclaration_65 (by decide) ?_
    exact g_zretM C (by decide) hf dX2_readDeclaration_66
  refine g_iconst (pc := 26) (v := (0 : Int32)) C dX2_readDeclaration_26 (by decide) ?_
  exact g_zretM C (by decide) hf dX2_readDeclaration_27

theorem c_X2_readDeclaration {l : Launch} {D : va_G} {cy : Nat → ClassId} {Λ : Nat → Nat} (hi : ∀ i j : Nat, Λ i = Λ j → i = j) {M : Mem} {a0 : Nat} {a1 : Nat} {r9 : Int32} {M9 : Mem} (hk0 : Is NN a0 3) (hk1 : Is NN a1 4) (hf : m_X2_readDeclaration M a0 a1 = some (r9, M9)) : Ct l yX2_readDeclaration cX2_readDeclaration 4 (some .boolean) { frames := 3, cells := 0, slots := 0, locals := 62 } D cy Λ [.ref (Λ a0), .ref (Λ a1)] NN M 0 0 (QcI D cy Λ NN r9 M9) := ent (by decide) hi (Nat.le_of_ble_eq_true rfl) (fun p e s m args below meth c C => w_X2_readDeclaration C hk0 hk1 hf)
theorem w_X2_readDeclarations_L12 {p : Program} {l : Launch} {e : Env} {s : State} {m : MethodId} {args : Array Value} {below : List Frame} {meth : Method} {c : Code} {D : va_G} {cy : Nat → ClassId} {Λ : Nat → Nat} (C : Cx p s m args meth c cX2_readDeclarations 3 RX2 (some .boolean) D cy Λ (AA Λ s.heap.size)) {a0 : Nat} {a1 : Nat}  {r9 : Int32} {M9 : Mem} (hk0 : Is NN a0 3) (hk1 : Is NN a1 4)  : ∀ (fu : Nat) (M : Mem) (x2 : Int32), m_X2_readDeclarations_L12 a0 a1 fu M x2 = some (r9, M9) → GW p l e { frames := 4, cells := 0, slots := 0, locals := 85 } s m args below meth c D cy Λ 3 (QcI D cy Λ NN r9 M9) M 12 [(0, .ref (Λ a0)), (1, .ref (Λ a1)), (2, .int x2)] [] := by
  intro fu
  induction fu with
  | zero =>
    intro M x2  hf
    cases hf
  | succ fu ih =>
    intro M x2  hf
    unfold m_X2_readDeclarations_L12 at hf
    refine g_iload_n (pc := 12) C 2 dX2_readDeclarations_12 rfl rfl ?_
    refine g_iconst (pc := 13) (v := (4 : Int32)) C dX2_readDeclarations_13 (by decide) ?_
    refine g_ic_ge (pc := 14) (tgt := 40) C hf dX2_readDeclarations_14 (by decide) (fun hf => ?_) (fun hf => ?_)
    · refine g_iconst (pc := 40) (v := (1 : Int32)) C dX2_readDeclarations_40 (by decide) ?_
      exact g_zretM C (by decide) hf dX2_readDeclarations_41
    refine g_aload_n (pc := 17) C 0 dX2_readDeclarations_17 rfl rfl ?_
    obtain ⟨r11, h11, hf⟩ := ob hf
    refine g_resI (pc := 18) C (rnV (As := []) (st := []) C (c_X2_isProperty C.2.2.2.2.2.1 hk0 h11) lkX2_118 rfl (by decide) hk0 rfl rfl (Nat.le_of_ble_eq_true rfl) ⟨⟨rfl, rfl⟩, Nat.le_of_ble_eq_true rfl, Nat.le_of_ble_eq_true rfl⟩ ⟨Nat.le_of_ble_eq_true rfl, Nat.le_of_ble_eq_true rfl⟩ dX2_readDeclarations_18) ?_
    refine g_if_eq (pc := 21) (tgt := 40) C hf dX2_readDeclarations_21 (by decide) (fun hf => ?_) (fun hf => ?_)
    · refine g_iconst (pc := 40) (v := (1 : Int32)) C dX2_readDeclarations_40 (by decide) ?_
      exact g_zretM C (by decide) hf dX2_readDeclarations_41
    refine g_aload_n (pc := 24) C 0 dX2_readDeclarations_24 rfl rfl ?_
    refine g_aload_n (pc := 25) C 1 dX2_readDeclarations_25 rfl rfl ?_
    obtain ⟨r12, M12, h12, hf⟩ := ob2 hf
    refine g_resI (pc := 26) C (rnV (As := [.ref (Λ a1)]) (st := []) C (c_X2_readDeclaration C.2.2.2.2.2.1 hk0 hk1 h12) lkX2_115 rfl (by decide) hk0 rfl rfl (Nat.le_of_ble_eq_true rfl) ⟨⟨rfl, rfl⟩, Nat.le_of_ble_eq_true rfl, Nat.le_of_ble_eq_true rfl⟩ ⟨Nat.le_of_ble_eq_true rfl, Nat.le_of_ble_eq_true rfl⟩ dX2_readDeclarations_26) ?_
    refine g_if_ne (pc := 29) (tgt := 34) C hf dX2_readDeclarations_29 (by decide) (fun hf => ?_) (fun hf => ?_)
    · refine g_iconst (pc := 32) (v := (0 : Int32)) C dX2_readDeclarations_32 (by decide) ?_
      exact g_zretM C (by decide) hf dX2_readDeclarations_33
    refine g_iinc (pc := 34) (v := (x2 + (1 : Int32))) (lv2 := [(2, .int (x2 + (1 : Int32))), (0, .ref (Λ a0)), (1, .ref (Λ a1))]) C 2 dX2_readDeclarations_34 rfl rfl (by decide) rfl ?_
    refine g_goto (pc := 37) (tgt := 12) C dX2_readDeclarations_37 (by decide) ?_
    refine g_sub [1, 2, 0] rfl ?_
    exact ih M12 (x2 + (1 : Int32))  hf

theorem w_X2_readDeclarations {p : Program} {l : Launch} {e : Env} {s : State} {m : MethodId} {args : Array Value} {below : List Frame} {meth : Method} {c : Code} {D : va_G} {cy : Nat → ClassId} {Λ : Nat → Nat} (C : Cx p s m args meth c cX2_readDeclarations 3 RX2 (some .boolean) D cy Λ (AA Λ s.heap.size)) {M : Mem} {a0 : Nat} {a1 : Nat} {r9 : Int32} {M9 : Mem} (hk0 : Is NN a0 3) (hk1 : Is NN a1 4) (hf : m_X2_readDeclarations M a0 a1 = some (r9, M9)) : GW p l e { frames := 4, cells := 0, slots := 0, locals := 85 } s m args below meth c D cy Λ 3 (QcI D cy Λ NN r9 M9) M 0 [(0, .ref (Λ a0)), (1, .ref (Λ a1))] [] := by
  unfold m_X2_readDeclarations at hf
  refine g_aload_n (pc := 0) C 0 dX2_readDeclarations_0 rfl rfl ?_
  refine g_aload_n (pc := 1) C 1 dX2_readDeclarations_1 rfl rfl ?_
  obtain ⟨r11, M11, h11, hf⟩ := ob2 hf
  refine g_resI (pc := 2) C (rnV (As := [.ref (Λ a1)]) (st := []) C (c_X2_readDeclaration C.2.2.2.2.2.1 hk0 hk1 h11) lkX2_115 rfl (by decide) hk0 rfl rfl (Nat.le_of_ble_eq_true rfl) ⟨⟨rfl, rfl⟩, Nat.le_of_ble_eq_true rfl, Nat.le_of_ble_eq_true rfl⟩ ⟨Nat.le_of_ble_eq_true rfl, Nat.le_of_ble_eq_true rfl⟩ dX2_readDeclarations_2) ?_
  refine g_if_ne (pc := 5) (tgt := 10) C hf dX2_readDeclarations_5 (by decide) (fun hf => ?_) (fun hf => ?_)
  · refine g_iconst (pc := 8) (v := (0 : Int32)) C dX2_readDeclarations_8 (by decide) ?_
    exact g_zretM C (by decide) hf dX2_readDeclarations_9
  refine g_iconst (pc := 10) (v := (1 : Int32)) C dX2_readDeclarations_10 (by decide) ?_
  refine g_istore_n (pc := 11) (lv2 := [(2, .int (1 : Int32)), (0, .ref (Λ a0)), (1, .ref (Λ a1))]) C dX2_readDeclarations_11 rfl (by decide) rfl ?_
  refine g_sub [1, 2, 0] rfl ?_
  exact w_X2_readDeclarations_L12 C hk0 hk1 FU M11 (1 : Int32)  hf

theorem c_X2_readDeclarations {l : Launch} {D : va_G} {cy : Nat → ClassId} {Λ : Nat → Nat} (hi : ∀ i j : Nat, Λ i = Λ j → i = j) {M : Mem} {a0 : Nat} {a1 : Nat} {r9 : Int32} {M9 : Mem} (hk0 : Is NN a0 3) (hk1 : Is NN a1 4) (hf : m_X2_readDeclarations M a0 a1 = some (r9, M9)) : Ct l yX2_readDeclarations cX2_readDeclarations 3 (some .boolean) { frames := 4, cells := 0, slots := 0, locals := 85 } D cy Λ [.ref (Λ a0), .ref (Λ a1)] NN M 0 0 (QcI D cy Λ NN r9 M9) := ent (by decide) hi (Nat.le_of_ble_eq_true rfl) (fun p e s m args below meth c C => w_X2_readDeclarations C hk0 hk1 hf)
theorem w_X4_addRule {p : Program} {l : Launch} {e : Env} {s : State} {m : MethodId} {args : Array Value} {below : List Frame} {meth : Method} {c : Code} {D : va_G} {cy : Nat → ClassId} {Λ : Nat → Nat} (C : Cx p s m args meth c cX4_addRule 1 RX4 none D cy Λ (AA Λ s.heap.size)) {M : Mem} {a0 : Nat} {M9 : Mem} (hk0 : Is NN a0 5) (hf : m_X4_addRule M a0 = some M9) : GW p l e { frames := 1, cells := 0, slots := 0, locals := 21 } s m args below meth c D cy Λ 1 (QcV D cy Λ NN M9) M 0 [(0, .ref (Λ a0))] [] := by
  unfold m_X4_addRule at hf
  refine g_aload_n (pc := 0) C 0 dX4_addRule_0 rfl rfl ?_
  refine g_getI (pc := 1) C fgX4_15 (by decide) hk0 rfl dX4_addRule_1 ?_
  refine g_bipush (pc := 4) (v := (8 : Int32)) C dX4_addRule_4 (by decide) ?_
  obtain ⟨r11, h11, hf⟩ := ob hf
  refine g_resI (pc := 6) C (rnSN (As := [.int (M.2 a0 1), .int (8 : Int32)]) (st := []) C (c_X7_within C.2.2.2.2.2.1  h11) lknX4_42 rfl rfl (Nat.le_of_ble_eq_true rfl) ⟨⟨rfl, rfl⟩, Nat.le_of_ble_eq_true rfl, Nat.le_of_ble_eq_true rfl⟩ ⟨Nat.le_of_ble_eq_true rfl, Nat.le_of_ble_eq_true rfl⟩ dX4_addRule_6) ?_
  refine g_if_eq (pc := 9) (tgt := 40) C hf dX4_addRule_9 (by decide) (fun hf => ?_) (fun hf => ?_)
  · exact g_vret C hf dX4_addRule_40
  refine g_aload_n (pc := 12) C 0 dX4_addRule_12 rfl rfl ?_
  refine g_getR (pc := 13) (T := 1) C hf fgX4_28 (by decide) hk0 rfl dX4_addRule_13 (fun a12 hk12 hf => ?_)
  refine g_dup (pc := 16) C dX4_addRule_16 rfl ?_
  refine g_getI (pc := 17) C fgX4_39 (by decide) hk12 rfl dX4_addRule_17 ?_
  refine g_iconst (pc := 20) (v := (1 : Int32)) C dX4_addRule_20 (by decide) ?_
  refine g_aload_n (pc := 21) C 0 dX4_addRule_21 rfl rfl ?_
  refine g_getI (pc := 22) C fgX4_15 (by decide) hk0 rfl dX4_addRule_22 ?_
  refine g_ishl (pc := 25) C dX4_addRule_25 ?_
  refine g_ior (pc := 26) C dX4_addRule_26 ?_
  refine g_pI (pc := 27) C hf fpX4_39 (by decide) hk12 stX1_2 (Nat.le_of_ble_eq_true rfl) rfl rfl dX4_addRule_27 (fun M13 hf => ?_)
  refine g_aload_n (pc := 30) C 0 dX4_addRule_30 rfl rfl ?_
  refine g_dup (pc := 31) C dX4_addRule_31 rfl ?_
  refine g_getI (pc := 32) C fgX4_15 (by decide) hk0 rfl dX4_addRule_32 ?_
  refine g_iconst (pc := 35) (v := (1 : Int32)) C dX4_addRule_35 (by decide) ?_
  refine g_iadd (pc := 36) C dX4_addRule_36 ?_
  refine g_pI (pc := 37) C hf fpX4_15 (by decide) hk0 stX4_1 (Nat.le_of_ble_eq_true rfl) rfl rfl dX4_addRule_37 (fun M14 hf => ?_)
  exact g_vret C hf dX4_addRule_40

theorem c_X4_addRule {l : Launch} {D : va_G} {cy : Nat → ClassId} {Λ : Nat → Nat} (hi : ∀ i j : Nat, Λ i = Λ j → i = j) {M : Mem} {a0 : Nat} {M9 : Mem} (hk0 : Is NN a0 5) (hf : m_X4_addRule M a0 = some M9) : Ct l yX4_addRule cX4_addRule 1 none { frames := 1, cells := 0, slots := 0, locals := 21 } D cy Λ [.ref (Λ a0)] NN M 0 0 (QcV D cy Λ NN M9) := ent (by decide) hi (Nat.le_of_ble_eq_true rfl) (fun p e s m args below meth c C => w_X4_addRule C hk0 hf)
theorem w_X2_readRule {p : Program} {l : Launch} {e : Env} {s : State} {m : MethodId} {args : Array Value} {below : List Frame} {meth : Method} {c : Code} {D : va_G} {cy : Nat → ClassId} {Λ : Nat → Nat} (C : Cx p s m args meth c cX2_readRule 2 RX2 (some .boolean) D cy Λ (AA Λ s.heap.size)) {M : Mem} {a0 : Nat} {r9 : Int32} {M9 : Mem} (hk0 : Is NN a0 3) (hf : m_X2_readRule M a0 = some (r9, M9)) : GW p l e { frames := 5, cells := 0, slots := 0, locals := 107 } s m args below meth c D cy Λ 2 (QcI D cy Λ NN r9 M9) M 0 [(0, .ref (Λ a0))] [] := by
  unfold m_X2_readRule at hf
  refine g_aload_n (pc := 0) C 0 dX2_readRule_0 rfl rfl ?_
  refine g_getI (pc := 1) C fgX2_25 (by decide) hk0 rfl dX2_readRule_1 ?_
  refine g_bipush (pc := 4) (v := (82 : Int32)) C dX2_readRule_4 (by decide) ?_
  refine g_ic_ne (pc := 6) (tgt := 24) C hf dX2_readRule_6 (by decide) (fun hf => ?_) (fun hf => ?_)
  · refine g_aload_n (pc := 9) C 0 dX2_readRule_9 rfl rfl ?_
    refine g_getR (pc := 10) (T := 4) C hf fgX2_31 (by decide) hk0 rfl dX2_readRule_10 (fun a11 hk11 hf => ?_)
    refine g_getI (pc := 13) C fgX2_77 (by decide) hk11 rfl dX2_readRule_13 ?_
    refine g_bipush (pc := 16) (v := (8 : Int32)) C dX2_readRule_16 (by decide) ?_
    obtain ⟨r12, h12, hf⟩ := ob hf
    refine g_resI (pc := 18) C (rnSN (As := [.int (M.2 a11 1), .int (8 : Int32)]) (st := []) C (c_X7_within C.2.2.2.2.2.1  h12) lknX2_80 rfl rfl (Nat.le_of_ble_eq_true rfl) ⟨⟨rfl, rfl⟩, Nat.le_of_ble_eq_true rfl, Nat.le_of_ble_eq_true rfl⟩ ⟨Nat.le_of_ble_eq_true rfl, Nat.le_of_ble_eq_true rfl⟩ dX2_readRule_18) ?_
    refine g_if_ne (pc := 21) (tgt := 26) C hf dX2_readRule_21 (by decide) (fun hf => ?_) (fun hf => ?_)
    · refine g_iconst (pc := 24) (v := (0 : Int32)) C dX2_readRule_24 (by decide) ?_
      exact g_zretM C (by decide) hf dX2_readRule_25
    refine g_aload_n (pc := 26) C 0 dX2_readRule_26 rfl rfl ?_
    refine g_getR (pc := 27) (T := 4) C hf fgX2_31 (by decide) hk0 rfl dX2_readRule_27 (fun a13 hk13 hf => ?_)
    refine g_getR (pc := 30) (T := 13) C hf fgX2_84 (by decide) hk13 rfl dX2_readRule_30 (fun a14 hk14 hf => ?_)
    refine g_aload_n (pc := 33) C 0 dX2_readRule_33 rfl rfl ?_
    refine g_getR (pc := 34) (T := 4) C hf fgX2_31 (by decide) hk0 rfl dX2_readRule_34 (fun a15 hk15 hf => ?_)
    refine g_getI (pc := 37) C fgX2_77 (by decide) hk15 rfl dX2_readRule_37 ?_
    refine g_aald4 (pc := 40) (T := 3) C hf hk14 dX2_readRule_40 (fun a16 hk16 hf => ?_)
    refine g_astore_n (pc := 41) (lv2 := [(1, .ref (Λ a16)), (0, .ref (Λ a0))]) C dX2_readRule_41 rfl (by decide) rfl ?_
    refine g_aload_n (pc := 42) C 1 dX2_readRule_42 rfl rfl ?_
    obtain ⟨M17, h17, hf⟩ := ob hf
    refine g_resV (pc := 43) C (rnV (As := []) (st := []) C (c_X2_advance C.2.2.2.2.2.1 hk0 h17) lkX2_44 rfl (by decide) hk0 rfl rfl (Nat.le_of_ble_eq_true rfl) ⟨⟨rfl, rfl⟩, Nat.le_of_ble_eq_true rfl, Nat.le_of_ble_eq_true rfl⟩ ⟨Nat.le_of_ble_eq_true rfl, Nat.le_of_ble_eq_true rfl⟩ dX2_readRule_43) ?_
    refine g_aload_n (pc := 46) C 0 dX2_readRule_46 rfl rfl ?_
    refine g_aload_n (pc := 47) C 1 dX2_readRule_47 rfl rfl ?_
    refine g_bipush (pc := 48) (v := (85 : Int32)) C dX2_readRule_48 (by decide) ?_
    obtain ⟨r18, M18, h18, hf⟩ := ob2 hf
    refine g_resI (pc := 50) C (rnV (As := [.int (85 : Int32)]) (st := [.ref (Λ a16)]) C (c_X2_take C.2.2.2.2.2.1 hk0 h18) lkX2_70 rfl (by decide) hk0 rfl rfl (Nat.le_of_ble_eq_true rfl) ⟨⟨rfl, rfl⟩, Nat.le_of_ble_eq_true rfl, Nat.le_of_ble_eq_true rfl⟩ ⟨Nat.le_of_ble_eq_true rfl, Nat.le_of_ble_eq_true rfl⟩ dX2_readRule_50) ?_
    obtain ⟨M19, h19, hf⟩ := ob hf
    refine g_resV (pc := 53) C (rnV (As := [.int r18]) (st := []) C (c_X3_begin C.2.2.2.2.2.1 hk16 h19) lkX2_88 rfl (by decide) hk16 rfl rfl (Nat.le_of_ble_eq_true rfl) ⟨⟨rfl, rfl⟩, Nat.le_of_ble_eq_true rfl, Nat.le_of_ble_eq_true rfl⟩ ⟨Nat.le_of_ble_eq_true rfl, Nat.le_of_ble_eq_true rfl⟩ dX2_readRule_53) ?_
    refine g_aload_n (pc := 56) C 1 dX2_readRule_56 rfl rfl ?_
    refine g_aload_n (pc := 57) C 0 dX2_readRule_57 rfl rfl ?_
    obtain ⟨r20, M20, h20, hf⟩ := ob2 hf
    refine g_resI (pc := 58) C (rnV (As := [.ref (Λ a16)]) (st := []) C (c_X2_readSelector C.2.2.2.2.2.1 hk0 hk16 h20) lkX2_94 rfl (by decide) hk0 rfl rfl (Nat.le_of_ble_eq_true rfl) ⟨⟨rfl, rfl⟩, Nat.le_of_ble_eq_true rfl, Nat.le_of_ble_eq_true rfl⟩ ⟨Nat.le_of_ble_eq_true rfl, Nat.le_of_ble_eq_true rfl⟩ dX2_readRule_58) ?_
    refine g_if_eq (pc := 61) (tgt := 90) C hf dX2_readRule_61 (by decide) (fun hf => ?_) (fun hf => ?_)
    · refine g_iconst (pc := 90) (v := (0 : Int32)) C dX2_readRule_90 (by decide) ?_
      exact g_zretM C (by decide) hf dX2_readRule_91
    refine g_aload_n (pc := 64) C 1 dX2_readRule_64 rfl rfl ?_
    refine g_bipush (pc := 65) (v := (58 : Int32)) C dX2_readRule_65 (by decide) ?_
    obtain ⟨r21, M21, h21, hf⟩ := ob2 hf
    refine g_resI (pc := 67) C (rnV (As := [.int (58 : Int32)]) (st := []) C (c_X2_take C.2.2.2.2.2.1 hk0 h21) lkX2_70 rfl (by decide) hk0 rfl rfl (Nat.le_of_ble_eq_true rfl) ⟨⟨rfl, rfl⟩, Nat.le_of_ble_eq_true rfl, Nat.le_of_ble_eq_true rfl⟩ ⟨Nat.le_of_ble_eq_true rfl, Nat.le_of_ble_eq_true rfl⟩ dX2_readRule_67) ?_
    refine g_if_eq (pc := 70) (tgt := 90) C hf dX2_readRule_70 (by decide) (fun hf => ?_) (fun hf => ?_)
    · refine g_iconst (pc := 90) (v := (0 : Int32)) C dX2_readRule_90 (by decide) ?_
      exact g_zretM C (by decide) hf dX2_readRule_91
    refine g_aload_n (pc := 73) C 1 dX2_readRule_73 rfl rfl ?_
    refine g_aload_n (pc := 74) C 0 dX2_readRule_74 rfl rfl ?_
    obtain ⟨r22, M22, h22, hf⟩ := ob2 hf
    refine g_resI (pc := 75) C (rnV (As := [.ref (Λ a16)]) (st := []) C (c_X2_readDeclarations C.2.2.2.2.2.1 hk0 hk16 h22) lkX2_98 rfl (by decide) hk0 rfl rfl (Nat.le_of_ble_eq_true rfl) ⟨⟨rfl, rfl⟩, Nat.le_of_ble_eq_true rfl, Nat.le_of_ble_eq_true rfl⟩ ⟨Nat.le_of_ble_eq_true rfl, Nat.le_of_ble_eq_true rfl⟩ dX2_readRule_75) ?_
    refine g_if_eq (pc := 78) (tgt := 90) C hf dX2_readRule_78 (by decide) (fun hf => ?_) (fun hf => ?_)
    · refine g_iconst (pc := 90) (v := (0 : Int32)) C dX2_readRule_90 (by decide) ?_
      exact g_zretM C (by decide) hf dX2_readRule_91
    refine g_aload_n (pc := 81) C 1 dX2_readRule_81 rfl rfl ?_
    refine g_bipush (pc := 82) (v := (59 : Int32)) C dX2_readRule_82 (by decide) ?_
    obtain ⟨r23, M23, h23, hf⟩ := ob2 hf
    refine g_resI (pc := 84) C (rnV (As := [.int (59 : Int32)]) (st := []) C (c_X2_take C.2.2.2.2.2.1 hk0 h23) lkX2_70 rfl (by decide) hk0 rfl rfl (Nat.le_of_ble_eq_true rfl) ⟨⟨rfl, rfl⟩, Nat.le_of_ble_eq_true rfl, Nat.le_of_ble_eq_true rfl⟩ ⟨Nat.le_of_ble_eq_true rfl, Nat.le_of_ble_eq_true rfl⟩ dX2_readRule_84) ?_
    refine g_if_ne (pc := 87) (tgt := 92) C hf dX2_readRule_87 (by decide) (fun hf => ?_) (fun hf => ?_)
    · refine g_iconst (pc := 90) (v := (0 : Int32)) C dX2_readRule_90 (by decide) ?_
      exact g_zretM C (by decide) hf dX2_readRule_91
    refine g_aload_n (pc := 92) C 1 dX2_readRule_92 rfl rfl ?_
    refine g_getR (pc := 93) (T := 4) C hf fgX2_31 (by decide) hk0 rfl dX2_readRule_93 (fun a24 hk24 hf => ?_)
    obtain ⟨M25, h25, hf⟩ := ob hf
    refine g_resV (pc := 96) C (rnV (As := []) (st := []) C (c_X4_addRule C.2.2.2.2.2.1 hk24 h25) lkX2_101 rfl (by decide) hk24 rfl rfl (Nat.le_of_ble_eq_true rfl) ⟨⟨rfl, rfl⟩, Nat.le_of_ble_eq_true rfl, Nat.le_of_ble_eq_true rfl⟩ ⟨Nat.le_of_ble_eq_true rfl, Nat.le_of_ble_eq_true rfl⟩ dX2_readRule_96) ?_
    refine g_iconst (pc := 99) (v := (1 : Int32)) C dX2_readRule_99 (by decide) ?_
    exact g_zretM C (by decide) hf dX2_readRule_100
  refine g_iconst (pc := 24) (v := (0 : Int32)) C dX2_readRule_24 (by decide) ?_
  exact g_zretM C (by decide) hf dX2_readRule_25

theorem c_X2_readRule {l : Launch} {D : va_G} {cy : Nat → ClassId} {Λ : Nat → Nat} (hi : ∀ i j : Nat, Λ i = Λ j → i = j) {M : Mem} {a0 : Nat} {r9 : Int32} {M9 : Mem} (hk0 : Is NN a0 3) (hf : m_X2_readRule M a0 = some (r9, M9)) : Ct l yX2_readRule cX2_readRule 2 (some .boolean) { frames := 5, cells := 0, slots := 0, locals := 107 } D cy Λ [.ref (Λ a0)] NN M 0 0 (QcI D cy Λ NN r9 M9) := ent (by decide) hi (Nat.le_of_ble_eq_true rfl) (fun p e s m args below meth c C => w_X2_readRule C hk0 hf)
theorem w_X2_readAll_L33 {p : Program} {l : Launch} {e : Env} {s : State} {m : MethodId} {args : Array Value} {below : List Frame} {meth : Method} {c : Code} {D : va_G} {cy : Nat → ClassId} {Λ : Nat → Nat} (C : Cx p s m args meth c cX2_readAll 5 RX2 (some .int) D cy Λ (AA Λ s.heap.size)) {a0 : Nat} {a1 : Nat} {x2 : Int32}  {r9 : Int32} {M9 : Mem} (hk0 : Is NN a0 3) (hk1 : Is NN a1 11)  : ∀ (fu : Nat) (M : Mem) (x3 : Int32), m_X2_readAll_L33 a0 a1 x2 fu M x3 = some (r9, M9) → GW p l e { frames := 6, cells := 0, slots := 0, locals := 128 } s m args below meth c D cy Λ 5 (QcI D cy Λ NN r9 M9) M 33 [(0, .ref (Λ a0)), (1, .ref (Λ a1)), (2, .int x2), (3, .int x3)] [] := by
  intro fu
  induction fu with
  | zero =>
    intro M x3  hf
    cases hf
  | succ fu ih =>
    intro M x3  hf
    unfold m_X2_readAll_L33 at hf
    refine g_iload_n (pc := 33) C 3 dX2_readAll_33 rfl rfl ?_
    refine g_aload_n (pc := 34) C 0 dX2_readAll_34 rfl rfl ?_
    refine g_getI (pc := 35) C fgX2_15 (by decide) hk0 rfl dX2_readAll_35 ?_
    refine g_ic_gt (pc := 38) (tgt := 87) C hf dX2_readAll_38 (by decide) (fun hf => ?_) (fun hf => ?_)
    · refine g_bipush (pc := 87) (v := (-9 : Int32)) C dX2_readAll_87 (by decide) ?_
      exact g_iretM C hf dX2_readAll_89
    refine g_aload_n (pc := 41) C 0 dX2_readAll_41 rfl rfl ?_
    refine g_getI (pc := 42) C fgX2_25 (by decide) hk0 rfl dX2_readAll_42 ?_
    refine g_iconst (pc := 45) (v := (-1 : Int32)) C dX2_readAll_45 (by decide) ?_
    refine g_ic_ne (pc := 46) (tgt := 51) C hf dX2_readAll_46 (by decide) (fun hf => ?_) (fun hf => ?_)
    · refine g_iload_n (pc := 49) C 3 dX2_readAll_49 rfl rfl ?_
      exact g_iretM C hf dX2_readAll_50
    refine g_aload_n (pc := 51) C 0 dX2_readAll_51 rfl rfl ?_
    refine g_getI (pc := 52) C fgX2_25 (by decide) hk0 rfl dX2_readAll_52 ?_
    refine g_bipush (pc := 55) (v := (78 : Int32)) C dX2_readAll_55 (by decide) ?_
    refine g_ic_ne (pc := 57) (tgt := 67) C hf dX2_readAll_57 (by decide) (fun hf => ?_) (fun hf => ?_)
    · refine g_aload_n (pc := 60) C 0 dX2_readAll_60 rfl rfl ?_
      obtain ⟨r11, M11, h11, hf⟩ := ob2 hf
      refine g_resI (pc := 61) C (rnV (As := []) (st := []) C (c_X2_readNode C.2.2.2.2.2.1 hk0 h11) lkX2_47 rfl (by decide) hk0 rfl rfl (Nat.le_of_ble_eq_true rfl) ⟨⟨rfl, rfl⟩, Nat.le_of_ble_eq_true rfl, Nat.le_of_ble_eq_true rfl⟩ ⟨Nat.le_of_ble_eq_true rfl, Nat.le_of_ble_eq_true rfl⟩ dX2_readAll_61) ?_
      refine g_goto (pc := 64) (tgt := 71) C dX2_readAll_64 (by decide) ?_
      refine g_istore (pc := 71) (lv2 := [(4, .int r11), (0, .ref (Λ a0)), (1, .ref (Λ a1)), (2, .int x2), (3, .int x3)]) C dX2_readAll_71 (by decide) rfl ?_
      refine g_iload (pc := 73) C 0 dX2_readAll_73 rfl ?_
      refine g_if_ne (pc := 75) (tgt := 81) C hf dX2_readAll_75 (by decide) (fun hf => ?_) (fun hf => ?_)
      · refine g_bipush (pc := 78) (v := (-9 : Int32)) C dX2_readAll_78 (by decide) ?_
        exact g_iretM C hf dX2_readAll_80
      refine g_iinc (pc := 81) (v := (x3 + (1 : Int32))) (lv2 := [(3, .int (x3 + (1 : Int32))), (4, .int r11), (0, .ref (Λ a0)), (1, .ref (Λ a1)), (2, .int x2)]) C 4 dX2_readAll_81 rfl rfl (by decide) rfl ?_
      refine g_goto (pc := 84) (tgt := 33) C dX2_readAll_84 (by decide) ?_
      refine g_sub [2, 3, 4, 0] rfl ?_
      exact ih M11 (x3 + (1 : Int32))  hf
    refine g_aload_n (pc := 67) C 0 dX2_readAll_67 rfl rfl ?_
    obtain ⟨r12, M12, h12, hf⟩ := ob2 hf
    refine g_resI (pc := 68) C (rnV (As := []) (st := []) C (c_X2_readRule C.2.2.2.2.2.1 hk0 h12) lkX2_51 rfl (by decide) hk0 rfl rfl (Nat.le_of_ble_eq_true rfl) ⟨⟨rfl, rfl⟩, Nat.le_of_ble_eq_true rfl, Nat.le_of_ble_eq_true rfl⟩ ⟨Nat.le_of_ble_eq_true rfl, Nat.le_of_ble_eq_true rfl⟩ dX2_readAll_68) ?_
    refine g_istore (pc := 71) (lv2 := [(4, .int r12), (0, .ref (Λ a0)), (1, .ref (Λ a1)), (2, .int x2), (3, .int x3)]) C dX2_readAll_71 (by decide) rfl ?_
    refine g_iload (pc := 73) C 0 dX2_readAll_73 rfl ?_
    refine g_if_ne (pc := 75) (tgt := 81) C hf dX2_readAll_75 (by decide) (fun hf => ?_) (fun hf => ?_)
    · refine g_bipush (pc := 78) (v := (-9 : Int32)) C dX2_readAll_78 (by decide) ?_
      exact g_iretM C hf dX2_readAll_80
    refine g_iinc (pc := 81) (v := (x3 + (1 : Int32))) (lv2 := [(3, .int (x3 + (1 : Int32))), (4, .int r12), (0, .ref (Λ a0)), (1, .ref (Λ a1)), (2, .int x2)]) C 4 dX2_readAll_81 rfl rfl (by decide) rfl ?_
    refine g_goto (pc := 84) (tgt := 33) C dX2_readAll_84 (by decide) ?_
    refine g_sub [2, 3, 4, 0] rfl ?_
    exact ih M12 (x3 + (1 : Int32))  hf

theorem w_X2_readAll {p : Program} {l : Launch} {e : Env} {s : State} {m : MethodId} {args : Array Value} {below : List Frame} {meth : Method} {c : Code} {D : va_G} {cy : Nat → ClassId} {Λ : Nat → Nat} (C : Cx p s m args meth c cX2_readAll 5 RX2 (some .int) D cy Λ (AA Λ s.heap.size)) {M : Mem} {a0 : Nat} {a1 : Nat} {x2 : Int32} {r9 : Int32} {M9 : Mem} (hk0 : Is NN a0 3) (hk1 : Is NN a1 11) (hf : m_X2_readAll M a0 a1 x2 = some (r9, M9)) : GW p l e { frames := 6, cells := 0, slots := 0, locals := 128 } s m args below meth c D cy Λ 5 (QcI D cy Λ NN r9 M9) M 0 [(0, .ref (Λ a0)), (1, .ref (Λ a1)), (2, .int x2)] [] := by
  unfold m_X2_readAll at hf
  refine g_aload_n (pc := 0) C 0 dX2_readAll_0 rfl rfl ?_
  refine g_aload_n (pc := 1) C 1 dX2_readAll_1 rfl rfl ?_
  refine g_pR (pc := 2) C hf fpX2_9 (by decide) hk0 stX2_0 (Nat.le_of_ble_eq_true rfl) rfl rfl dX2_readAll_2 (fun M11 hf => ?_)
  refine g_aload_n (pc := 5) C 0 dX2_readAll_5 rfl rfl ?_
  refine g_iload_n (pc := 6) C 2 dX2_readAll_6 rfl rfl ?_
  refine g_aload_n (pc := 7) C 1 dX2_readAll_7 rfl rfl ?_
  refine g_alen1 (pc := 8) C hk1 dX2_readAll_8 ?_
  refine g_min (pc := 9) C tw_338 tw_339 tw_70 tw_340 ⟨Nat.le_of_ble_eq_true rfl, Nat.le_of_ble_eq_true rfl, Nat.le_of_ble_eq_true rfl, Nat.le_of_ble_eq_true rfl⟩ dX2_readAll_9 ?_
  refine g_pI (pc := 12) C hf fpX2_15 (by decide) hk0 stX2_1 (Nat.le_of_ble_eq_true rfl) rfl rfl dX2_readAll_12 (fun M12 hf => ?_)
  refine g_aload_n (pc := 15) C 0 dX2_readAll_15 rfl rfl ?_
  refine g_iconst (pc := 16) (v := (0 : Int32)) C dX2_readAll_16 (by decide) ?_
  refine g_pI (pc := 17) C hf fpX2_19 (by decide) hk0 stX2_2 (Nat.le_of_ble_eq_true rfl) rfl rfl dX2_readAll_17 (fun M13 hf => ?_)
  refine g_aload_n (pc := 20) C 0 dX2_readAll_20 rfl rfl ?_
  refine g_getR (pc := 21) (T := 4) C hf fgX2_31 (by decide) hk0 rfl dX2_readAll_21 (fun a14 hk14 hf => ?_)
  obtain ⟨M15, h15, hf⟩ := ob hf
  refine g_resV (pc := 24) C (rnV (As := []) (st := []) C (c_X4_empty C.2.2.2.2.2.1 hk14 h15) lkX2_41 rfl (by decide) hk14 rfl rfl (Nat.le_of_ble_eq_true rfl) ⟨⟨rfl, rfl⟩, Nat.le_of_ble_eq_true rfl, Nat.le_of_ble_eq_true rfl⟩ ⟨Nat.le_of_ble_eq_true rfl, Nat.le_of_ble_eq_true rfl⟩ dX2_readAll_24) ?_
  refine g_aload_n (pc := 27) C 0 dX2_readAll_27 rfl rfl ?_
  obtain ⟨M16, h16, hf⟩ := ob hf
  refine g_resV (pc := 28) C (rnV (As := []) (st := []) C (c_X2_advance C.2.2.2.2.2.1 hk0 h16) lkX2_44 rfl (by decide) hk0 rfl rfl (Nat.le_of_ble_eq_true rfl) ⟨⟨rfl, rfl⟩, Nat.le_of_ble_eq_true rfl, Nat.le_of_ble_eq_true rfl⟩ ⟨Nat.le_of_ble_eq_true rfl, Nat.le_of_ble_eq_true rfl⟩ dX2_readAll_28) ?_
  refine g_iconst (pc := 31) (v := (0 : Int32)) C dX2_readAll_31 (by decide) ?_
  refine g_istore_n (pc := 32) (lv2 := [(3, .int (0 : Int32)), (0, .ref (Λ a0)), (1, .ref (Λ a1)), (2, .int x2)]) C dX2_readAll_32 rfl (by decide) rfl ?_
  refine g_sub [1, 2, 3, 0] rfl ?_
  exact w_X2_readAll_L33 C hk0 hk1 FU M16 (0 : Int32)  hf

theorem c_X2_readAll {l : Launch} {D : va_G} {cy : Nat → ClassId} {Λ : Nat → Nat} (hi : ∀ i j : Nat, Λ i = Λ j → i = j) {M : Mem} {a0 : Nat} {a1 : Nat} {x2 : Int32} {r9 : Int32} {M9 : Mem} (hk0 : Is NN a0 3) (hk1 : Is NN a1 11) (hf : m_X2_readAll M a0 a1 x2 = some (r9, M9)) : Ct l yX2_readAll cX2_readAll 5 (some .int) { frames := 6, cells := 0, slots := 0, locals := 128 } D cy Λ [.ref (Λ a0), .ref (Λ a1), .int x2] NN M 0 0 (QcI D cy Λ NN r9 M9) := ent (by decide) hi (Nat.le_of_ble_eq_true rfl) (fun p e s m args below meth c C => w_X2_readAll C hk0 hk1 hf)
theorem w_X2_fault {p : Program} {l : Launch} {e : Env} {s : State} {m : MethodId} {args : Array Value} {below : List Frame} {meth : Method} {c : Code} {D : va_G} {cy : Nat → ClassId} {Λ : Nat → Nat} (C : Cx p s m args meth c cX2_fault 1 RX2 (some .int) D cy Λ (AA Λ s.heap.size)) {M : Mem} {a0 : Nat} {r9 : Int32} (hk0 : Is NN a0 3) (hf : m_X2_fault M a0 = some r9) : GW p l e { frames := 0, cells := 0, slots := 0, locals := 0 } s m args below meth c D cy Λ 1 (QcI D cy Λ NN r9 M) M 0 [(0, .ref (Λ a0))] [] := by
  unfold m_X2_fault at hf
  refine g_aload_n (pc := 0) C 0 dX2_fault_0 rfl rfl ?_
  refine g_getI (pc := 1) C fgX2_22 (by decide) hk0 rfl dX2_fault_1 ?_
  exact g_iret C hf dX2_fault_4

theorem c_X2_fault {l : Launch} {D : va_G} {cy : Nat → ClassId} {Λ : Nat → Nat} (hi : ∀ i j : Nat, Λ i = Λ j → i = j) {M : Mem} {a0 : Nat} {r9 : Int32} (hk0 : Is NN a0 3) (hf : m_X2_fault M a0 = some r9) : Ct l yX2_fault cX2_fault 1 (some .int) { frames := 0, cells := 0, slots := 0, locals := 0 } D cy Λ [.ref (Λ a0)] NN M 0 0 (QcI D cy Λ NN r9 M) := ent (by decide) hi (Nat.le_of_ble_eq_true rfl) (fun p e s m args below meth c C => w_X2_fault C hk0 hf)
theorem w_X2_exchange {p : Program} {l : Launch} {e : Env} {s : State} {m : MethodId} {args : Array Value} {below : List Frame} {meth : Method} {c : Code} {D : va_G} {cy : Nat → ClassId} {Λ : Nat → Nat} (C : Cx p s m args meth c cX2_exchange 3 RX2 (some (.object "StyleTree$Sheet")) D cy Λ (AA Λ s.heap.size)) {M : Mem} {a0 : Nat} {a1 : Nat} {r9 : Nat} {M9 : Mem} (hk0 : Is NN a0 3) (hk1 : Is NN a1 5) (hf : m_X2_exchange M a0 a1 = some (r9, M9)) : GW p l e { frames := 0, cells := 0, slots := 0, locals := 0 } s m args below meth c D cy Λ 3 (QcR D cy Λ NN r9 M9) M 0 [(0, .ref (Λ a0)), (1, .ref (Λ a1))] [] := by
  unfold m_X2_exchange at hf
  refine g_aload_n (pc := 0) C 0 dX2_exchange_0 rfl rfl ?_
  refine g_getR (pc := 1) (T := 4) C hf fgX2_31 (by decide) hk0 rfl dX2_exchange_1 (fun a11 hk11 hf => ?_)
  refine g_astore_n (pc := 4) (lv2 := [(2, .ref (Λ a11)), (0, .ref (Λ a0)), (1, .ref (Λ a1))]) C dX2_exchange_4 rfl (by decide) rfl ?_
  refine g_aload_n (pc := 5) C 1 dX2_exchange_5 rfl rfl ?_
  refine g_aload_n (pc := 6) C 2 dX2_exchange_6 rfl rfl ?_
  refine g_pR (pc := 7) C hf fpX2_31 (by decide) hk0 stX2_5 (Nat.le_of_ble_eq_true rfl) rfl rfl dX2_exchange_7 (fun M12 hf => ?_)
  refine g_aload_n (pc := 10) C 0 dX2_exchange_10 rfl rfl ?_
  exact g_aretM C hf dX2_exchange_11

theorem c_X2_exchange {l : Launch} {D : va_G} {cy : Nat → ClassId} {Λ : Nat → Nat} (hi : ∀ i j : Nat, Λ i = Λ j → i = j) {M : Mem} {a0 : Nat} {a1 : Nat} {r9 : Nat} {M9 : Mem} (hk0 : Is NN a0 3) (hk1 : Is NN a1 5) (hf : m_X2_exchange M a0 a1 = some (r9, M9)) : Ct l yX2_exchange cX2_exchange 3 (some (.object "StyleTree$Sheet")) { frames := 0, cells := 0, slots := 0, locals := 0 } D cy Λ [.ref (Λ a0), .ref (Λ a1)] NN M 0 0 (QcR D cy Λ NN r9 M9) := ent (by decide) hi (Nat.le_of_ble_eq_true rfl) (fun p e s m args below meth c C => w_X2_exchange C hk0 hk1 hf)
theorem w_X1_copyFrom {p : Program} {l : Launch} {e : Env} {s : State} {m : MethodId} {args : Array Value} {below : List Frame} {meth : Method} {c : Code} {D : va_G} {cy : Nat → ClassId} {Λ : Nat → Nat} (C : Cx p s m args meth c cX1_copyFrom 2 RX1 none D cy Λ (AA Λ s.heap.size)) {M : Mem} {a0 : Nat} {a1 : Nat} {M9 : Mem} (hk0 : Is NN a0 2) (hk1 : Is NN a1 2) (hf : m_X1_copyFrom M a0 a1 = some M9) : GW p l e { frames := 1, cells := 0, slots := 0, locals := 30 } s m args below meth c D cy Λ 2 (QcV D cy Λ NN M9) M 0 [(0, .ref (Λ a0)), (1, .ref (Λ a1))] [] := by
  unfold m_X1_copyFrom at hf
  refine g_aload_n (pc := 0) C 1 dX1_copyFrom_0 rfl rfl ?_
  refine g_getR (pc := 1) (T := 9) C hf fgX1_9 (by decide) hk1 rfl dX1_copyFrom_1 (fun a11 hk11 hf => ?_)
  refine g_iconst (pc := 4) (v := (0 : Int32)) C dX1_copyFrom_4 (by decide) ?_
  refine g_aload_n (pc := 5) C 0 dX1_copyFrom_5 rfl rfl ?_
  refine g_getR (pc := 6) (T := 9) C hf fgX1_9 (by decide) hk0 rfl dX1_copyFrom_6 (fun a12 hk12 hf => ?_)
  refine g_iconst (pc := 9) (v := (0 : Int32)) C dX1_copyFrom_9 (by decide) ?_
  refine g_bipush (pc := 10) (v := (9 : Int32)) C dX1_copyFrom_10 (by decide) ?_
  refine g_copy (pc := 12) C hf hk11 hk12 tw_449 tw_451 tw_450 tw_72 ⟨Nat.le_of_ble_eq_true rfl, Nat.le_of_ble_eq_true rfl⟩ dX1_copyFrom_12 (fun M13 hf => ?_)
  refine g_aload_n (pc := 15) C 1 dX1_copyFrom_15 rfl rfl ?_
  refine g_getR (pc := 16) (T := 9) C hf fgX1_15 (by decide) hk1 rfl dX1_copyFrom_16 (fun a14 hk14 hf => ?_)
  refine g_iconst (pc := 19) (v := (0 : Int32)) C dX1_copyFrom_19 (by decide) ?_
  refine g_aload_n (pc := 20) C 0 dX1_copyFrom_20 rfl rfl ?_
  refine g_getR (pc := 21) (T := 9) C hf fgX1_15 (by decide) hk0 rfl dX1_copyFrom_21 (fun a15 hk15 hf => ?_)
  refine g_iconst (pc := 24) (v := (0 : Int32)) C dX1_copyFrom_24 (by decide) ?_
  refine g_bipush (pc := 25) (v := (9 : Int32)) C dX1_copyFrom_25 (by decide) ?_
  refine g_copy (pc := 27) C hf hk14 hk15 tw_449 tw_451 tw_450 tw_72 ⟨Nat.le_of_ble_eq_true rfl, Nat.le_of_ble_eq_true rfl⟩ dX1_copyFrom_27 (fun M16 hf => ?_)
  refine g_aload_n (pc := 30) C 0 dX1_copyFrom_30 rfl rfl ?_
  refine g_aload_n (pc := 31) C 1 dX1_copyFrom_31 rfl rfl ?_
  refine g_getI (pc := 32) C fgX1_18 (by decide) hk1 rfl dX1_copyFrom_32 ?_
  refine g_pI (pc := 35) C hf fpX1_18 (by decide) hk0 stX1_2 (Nat.le_of_ble_eq_true rfl) rfl rfl dX1_copyFrom_35 (fun M17 hf => ?_)
  exact g_vret C hf dX1_copyFrom_38

theorem c_X1_copyFrom {l : Launch} {D : va_G} {cy : Nat → ClassId} {Λ : Nat → Nat} (hi : ∀ i j : Nat, Λ i = Λ j → i = j) {M : Mem} {a0 : Nat} {a1 : Nat} {M9 : Mem} (hk0 : Is NN a0 2) (hk1 : Is NN a1 2) (hf : m_X1_copyFrom M a0 a1 = some M9) : Ct l yX1_copyFrom cX1_copyFrom 2 none { frames := 1, cells := 0, slots := 0, locals := 30 } D cy Λ [.ref (Λ a0), .ref (Λ a1)] NN M 0 0 (QcV D cy Λ NN M9) := ent (by decide) hi (Nat.le_of_ble_eq_true rfl) (fun p e s m args below meth c C => w_X1_copyFrom C hk0 hk1 hf)
theorem w_X0_empty {p : Program} {l : Launch} {e : Env} {s : State} {m : MethodId} {args : Array Value} {below : List Frame} {meth : Method} {c : Code} {D : va_G} {cy : Nat → ClassId} {Λ : Nat → Nat} (C : Cx p s m args meth c cX0_empty 1 RX0 none D cy Λ (AA Λ s.heap.size)) {M : Mem} {a0 : Nat} {M9 : Mem} (hk0 : Is NN a0 1) (hf : m_X0_empty M a0 = some M9) : GW p l e { frames := 0, cells := 0, slots := 0, locals := 0 } s m args below meth c D cy Λ 1 (QcV D cy Λ NN M9) M 0 [(0, .ref (Λ a0))] [] := by
  unfold m_X0_empty at hf
  refine g_aload_n (pc := 0) C 0 dX0_empty_0 rfl rfl ?_
  refine g_iconst (pc := 1) (v := (0 : Int32)) C dX0_empty_1 (by decide) ?_
  refine g_pI (pc := 2) C hf fpX0_15 (by decide) hk0 stX0_1 (Nat.le_of_ble_eq_true rfl) rfl rfl dX0_empty_2 (fun M11 hf => ?_)
  exact g_vret C hf dX0_empty_5

theorem c_X0_empty {l : Launch} {D : va_G} {cy : Nat → ClassId} {Λ : Nat → Nat} (hi : ∀ i j : Nat, Λ i = Λ j → i = j) {M : Mem} {a0 : Nat} {M9 : Mem} (hk0 : Is NN a0 1) (hf : m_X0_empty M a0 = some M9) : Ct l yX0_empty cX0_empty 1 none { frames := 0, cells := 0, slots := 0, locals := 0 } D cy Λ [.ref (Λ a0)] NN M 0 0 (QcV D cy Λ NN M9) := ent (by decide) hi (Nat.le_of_ble_eq_true rfl) (fun p e s m args below meth c C => w_X0_empty C hk0 hf)
theorem w_X5_empty {p : Program} {l : Launch} {e : Env} {s : State} {m : MethodId} {args : Array Value} {below : List Frame} {meth : Method} {c : Code} {D : va_G} {cy : Nat → ClassId} {Λ : Nat → Nat} (C : Cx p s m args meth c cX5_empty 1 RX5 none D cy Λ (AA Λ s.heap.size)) {M : Mem} {a0 : Nat} {M9 : Mem} (hk0 : Is NN a0 6) (hf : m_X5_empty M a0 = some M9) : GW p l e { frames := 0, cells := 0, slots := 0, locals := 0 } s m args below meth c D cy Λ 1 (QcV D cy Λ NN M9) M 0 [(0, .ref (Λ a0))] [] := by
  unfold m_X5_empty at hf
  refine g_aload_n (pc := 0) C 0 dX5_empty_0 rfl rfl ?_
  refine g_iconst (pc := 1) (v := (0 : Int32)) C dX5_empty_1 (by decide) ?_
  refine g_pI (pc := 2) C hf fpX5_21 (by decide) hk0 stX5_3 (Nat.le_of_ble_eq_true rfl) rfl rfl dX5_empty_2 (fun M11 hf => ?_)
  exact g_vret C hf dX5_empty_5

theorem c_X5_empty {l : Launch} {D : va_G} {cy : Nat → ClassId} {Λ : Nat → Nat} (hi : ∀ i j : Nat, Λ i = Λ j → i = j) {M : Mem} {a0 : Nat} {M9 : Mem} (hk0 : Is NN a0 6) (hf : m_X5_empty M a0 = some M9) : Ct l yX5_empty cX5_empty 1 none { frames := 0, cells := 0, slots := 0, locals := 0 } D cy Λ [.ref (Λ a0)] NN M 0 0 (QcV D cy Λ NN M9) := ent (by decide) hi (Nat.le_of_ble_eq_true rfl) (fun p e s m args below meth c C => w_X5_empty C hk0 hf)
theorem w_X1_hasOn {p : Program} {l : Launch} {e : Env} {s : State} {m : MethodId} {args : Array Value} {below : List Frame} {meth : Method} {c : Code} {D : va_G} {cy : Nat → ClassId} {Λ : Nat → Nat} (C : Cx p s m args meth c cX1_hasOn 2 RX1 (some .boolean) D cy Λ (AA Λ s.heap.size)) {M : Mem} {a0 : Nat} {x1 : Int32} {r9 : Int32} (hk0 : Is NN a0 2) (hf : m_X1_hasOn M a0 x1 = some r9) : GW p l e { frames := 1, cells := 0, slots := 0, locals := 21 } s m args below meth c D cy Λ 2 (QcI D cy Λ NN r9 M) M 0 [(0, .ref (Λ a0)), (1, .int x1)] [] := by
  unfold m_X1_hasOn at hf
  refine g_aload_n (pc := 0) C 0 dX1_hasOn_0 rfl rfl ?_
  refine g_getI (pc := 1) C fgX1_18 (by decide) hk0 rfl dX1_hasOn_1 ?_
  refine g_iload_n (pc := 4) C 1 dX1_hasOn_4 rfl rfl ?_
  obtain ⟨r11, h11, hf⟩ := ob hf
  refine g_resI (pc := 5) C (rnSN (As := [.int (M.2 a0 2), .int x1]) (st := []) C (c_X7_hasBit C.2.2.2.2.2.1  h11) lknX1_28 rfl rfl (Nat.le_of_ble_eq_true rfl) ⟨⟨rfl, rfl⟩, Nat.le_of_ble_eq_true rfl, Nat.le_of_ble_eq_true rfl⟩ ⟨Nat.le_of_ble_eq_true rfl, Nat.le_of_ble_eq_true rfl⟩ dX1_hasOn_5) ?_
  obtain ⟨hn, hf⟩ := bz_n hf
  exact g_zret C hn hf dX1_hasOn_8

theorem c_X1_hasOn {l : Launch} {D : va_G} {cy : Nat → ClassId} {Λ : Nat → Nat} (hi : ∀ i j : Nat, Λ i = Λ j → i = j) {M : Mem} {a0 : Nat} {x1 : Int32} {r9 : Int32} (hk0 : Is NN a0 2) (hf : m_X1_hasOn M a0 x1 = some r9) : Ct l yX1_hasOn cX1_hasOn 2 (some .boolean) { frames := 1, cells := 0, slots := 0, locals := 21 } D cy Λ [.ref (Λ a0), .int x1] NN M 0 0 (QcI D cy Λ NN r9 M) := ent (by decide) hi (Nat.le_of_ble_eq_true rfl) (fun p e s m args below meth c C => w_X1_hasOn C hk0 hf)
theorem w_X3_fits_L40 {p : Program} {l : Launch} {e : Env} {s : State} {m : MethodId} {args : Array Value} {below : List Frame} {meth : Method} {c : Code} {D : va_G} {cy : Nat → ClassId} {Λ : Nat → Nat} (C : Cx p s m args meth c cX3_fits 5 RX3 (some .boolean) D cy Λ (AA Λ s.heap.size)) {M : Mem} {a0 : Nat} {x1 : Int32} {x2 : Int32} {x3 : Int32}  {r9 : Int32} (hk0 : Is NN a0 4)  : ∀ (s0 : Int32), m_X3_fits_L40 M a0 x1 x2 x3 s0 = some r9 → GW p l e { frames := 0, cells := 0, slots := 0, locals := 0 } s m args below meth c D cy Λ 5 (QcI D cy Λ NN r9 M) M 40 [(0, .ref (Λ a0)), (1, .int x1), (2, .int x2), (3, .int x3)] [.int s0] := by
  intro s0  hf
  unfold m_X3_fits_L40 at hf
  refine g_istore (pc := 40) (lv2 := [(4, .int s0), (0, .ref (Λ a0)), (1, .int x1), (2, .int x2), (3, .int x3)]) C dX3_fits_40 (by decide) rfl ?_
  refine g_iload (pc := 42) C 0 dX3_fits_42 rfl ?_
  refine g_if_eq (pc := 44) (tgt := 64) C hf dX3_fits_44 (by decide) (fun hf => ?_) (fun hf => ?_)
  · refine g_iconst (pc := 64) (v := (0 : Int32)) C dX3_fits_64 (by decide) ?_
    exact g_zret C (by decide) hf dX3_fits_65
  refine g_aload_n (pc := 47) C 1 dX3_fits_47 rfl rfl ?_
  refine g_getR (pc := 48) (T := 9) C hf fgX3_15 (by decide) hk0 rfl dX3_fits_48 (fun a11 hk11 hf => ?_)
  refine g_iload_n (pc := 51) C 2 dX3_fits_51 rfl rfl ?_
  refine g_iald (pc := 52) C hf hk11 dX3_fits_52 (fun v12 hf => ?_)
  refine g_iload_n (pc := 53) C 4 dX3_fits_53 rfl rfl ?_
  refine g_iconst (pc := 54) (v := (-1 : Int32)) C dX3_fits_54 (by decide) ?_
  refine g_ixor (pc := 55) C dX3_fits_55 ?_
  refine g_iand (pc := 56) C dX3_fits_56 ?_
  refine g_if_ne (pc := 57) (tgt := 64) C hf dX3_fits_57 (by decide) (fun hf => ?_) (fun hf => ?_)
  · refine g_iconst (pc := 60) (v := (1 : Int32)) C dX3_fits_60 (by decide) ?_
    refine g_goto (pc := 61) (tgt := 65) C dX3_fits_61 (by decide) ?_
    exact g_zret C (by decide) hf dX3_fits_65
  refine g_iconst (pc := 64) (v := (0 : Int32)) C dX3_fits_64 (by decide) ?_
  exact g_zret C (by decide) hf dX3_fits_65

theorem w_X3_fits {p : Program} {l : Launch} {e : Env} {s : State} {m : MethodId} {args : Array Value} {below : List Frame} {meth : Method} {c : Code} {D : va_G} {cy : Nat → ClassId} {Λ : Nat → Nat} (C : Cx p s m args meth c cX3_fits 5 RX3 (some .boolean) D cy Λ (AA Λ s.heap.size)) {M : Mem} {a0 : Nat} {x1 : Int32} {x2 : Int32} {x3 : Int32} {r9 : Int32} (hk0 : Is NN a0 4) (hf : m_X3_fits M a0 x1 x2 x3 = some r9) : GW p l e { frames := 0, cells := 0, slots := 0, locals := 0 } s m args below meth c D cy Λ 5 (QcI D cy Λ NN r9 M) M 0 [(0, .ref (Λ a0)), (1, .int x1), (2, .int x2), (3, .int x3)] [] := by
  unfold m_X3_fits at hf
  refine g_iload_n (pc := 0) C 1 dX3_fits_0 rfl rfl ?_
  refine g_if_lt (pc := 1) (tgt := 12) C hf dX3_fits_1 (by decide) (fun hf => ?_) (fun hf => ?_)
  · refine g_iconst (pc := 12) (v := (0 : Int32)) C dX3_fits_12 (by decide) ?_
    exact g_zret C (by decide) hf dX3_fits_13
  refine g_iload_n (pc := 4) C 1 dX3_fits_4 rfl rfl ?_
  refine g_aload_n (pc := 5) C 0 dX3_fits_5 rfl rfl ?_
  refine g_getI (pc := 6) C fgX3_32 (by decide) hk0 rfl dX3_fits_6 ?_
  refine g_ic_lt (pc := 9) (tgt := 14) C hf dX3_fits_9 (by decide) (fun hf => ?_) (fun hf => ?_)
  · refine g_aload_n (pc := 14) C 0 dX3_fits_14 rfl rfl ?_
    refine g_getR (pc := 15) (T := 9) C hf fgX3_9 (by decide) hk0 rfl dX3_fits_15 (fun a11 hk11 hf => ?_)
    refine g_iload_n (pc := 18) C 1 dX3_fits_18 rfl rfl ?_
    refine g_iald (pc := 19) C hf hk11 dX3_fits_19 (fun v12 hf => ?_)
    refine g_bipush (pc := 20) (v := (-9 : Int32)) C dX3_fits_20 (by decide) ?_
    refine g_ic_eq (pc := 22) (tgt := 35) C hf dX3_fits_22 (by decide) (fun hf => ?_) (fun hf => ?_)
    · refine g_iconst (pc := 35) (v := (1 : Int32)) C dX3_fits_35 (by decide) ?_
      refine g_goto (pc := 36) (tgt := 40) C dX3_fits_36 (by decide) ?_
      exact w_X3_fits_L40 C hk0 (1 : Int32)  hf
    refine g_aload_n (pc := 25) C 0 dX3_fits_25 rfl rfl ?_
    refine g_getR (pc := 26) (T := 9) C hf fgX3_9 (by decide) hk0 rfl dX3_fits_26 (fun a13 hk13 hf => ?_)
    refine g_iload_n (pc := 29) C 1 dX3_fits_29 rfl rfl ?_
    refine g_iald (pc := 30) C hf hk13 dX3_fits_30 (fun v14 hf => ?_)
    refine g_iload_n (pc := 31) C 2 dX3_fits_31 rfl rfl ?_
    refine g_ic_ne (pc := 32) (tgt := 39) C hf dX3_fits_32 (by decide) (fun hf => ?_) (fun hf => ?_)
    · refine g_iconst (pc := 35) (v := (1 : Int32)) C dX3_fits_35 (by decide) ?_
      refine g_goto (pc := 36) (tgt := 40) C dX3_fits_36 (by decide) ?_
      exact w_X3_fits_L40 C hk0 (1 : Int32)  hf
    refine g_iconst (pc := 39) (v := (0 : Int32)) C dX3_fits_39 (by decide) ?_
    exact w_X3_fits_L40 C hk0 (0 : Int32)  hf
  refine g_iconst (pc := 12) (v := (0 : Int32)) C dX3_fits_12 (by decide) ?_
  exact g_zret C (by decide) hf dX3_fits_13

theorem c_X3_fits {l : Launch} {D : va_G} {cy : Nat → ClassId} {Λ : Nat → Nat} (hi : ∀ i j : Nat, Λ i = Λ j → i = j) {M : Mem} {a0 : Nat} {x1 : Int32} {x2 : Int32} {x3 : Int32} {r9 : Int32} (hk0 : Is NN a0 4) (hf : m_X3_fits M a0 x1 x2 x3 = some r9) : Ct l yX3_fits cX3_fits 5 (some .boolean) { frames := 0, cells := 0, slots := 0, locals := 0 } D cy Λ [.ref (Λ a0), .int x1, .int x2, .int x3] NN M 0 0 (QcI D cy Λ NN r9 M) := ent (by decide) hi (Nat.le_of_ble_eq_true rfl) (fun p e s m args below meth c C => w_X3_fits C hk0 hf)
theorem w_X4_fitted_L6 {p : Program} {l : Launch} {e : Env} {s : State} {m : MethodId} {args : Array Value} {below : List Frame} {meth : Method} {c : Code} {D : va_G} {cy : Nat → ClassId} {Λ : Nat → Nat} (C : Cx p s m args meth c cX4_fitted 6 RX4 (some .int) D cy Λ (AA Λ s.heap.size)) {M : Mem} {a0 : Nat} {a1 : Nat} {a2 : Nat} {x3 : Int32}  {r9 : Int32} (hk0 : Is NN a0 5) (hk1 : Is NN a1 2) (hk2 : Is NN a2 4)  : ∀ (fu : Nat) (x4 : Int32) (x5 : Int32), m_X4_fitted_L6 M a0 a1 a2 x3 fu x4 x5 = some r9 → GW p l e { frames := 1, cells := 0, slots := 0, locals := 24 } s m args below meth c D cy Λ 6 (QcI D cy Λ NN r9 M) M 6 [(0, .ref (Λ a0)), (1, .ref (Λ a1)), (2, .ref (Λ a2)), (3, .int x3), (4, .int x4), (5, .int x5)] [] := by
  intro fu
  induction fu with
  | zero =>
    intro x4 x5  hf
    cases hf
  | succ fu ih =>
    intro x4 x5  hf
    unfold m_X4_fitted_L6 at hf
    refine g_iload (pc := 6) C 5 dX4_fitted_6 rfl ?_
    refine g_aload_n (pc := 8) C 0 dX4_fitted_8 rfl rfl ?_
    refine g_getI (pc := 9) C fgX4_9 (by decide) hk0 rfl dX4_fitted_9 ?_
    refine g_ic_ge (pc := 12) (tgt := 52) C hf dX4_fitted_12 (by decide) (fun hf => ?_) (fun hf => ?_)
    · refine g_iload (pc := 52) C 4 dX4_fitted_52 rfl ?_
      exact g_iret C hf dX4_fitted_54
    refine g_aload_n (pc := 15) C 2 dX4_fitted_15 rfl rfl ?_
    refine g_iload_n (pc := 16) C 3 dX4_fitted_16 rfl rfl ?_
    refine g_aload_n (pc := 17) C 1 dX4_fitted_17 rfl rfl ?_
    refine g_getR (pc := 18) (T := 9) C hf fgX4_46 (by decide) hk1 rfl dX4_fitted_18 (fun a11 hk11 hf => ?_)
    refine g_iload (pc := 21) C 5 dX4_fitted_21 rfl ?_
    refine g_iald (pc := 23) C hf hk11 dX4_fitted_23 (fun v12 hf => ?_)
    refine g_aload_n (pc := 24) C 1 dX4_fitted_24 rfl rfl ?_
    refine g_getR (pc := 25) (T := 9) C hf fgX4_49 (by decide) hk1 rfl dX4_fitted_25 (fun a13 hk13 hf => ?_)
    refine g_iload (pc := 28) C 5 dX4_fitted_28 rfl ?_
    refine g_iald (pc := 30) C hf hk13 dX4_fitted_30 (fun v14 hf => ?_)
    obtain ⟨r15, h15, hf⟩ := ob hf
    refine g_resI (pc := 31) C (rnV (As := [.int x3, .int v12, .int v14]) (st := []) C (c_X3_fits C.2.2.2.2.2.1 hk2 h15) lkX4_55 rfl (by decide) hk2 rfl rfl (Nat.le_of_ble_eq_true rfl) ⟨⟨rfl, rfl⟩, Nat.le_of_ble_eq_true rfl, Nat.le_of_ble_eq_true rfl⟩ ⟨Nat.le_of_ble_eq_true rfl, Nat.le_of_ble_eq_true rfl⟩ dX4_fitted_31) ?_
    refine g_if_eq (pc := 34) (tgt := 46) C hf dX4_fitted_34 (by decide) (fun hf => ?_) (fun hf => ?_)
    · refine g_iinc (pc := 46) (v := (x5 + (1 : Int32))) (lv2 := [(5, .int (x5 + (1 : Int32))), (0, .ref (Λ a0)), (1, .ref (Λ a1)), (2, .ref (Λ a2)), (3, .int x3), (4, .int x4)]) C 5 dX4_fitted_46 rfl rfl (by decide) rfl ?_
      refine g_goto (pc := 49) (tgt := 6) C dX4_fitted_49 (by decide) ?_
      refine g_sub [1, 2, 3, 4, 5, 0] rfl ?_
      exact ih x4 (x5 + (1 : Int32))  hf
    refine g_iload (pc := 37) C 4 dX4_fitted_37 rfl ?_
    refine g_iconst (pc := 39) (v := (1 : Int32)) C dX4_fitted_39 (by decide) ?_
    refine g_iload (pc := 40) C 5 dX4_fitted_40 rfl ?_
    refine g_ishl (pc := 42) C dX4_fitted_42 ?_
    refine g_ior (pc := 43) C dX4_fitted_43 ?_
    refine g_istore (pc := 44) (lv2 := [(4, .int (x4 ||| ((1 : Int32) <<< (x5 &&& 31)))), (0, .ref (Λ a0)), (1, .ref (Λ a1)), (2, .ref (Λ a2)), (3, .int x3), (5, .int x5)]) C dX4_fitted_44 (by decide) rfl ?_
    refine g_iinc (pc := 46) (v := (x5 + (1 : Int32))) (lv2 := [(5, .int (x5 + (1 : Int32))), (4, .int (x4 ||| ((1 : Int32) <<< (x5 &&& 31)))), (0, .ref (Λ a0)), (1, .ref (Λ a1)), (2, .ref (Λ a2)), (3, .int x3)]) C 5 dX4_fitted_46 rfl rfl (by decide) rfl ?_
    refine g_goto (pc := 49) (tgt := 6) C dX4_fitted_49 (by decide) ?_
    refine g_sub [2, 3, 4, 5, 1, 0] rfl ?_
    exact ih (x4 ||| ((1 : Int32) <<< (x5 &&& 31))) (x5 + (1 : Int32))  hf

theorem w_X4_fitted {p : Program} {l : Launch} {e : Env} {s : State} {m : MethodId} {args : Array Value} {below : List Frame} {meth : Method} {c : Code} {D : va_G} {cy : Nat → ClassId} {Λ : Nat → Nat} (C : Cx p s m args meth c cX4_fitted 6 RX4 (some .int) D cy Λ (AA Λ s.heap.size)) {M : Mem} {a0 : Nat} {a1 : Nat} {a2 : Nat} {x3 : Int32} {r9 : Int32} (hk0 : Is NN a0 5) (hk1 : Is NN a1 2) (hk2 : Is NN a2 4) (hf : m_X4_fitted M a0 a1 a2 x3 = some r9) : GW p l e { frames := 1, cells := 0, slots := 0, locals := 24 } s m args below meth c D cy Λ 6 (QcI D cy Λ NN r9 M) M 0 [(0, .ref (Λ a0)), (1, .ref (Λ a1)), (2, .ref (Λ a2)), (3, .int x3)] [] := by
  unfold m_X4_fitted at hf
  refine g_iconst (pc := 0) (v := (0 : Int32)) C dX4_fitted_0 (by decide) ?_
  refine g_istore (pc := 1) (lv2 := [(4, .int (0 : Int32)), (0, .ref (Λ a0)), (1, .ref (Λ a1)), (2, .ref (Λ a2)), (3, .int x3)]) C dX4_fitted_1 (by decide) rfl ?_
  refine g_iconst (pc := 3) (v := (0 : Int32)) C dX4_fitted_3 (by decide) ?_
  refine g_istore (pc := 4) (lv2 := [(5, .int (0 : Int32)), (4, .int (0 : Int32)), (0, .ref (Λ a0)), (1, .ref (Λ a1)), (2, .ref (Λ a2)), (3, .int x3)]) C dX4_fitted_4 (by decide) rfl ?_
  refine g_sub [2, 3, 4, 5, 1, 0] rfl ?_
  exact w_X4_fitted_L6 C hk0 hk1 hk2 FU (0 : Int32) (0 : Int32)  hf

theorem c_X4_fitted {l : Launch} {D : va_G} {cy : Nat → ClassId} {Λ : Nat → Nat} (hi : ∀ i j : Nat, Λ i = Λ j → i = j) {M : Mem} {a0 : Nat} {a1 : Nat} {a2 : Nat} {x3 : Int32} {r9 : Int32} (hk0 : Is NN a0 5) (hk1 : Is NN a1 2) (hk2 : Is NN a2 4) (hf : m_X4_fitted M a0 a1 a2 x3 = some r9) : Ct l yX4_fitted cX4_fitted 6 (some .int) { frames := 1, cells := 0, slots := 0, locals := 24 } D cy Λ [.ref (Λ a0), .ref (Λ a1), .ref (Λ a2), .int x3] NN M 0 0 (QcI D cy Λ NN r9 M) := ent (by decide) hi (Nat.le_of_ble_eq_true rfl) (fun p e s m args below meth c C => w_X4_fitted C hk0 hk1 hk2 hf)
theorem w_X4_under_L59 {p : Program} {l : Launch} {e : Env} {s : State} {m : MethodId} {args : Array Value} {below : List Frame} {meth : Method} {c : Code} {D : va_G} {cy : Nat → ClassId} {Λ : Nat → Nat} (C : Cx p s m args meth c cX4_under 6 RX4 (some .int) D cy Λ (AA Λ s.heap.size)) {M : Mem} {a0 : Nat} {x1 : Int32} {x2 : Int32} {k5 : Int32 → Int32 → Option Int32} {r9 : Int32} (hk0 : Is NN a0 5) (hK5 : ∀ (x3 : Int32) (x4 : Int32), k5 x3 x4 = some r9 → GW p l e { frames := 1, cells := 0, slots := 0, locals := 21 } s m args below meth c D cy Λ 6 (QcI D cy Λ NN r9 M) M 5 [(0, .ref (Λ a0)), (1, .int x1), (2, .int x2), (3, .int x3), (4, .int x4)] []) : ∀ (x3 : Int32) (x4 : Int32) (x5 : Int32), m_X4_under_L59 M a0 x1 x2 k5 x3 x4 x5 = some r9 → GW p l e { frames := 1, cells := 0, slots := 0, locals := 21 } s m args below meth c D cy Λ 6 (QcI D cy Λ NN r9 M) M 59 [(0, .ref (Λ a0)), (1, .int x1), (2, .int x2), (3, .int x3), (4, .int x4), (5, .int x5)] [] := by
  intro x3 x4 x5  hf
  unfold m_X4_under_L59 at hf
  refine g_iload (pc := 59) C 5 dX4_under_59 rfl ?_
  refine g_iload_n (pc := 61) C 1 dX4_under_61 rfl rfl ?_
  refine g_iand (pc := 62) C dX4_under_62 ?_
  refine g_if_eq (pc := 63) (tgt := 73) C hf dX4_under_63 (by decide) (fun hf => ?_) (fun hf => ?_)
  · refine g_iinc (pc := 73) (v := (x4 + (1 : Int32))) (lv2 := [(4, .int (x4 + (1 : Int32))), (0, .ref (Λ a0)), (1, .int x1), (2, .int x2), (3, .int x3), (5, .int x5)]) C 4 dX4_under_73 rfl rfl (by decide) rfl ?_
    refine g_goto (pc := 76) (tgt := 5) C dX4_under_76 (by decide) ?_
    refine g_sub [1, 2, 3, 4, 0] rfl ?_
    exact hK5 x3 (x4 + (1 : Int32))  hf
  refine g_iload_n (pc := 66) C 3 dX4_under_66 rfl rfl ?_
  refine g_iconst (pc := 67) (v := (1 : Int32)) C dX4_under_67 (by decide) ?_
  refine g_iload (pc := 68) C 4 dX4_under_68 rfl ?_
  refine g_ishl (pc := 70) C dX4_under_70 ?_
  refine g_ior (pc := 71) C dX4_under_71 ?_
  refine g_istore_n (pc := 72) (lv2 := [(3, .int (x3 ||| ((1 : Int32) <<< (x4 &&& 31)))), (0, .ref (Λ a0)), (1, .int x1), (2, .int x2), (4, .int x4), (5, .int x5)]) C dX4_under_72 rfl (by decide) rfl ?_
  refine g_iinc (pc := 73) (v := (x4 + (1 : Int32))) (lv2 := [(4, .int (x4 + (1 : Int32))), (3, .int (x3 ||| ((1 : Int32) <<< (x4 &&& 31)))), (0, .ref (Λ a0)), (1, .int x1), (2, .int x2), (5, .int x5)]) C 4 dX4_under_73 rfl rfl (by decide) rfl ?_
  refine g_goto (pc := 76) (tgt := 5) C dX4_under_76 (by decide) ?_
  refine g_sub [2, 3, 4, 1, 0] rfl ?_
  exact hK5 (x3 ||| ((1 : Int32) <<< (x4 &&& 31))) (x4 + (1 : Int32))  hf

theorem w_X4_under_L5 {p : Program} {l : Launch} {e : Env} {s : State} {m : MethodId} {args : Array Value} {below : List Frame} {meth : Method} {c : Code} {D : va_G} {cy : Nat → ClassId} {Λ : Nat → Nat} (C : Cx p s m args meth c cX4_under 6 RX4 (some .int) D cy Λ (AA Λ s.heap.size)) {M : Mem} {a0 : Nat} {x1 : Int32} {x2 : Int32}  {r9 : Int32} (hk0 : Is NN a0 5)  : ∀ (fu : Nat) (x3 : Int32) (x4 : Int32), m_X4_under_L5 M a0 x1 x2 fu x3 x4 = some r9 → GW p l e { frames := 1, cells := 0, slots := 0, locals := 21 } s m args below meth c D cy Λ 6 (QcI D cy Λ NN r9 M) M 5 [(0, .ref (Λ a0)), (1, .int x1), (2, .int x2), (3, .int x3), (4, .int x4)] [] := by
  intro fu
  induction fu with
  | zero =>
    intro x3 x4  hf
    cases hf
  | succ fu ih =>
    intro x3 x4  hf
    unfold m_X4_under_L5 at hf
    refine g_iload (pc := 5) C 4 dX4_under_5 rfl ?_
    refine g_aload_n (pc := 7) C 0 dX4_under_7 rfl rfl ?_
    refine g_getI (pc := 8) C fgX4_9 (by decide) hk0 rfl dX4_under_8 ?_
    refine g_ic_ge (pc := 11) (tgt := 79) C hf dX4_under_11 (by decide) (fun hf => ?_) (fun hf => ?_)
    · refine g_iload_n (pc := 79) C 3 dX4_under_79 rfl rfl ?_
      exact g_iret C hf dX4_under_80
    refine g_aload_n (pc := 14) C 0 dX4_under_14 rfl rfl ?_
    refine g_getR (pc := 15) (T := 9) C hf fgX4_22 (by decide) hk0 rfl dX4_under_15 (fun a11 hk11 hf => ?_)
    refine g_iload (pc := 18) C 4 dX4_under_18 rfl ?_
    refine g_iald (pc := 20) C hf hk11 dX4_under_20 (fun v12 hf => ?_)
    refine g_istore (pc := 21) (lv2 := [(5, .int v12), (0, .ref (Λ a0)), (1, .int x1), (2, .int x2), (3, .int x3), (4, .int x4)]) C dX4_under_21 (by decide) rfl ?_
    refine g_iload_n (pc := 23) C 3 dX4_under_23 rfl rfl ?_
    refine g_if_eq (pc := 24) (tgt := 59) C hf dX4_under_24 (by decide) (fun hf => ?_) (fun hf => ?_)
    · refine g_sub [1, 2, 3, 4, 5, 0] rfl ?_
      exact w_X4_under_L59 C hk0 ih x3 x4 v12  hf
    refine g_aload_n (pc := 27) C 1 dX4_under_27 rfl rfl ?_
    refine g_getR (pc := 28) (T := 9) C hf fgX4_18 (by decide) hk0 rfl dX4_under_28 (fun a13 hk13 hf => ?_)
    refine g_iload (pc := 31) C 5 dX4_under_31 rfl ?_
    refine g_iald (pc := 33) C hf hk13 dX4_under_33 (fun v14 hf => ?_)
    refine g_aload_n (pc := 34) C 1 dX4_under_34 rfl rfl ?_
    refine g_getI (pc := 35) C fgX4_9 (by decide) hk0 rfl dX4_under_35 ?_
    obtain ⟨r15, h15, hf⟩ := ob hf
    refine g_resI (pc := 38) C (rnSN (As := [.int v14, .int (M.2 a0 0)]) (st := []) C (c_X7_within C.2.2.2.2.2.1  h15) lknX4_42 rfl rfl (Nat.le_of_ble_eq_true rfl) ⟨⟨rfl, rfl⟩, Nat.le_of_ble_eq_true rfl, Nat.le_of_ble_eq_true rfl⟩ ⟨Nat.le_of_ble_eq_true rfl, Nat.le_of_ble_eq_true rfl⟩ dX4_under_38) ?_
    refine g_if_eq (pc := 41) (tgt := 56) C hf dX4_under_41 (by decide) (fun hf => ?_) (fun hf => ?_)
    · refine g_iconst (pc := 56) (v := (0 : Int32)) C dX4_under_56 (by decide) ?_
      refine g_istore (pc := 57) (lv2 := [(5, .int (0 : Int32)), (0, .ref (Λ a0)), (1, .int x1), (2, .int x2), (3, .int x3), (4, .int x4)]) C dX4_under_57 (by decide) rfl ?_
      refine g_sub [1, 2, 3, 4, 5, 0] rfl ?_
      exact w_X4_under_L59 C hk0 ih x3 x4 (0 : Int32)  hf
    refine g_iconst (pc := 44) (v := (1 : Int32)) C dX4_under_44 (by decide) ?_
    refine g_aload_n (pc := 45) C 1 dX4_under_45 rfl rfl ?_
    refine g_getR (pc := 46) (T := 9) C hf fgX4_18 (by decide) hk0 rfl dX4_under_46 (fun a16 hk16 hf => ?_)
    refine g_iload (pc := 49) C 5 dX4_under_49 rfl ?_
    refine g_iald (pc := 51) C hf hk16 dX4_under_51 (fun v17 hf => ?_)
    refine g_ishl (pc := 52) C dX4_under_52 ?_
    refine g_goto (pc := 53) (tgt := 57) C dX4_under_53 (by decide) ?_
    refine g_istore (pc := 57) (lv2 := [(5, .int ((1 : Int32) <<< (v17 &&& 31))), (0, .ref (Λ a0)), (1, .int x1), (2, .int x2), (3, .int x3), (4, .int x4)]) C dX4_under_57 (by decide) rfl ?_
    refine g_sub [1, 2, 3, 4, 5, 0] rfl ?_
    exact w_X4_under_L59 C hk0 ih x3 x4 ((1 : Int32) <<< (v17 &&& 31))  hf

theorem w_X4_under {p : Program} {l : Launch} {e : Env} {s : State} {m : MethodId} {args : Array Value} {below : List Frame} {meth : Method} {c : Code} {D : va_G} {cy : Nat → ClassId} {Λ : Nat → Nat} (C : Cx p s m args meth c cX4_under 6 RX4 (some .int) D cy Λ (AA Λ s.heap.size)) {M : Mem} {a0 : Nat} {x1 : Int32} {x2 : Int32} {r9 : Int32} (hk0 : Is NN a0 5) (hf : m_X4_under M a0 x1 x2 = some r9) : GW p l e { frames := 1, cells := 0, slots := 0, locals := 21 } s m args below meth c D cy Λ 6 (QcI D cy Λ NN r9 M) M 0 [(0, .ref (Λ a0)), (1, .int x1), (2, .int x2)] [] := by
  unfold m_X4_under at hf
  refine g_iconst (pc := 0) (v := (0 : Int32)) C dX4_under_0 (by decide) ?_
  refine g_istore_n (pc := 1) (lv2 := [(3, .int (0 : Int32)), (0, .ref (Λ a0)), (1, .int x1), (2, .int x2)]) C dX4_under_1 rfl (by decide) rfl ?_
  refine g_iconst (pc := 2) (v := (0 : Int32)) C dX4_under_2 (by decide) ?_
  refine g_istore (pc := 3) (lv2 := [(4, .int (0 : Int32)), (3, .int (0 : Int32)), (0, .ref (Λ a0)), (1, .int x1), (2, .int x2)]) C dX4_under_3 (by decide) rfl ?_
  refine g_sub [2, 3, 4, 1, 0] rfl ?_
  exact w_X4_under_L5 C hk0 FU (0 : Int32) (0 : Int32)  hf

theorem c_X4_under {l : Launch} {D : va_G} {cy : Nat → ClassId} {Λ : Nat → Nat} (hi : ∀ i j : Nat, Λ i = Λ j → i = j) {M : Mem} {a0 : Nat} {x1 : Int32} {x2 : Int32} {r9 : Int32} (hk0 : Is NN a0 5) (hf : m_X4_under M a0 x1 x2 = some r9) : Ct l yX4_under cX4_under 6 (some .int) { frames := 1, cells := 0, slots := 0, locals := 21 } D cy Λ [.ref (Λ a0), .int x1, .int x2] NN M 0 0 (QcI D cy Λ NN r9 M) := ent (by decide) hi (Nat.le_of_ble_eq_true rfl) (fun p e s m args below meth c C => w_X4_under C hk0 hf)
theorem w_X4_reached_L11 {p : Program} {l : Launch} {e : Env} {s : State} {m : MethodId} {args : Array Value} {below : List Frame} {meth : Method} {c : Code} {D : va_G} {cy : Nat → ClassId} {Λ : Nat → Nat} (C : Cx p s m args meth c cX4_reached 5 RX4 (some .int) D cy Λ (AA Λ s.heap.size)) {M : Mem} {a0 : Nat} {a1 : Nat} {a2 : Nat}  {r9 : Int32} (hk0 : Is NN a0 5) (hk1 : Is NN a1 2) (hk2 : Is NN a2 4)  : ∀ (fu : Nat) (x3 : Int32) (x4 : Int32), m_X4_reached_L11 M a0 a1 a2 fu x3 x4 = some r9 → GW p l e { frames := 2, cells := 0, slots := 0, locals := 49 } s m args below meth c D cy Λ 5 (QcI D cy Λ NN r9 M) M 11 [(0, .ref (Λ a0)), (1, .ref (Λ a1)), (2, .ref (Λ a2)), (3, .int x3), (4, .int x4)] [] := by
  intro fu
  induction fu with
  | zero =>
    intro x3 x4  hf
    cases hf
  | succ fu ih =>
    intro x3 x4  hf
    unfold m_X4_reached_L11 at hf
    refine g_iload (pc := 11) C 4 dX4_reached_11 rfl ?_
    refine g_aload_n (pc := 13) C 2 dX4_reached_13 rfl rfl ?_
    refine g_getI (pc := 14) C fgX4_63 (by decide) hk2 rfl dX4_reached_14 ?_
    refine g_ic_ge (pc := 17) (tgt := 48) C hf dX4_reached_17 (by decide) (fun hf => ?_) (fun hf => ?_)
    · refine g_iload_n (pc := 48) C 3 dX4_reached_48 rfl rfl ?_
      exact g_iret C hf dX4_reached_49
    refine g_aload_n (pc := 20) C 0 dX4_reached_20 rfl rfl ?_
    refine g_aload_n (pc := 21) C 1 dX4_reached_21 rfl rfl ?_
    refine g_aload_n (pc := 22) C 2 dX4_reached_22 rfl rfl ?_
    refine g_iload (pc := 23) C 4 dX4_reached_23 rfl ?_
    obtain ⟨r11, h11, hf⟩ := ob hf
    refine g_resI (pc := 25) C (rnV (As := [.ref (Λ a1), .ref (Λ a2), .int x4]) (st := []) C (c_X4_fitted C.2.2.2.2.2.1 hk0 hk1 hk2 h11) lkX4_59 rfl (by decide) hk0 rfl rfl (Nat.le_of_ble_eq_true rfl) ⟨⟨rfl, rfl⟩, Nat.le_of_ble_eq_true rfl, Nat.le_of_ble_eq_true rfl⟩ ⟨Nat.le_of_ble_eq_true rfl, Nat.le_of_ble_eq_true rfl⟩ dX4_reached_25) ?_
    refine g_aload_n (pc := 28) C 0 dX4_reached_28 rfl rfl ?_
    refine g_iload_n (pc := 29) C 3 dX4_reached_29 rfl rfl ?_
    refine g_aload_n (pc := 30) C 2 dX4_reached_30 rfl rfl ?_
    refine g_getR (pc := 31) (T := 11) C hf fgX4_66 (by decide) hk2 rfl dX4_reached_31 (fun a12 hk12 hf => ?_)
    refine g_iload (pc := 34) C 4 dX4_reached_34 rfl ?_
    refine g_zald (pc := 36) C hf hk12 dX4_reached_36 (fun v13 hf => ?_)
    obtain ⟨r14, h14, hf⟩ := ob hf
    refine g_resI (pc := 37) C (rnV (As := [.int x3, .int v13]) (st := [.int r11]) C (c_X4_under C.2.2.2.2.2.1 hk0 h14) lkX4_70 rfl (by decide) hk0 rfl rfl (Nat.le_of_ble_eq_true rfl) ⟨⟨rfl, rfl⟩, Nat.le_of_ble_eq_true rfl, Nat.le_of_ble_eq_true rfl⟩ ⟨Nat.le_of_ble_eq_true rfl, Nat.le_of_ble_eq_true rfl⟩ dX4_reached_37) ?_
    refine g_iand (pc := 40) C dX4_reached_40 ?_
    refine g_istore_n (pc := 41) (lv2 := [(3, .int (r11 &&& r14)), (0, .ref (Λ a0)), (1, .ref (Λ a1)), (2, .ref (Λ a2)), (4, .int x4)]) C dX4_reached_41 rfl (by decide) rfl ?_
    refine g_iinc (pc := 42) (v := (x4 + (1 : Int32))) (lv2 := [(4, .int (x4 + (1 : Int32))), (3, .int (r11 &&& r14)), (0, .ref (Λ a0)), (1, .ref (Λ a1)), (2, .ref (Λ a2))]) C 4 dX4_reached_42 rfl rfl (by decide) rfl ?_
    refine g_goto (pc := 45) (tgt := 11) C dX4_reached_45 (by decide) ?_
    refine g_sub [2, 3, 4, 1, 0] rfl ?_
    exact ih (r11 &&& r14) (x4 + (1 : Int32))  hf
