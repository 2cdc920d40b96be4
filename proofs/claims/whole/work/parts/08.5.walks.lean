theorem w_X8_notes_L47 {p : Program} {l : Launch} {e : Env} {s : State} {m : MethodId} {args : Array Value} {below : List Frame} {meth : Method} {c : Code} {D : va_G} {cy : Nat → ClassId} {Λ : Nat → Nat} (C : Cx p s m args meth c cX8_notes 2 RX8 none D cy Λ (AA Λ s.heap.size)) {a0 : Nat}  {M9 : Mem} (hk0 : Is NN a0 9)  : ∀ (fu : Nat) (M : Mem) (x1 : Int32), m_X8_notes_L47 a0 fu M x1 = some M9 → GW p l e { frames := 0, cells := 0, slots := 0, locals := 0 } s m args below meth c D cy Λ 2 (QcV D cy Λ NN M9) M 47 [(0, .ref (Λ a0)), (1, .int x1)] [] := by
  intro fu
  induction fu with
  | zero =>
    intro M x1  hf
    cases hf
  | succ fu ih =>
    intro M x1  hf
    unfold m_X8_notes_L47 at hf
    refine g_iload_n (pc := 47) C 1 dX8_notes_47 rfl rfl ?_
    refine g_bipush (pc := 48) (v := (19 : Int32)) C dX8_notes_48 (by decide) ?_
    refine g_ic_ge (pc := 50) (tgt := 79) C hf dX8_notes_50 (by decide) (fun hf => ?_) (fun hf => ?_)
    · refine g_aload_n (pc := 79) C 0 dX8_notes_79 rfl rfl ?_
      refine g_dup (pc := 80) C dX8_notes_80 rfl ?_
      refine g_getI (pc := 81) C fgX8_127 (by decide) hk0 rfl dX8_notes_81 ?_
      refine g_iconst (pc := 84) (v := (1 : Int32)) C dX8_notes_84 (by decide) ?_
      refine g_iadd (pc := 85) C dX8_notes_85 ?_
      refine g_pI (pc := 86) C hf fpX8_127 (by decide) hk0 stX8_13 (Nat.le_of_ble_eq_true rfl) rfl rfl dX8_notes_86 (fun M11 hf => ?_)
      exact g_vret C hf dX8_notes_89
    refine g_aload_n (pc := 53) C 0 dX8_notes_53 rfl rfl ?_
    refine g_getR (pc := 54) (T := 9) C hf fgX8_25 (by decide) hk0 rfl dX8_notes_54 (fun a12 hk12 hf => ?_)
    refine g_bipush (pc := 57) (v := (19 : Int32)) C dX8_notes_57 (by decide) ?_
    refine g_aload_n (pc := 59) C 0 dX8_notes_59 rfl rfl ?_
    refine g_getI (pc := 60) C fgX8_127 (by decide) hk0 rfl dX8_notes_60 ?_
    refine g_imul (pc := 63) C dX8_notes_63 ?_
    refine g_iload_n (pc := 64) C 1 dX8_notes_64 rfl rfl ?_
    refine g_iadd (pc := 65) C dX8_notes_65 ?_
    refine g_aload_n (pc := 66) C 0 dX8_notes_66 rfl rfl ?_
    refine g_getR (pc := 67) (T := 9) C hf fgX8_22 (by decide) hk0 rfl dX8_notes_67 (fun a13 hk13 hf => ?_)
    refine g_iload_n (pc := 70) C 1 dX8_notes_70 rfl rfl ?_
    refine g_iald (pc := 71) C hf hk13 dX8_notes_71 (fun v14 hf => ?_)
    refine g_iast (pc := 72) C hf hk12 dX8_notes_72 (fun M15 hf => ?_)
    refine g_iinc (pc := 73) (v := (x1 + (1 : Int32))) (lv2 := [(1, .int (x1 + (1 : Int32))), (0, .ref (Λ a0))]) C 1 dX8_notes_73 rfl rfl (by decide) rfl ?_
    refine g_goto (pc := 76) (tgt := 47) C dX8_notes_76 (by decide) ?_
    refine g_sub [1, 0] rfl ?_
    exact ih M15 (x1 + (1 : Int32))  hf

theorem w_X8_notes_L11 {p : Program} {l : Launch} {e : Env} {s : State} {m : MethodId} {args : Array Value} {below : List Frame} {meth : Method} {c : Code} {D : va_G} {cy : Nat → ClassId} {Λ : Nat → Nat} (C : Cx p s m args meth c cX8_notes 2 RX8 none D cy Λ (AA Λ s.heap.size)) {a0 : Nat}  {M9 : Mem} (hk0 : Is NN a0 9)  : ∀ (fu : Nat) (M : Mem) (x1 : Int32), m_X8_notes_L11 a0 fu M x1 = some M9 → GW p l e { frames := 0, cells := 0, slots := 0, locals := 0 } s m args below meth c D cy Λ 2 (QcV D cy Λ NN M9) M 11 [(0, .ref (Λ a0)), (1, .int x1)] [] := by
  intro fu
  induction fu with
  | zero =>
    intro M x1  hf
    cases hf
  | succ fu ih =>
    intro M x1  hf
    unfold m_X8_notes_L11 at hf
    refine g_iload_n (pc := 11) C 1 dX8_notes_11 rfl rfl ?_
    refine g_sipush (pc := 12) (v := (171 : Int32)) C dX8_notes_12 (by decide) ?_
    refine g_ic_ge (pc := 15) (tgt := 39) C hf dX8_notes_15 (by decide) (fun hf => ?_) (fun hf => ?_)
    · refine g_aload_n (pc := 39) C 0 dX8_notes_39 rfl rfl ?_
      refine g_bipush (pc := 40) (v := (9 : Int32)) C dX8_notes_40 (by decide) ?_
      refine g_pI (pc := 42) C hf fpX8_127 (by decide) hk0 stX8_13 (Nat.le_of_ble_eq_true rfl) rfl rfl dX8_notes_42 (fun M11 hf => ?_)
      refine g_iconst (pc := 45) (v := (0 : Int32)) C dX8_notes_45 (by decide) ?_
      refine g_istore_n (pc := 46) (lv2 := [(1, .int (0 : Int32)), (0, .ref (Λ a0))]) C dX8_notes_46 rfl (by decide) rfl ?_
      refine g_sub [1, 0] rfl ?_
      exact w_X8_notes_L47 C hk0 FU M11 (0 : Int32)  hf
    refine g_aload_n (pc := 18) C 0 dX8_notes_18 rfl rfl ?_
    refine g_getR (pc := 19) (T := 9) C hf fgX8_25 (by decide) hk0 rfl dX8_notes_19 (fun a12 hk12 hf => ?_)
    refine g_iload_n (pc := 22) C 1 dX8_notes_22 rfl rfl ?_
    refine g_aload_n (pc := 23) C 0 dX8_notes_23 rfl rfl ?_
    refine g_getR (pc := 24) (T := 9) C hf fgX8_25 (by decide) hk0 rfl dX8_notes_24 (fun a13 hk13 hf => ?_)
    refine g_iload_n (pc := 27) C 1 dX8_notes_27 rfl rfl ?_
    refine g_bipush (pc := 28) (v := (19 : Int32)) C dX8_notes_28 (by decide) ?_
    refine g_iadd (pc := 30) C dX8_notes_30 ?_
    refine g_iald (pc := 31) C hf hk13 dX8_notes_31 (fun v14 hf => ?_)
    refine g_iast (pc := 32) C hf hk12 dX8_notes_32 (fun M15 hf => ?_)
    refine g_iinc (pc := 33) (v := (x1 + (1 : Int32))) (lv2 := [(1, .int (x1 + (1 : Int32))), (0, .ref (Λ a0))]) C 1 dX8_notes_33 rfl rfl (by decide) rfl ?_
    refine g_goto (pc := 36) (tgt := 11) C dX8_notes_36 (by decide) ?_
    refine g_sub [1, 0] rfl ?_
    exact ih M15 (x1 + (1 : Int32))  hf

theorem w_X8_notes {p : Program} {l : Launch} {e : Env} {s : State} {m : MethodId} {args : Array Value} {below : List Frame} {meth : Method} {c : Code} {D : va_G} {cy : Nat → ClassId} {Λ : Nat → Nat} (C : Cx p s m args meth c cX8_notes 2 RX8 none D cy Λ (AA Λ s.heap.size)) {M : Mem} {a0 : Nat} {M9 : Mem} (hk0 : Is NN a0 9) (hf : m_X8_notes M a0 = some M9) : GW p l e { frames := 0, cells := 0, slots := 0, locals := 0 } s m args below meth c D cy Λ 2 (QcV D cy Λ NN M9) M 0 [(0, .ref (Λ a0))] [] := by
  unfold m_X8_notes at hf
  refine g_aload_n (pc := 0) C 0 dX8_notes_0 rfl rfl ?_
  refine g_getI (pc := 1) C fgX8_127 (by decide) hk0 rfl dX8_notes_1 ?_
  refine g_bipush (pc := 4) (v := (10 : Int32)) C dX8_notes_4 (by decide) ?_
  refine g_ic_ne (pc := 6) (tgt := 45) C hf dX8_notes_6 (by decide) (fun hf => ?_) (fun hf => ?_)
  · refine g_iconst (pc := 9) (v := (0 : Int32)) C dX8_notes_9 (by decide) ?_
    refine g_istore_n (pc := 10) (lv2 := [(1, .int (0 : Int32)), (0, .ref (Λ a0))]) C dX8_notes_10 rfl (by decide) rfl ?_
    refine g_sub [1, 0] rfl ?_
    exact w_X8_notes_L11 C hk0 FU M (0 : Int32)  hf
  refine g_iconst (pc := 45) (v := (0 : Int32)) C dX8_notes_45 (by decide) ?_
  refine g_istore_n (pc := 46) (lv2 := [(1, .int (0 : Int32)), (0, .ref (Λ a0))]) C dX8_notes_46 rfl (by decide) rfl ?_
  refine g_sub [1, 0] rfl ?_
  exact w_X8_notes_L47 C hk0 FU M (0 : Int32)  hf

theorem c_X8_notes {l : Launch} {D : va_G} {cy : Nat → ClassId} {Λ : Nat → Nat} (hi : ∀ i j : Nat, Λ i = Λ j → i = j) {M : Mem} {a0 : Nat} {M9 : Mem} (hk0 : Is NN a0 9) (hf : m_X8_notes M a0 = some M9) : Ct l yX8_notes cX8_notes 2 none { frames := 0, cells := 0, slots := 0, locals := 0 } D cy Λ [.ref (Λ a0)] NN M 0 0 (QcV D cy Λ NN M9) := ent (by decide) hi (Nat.le_of_ble_eq_true rfl) (fun p e s m args below meth c C => w_X8_notes C hk0 hf)
theorem w_X8_toggles {p : Program} {l : Launch} {e : Env} {s : State} {m : MethodId} {args : Array Value} {below : List Frame} {meth : Method} {c : Code} {D : va_G} {cy : Nat → ClassId} {Λ : Nat → Nat} (C : Cx p s m args meth c cX8_toggles 3 RX8 (some .int) D cy Λ (AA Λ s.heap.size)) {M : Mem} {a0 : Nat} {x1 : Int32} {x2 : Int32} {r9 : Int32} {M9 : Mem} (hk0 : Is NN a0 9) (hf : m_X8_toggles M a0 x1 x2 = some (r9, M9)) : GW p l e { frames := 2, cells := 0, slots := 0, locals := 43 } s m args below meth c D cy Λ 3 (QcI D cy Λ NN r9 M9) M 0 [(0, .ref (Λ a0)), (1, .int x1), (2, .int x2)] [] := by
  unfold m_X8_toggles at hf
  refine g_aload_n (pc := 0) C 0 dX8_toggles_0 rfl rfl ?_
  refine g_iconst (pc := 1) (v := (0 : Int32)) C dX8_toggles_1 (by decide) ?_
  refine g_pI (pc := 2) C hf fpX8_56 (by decide) hk0 stX8_0 (Nat.le_of_ble_eq_true rfl) rfl rfl dX8_toggles_2 (fun M11 hf => ?_)
  refine g_aload_n (pc := 5) C 0 dX8_toggles_5 rfl rfl ?_
  refine g_iload_n (pc := 6) C 1 dX8_toggles_6 rfl rfl ?_
  obtain ⟨r12, h12, hf⟩ := ob hf
  refine g_resI (pc := 7) C (rnV (As := [.int x1]) (st := []) C (c_X8_isNode C.2.2.2.2.2.1 hk0 h12) lkX8_162 rfl (by decide) hk0 rfl rfl (Nat.le_of_ble_eq_true rfl) ⟨⟨rfl, rfl⟩, Nat.le_of_ble_eq_true rfl, Nat.le_of_ble_eq_true rfl⟩ ⟨Nat.le_of_ble_eq_true rfl, Nat.le_of_ble_eq_true rfl⟩ dX8_toggles_7) ?_
  refine g_if_eq (pc := 10) (tgt := 20) C hf dX8_toggles_10 (by decide) (fun hf => ?_) (fun hf => ?_)
  · refine g_bipush (pc := 20) (v := (-2 : Int32)) C dX8_toggles_20 (by decide) ?_
    exact g_iretM C hf dX8_toggles_22
  refine g_iload_n (pc := 13) C 2 dX8_toggles_13 rfl rfl ?_
  obtain ⟨r13, h13, hf⟩ := ob hf
  refine g_resI (pc := 14) C (rnS (As := [.int x2]) (st := []) C (c_X8_isFour C.2.2.2.2.2.1  h13) lkX8_177 rfl rfl (Nat.le_of_ble_eq_true rfl) ⟨⟨rfl, rfl⟩, Nat.le_of_ble_eq_true rfl, Nat.le_of_ble_eq_true rfl⟩ ⟨Nat.le_of_ble_eq_true rfl, Nat.le_of_ble_eq_true rfl⟩ dX8_toggles_14) ?_
  refine g_if_ne (pc := 17) (tgt := 23) C hf dX8_toggles_17 (by decide) (fun hf => ?_) (fun hf => ?_)
  · refine g_bipush (pc := 20) (v := (-2 : Int32)) C dX8_toggles_20 (by decide) ?_
    exact g_iretM C hf dX8_toggles_22
  refine g_aload_n (pc := 23) C 0 dX8_toggles_23 rfl rfl ?_
  obtain ⟨M14, h14, hf⟩ := ob hf
  refine g_resV (pc := 24) C (rnV (As := []) (st := []) C (c_X8_notes C.2.2.2.2.2.1 hk0 h14) lkX8_180 rfl (by decide) hk0 rfl rfl (Nat.le_of_ble_eq_true rfl) ⟨⟨rfl, rfl⟩, Nat.le_of_ble_eq_true rfl, Nat.le_of_ble_eq_true rfl⟩ ⟨Nat.le_of_ble_eq_true rfl, Nat.le_of_ble_eq_true rfl⟩ dX8_toggles_24) ?_
  refine g_aload_n (pc := 27) C 0 dX8_toggles_27 rfl rfl ?_
  refine g_getR (pc := 28) (T := 9) C hf fgX8_22 (by decide) hk0 rfl dX8_toggles_28 (fun a15 hk15 hf => ?_)
  refine g_bipush (pc := 31) (v := (9 : Int32)) C dX8_toggles_31 (by decide) ?_
  refine g_iload_n (pc := 33) C 1 dX8_toggles_33 rfl rfl ?_
  refine g_iadd (pc := 34) C dX8_toggles_34 ?_
  refine g_dup2 (pc := 35) C dX8_toggles_35 rfl rfl ?_
  refine g_iald (pc := 36) C hf hk15 dX8_toggles_36 (fun v16 hf => ?_)
  refine g_iconst (pc := 37) (v := (1 : Int32)) C dX8_toggles_37 (by decide) ?_
  refine g_iload_n (pc := 38) C 2 dX8_toggles_38 rfl rfl ?_
  refine g_ishl (pc := 39) C dX8_toggles_39 ?_
  refine g_ixor (pc := 40) C dX8_toggles_40 ?_
  refine g_iast (pc := 41) C hf hk15 dX8_toggles_41 (fun M17 hf => ?_)
  refine g_aload_n (pc := 42) C 0 dX8_toggles_42 rfl rfl ?_
  refine g_getR (pc := 43) (T := 9) C hf fgX8_22 (by decide) hk0 rfl dX8_toggles_43 (fun a18 hk18 hf => ?_)
  refine g_bipush (pc := 46) (v := (9 : Int32)) C dX8_toggles_46 (by decide) ?_
  refine g_iload_n (pc := 48) C 1 dX8_toggles_48 rfl rfl ?_
  refine g_iadd (pc := 49) C dX8_toggles_49 ?_
  refine g_iald (pc := 50) C hf hk18 dX8_toggles_50 (fun v19 hf => ?_)
  exact g_iretM C hf dX8_toggles_51

theorem c_X8_toggles {l : Launch} {D : va_G} {cy : Nat → ClassId} {Λ : Nat → Nat} (hi : ∀ i j : Nat, Λ i = Λ j → i = j) {M : Mem} {a0 : Nat} {x1 : Int32} {x2 : Int32} {r9 : Int32} {M9 : Mem} (hk0 : Is NN a0 9) (hf : m_X8_toggles M a0 x1 x2 = some (r9, M9)) : Ct l yX8_toggles cX8_toggles 3 (some .int) { frames := 2, cells := 0, slots := 0, locals := 43 } D cy Λ [.ref (Λ a0), .int x1, .int x2] NN M 0 0 (QcI D cy Λ NN r9 M9) := ent (by decide) hi (Nat.le_of_ble_eq_true rfl) (fun p e s m args below meth c C => w_X8_toggles C hk0 hf)
theorem w_X8_tags {p : Program} {l : Launch} {e : Env} {s : State} {m : MethodId} {args : Array Value} {below : List Frame} {meth : Method} {c : Code} {D : va_G} {cy : Nat → ClassId} {Λ : Nat → Nat} (C : Cx p s m args meth c cX8_tags 4 RX8 (some .int) D cy Λ (AA Λ s.heap.size)) {M : Mem} {a0 : Nat} {x1 : Int32} {x2 : Int32} {r9 : Int32} {M9 : Mem} (hk0 : Is NN a0 9) (hf : m_X8_tags M a0 x1 x2 = some (r9, M9)) : GW p l e { frames := 2, cells := 0, slots := 0, locals := 43 } s m args below meth c D cy Λ 4 (QcI D cy Λ NN r9 M9) M 0 [(0, .ref (Λ a0)), (1, .int x1), (2, .int x2)] [] := by
  unfold m_X8_tags at hf
  refine g_aload_n (pc := 0) C 0 dX8_tags_0 rfl rfl ?_
  refine g_iconst (pc := 1) (v := (0 : Int32)) C dX8_tags_1 (by decide) ?_
  refine g_pI (pc := 2) C hf fpX8_56 (by decide) hk0 stX8_0 (Nat.le_of_ble_eq_true rfl) rfl rfl dX8_tags_2 (fun M11 hf => ?_)
  refine g_aload_n (pc := 5) C 0 dX8_tags_5 rfl rfl ?_
  refine g_iload_n (pc := 6) C 1 dX8_tags_6 rfl rfl ?_
  obtain ⟨r12, h12, hf⟩ := ob hf
  refine g_resI (pc := 7) C (rnV (As := [.int x1]) (st := []) C (c_X8_isNode C.2.2.2.2.2.1 hk0 h12) lkX8_162 rfl (by decide) hk0 rfl rfl (Nat.le_of_ble_eq_true rfl) ⟨⟨rfl, rfl⟩, Nat.le_of_ble_eq_true rfl, Nat.le_of_ble_eq_true rfl⟩ ⟨Nat.le_of_ble_eq_true rfl, Nat.le_of_ble_eq_true rfl⟩ dX8_tags_7) ?_
  refine g_if_eq (pc := 10) (tgt := 20) C hf dX8_tags_10 (by decide) (fun hf => ?_) (fun hf => ?_)
  · refine g_bipush (pc := 20) (v := (-2 : Int32)) C dX8_tags_20 (by decide) ?_
    exact g_iretM C hf dX8_tags_22
  refine g_iload_n (pc := 13) C 2 dX8_tags_13 rfl rfl ?_
  obtain ⟨r13, h13, hf⟩ := ob hf
  refine g_resI (pc := 14) C (rnS (As := [.int x2]) (st := []) C (c_X8_isFour C.2.2.2.2.2.1  h13) lkX8_177 rfl rfl (Nat.le_of_ble_eq_true rfl) ⟨⟨rfl, rfl⟩, Nat.le_of_ble_eq_true rfl, Nat.le_of_ble_eq_true rfl⟩ ⟨Nat.le_of_ble_eq_true rfl, Nat.le_of_ble_eq_true rfl⟩ dX8_tags_14) ?_
  refine g_if_ne (pc := 17) (tgt := 23) C hf dX8_tags_17 (by decide) (fun hf => ?_) (fun hf => ?_)
  · refine g_bipush (pc := 20) (v := (-2 : Int32)) C dX8_tags_20 (by decide) ?_
    exact g_iretM C hf dX8_tags_22
  refine g_aload_n (pc := 23) C 0 dX8_tags_23 rfl rfl ?_
  refine g_getR (pc := 24) (T := 9) C hf fgX8_22 (by decide) hk0 rfl dX8_tags_24 (fun a14 hk14 hf => ?_)
  refine g_iconst (pc := 27) (v := (0 : Int32)) C dX8_tags_27 (by decide) ?_
  refine g_iload_n (pc := 28) C 1 dX8_tags_28 rfl rfl ?_
  refine g_iadd (pc := 29) C dX8_tags_29 ?_
  refine g_iald (pc := 30) C hf hk14 dX8_tags_30 (fun v15 hf => ?_)
  refine g_istore_n (pc := 31) (lv2 := [(3, .int v15), (0, .ref (Λ a0)), (1, .int x1), (2, .int x2)]) C dX8_tags_31 rfl (by decide) rfl ?_
  refine g_iload_n (pc := 32) C 0 dX8_tags_32 rfl rfl ?_
  refine g_iload_n (pc := 33) C 3 dX8_tags_33 rfl rfl ?_
  refine g_ic_ne (pc := 34) (tgt := 40) C hf dX8_tags_34 (by decide) (fun hf => ?_) (fun hf => ?_)
  · refine g_bipush (pc := 37) (v := (-3 : Int32)) C dX8_tags_37 (by decide) ?_
    exact g_iretM C hf dX8_tags_39
  refine g_aload_n (pc := 40) C 1 dX8_tags_40 rfl rfl ?_
  obtain ⟨M16, h16, hf⟩ := ob hf
  refine g_resV (pc := 41) C (rnV (As := []) (st := []) C (c_X8_notes C.2.2.2.2.2.1 hk0 h16) lkX8_180 rfl (by decide) hk0 rfl rfl (Nat.le_of_ble_eq_true rfl) ⟨⟨rfl, rfl⟩, Nat.le_of_ble_eq_true rfl, Nat.le_of_ble_eq_true rfl⟩ ⟨Nat.le_of_ble_eq_true rfl, Nat.le_of_ble_eq_true rfl⟩ dX8_tags_41) ?_
  refine g_aload_n (pc := 44) C 1 dX8_tags_44 rfl rfl ?_
  refine g_getR (pc := 45) (T := 9) C hf fgX8_22 (by decide) hk0 rfl dX8_tags_45 (fun a17 hk17 hf => ?_)
  refine g_iconst (pc := 48) (v := (0 : Int32)) C dX8_tags_48 (by decide) ?_
  refine g_iload_n (pc := 49) C 2 dX8_tags_49 rfl rfl ?_
  refine g_iadd (pc := 50) C dX8_tags_50 ?_
  refine g_iload_n (pc := 51) C 3 dX8_tags_51 rfl rfl ?_
  refine g_iast (pc := 52) C hf hk17 dX8_tags_52 (fun M18 hf => ?_)
  refine g_iload_n (pc := 53) C 0 dX8_tags_53 rfl rfl ?_
  exact g_iretM C hf dX8_tags_54

theorem c_X8_tags {l : Launch} {D : va_G} {cy : Nat → ClassId} {Λ : Nat → Nat} (hi : ∀ i j : Nat, Λ i = Λ j → i = j) {M : Mem} {a0 : Nat} {x1 : Int32} {x2 : Int32} {r9 : Int32} {M9 : Mem} (hk0 : Is NN a0 9) (hf : m_X8_tags M a0 x1 x2 = some (r9, M9)) : Ct l yX8_tags cX8_tags 4 (some .int) { frames := 2, cells := 0, slots := 0, locals := 43 } D cy Λ [.ref (Λ a0), .int x1, .int x2] NN M 0 0 (QcI D cy Λ NN r9 M9) := ent (by decide) hi (Nat.le_of_ble_eq_true rfl) (fun p e s m args below meth c C => w_X8_tags C hk0 hf)
theorem w_X8_switches {p : Program} {l : Launch} {e : Env} {s : State} {m : MethodId} {args : Array Value} {below : List Frame} {meth : Method} {c : Code} {D : va_G} {cy : Nat → ClassId} {Λ : Nat → Nat} (C : Cx p s m args meth c cX8_switches 2 RX8 (some .int) D cy Λ (AA Λ s.heap.size)) {M : Mem} {a0 : Nat} {x1 : Int32} {r9 : Int32} {M9 : Mem} (hk0 : Is NN a0 9) (hf : m_X8_switches M a0 x1 = some (r9, M9)) : GW p l e { frames := 2, cells := 0, slots := 0, locals := 43 } s m args below meth c D cy Λ 2 (QcI D cy Λ NN r9 M9) M 0 [(0, .ref (Λ a0)), (1, .int x1)] [] := by
  unfold m_X8_switches at hf
  refine g_aload_n (pc := 0) C 0 dX8_switches_0 rfl rfl ?_
  refine g_iconst (pc := 1) (v := (0 : Int32)) C dX8_switches_1 (by decide) ?_
  refine g_pI (pc := 2) C hf fpX8_56 (by decide) hk0 stX8_0 (Nat.le_of_ble_eq_true rfl) rfl rfl dX8_switches_2 (fun M11 hf => ?_)
  refine g_aload_n (pc := 5) C 0 dX8_switches_5 rfl rfl ?_
  refine g_iload_n (pc := 6) C 1 dX8_switches_6 rfl rfl ?_
  obtain ⟨r12, h12, hf⟩ := ob hf
  refine g_resI (pc := 7) C (rnV (As := [.int x1]) (st := []) C (c_X8_isRule C.2.2.2.2.2.1 hk0 h12) lkX8_174 rfl (by decide) hk0 rfl rfl (Nat.le_of_ble_eq_true rfl) ⟨⟨rfl, rfl⟩, Nat.le_of_ble_eq_true rfl, Nat.le_of_ble_eq_true rfl⟩ ⟨Nat.le_of_ble_eq_true rfl, Nat.le_of_ble_eq_true rfl⟩ dX8_switches_7) ?_
  refine g_if_ne (pc := 10) (tgt := 16) C hf dX8_switches_10 (by decide) (fun hf => ?_) (fun hf => ?_)
  · refine g_bipush (pc := 13) (v := (-2 : Int32)) C dX8_switches_13 (by decide) ?_
    exact g_iretM C hf dX8_switches_15
  refine g_aload_n (pc := 16) C 0 dX8_switches_16 rfl rfl ?_
  obtain ⟨M13, h13, hf⟩ := ob hf
  refine g_resV (pc := 17) C (rnV (As := []) (st := []) C (c_X8_notes C.2.2.2.2.2.1 hk0 h13) lkX8_180 rfl (by decide) hk0 rfl rfl (Nat.le_of_ble_eq_true rfl) ⟨⟨rfl, rfl⟩, Nat.le_of_ble_eq_true rfl, Nat.le_of_ble_eq_true rfl⟩ ⟨Nat.le_of_ble_eq_true rfl, Nat.le_of_ble_eq_true rfl⟩ dX8_switches_17) ?_
  refine g_aload_n (pc := 20) C 0 dX8_switches_20 rfl rfl ?_
  refine g_getR (pc := 21) (T := 9) C hf fgX8_22 (by decide) hk0 rfl dX8_switches_21 (fun a14 hk14 hf => ?_)
  refine g_bipush (pc := 24) (v := (18 : Int32)) C dX8_switches_24 (by decide) ?_
  refine g_dup2 (pc := 26) C dX8_switches_26 rfl rfl ?_
  refine g_iald (pc := 27) C hf hk14 dX8_switches_27 (fun v15 hf => ?_)
  refine g_iconst (pc := 28) (v := (1 : Int32)) C dX8_switches_28 (by decide) ?_
  refine g_iload_n (pc := 29) C 1 dX8_switches_29 rfl rfl ?_
  refine g_ishl (pc := 30) C dX8_switches_30 ?_
  refine g_ixor (pc := 31) C dX8_switches_31 ?_
  refine g_iast (pc := 32) C hf hk14 dX8_switches_32 (fun M16 hf => ?_)
  refine g_aload_n (pc := 33) C 0 dX8_switches_33 rfl rfl ?_
  refine g_getR (pc := 34) (T := 9) C hf fgX8_22 (by decide) hk0 rfl dX8_switches_34 (fun a17 hk17 hf => ?_)
  refine g_bipush (pc := 37) (v := (18 : Int32)) C dX8_switches_37 (by decide) ?_
  refine g_iald (pc := 39) C hf hk17 dX8_switches_39 (fun v18 hf => ?_)
  refine g_iload_n (pc := 40) C 1 dX8_switches_40 rfl rfl ?_
  refine g_ishr (pc := 41) C dX8_switches_41 ?_
  refine g_iconst (pc := 42) (v := (1 : Int32)) C dX8_switches_42 (by decide) ?_
  refine g_iand (pc := 43) C dX8_switches_43 ?_
  exact g_iretM C hf dX8_switches_44

theorem c_X8_switches {l : Launch} {D : va_G} {cy : Nat → ClassId} {Λ : Nat → Nat} (hi : ∀ i j : Nat, Λ i = Λ j → i = j) {M : Mem} {a0 : Nat} {x1 : Int32} {r9 : Int32} {M9 : Mem} (hk0 : Is NN a0 9) (hf : m_X8_switches M a0 x1 = some (r9, M9)) : Ct l yX8_switches cX8_switches 2 (some .int) { frames := 2, cells := 0, slots := 0, locals := 43 } D cy Λ [.ref (Λ a0), .int x1] NN M 0 0 (QcI D cy Λ NN r9 M9) := ent (by decide) hi (Nat.le_of_ble_eq_true rfl) (fun p e s m args below meth c C => w_X8_switches C hk0 hf)
theorem w_X8_undo_L27 {p : Program} {l : Launch} {e : Env} {s : State} {m : MethodId} {args : Array Value} {below : List Frame} {meth : Method} {c : Code} {D : va_G} {cy : Nat → ClassId} {Λ : Nat → Nat} (C : Cx p s m args meth c cX8_undo 2 RX8 (some .int) D cy Λ (AA Λ s.heap.size)) {a0 : Nat}  {r9 : Int32} {M9 : Mem} (hk0 : Is NN a0 9)  : ∀ (fu : Nat) (M : Mem) (x1 : Int32), m_X8_undo_L27 a0 fu M x1 = some (r9, M9) → GW p l e { frames := 0, cells := 0, slots := 0, locals := 0 } s m args below meth c D cy Λ 2 (QcI D cy Λ NN r9 M9) M 27 [(0, .ref (Λ a0)), (1, .int x1)] [] := by
  intro fu
  induction fu with
  | zero =>
    intro M x1  hf
    cases hf
  | succ fu ih =>
    intro M x1  hf
    unfold m_X8_undo_L27 at hf
    refine g_iload_n (pc := 27) C 1 dX8_undo_27 rfl rfl ?_
    refine g_bipush (pc := 28) (v := (19 : Int32)) C dX8_undo_28 (by decide) ?_
    refine g_ic_ge (pc := 30) (tgt := 59) C hf dX8_undo_30 (by decide) (fun hf => ?_) (fun hf => ?_)
    · refine g_aload_n (pc := 59) C 0 dX8_undo_59 rfl rfl ?_
      refine g_getI (pc := 60) C fgX8_127 (by decide) hk0 rfl dX8_undo_60 ?_
      exact g_iretM C hf dX8_undo_63
    refine g_aload_n (pc := 33) C 0 dX8_undo_33 rfl rfl ?_
    refine g_getR (pc := 34) (T := 9) C hf fgX8_22 (by decide) hk0 rfl dX8_undo_34 (fun a11 hk11 hf => ?_)
    refine g_iload_n (pc := 37) C 1 dX8_undo_37 rfl rfl ?_
    refine g_aload_n (pc := 38) C 0 dX8_undo_38 rfl rfl ?_
    refine g_getR (pc := 39) (T := 9) C hf fgX8_25 (by decide) hk0 rfl dX8_undo_39 (fun a12 hk12 hf => ?_)
    refine g_bipush (pc := 42) (v := (19 : Int32)) C dX8_undo_42 (by decide) ?_
    refine g_aload_n (pc := 44) C 0 dX8_undo_44 rfl rfl ?_
    refine g_getI (pc := 45) C fgX8_127 (by decide) hk0 rfl dX8_undo_45 ?_
    refine g_imul (pc := 48) C dX8_undo_48 ?_
    refine g_iload_n (pc := 49) C 1 dX8_undo_49 rfl rfl ?_
    refine g_iadd (pc := 50) C dX8_undo_50 ?_
    refine g_iald (pc := 51) C hf hk12 dX8_undo_51 (fun v13 hf => ?_)
    refine g_iast (pc := 52) C hf hk11 dX8_undo_52 (fun M14 hf => ?_)
    refine g_iinc (pc := 53) (v := (x1 + (1 : Int32))) (lv2 := [(1, .int (x1 + (1 : Int32))), (0, .ref (Λ a0))]) C 1 dX8_undo_53 rfl rfl (by decide) rfl ?_
    refine g_goto (pc := 56) (tgt := 27) C dX8_undo_56 (by decide) ?_
    refine g_sub [1, 0] rfl ?_
    exact ih M14 (x1 + (1 : Int32))  hf

theorem w_X8_undo {p : Program} {l : Launch} {e : Env} {s : State} {m : MethodId} {args : Array Value} {below : List Frame} {meth : Method} {c : Code} {D : va_G} {cy : Nat → ClassId} {Λ : Nat → Nat} (C : Cx p s m args meth c cX8_undo 2 RX8 (some .int) D cy Λ (AA Λ s.heap.size)) {M : Mem} {a0 : Nat} {r9 : Int32} {M9 : Mem} (hk0 : Is NN a0 9) (hf : m_X8_undo M a0 = some (r9, M9)) : GW p l e { frames := 0, cells := 0, slots := 0, locals := 0 } s m args below meth c D cy Λ 2 (QcI D cy Λ NN r9 M9) M 0 [(0, .ref (Λ a0))] [] := by
  unfold m_X8_undo at hf
  refine g_aload_n (pc := 0) C 0 dX8_undo_0 rfl rfl ?_
  refine g_iconst (pc := 1) (v := (0 : Int32)) C dX8_undo_1 (by decide) ?_
  refine g_pI (pc := 2) C hf fpX8_56 (by decide) hk0 stX8_0 (Nat.le_of_ble_eq_true rfl) rfl rfl dX8_undo_2 (fun M11 hf => ?_)
  refine g_aload_n (pc := 5) C 0 dX8_undo_5 rfl rfl ?_
  refine g_getI (pc := 6) C fgX8_127 (by decide) hk0 rfl dX8_undo_6 ?_
  refine g_if_ne (pc := 9) (tgt := 15) C hf dX8_undo_9 (by decide) (fun hf => ?_) (fun hf => ?_)
  · refine g_bipush (pc := 12) (v := (-3 : Int32)) C dX8_undo_12 (by decide) ?_
    exact g_iretM C hf dX8_undo_14
  refine g_aload_n (pc := 15) C 0 dX8_undo_15 rfl rfl ?_
  refine g_dup (pc := 16) C dX8_undo_16 rfl ?_
  refine g_getI (pc := 17) C fgX8_127 (by decide) hk0 rfl dX8_undo_17 ?_
  refine g_iconst (pc := 20) (v := (1 : Int32)) C dX8_undo_20 (by decide) ?_
  refine g_isub (pc := 21) C dX8_undo_21 ?_
  refine g_pI (pc := 22) C hf fpX8_127 (by decide) hk0 stX8_13 (Nat.le_of_ble_eq_true rfl) rfl rfl dX8_undo_22 (fun M12 hf => ?_)
  refine g_iconst (pc := 25) (v := (0 : Int32)) C dX8_undo_25 (by decide) ?_
  refine g_istore_n (pc := 26) (lv2 := [(1, .int (0 : Int32)), (0, .ref (Λ a0))]) C dX8_undo_26 rfl (by decide) rfl ?_
  refine g_sub [1, 0] rfl ?_
  exact w_X8_undo_L27 C hk0 FU M12 (0 : Int32)  hf

theorem c_X8_undo {l : Launch} {D : va_G} {cy : Nat → ClassId} {Λ : Nat → Nat} (hi : ∀ i j : Nat, Λ i = Λ j → i = j) {M : Mem} {a0 : Nat} {r9 : Int32} {M9 : Mem} (hk0 : Is NN a0 9) (hf : m_X8_undo M a0 = some (r9, M9)) : Ct l yX8_undo cX8_undo 2 (some .int) { frames := 0, cells := 0, slots := 0, locals := 0 } D cy Λ [.ref (Λ a0)] NN M 0 0 (QcI D cy Λ NN r9 M9) := ent (by decide) hi (Nat.le_of_ble_eq_true rfl) (fun p e s m args below meth c C => w_X8_undo C hk0 hf)
theorem w_X8_value {p : Program} {l : Launch} {e : Env} {s : State} {m : MethodId} {args : Array Value} {below : List Frame} {meth : Method} {c : Code} {D : va_G} {cy : Nat → ClassId} {Λ : Nat → Nat} (C : Cx p s m args meth c cX8_value 3 RX8 (some .int) D cy Λ (AA Λ s.heap.size)) {M : Mem} {a0 : Nat} {x1 : Int32} {x2 : Int32} {r9 : Int32} {M9 : Mem} (hk0 : Is NN a0 9) (hf : m_X8_value M a0 x1 x2 = some (r9, M9)) : GW p l e { frames := 6, cells := 0, slots := 0, locals := 143 } s m args below meth c D cy Λ 3 (QcI D cy Λ NN r9 M9) M 0 [(0, .ref (Λ a0)), (1, .int x1), (2, .int x2)] [] := by
  unfold m_X8_value at hf
  refine g_aload_n (pc := 0) C 0 dX8_value_0 rfl rfl ?_
  refine g_iconst (pc := 1) (v := (0 : Int32)) C dX8_value_1 (by decide) ?_
  refine g_pI (pc := 2) C hf fpX8_56 (by decide) hk0 stX8_0 (Nat.le_of_ble_eq_true rfl) rfl rfl dX8_value_2 (fun M11 hf => ?_)
  refine g_aload_n (pc := 5) C 0 dX8_value_5 rfl rfl ?_
  obtain ⟨M12, h12, hf⟩ := ob hf
  refine g_resV (pc := 6) C (rnV (As := []) (st := []) C (c_X8_fills C.2.2.2.2.2.1 hk0 h12) lkX8_165 rfl (by decide) hk0 rfl rfl (Nat.le_of_ble_eq_true rfl) ⟨⟨rfl, rfl⟩, Nat.le_of_ble_eq_true rfl, Nat.le_of_ble_eq_true rfl⟩ ⟨Nat.le_of_ble_eq_true rfl, Nat.le_of_ble_eq_true rfl⟩ dX8_value_6) ?_
  refine g_aload_n (pc := 9) C 0 dX8_value_9 rfl rfl ?_
  refine g_iload_n (pc := 10) C 1 dX8_value_10 rfl rfl ?_
  obtain ⟨r13, h13, hf⟩ := ob hf
  refine g_resI (pc := 11) C (rnV (As := [.int x1]) (st := []) C (c_X8_isNode C.2.2.2.2.2.1 hk0 h13) lkX8_162 rfl (by decide) hk0 rfl rfl (Nat.le_of_ble_eq_true rfl) ⟨⟨rfl, rfl⟩, Nat.le_of_ble_eq_true rfl, Nat.le_of_ble_eq_true rfl⟩ ⟨Nat.le_of_ble_eq_true rfl, Nat.le_of_ble_eq_true rfl⟩ dX8_value_11) ?_
  refine g_if_eq (pc := 14) (tgt := 33) C hf dX8_value_14 (by decide) (fun hf => ?_) (fun hf => ?_)
  · refine g_bipush (pc := 33) (v := (-2 : Int32)) C dX8_value_33 (by decide) ?_
    exact g_iretM C hf dX8_value_35
  refine g_iload_n (pc := 17) C 2 dX8_value_17 rfl rfl ?_
  obtain ⟨r14, h14, hf⟩ := ob hf
  refine g_resI (pc := 18) C (rnS (As := [.int x2]) (st := []) C (c_X8_isFour C.2.2.2.2.2.1  h14) lkX8_177 rfl rfl (Nat.le_of_ble_eq_true rfl) ⟨⟨rfl, rfl⟩, Nat.le_of_ble_eq_true rfl, Nat.le_of_ble_eq_true rfl⟩ ⟨Nat.le_of_ble_eq_true rfl, Nat.le_of_ble_eq_true rfl⟩ dX8_value_18) ?_
  refine g_if_eq (pc := 21) (tgt := 33) C hf dX8_value_21 (by decide) (fun hf => ?_) (fun hf => ?_)
  · refine g_bipush (pc := 33) (v := (-2 : Int32)) C dX8_value_33 (by decide) ?_
    exact g_iretM C hf dX8_value_35
  refine g_aload_n (pc := 24) C 0 dX8_value_24 rfl rfl ?_
  refine g_iload_n (pc := 25) C 1 dX8_value_25 rfl rfl ?_
  refine g_iload_n (pc := 26) C 2 dX8_value_26 rfl rfl ?_
  obtain ⟨r15, h15, hf⟩ := ob hf
  refine g_resI (pc := 27) C (rnV (As := [.int x1, .int x2]) (st := []) C (c_X8_valueOf C.2.2.2.2.2.1 hk0 h15) lkX8_156 rfl (by decide) hk0 rfl rfl (Nat.le_of_ble_eq_true rfl) ⟨⟨rfl, rfl⟩, Nat.le_of_ble_eq_true rfl, Nat.le_of_ble_eq_true rfl⟩ ⟨Nat.le_of_ble_eq_true rfl, Nat.le_of_ble_eq_true rfl⟩ dX8_value_27) ?_
  refine g_goto (pc := 30) (tgt := 35) C dX8_value_30 (by decide) ?_
  exact g_iretM C hf dX8_value_35

theorem c_X8_value {l : Launch} {D : va_G} {cy : Nat → ClassId} {Λ : Nat → Nat} (hi : ∀ i j : Nat, Λ i = Λ j → i = j) {M : Mem} {a0 : Nat} {x1 : Int32} {x2 : Int32} {r9 : Int32} {M9 : Mem} (hk0 : Is NN a0 9) (hf : m_X8_value M a0 x1 x2 = some (r9, M9)) : Ct l yX8_value cX8_value 3 (some .int) { frames := 6, cells := 0, slots := 0, locals := 143 } D cy Λ [.ref (Λ a0), .int x1, .int x2] NN M 0 0 (QcI D cy Λ NN r9 M9) := ent (by decide) hi (Nat.le_of_ble_eq_true rfl) (fun p e s m args below meth c C => w_X8_value C hk0 hf)
theorem w_X8_winner {p : Program} {l : Launch} {e : Env} {s : State} {m : MethodId} {args : Array Value} {below : List Frame} {meth : Method} {c : Code} {D : va_G} {cy : Nat → ClassId} {Λ : Nat → Nat} (C : Cx p s m args meth c cX8_winner 4 RX8 (some .int) D cy Λ (AA Λ s.heap.size)) {M : Mem} {a0 : Nat} {x1 : Int32} {x2 : Int32} {x3 : Int32} {r9 : Int32} {M9 : Mem} (hk0 : Is NN a0 9) (hf : m_X8_winner M a0 x1 x2 x3 = some (r9, M9)) : GW p l e { frames := 4, cells := 0, slots := 0, locals := 97 } s m args below meth c D cy Λ 4 (QcI D cy Λ NN r9 M9) M 0 [(0, .ref (Λ a0)), (1, .int x1), (2, .int x2), (3, .int x3)] [] := by
  unfold m_X8_winner at hf
  refine g_aload_n (pc := 0) C 0 dX8_winner_0 rfl rfl ?_
  refine g_iconst (pc := 1) (v := (0 : Int32)) C dX8_winner_1 (by decide) ?_
  refine g_pI (pc := 2) C hf fpX8_56 (by decide) hk0 stX8_0 (Nat.le_of_ble_eq_true rfl) rfl rfl dX8_winner_2 (fun M11 hf => ?_)
  refine g_aload_n (pc := 5) C 0 dX8_winner_5 rfl rfl ?_
  obtain ⟨M12, h12, hf⟩ := ob hf
  refine g_resV (pc := 6) C (rnV (As := []) (st := []) C (c_X8_fills C.2.2.2.2.2.1 hk0 h12) lkX8_165 rfl (by decide) hk0 rfl rfl (Nat.le_of_ble_eq_true rfl) ⟨⟨rfl, rfl⟩, Nat.le_of_ble_eq_true rfl, Nat.le_of_ble_eq_true rfl⟩ ⟨Nat.le_of_ble_eq_true rfl, Nat.le_of_ble_eq_true rfl⟩ dX8_winner_6) ?_
  refine g_aload_n (pc := 9) C 0 dX8_winner_9 rfl rfl ?_
  refine g_iload_n (pc := 10) C 1 dX8_winner_10 rfl rfl ?_
  obtain ⟨r13, h13, hf⟩ := ob hf
  refine g_resI (pc := 11) C (rnV (As := [.int x1]) (st := []) C (c_X8_isNode C.2.2.2.2.2.1 hk0 h13) lkX8_162 rfl (by decide) hk0 rfl rfl (Nat.le_of_ble_eq_true rfl) ⟨⟨rfl, rfl⟩, Nat.le_of_ble_eq_true rfl, Nat.le_of_ble_eq_true rfl⟩ ⟨Nat.le_of_ble_eq_true rfl, Nat.le_of_ble_eq_true rfl⟩ dX8_winner_11) ?_
  refine g_if_eq (pc := 14) (tgt := 38) C hf dX8_winner_14 (by decide) (fun hf => ?_) (fun hf => ?_)
  · refine g_bipush (pc := 38) (v := (-2 : Int32)) C dX8_winner_38 (by decide) ?_
    exact g_iretM C hf dX8_winner_40
  refine g_iload_n (pc := 17) C 2 dX8_winner_17 rfl rfl ?_
  obtain ⟨r14, h14, hf⟩ := ob hf
  refine g_resI (pc := 18) C (rnS (As := [.int x2]) (st := []) C (c_X8_isFour C.2.2.2.2.2.1  h14) lkX8_177 rfl rfl (Nat.le_of_ble_eq_true rfl) ⟨⟨rfl, rfl⟩, Nat.le_of_ble_eq_true rfl, Nat.le_of_ble_eq_true rfl⟩ ⟨Nat.le_of_ble_eq_true rfl, Nat.le_of_ble_eq_true rfl⟩ dX8_winner_18) ?_
  refine g_if_eq (pc := 21) (tgt := 38) C hf dX8_winner_21 (by decide) (fun hf => ?_) (fun hf => ?_)
  · refine g_bipush (pc := 38) (v := (-2 : Int32)) C dX8_winner_38 (by decide) ?_
    exact g_iretM C hf dX8_winner_40
  refine g_iload_n (pc := 24) C 3 dX8_winner_24 rfl rfl ?_
  refine g_if_lt (pc := 25) (tgt := 38) C hf dX8_winner_25 (by decide) (fun hf => ?_) (fun hf => ?_)
  · refine g_bipush (pc := 38) (v := (-2 : Int32)) C dX8_winner_38 (by decide) ?_
    exact g_iretM C hf dX8_winner_40
  refine g_aload_n (pc := 28) C 0 dX8_winner_28 rfl rfl ?_
  refine g_iload_n (pc := 29) C 1 dX8_winner_29 rfl rfl ?_
  refine g_iload_n (pc := 30) C 2 dX8_winner_30 rfl rfl ?_
  refine g_iload_n (pc := 31) C 3 dX8_winner_31 rfl rfl ?_
  obtain ⟨r15, h15, hf⟩ := ob hf
  refine g_resI (pc := 32) C (rnV (As := [.int x1, .int x2, .int x3]) (st := []) C (c_X8_winnerOf C.2.2.2.2.2.1 hk0 h15) lkX8_149 rfl (by decide) hk0 rfl rfl (Nat.le_of_ble_eq_true rfl) ⟨⟨rfl, rfl⟩, Nat.le_of_ble_eq_true rfl, Nat.le_of_ble_eq_true rfl⟩ ⟨Nat.le_of_ble_eq_true rfl, Nat.le_of_ble_eq_true rfl⟩ dX8_winner_32) ?_
  refine g_goto (pc := 35) (tgt := 40) C dX8_winner_35 (by decide) ?_
  exact g_iretM C hf dX8_winner_40

theorem c_X8_winner {l : Launch} {D : va_G} {cy : Nat → ClassId} {Λ : Nat → Nat} (hi : ∀ i j : Nat, Λ i = Λ j → i = j) {M : Mem} {a0 : Nat} {x1 : Int32} {x2 : Int32} {x3 : Int32} {r9 : Int32} {M9 : Mem} (hk0 : Is NN a0 9) (hf : m_X8_winner M a0 x1 x2 x3 = some (r9, M9)) : Ct l yX8_winner cX8_winner 4 (some .int) { frames := 4, cells := 0, slots := 0, locals := 97 } D cy Λ [.ref (Λ a0), .int x1, .int x2, .int x3] NN M 0 0 (QcI D cy Λ NN r9 M9) := ent (by decide) hi (Nat.le_of_ble_eq_true rfl) (fun p e s m args below meth c C => w_X8_winner C hk0 hf)
theorem w_X8_source {p : Program} {l : Launch} {e : Env} {s : State} {m : MethodId} {args : Array Value} {below : List Frame} {meth : Method} {c : Code} {D : va_G} {cy : Nat → ClassId} {Λ : Nat → Nat} (C : Cx p s m args meth c cX8_source 3 RX8 (some .int) D cy Λ (AA Λ s.heap.size)) {M : Mem} {a0 : Nat} {x1 : Int32} {x2 : Int32} {r9 : Int32} {M9 : Mem} (hk0 : Is NN a0 9) (hf : m_X8_source M a0 x1 x2 = some (r9, M9)) : GW p l e { frames := 5, cells := 0, slots := 0, locals := 120 } s m args below meth c D cy Λ 3 (QcI D cy Λ NN r9 M9) M 0 [(0, .ref (Λ a0)), (1, .int x1), (2, .int x2)] [] := by
  unfold m_X8_source at hf
  refine g_aload_n (pc := 0) C 0 dX8_source_0 rfl rfl ?_
  refine g_iconst (pc := 1) (v := (0 : Int32)) C dX8_source_1 (by decide) ?_
  refine g_pI (pc := 2) C hf fpX8_56 (by decide) hk0 stX8_0 (Nat.le_of_ble_eq_true rfl) rfl rfl dX8_source_2 (fun M11 hf => ?_)
  refine g_aload_n (pc := 5) C 0 dX8_source_5 rfl rfl ?_
  obtain ⟨M12, h12, hf⟩ := ob hf
  refine g_resV (pc := 6) C (rnV (As := []) (st := []) C (c_X8_fills C.2.2.2.2.2.1 hk0 h12) lkX8_165 rfl (by decide) hk0 rfl rfl (Nat.le_of_ble_eq_true rfl) ⟨⟨rfl, rfl⟩, Nat.le_of_ble_eq_true rfl, Nat.le_of_ble_eq_true rfl⟩ ⟨Nat.le_of_ble_eq_true rfl, Nat.le_of_ble_eq_true rfl⟩ dX8_source_6) ?_
  refine g_aload_n (pc := 9) C 0 dX8_source_9 rfl rfl ?_
  refine g_iload_n (pc := 10) C 1 dX8_source_10 rfl rfl ?_
  obtain ⟨r13, h13, hf⟩ := ob hf
  refine g_resI (pc := 11) C (rnV (As := [.int x1]) (st := []) C (c_X8_isNode C.2.2.2.2.2.1 hk0 h13) lkX8_162 rfl (by decide) hk0 rfl rfl (Nat.le_of_ble_eq_true rfl) ⟨⟨rfl, rfl⟩, Nat.le_of_ble_eq_true rfl, Nat.le_of_ble_eq_true rfl⟩ ⟨Nat.le_of_ble_eq_true rfl, Nat.le_of_ble_eq_true rfl⟩ dX8_source_11) ?_
  refine g_if_eq (pc := 14) (tgt := 33) C hf dX8_source_14 (by decide) (fun hf => ?_) (fun hf => ?_)
  · refine g_bipush (pc := 33) (v := (-2 : Int32)) C dX8_source_33 (by decide) ?_
    exact g_iretM C hf dX8_source_35
  refine g_iload_n (pc := 17) C 2 dX8_source_17 rfl rfl ?_
  obtain ⟨r14, h14, hf⟩ := ob hf
  refine g_resI (pc := 18) C (rnS (As := [.int x2]) (st := []) C (c_X8_isFour C.2.2.2.2.2.1  h14) lkX8_177 rfl rfl (Nat.le_of_ble_eq_true rfl) ⟨⟨rfl, rfl⟩, Nat.le_of_ble_eq_true rfl, Nat.le_of_ble_eq_true rfl⟩ ⟨Nat.le_of_ble_eq_true rfl, Nat.le_of_ble_eq_true rfl⟩ dX8_source_18) ?_
  refine g_if_eq (pc := 21) (tgt := 33) C hf dX8_source_21 (by decide) (fun hf => ?_) (fun hf => ?_)
  · refine g_bipush (pc := 33) (v := (-2 : Int32)) C dX8_source_33 (by decide) ?_
    exact g_iretM C hf dX8_source_35
  refine g_aload_n (pc := 24) C 0 dX8_source_24 rfl rfl ?_
  refine g_iload_n (pc := 25) C 1 dX8_source_25 rfl rfl ?_
  refine g_iload_n (pc := 26) C 2 dX8_source_26 rfl rfl ?_
  obtain ⟨r15, h15, hf⟩ := ob hf
  refine g_resI (pc := 27) C (rnV (As := [.int x1, .int x2]) (st := []) C (c_X8_sourceOf C.2.2.2.2.2.1 hk0 h15) lkX8_153 rfl (by decide) hk0 rfl rfl (Nat.le_of_ble_eq_true rfl) ⟨⟨rfl, rfl⟩, Nat.le_of_ble_eq_true rfl, Nat.le_of_ble_eq_true rfl⟩ ⟨Nat.le_of_ble_eq_true rfl, Nat.le_of_ble_eq_true rfl⟩ dX8_source_27) ?_
  refine g_goto (pc := 30) (tgt := 35) C dX8_source_30 (by decide) ?_
  exact g_iretM C hf dX8_source_35

theorem c_X8_source {l : Launch} {D : va_G} {cy : Nat → ClassId} {Λ : Nat → Nat} (hi : ∀ i j : Nat, Λ i = Λ j → i = j) {M : Mem} {a0 : Nat} {x1 : Int32} {x2 : Int32} {r9 : Int32} {M9 : Mem} (hk0 : Is NN a0 9) (hf : m_X8_source M a0 x1 x2 = some (r9, M9)) : Ct l yX8_source cX8_source 3 (some .int) { frames := 5, cells := 0, slots := 0, locals := 120 } D cy Λ [.ref (Λ a0), .int x1, .int x2] NN M 0 0 (QcI D cy Λ NN r9 M9) := ent (by decide) hi (Nat.le_of_ble_eq_true rfl) (fun p e s m args below meth c C => w_X8_source C hk0 hf)
theorem w_X8_lookedAt_L104 {p : Program} {l : Launch} {e : Env} {s : State} {m : MethodId} {args : Array Value} {below : List Frame} {meth : Method} {c : Code} {D : va_G} {cy : Nat → ClassId} {Λ : Nat → Nat} (C : Cx p s m args meth c cX8_lookedAt 9 RX8 (some .int) D cy Λ (AA Λ s.heap.size)) {M : Mem} {a0 : Nat} {x1 : Int32} {x2 : Int32} {k12 : Int32 → Int32 → Int32 → Option Int32} {k40 : Int32 → Int32 → Int32 → Int32 → Int32 → Option Int32} {r9 : Int32} (hk0 : Is NN a0 9) (hK12 : ∀ (x3 : Int32) (x4 : Int32) (x5 : Int32), k12 x3 x4 x5 = some r9 → GW p l e { frames := 1, cells := 0, slots := 0, locals := 24 } s m args below meth c D cy Λ 9 (QcI D cy Λ NN r9 M) M 12 [(0, .ref (Λ a0)), (1, .int x1), (2, .int x2), (3, .int x3), (4, .int x4), (5, .int x5)] []) (hK40 : ∀ (x3 : Int32) (x4 : Int32) (x5 : Int32) (x6 : Int32) (x7 : Int32), k40 x3 x4 x5 x6 x7 = some r9 → GW p l e { frames := 1, cells := 0, slots := 0, locals := 24 } s m args below meth c D cy Λ 9 (QcI D cy Λ NN r9 M) M 40 [(0, .ref (Λ a0)), (1, .int x1), (2, .int x2), (3, .int x3), (4, .int x4), (5, .int x5), (6, .int x6), (7, .int x7)] []) : ∀ (fu : Nat) (x3 : Int32) (x4 : Int32) (x5 : Int32) (x6 : Int32) (x7 : Int32) (x8 : Int32), m_X8_lookedAt_L104 M a0 x1 x2 k12 k40 fu x3 x4 x5 x6 x7 x8 = some r9 → GW p l e { frames := 1, cells := 0, slots := 0, locals := 24 } s m args below meth c D cy Λ 9 (QcI D cy Λ NN r9 M) M 104 [(0, .ref (Λ a0)), (1, .int x1), (2, .int x2), (3, .int x3), (4, .int x4), (5, .int x5), (6, .int x6), (7, .int x7), (8, .int x8)] [] := by
  intro fu
  induction fu with
  | zero =>
    intro x3 x4 x5 x6 x7 x8  hf
    cases hf
  | succ fu ih =>
    intro x3 x4 x5 x6 x7 x8  hf
    unfold m_X8_lookedAt_L104 at hf
    refine g_iload (pc := 104) C 8 dX8_lookedAt_104 rfl ?_
    refine g_aload_n (pc := 106) C 0 dX8_lookedAt_106 rfl rfl ?_
    refine g_getR (pc := 107) (T := 9) C hf fgX8_13 (by decide) hk0 rfl dX8_lookedAt_107 (fun a11 hk11 hf => ?_)
    refine g_iconst (pc := 110) (v := (0 : Int32)) C dX8_lookedAt_110 (by decide) ?_
    refine g_iald (pc := 111) C hf hk11 dX8_lookedAt_111 (fun v12 hf => ?_)
    refine g_ic_ge (pc := 112) (tgt := 165) C hf dX8_lookedAt_112 (by decide) (fun hf => ?_) (fun hf => ?_)
    · refine g_iinc (pc := 165) (v := (x7 + (1 : Int32))) (lv2 := [(7, .int (x7 + (1 : Int32))), (0, .ref (Λ a0)), (1, .int x1), (2, .int x2), (3, .int x3), (4, .int x4), (5, .int x5), (6, .int x6), (8, .int x8)]) C 7 dX8_lookedAt_165 rfl rfl (by decide) rfl ?_
      refine g_goto (pc := 168) (tgt := 40) C dX8_lookedAt_168 (by decide) ?_
      refine g_sub [1, 2, 3, 4, 5, 6, 7, 0] rfl ?_
      exact hK40 x3 x4 x5 x6 (x7 + (1 : Int32))  hf
    refine g_iload_n (pc := 115) C 3 dX8_lookedAt_115 rfl rfl ?_
    refine g_iload (pc := 116) C 7 dX8_lookedAt_116 rfl ?_
    refine g_iload (pc := 118) C 6 dX8_lookedAt_118 rfl ?_
    refine g_ic_ge (pc := 120) (tgt := 156) C hf dX8_lookedAt_120 (by decide) (fun hf => ?_) (fun hf => ?_)
    · refine g_iconst (pc := 156) (v := (0 : Int32)) C dX8_lookedAt_156 (by decide) ?_
      refine g_ior (pc := 157) C dX8_lookedAt_157 ?_
      refine g_istore_n (pc := 158) (lv2 := [(3, .int (x3 ||| (0 : Int32))), (0, .ref (Λ a0)), (1, .int x1), (2, .int x2), (4, .int x4), (5, .int x5), (6, .int x6), (7, .int x7), (8, .int x8)]) C dX8_lookedAt_158 rfl (by decide) rfl ?_
      refine g_iinc (pc := 159) (v := (x8 + (1 : Int32))) (lv2 := [(8, .int (x8 + (1 : Int32))), (3, .int (x3 ||| (0 : Int32))), (0, .ref (Λ a0)), (1, .int x1), (2, .int x2), (4, .int x4), (5, .int x5), (6, .int x6), (7, .int x7)]) C 8 dX8_lookedAt_159 rfl rfl (by decide) rfl ?_
      refine g_goto (pc := 162) (tgt := 104) C dX8_lookedAt_162 (by decide) ?_
      refine g_sub [2, 3, 4, 1, 5, 6, 7, 8, 0] rfl ?_
      exact ih (x3 ||| (0 : Int32)) x4 x5 x6 x7 (x8 + (1 : Int32))  hf
    refine g_iload (pc := 123) C 4 dX8_lookedAt_123 rfl ?_
    refine g_iload (pc := 125) C 8 dX8_lookedAt_125 rfl ?_
    obtain ⟨r13, h13, hf⟩ := ob hf
    refine g_resI (pc := 127) C (rnS (As := [.int x4, .int x8]) (st := [.int x3]) C (c_X8_has C.2.2.2.2.2.1  h13) lkX8_105 rfl rfl (Nat.le_of_ble_eq_true rfl) ⟨⟨rfl, rfl⟩, Nat.le_of_ble_eq_true rfl, Nat.le_of_ble_eq_true rfl⟩ ⟨Nat.le_of_ble_eq_true rfl, Nat.le_of_ble_eq_true rfl⟩ dX8_lookedAt_127) ?_
    refine g_if_eq (pc := 130) (tgt := 156) C hf dX8_lookedAt_130 (by decide) (fun hf => ?_) (fun hf => ?_)
    · refine g_iconst (pc := 156) (v := (0 : Int32)) C dX8_lookedAt_156 (by decide) ?_
      refine g_ior (pc := 157) C dX8_lookedAt_157 ?_
      refine g_istore_n (pc := 158) (lv2 := [(3, .int (x3 ||| (0 : Int32))), (0, .ref (Λ a0)), (1, .int x1), (2, .int x2), (4, .int x4), (5, .int x5), (6, .int x6), (7, .int x7), (8, .int x8)]) C dX8_lookedAt_158 rfl (by decide) rfl ?_
      refine g_iinc (pc := 159) (v := (x8 + (1 : Int32))) (lv2 := [(8, .int (x8 + (1 : Int32))), (3, .int (x3 ||| (0 : Int32))), (0, .ref (Λ a0)), (1, .int x1), (2, .int x2), (4, .int x4), (5, .int x5), (6, .int x6), (7, .int x7)]) C 8 dX8_lookedAt_159 rfl rfl (by decide) rfl ?_
      refine g_goto (pc := 162) (tgt := 104) C dX8_lookedAt_162 (by decide) ?_
      refine g_sub [2, 3, 4, 1, 5, 6, 7, 8, 0] rfl ?_
      exact ih (x3 ||| (0 : Int32)) x4 x5 x6 x7 (x8 + (1 : Int32))  hf
    refine g_aload_n (pc := 133) C 0 dX8_lookedAt_133 rfl rfl ?_
    refine g_iconst (pc := 134) (v := (3 : Int32)) C dX8_lookedAt_134 (by decide) ?_
    refine g_iload (pc := 135) C 5 dX8_lookedAt_135 rfl ?_
    refine g_imul (pc := 137) C dX8_lookedAt_137 ?_
    refine g_iload (pc := 138) C 6 dX8_lookedAt_138 rfl ?_
    refine g_iadd (pc := 140) C dX8_lookedAt_140 ?_
    refine g_iload (pc := 141) C 8 dX8_lookedAt_141 rfl ?_
    obtain ⟨r14, h14, hf⟩ := ob hf
    refine g_resI (pc := 143) C (rnV (As := [.int (((3 : Int32) * x5) + x6), .int x8]) (st := [.int x3]) C (c_X8_fits C.2.2.2.2.2.1 hk0 h14) lkX8_130 rfl (by decide) hk0 rfl rfl (Nat.le_of_ble_eq_true rfl) ⟨⟨rfl, rfl⟩, Nat.le_of_ble_eq_true rfl, Nat.le_of_ble_eq_true rfl⟩ ⟨Nat.le_of_ble_eq_true rfl, Nat.le_of_ble_eq_true rfl⟩ dX8_lookedAt_143) ?_
    refine g_if_eq (pc := 146) (tgt := 156) C hf dX8_lookedAt_146 (by decide) (fun hf => ?_) (fun hf => ?_)
    · refine g_iconst (pc := 156) (v := (0 : Int32)) C dX8_lookedAt_156 (by decide) ?_
      refine g_ior (pc := 157) C dX8_lookedAt_157 ?_
      refine g_istore_n (pc := 158) (lv2 := [(3, .int (x3 ||| (0 : Int32))), (0, .ref (Λ a0)), (1, .int x1), (2, .int x2), (4, .int x4), (5, .int x5), (6, .int x6), (7, .int x7), (8, .int x8)]) C dX8_lookedAt_158 rfl (by decide) rfl ?_
      refine g_iinc (pc := 159) (v := (x8 + (1 : Int32))) (lv2 := [(8, .int (x8 + (1 : Int32))), (3, .int (x3 ||| (0 : Int32))), (0, .ref (Λ a0)), (1, .int x1), (2, .int x2), (4, .int x4), (5, .int x5), (6, .int x6), (7, .int x7)]) C 8 dX8_lookedAt_159 rfl rfl (by decide) rfl ?_
      refine g_goto (pc := 162) (tgt := 104) C dX8_lookedAt_162 (by decide) ?_
      refine g_sub [2, 3, 4, 1, 5, 6, 7, 8, 0] rfl ?_
      exact ih (x3 ||| (0 : Int32)) x4 x5 x6 x7 (x8 + (1 : Int32))  hf
    refine g_iconst (pc := 149) (v := (1 : Int32)) C dX8_lookedAt_149 (by decide) ?_
    refine g_iload (pc := 150) C 8 dX8_lookedAt_150 rfl ?_
    refine g_ishl (pc := 152) C dX8_lookedAt_152 ?_
    refine g_goto (pc := 153) (tgt := 157) C dX8_lookedAt_153 (by decide) ?_
    refine g_ior (pc := 157) C dX8_lookedAt_157 ?_
    refine g_istore_n (pc := 158) (lv2 := [(3, .int (x3 ||| ((1 : Int32) <<< (x8 &&& 31)))), (0, .ref (Λ a0)), (1, .int x1), (2, .int x2), (4, .int x4), (5, .int x5), (6, .int x6), (7, .int x7), (8, .int x8)]) C dX8_lookedAt_158 rfl (by decide) rfl ?_
    refine g_iinc (pc := 159) (v := (x8 + (1 : Int32))) (lv2 := [(8, .int (x8 + (1 : Int32))), (3, .int (x3 ||| ((1 : Int32) <<< (x8 &&& 31)))), (0, .ref (Λ a0)), (1, .int x1), (2, .int x2), (4, .int x4), (5, .int x5), (6, .int x6), (7, .int x7)]) C 8 dX8_lookedAt_159 rfl rfl (by decide) rfl ?_
    refine g_goto (pc := 162) (tgt := 104) C dX8_lookedAt_162 (by decide) ?_
    refine g_sub [2, 3, 4, 1, 5, 6, 7, 8, 0] rfl ?_
    exact ih (x3 ||| ((1 : Int32) <<< (x8 &&& 31))) x4 x5 x6 x7 (x8 + (1 : Int32))  hf

theorem w_X8_lookedAt_L40 {p : Program} {l : Launch} {e : Env} {s : State} {m : MethodId} {args : Array Value} {below : List Frame} {meth : Method} {c : Code} {D : va_G} {cy : Nat → ClassId} {Λ : Nat → Nat} (C : Cx p s m args meth c cX8_lookedAt 9 RX8 (some .int) D cy Λ (AA Λ s.heap.size)) {M : Mem} {a0 : Nat} {x1 : Int32} {x2 : Int32} {k12 : Int32 → Int32 → Int32 → Option Int32} {r9 : Int32} (hk0 : Is NN a0 9) (hK12 : ∀ (x3 : Int32) (x4 : Int32) (x5 : Int32), k12 x3 x4 x5 = some r9 → GW p l e { frames := 1, cells := 0, slots := 0, locals := 24 } s m args below meth c D cy Λ 9 (QcI D cy Λ NN r9 M) M 12 [(0, .ref (Λ a0)), (1, .int x1), (2, .int x2), (3, .int x3), (4, .int x4), (5, .int x5)] []) : ∀ (fu : Nat) (x3 : Int32) (x4 : Int32) (x5 : Int32) (x6 : Int32) (x7 : Int32), m_X8_lookedAt_L40 M a0 x1 x2 k12 fu x3 x4 x5 x6 x7 = some r9 → GW p l e { frames := 1, cells := 0, slots := 0, locals := 24 } s m args below meth c D cy Λ 9 (QcI D cy Λ NN r9 M) M 40 [(0, .ref (Λ a0)), (1, .int x1), (2, .int x2), (3, .int x3), (4, .int x4), (5, .int x5), (6, .int x6), (7, .int x7)] [] := by
  intro fu
  induction fu with
  | zero =>
    intro x3 x4 x5 x6 x7  hf
    cases hf
  | succ fu ih =>
    intro x3 x4 x5 x6 x7  hf
    unfold m_X8_lookedAt_L40 at hf
    refine g_iload (pc := 40) C 7 dX8_lookedAt_40 rfl ?_
    refine g_iload (pc := 42) C 6 dX8_lookedAt_42 rfl ?_
    refine g_ic_gt (pc := 44) (tgt := 171) C hf dX8_lookedAt_44 (by decide) (fun hf => ?_) (fun hf => ?_)
    · refine g_iinc (pc := 171) (v := (x5 + (1 : Int32))) (lv2 := [(5, .int (x5 + (1 : Int32))), (0, .ref (Λ a0)), (1, .int x1), (2, .int x2), (3, .int x3), (4, .int x4), (6, .int x6), (7, .int x7)]) C 5 dX8_lookedAt_171 rfl rfl (by decide) rfl ?_
      refine g_goto (pc := 174) (tgt := 12) C dX8_lookedAt_174 (by decide) ?_
      refine g_sub [1, 2, 3, 4, 5, 0] rfl ?_
      exact hK12 x3 x4 (x5 + (1 : Int32))  hf
    refine g_aload_n (pc := 47) C 0 dX8_lookedAt_47 rfl rfl ?_
    refine g_getR (pc := 48) (T := 9) C hf fgX8_22 (by decide) hk0 rfl dX8_lookedAt_48 (fun a11 hk11 hf => ?_)
    refine g_bipush (pc := 51) (v := (18 : Int32)) C dX8_lookedAt_51 (by decide) ?_
    refine g_iald (pc := 53) C hf hk11 dX8_lookedAt_53 (fun v12 hf => ?_)
    refine g_iload (pc := 54) C 5 dX8_lookedAt_54 rfl ?_
    obtain ⟨r13, h13, hf⟩ := ob hf
    refine g_resI (pc := 56) C (rnS (As := [.int v12, .int x5]) (st := []) C (c_X8_has C.2.2.2.2.2.1  h13) lkX8_105 rfl rfl (Nat.le_of_ble_eq_true rfl) ⟨⟨rfl, rfl⟩, Nat.le_of_ble_eq_true rfl, Nat.le_of_ble_eq_true rfl⟩ ⟨Nat.le_of_ble_eq_true rfl, Nat.le_of_ble_eq_true rfl⟩ dX8_lookedAt_56) ?_
    refine g_if_eq (pc := 59) (tgt := 171) C hf dX8_lookedAt_59 (by decide) (fun hf => ?_) (fun hf => ?_)
    · refine g_iinc (pc := 171) (v := (x5 + (1 : Int32))) (lv2 := [(5, .int (x5 + (1 : Int32))), (0, .ref (Λ a0)), (1, .int x1), (2, .int x2), (3, .int x3), (4, .int x4), (6, .int x6), (7, .int x7)]) C 5 dX8_lookedAt_171 rfl rfl (by decide) rfl ?_
      refine g_goto (pc := 174) (tgt := 12) C dX8_lookedAt_174 (by decide) ?_
      refine g_sub [1, 2, 3, 4, 5, 0] rfl ?_
      exact hK12 x3 x4 (x5 + (1 : Int32))  hf
    refine g_aload_n (pc := 62) C 0 dX8_lookedAt_62 rfl rfl ?_
    refine g_getR (pc := 63) (T := 9) C hf fgX8_13 (by decide) hk0 rfl dX8_lookedAt_63 (fun a14 hk14 hf => ?_)
    refine g_bipush (pc := 66) (v := (44 : Int32)) C dX8_lookedAt_66 (by decide) ?_
    refine g_iconst (pc := 68) (v := (3 : Int32)) C dX8_lookedAt_68 (by decide) ?_
    refine g_iload (pc := 69) C 5 dX8_lookedAt_69 rfl ?_
    refine g_imul (pc := 71) C dX8_lookedAt_71 ?_
    refine g_iadd (pc := 72) C dX8_lookedAt_72 ?_
    refine g_iload (pc := 73) C 7 dX8_lookedAt_73 rfl ?_
    refine g_iadd (pc := 75) C dX8_lookedAt_75 ?_
    refine g_iald (pc := 76) C hf hk14 dX8_lookedAt_76 (fun v15 hf => ?_)
    refine g_iload_n (pc := 77) C 2 dX8_lookedAt_77 rfl rfl ?_
    obtain ⟨r16, h16, hf⟩ := ob hf
    refine g_resI (pc := 78) C (rnS (As := [.int v15, .int x2]) (st := []) C (c_X8_has C.2.2.2.2.2.1  h16) lkX8_105 rfl rfl (Nat.le_of_ble_eq_true rfl) ⟨⟨rfl, rfl⟩, Nat.le_of_ble_eq_true rfl, Nat.le_of_ble_eq_true rfl⟩ ⟨Nat.le_of_ble_eq_true rfl, Nat.le_of_ble_eq_true rfl⟩ dX8_lookedAt_78) ?_
    refine g_if_eq (pc := 81) (tgt := 165) C hf dX8_lookedAt_81 (by decide) (fun hf => ?_) (fun hf => ?_)
    · refine g_iinc (pc := 165) (v := (x7 + (1 : Int32))) (lv2 := [(7, .int (x7 + (1 : Int32))), (0, .ref (Λ a0)), (1, .int x1), (2, .int x2), (3, .int x3), (4, .int x4), (5, .int x5), (6, .int x6)]) C 7 dX8_lookedAt_165 rfl rfl (by decide) rfl ?_
      refine g_goto (pc := 168) (tgt := 40) C dX8_lookedAt_168 (by decide) ?_
      refine g_sub [1, 2, 3, 4, 5, 6, 7, 0] rfl ?_
      exact ih x3 x4 x5 x6 (x7 + (1 : Int32))  hf
    refine g_iload_n (pc := 84) C 3 dX8_lookedAt_84 rfl rfl ?_
    refine g_iload (pc := 85) C 7 dX8_lookedAt_85 rfl ?_
    refine g_iload (pc := 87) C 6 dX8_lookedAt_87 rfl ?_
    refine g_ic_ne (pc := 89) (tgt := 98) C hf dX8_lookedAt_89 (by decide) (fun hf => ?_) (fun hf => ?_)
    · refine g_iconst (pc := 92) (v := (1 : Int32)) C dX8_lookedAt_92 (by decide) ?_
      refine g_iload_n (pc := 93) C 1 dX8_lookedAt_93 rfl rfl ?_
      refine g_ishl (pc := 94) C dX8_lookedAt_94 ?_
      refine g_goto (pc := 95) (tgt := 99) C dX8_lookedAt_95 (by decide) ?_
      refine g_ior (pc := 99) C dX8_lookedAt_99 ?_
      refine g_istore_n (pc := 100) (lv2 := [(3, .int (x3 ||| ((1 : Int32) <<< (x1 &&& 31)))), (0, .ref (Λ a0)), (1, .int x1), (2, .int x2), (4, .int x4), (5, .int x5), (6, .int x6), (7, .int x7)]) C dX8_lookedAt_100 rfl (by decide) rfl ?_
      refine g_iconst (pc := 101) (v := (0 : Int32)) C dX8_lookedAt_101 (by decide) ?_
      refine g_istore (pc := 102) (lv2 := [(8, .int (0 : Int32)), (3, .int (x3 ||| ((1 : Int32) <<< (x1 &&& 31)))), (0, .ref (Λ a0)), (1, .int x1), (2, .int x2), (4, .int x4), (5, .int x5), (6, .int x6), (7, .int x7)]) C dX8_lookedAt_102 (by decide) rfl ?_
      refine g_sub [2, 3, 4, 1, 5, 6, 7, 8, 0] rfl ?_
      exact w_X8_lookedAt_L104 C hk0 hK12 ih FU (x3 ||| ((1 : Int32) <<< (x1 &&& 31))) x4 x5 x6 x7 (0 : Int32)  hf
    refine g_iconst (pc := 98) (v := (0 : Int32)) C dX8_lookedAt_98 (by decide) ?_
    refine g_ior (pc := 99) C dX8_lookedAt_99 ?_
    refine g_istore_n (pc := 100) (lv2 := [(3, .int (x3 ||| (0 : Int32))), (0, .ref (Λ a0)), (1, .int x1), (2, .int x2), (4, .int x4), (5, .int x5), (6, .int x6), (7, .int x7)]) C dX8_lookedAt_100 rfl (by decide) rfl ?_
    refine g_iconst (pc := 101) (v := (0 : Int32)) C dX8_lookedAt_101 (by decide) ?_
    refine g_istore (pc := 102) (lv2 := [(8, .int (0 : Int32)), (3, .int (x3 ||| (0 : Int32))), (0, .ref (Λ a0)), (1, .int x1), (2, .int x2), (4, .int x4), (5, .int x5), (6, .int x6), (7, .int x7)]) C dX8_lookedAt_102 (by decide) rfl ?_
    refine g_sub [2, 3, 4, 1, 5, 6, 7, 8, 0] rfl ?_
    exact w_X8_lookedAt_L104 C hk0 hK12 ih FU (x3 ||| (0 : Int32)) x4 x5 x6 x7 (0 : Int32)  hf

theorem w_X8_lookedAt_L12 {p : Program} {l : Launch} {e : Env} {s : State} {m : MethodId} {args : Array Value} {below : List Frame} {meth : Method} {c : Code} {D : va_G} {cy : Nat → ClassId} {Λ : Nat → Nat} (C : Cx p s m args meth c cX8_lookedAt 9 RX8 (some .int) D cy Λ (AA Λ s.heap.size)) {M : Mem} {a0 : Nat} {x1 : Int32} {x2 : Int32}  {r9 : Int32} (hk0 : Is NN a0 9)  : ∀ (fu : Nat) (x3 : Int32) (x4 : Int32) (x5 : Int32), m_X8_lookedAt_L12 M a0 x1 x2 fu x3 x4 x5 = some r9 → GW p l e { frames := 1, cells := 0, slots := 0, locals := 24 } s m args below meth c D cy Λ 9 (QcI D cy Λ NN r9 M) M 12 [(0, .ref (Λ a0)), (1, .int x1), (2, .int x2), (3, .int x3), (4, .int x4), (5, .int x5)] [] := by
  intro fu
  induction fu with
  | zero =>
    intro x3 x4 x5  hf
    cases hf
  | succ fu ih =>
    intro x3 x4 x5  hf
    unfold m_X8_lookedAt_L12 at hf
    refine g_iload (pc := 12) C 5 dX8_lookedAt_12 rfl ?_
    refine g_aload_n (pc := 14) C 0 dX8_lookedAt_14 rfl rfl ?_
    refine g_getR (pc := 15) (T := 9) C hf fgX8_13 (by decide) hk0 rfl dX8_lookedAt_15 (fun a11 hk11 hf => ?_)
    refine g_iconst (pc := 18) (v := (1 : Int32)) C dX8_lookedAt_18 (by decide) ?_
    refine g_iald (pc := 19) C hf hk11 dX8_lookedAt_19 (fun v12 hf => ?_)
    refine g_ic_ge (pc := 20) (tgt := 177) C hf dX8_lookedAt_20 (by decide) (fun hf => ?_) (fun hf => ?_)
    · refine g_iload_n (pc := 177) C 3 dX8_lookedAt_177 rfl rfl ?_
      exact g_iret C hf dX8_lookedAt_178
    refine g_aload_n (pc := 23) C 0 dX8_lookedAt_23 rfl rfl ?_
    refine g_getR (pc := 24) (T := 9) C hf fgX8_13 (by decide) hk0 rfl dX8_lookedAt_24 (fun a13 hk13 hf => ?_)
    refine g_bipush (pc := 27) (v := (12 : Int32)) C dX8_lookedAt_27 (by decide) ?_
    refine g_iload (pc := 29) C 5 dX8_lookedAt_29 rfl ?_
    refine g_iadd (pc := 31) C dX8_lookedAt_31 ?_
    refine g_iald (pc := 32) C hf hk13 dX8_lookedAt_32 (fun v14 hf => ?_)
    refine g_iconst (pc := 33) (v := (1 : Int32)) C dX8_lookedAt_33 (by decide) ?_
    refine g_isub (pc := 34) C dX8_lookedAt_34 ?_
    refine g_istore (pc := 35) (lv2 := [(6, .int (v14 - (1 : Int32))), (0, .ref (Λ a0)), (1, .int x1), (2, .int x2), (3, .int x3), (4, .int x4), (5, .int x5)]) C dX8_lookedAt_35 (by decide) rfl ?_
    refine g_iconst (pc := 37) (v := (0 : Int32)) C dX8_lookedAt_37 (by decide) ?_
    refine g_istore (pc := 38) (lv2 := [(7, .int (0 : Int32)), (6, .int (v14 - (1 : Int32))), (0, .ref (Λ a0)), (1, .int x1), (2, .int x2), (3, .int x3), (4, .int x4), (5, .int x5)]) C dX8_lookedAt_38 (by decide) rfl ?_
    refine g_sub [2, 3, 4, 5, 6, 7, 1, 0] rfl ?_
    exact w_X8_lookedAt_L40 C hk0 ih FU x3 x4 x5 (v14 - (1 : Int32)) (0 : Int32)  hf

theorem w_X8_lookedAt {p : Program} {l : Launch} {e : Env} {s : State} {m : MethodId} {args : Array Value} {below : List Frame} {meth : Method} {c : Code} {D : va_G} {cy : Nat → ClassId} {Λ : Nat → Nat} (C : Cx p s m args meth c cX8_lookedAt 9 RX8 (some .int) D cy Λ (AA Λ s.heap.size)) {M : Mem} {a0 : Nat} {x1 : Int32} {x2 : Int32} {r9 : Int32} (hk0 : Is NN a0 9) (hf : m_X8_lookedAt M a0 x1 x2 = some r9) : GW p l e { frames := 1, cells := 0, slots := 0, locals := 24 } s m args below meth c D cy Λ 9 (QcI D cy Λ NN r9 M) M 0 [(0, .ref (Λ a0)), (1, .int x1), (2, .int x2)] [] := by
  unfold m_X8_lookedAt at hf
  refine g_iconst (pc := 0) (v := (0 : Int32)) C dX8_lookedAt_0 (by decide) ?_
  refine g_istore_n (pc := 1) (lv2 := [(3, .int (0 : Int32)), (0, .ref (Λ a0)), (1, .int x1), (2, .int x2)]) C dX8_lookedAt_1 rfl (by decide) rfl ?_
  refine g_aload_n (pc := 2) C 1 dX8_lookedAt_2 rfl rfl ?_
  refine g_iload_n (pc := 3) C 2 dX8_lookedAt_3 rfl rfl ?_
  obtain ⟨r11, h11, hf⟩ := ob hf
  refine g_resI (pc := 4) C (rnV (As := [.int x1]) (st := []) C (c_X8_below C.2.2.2.2.2.1 hk0 h11) lkX8_171 rfl (by decide) hk0 rfl rfl (Nat.le_of_ble_eq_true rfl) ⟨⟨rfl, rfl⟩, Nat.le_of_ble_eq_true rfl, Nat.le_of_ble_eq_true rfl⟩ ⟨Nat.le_of_ble_eq_true rfl, Nat.le_of_ble_eq_true rfl⟩ dX8_lookedAt_4) ?_
  refine g_istore (pc := 7) (lv2 := [(4, .int r11), (3, .int (0 : Int32)), (0, .ref (Λ a0)), (1, .int x1), (2, .int x2)]) C dX8_lookedAt_7 (by decide) rfl ?_
  refine g_iconst (pc := 9) (v := (0 : Int32)) C dX8_lookedAt_9 (by decide) ?_
  refine g_istore (pc := 10) (lv2 := [(5, .int (0 : Int32)), (4, .int r11), (3, .int (0 : Int32)), (0, .ref (Λ a0)), (1, .int x1), (2, .int x2)]) C dX8_lookedAt_10 (by decide) rfl ?_
  refine g_sub [3, 4, 5, 2, 1, 0] rfl ?_
  exact w_X8_lookedAt_L12 C hk0 FU (0 : Int32) r11 (0 : Int32)  hf

theorem c_X8_lookedAt {l : Launch} {D : va_G} {cy : Nat → ClassId} {Λ : Nat → Nat} (hi : ∀ i j : Nat, Λ i = Λ j → i = j) {M : Mem} {a0 : Nat} {x1 : Int32} {x2 : Int32} {r9 : Int32} (hk0 : Is NN a0 9) (hf : m_X8_lookedAt M a0 x1 x2 = some r9) : Ct l yX8_lookedAt cX8_lookedAt 9 (some .int) { frames := 1, cells := 0, slots := 0, locals := 24 } D cy Λ [.ref (Λ a0), .int x1, .int x2] NN M 0 0 (QcI D cy Λ NN r9 M) := ent (by decide) hi (Nat.le_of_ble_eq_true rfl) (fun p e s m args below meth c C => w_X8_lookedAt C hk0 hf)
theorem w_X8_different_L64 {p : Program} {l : Launch} {e : Env} {s : State} {m : MethodId} {args : Array Value} {below : List Frame} {meth : Method} {c : Code} {D : va_G} {cy : Nat → ClassId} {Λ : Nat → Nat} (C : Cx p s m args meth c cX8_different 5 RX8 (some .int) D cy Λ (AA Λ s.heap.size)) {a0 : Nat} {x1 : Int32} {x2 : Int32}  {r9 : Int32} {M9 : Mem} (hk0 : Is NN a0 9)  : ∀ (fu : Nat) (M : Mem) (x3 : Int32) (x4 : Int32), m_X8_different_L64 a0 x1 x2 fu M x3 x4 = some (r9, M9) → GW p l e { frames := 6, cells := 0, slots := 0, locals := 143 } s m args below meth c D cy Λ 5 (QcI D cy Λ NN r9 M9) M 64 [(0, .ref (Λ a0)), (1, .int x1), (2, .int x2), (3, .int x3), (4, .int x4)] [] := by
  intro fu
  induction fu with
  | zero =>
    intro M x3 x4  hf
    cases hf
  | succ fu ih =>
    intro M x3 x4  hf
    unfold m_X8_different_L64 at hf
    refine g_iload (pc := 64) C 4 dX8_different_64 rfl ?_
    refine g_iconst (pc := 66) (v := (4 : Int32)) C dX8_different_66 (by decide) ?_
    refine g_aload_n (pc := 67) C 0 dX8_different_67 rfl rfl ?_
    refine g_getR (pc := 68) (T := 9) C hf fgX8_13 (by decide) hk0 rfl dX8_different_68 (fun a11 hk11 hf => ?_)
    refine g_iconst (pc := 71) (v := (0 : Int32)) C dX8_different_71 (by decide) ?_
    refine g_iald (pc := 72) C hf hk11 dX8_different_72 (fun v12 hf => ?_)
    refine g_imul (pc := 73) C dX8_different_73 ?_
    refine g_ic_ge (pc := 74) (tgt := 118) C hf dX8_different_74 (by decide) (fun hf => ?_) (fun hf => ?_)
    · refine g_aload_n (pc := 118) C 0 dX8_different_118 rfl rfl ?_
      refine g_getR (pc := 119) (T := 9) C hf fgX8_22 (by decide) hk0 rfl dX8_different_119 (fun a13 hk13 hf => ?_)
      refine g_bipush (pc := 122) (v := (9 : Int32)) C dX8_different_122 (by decide) ?_
      refine g_iload_n (pc := 124) C 1 dX8_different_124 rfl rfl ?_
      refine g_iadd (pc := 125) C dX8_different_125 ?_
      refine g_dup2 (pc := 126) C dX8_different_126 rfl rfl ?_
      refine g_iald (pc := 127) C hf hk13 dX8_different_127 (fun v14 hf => ?_)
      refine g_iconst (pc := 128) (v := (1 : Int32)) C dX8_different_128 (by decide) ?_
      refine g_iload_n (pc := 129) C 2 dX8_different_129 rfl rfl ?_
      refine g_ishl (pc := 130) C dX8_different_130 ?_
      refine g_ixor (pc := 131) C dX8_different_131 ?_
      refine g_iast (pc := 132) C hf hk13 dX8_different_132 (fun M15 hf => ?_)
      refine g_iload_n (pc := 133) C 3 dX8_different_133 rfl rfl ?_
      exact g_iretM C hf dX8_different_134
    refine g_iload_n (pc := 77) C 3 dX8_different_77 rfl rfl ?_
    refine g_aload_n (pc := 78) C 0 dX8_different_78 rfl rfl ?_
    refine g_iload (pc := 79) C 4 dX8_different_79 rfl ?_
    refine g_iconst (pc := 81) (v := (4 : Int32)) C dX8_different_81 (by decide) ?_
    refine g_idiv (pc := 82) C hf dX8_different_82 (fun hf => ?_)
    refine g_iload (pc := 83) C 4 dX8_different_83 rfl ?_
    refine g_iconst (pc := 85) (v := (4 : Int32)) C dX8_different_85 (by decide) ?_
    refine g_irem (pc := 86) C hf dX8_different_86 (fun hf => ?_)
    obtain ⟨r16, h16, hf⟩ := ob hf
    refine g_resI (pc := 87) C (rnV (As := [.int (x4 / (4 : Int32)), .int (x4 - x4 / (4 : Int32) * (4 : Int32))]) (st := [.int x3]) C (c_X8_valueOf C.2.2.2.2.2.1 hk0 h16) lkX8_156 rfl (by decide) hk0 rfl rfl (Nat.le_of_ble_eq_true rfl) ⟨⟨rfl, rfl⟩, Nat.le_of_ble_eq_true rfl, Nat.le_of_ble_eq_true rfl⟩ ⟨Nat.le_of_ble_eq_true rfl, Nat.le_of_ble_eq_true rfl⟩ dX8_different_87) ?_
    refine g_aload_n (pc := 90) C 0 dX8_different_90 rfl rfl ?_
    refine g_getR (pc := 91) (T := 9) C hf fgX8_44 (by decide) hk0 rfl dX8_different_91 (fun a17 hk17 hf => ?_)
    refine g_iload (pc := 94) C 4 dX8_different_94 rfl ?_
    refine g_iald (pc := 96) C hf hk17 dX8_different_96 (fun v18 hf => ?_)
    refine g_ic_eq (pc := 97) (tgt := 109) C hf dX8_different_97 (by decide) (fun hf => ?_) (fun hf => ?_)
    · refine g_iconst (pc := 109) (v := (0 : Int32)) C dX8_different_109 (by decide) ?_
      refine g_ior (pc := 110) C dX8_different_110 ?_
      refine g_istore_n (pc := 111) (lv2 := [(3, .int (x3 ||| (0 : Int32))), (0, .ref (Λ a0)), (1, .int x1), (2, .int x2), (4, .int x4)]) C dX8_different_111 rfl (by decide) rfl ?_
      refine g_iinc (pc := 112) (v := (x4 + (1 : Int32))) (lv2 := [(4, .int (x4 + (1 : Int32))), (3, .int (x3 ||| (0 : Int32))), (0, .ref (Λ a0)), (1, .int x1), (2, .int x2)]) C 4 dX8_different_112 rfl rfl (by decide) rfl ?_
      refine g_goto (pc := 115) (tgt := 64) C dX8_different_115 (by decide) ?_
      refine g_sub [2, 3, 4, 1, 0] rfl ?_
      exact ih M (x3 ||| (0 : Int32)) (x4 + (1 : Int32))  hf
    refine g_iconst (pc := 100) (v := (1 : Int32)) C dX8_different_100 (by decide) ?_
    refine g_iload (pc := 101) C 4 dX8_different_101 rfl ?_
    refine g_iconst (pc := 103) (v := (4 : Int32)) C dX8_different_103 (by decide) ?_
    refine g_idiv (pc := 104) C hf dX8_different_104 (fun hf => ?_)
    refine g_ishl (pc := 105) C dX8_different_105 ?_
    refine g_goto (pc := 106) (tgt := 110) C dX8_different_106 (by decide) ?_
    refine g_ior (pc := 110) C dX8_different_110 ?_
    refine g_istore_n (pc := 111) (lv2 := [(3, .int (x3 ||| ((1 : Int32) <<< ((x4 / (4 : Int32)) &&& 31)))), (0, .ref (Λ a0)), (1, .int x1), (2, .int x2), (4, .int x4)]) C dX8_different_111 rfl (by decide) rfl ?_
    refine g_iinc (pc := 112) (v := (x4 + (1 : Int32))) (lv2 := [(4, .int (x4 + (1 : Int32))), (3, .int (x3 ||| ((1 : Int32) <<< ((x4 / (4 : Int32)) &&& 31)))), (0, .ref (Λ a0)), (1, .int x1), (2, .int x2)]) C 4 dX8_different_112 rfl rfl (by decide) rfl ?_
    refine g_goto (pc := 115) (tgt := 64) C dX8_different_115 (by decide) ?_
    refine g_sub [2, 3, 4, 1, 0] rfl ?_
    exact ih M (x3 ||| ((1 : Int32) <<< ((x4 / (4 : Int32)) &&& 31))) (x4 + (1 : Int32))  hf

theorem w_X8_different_L6 {p : Program} {l : Launch} {e : Env} {s : State} {m : MethodId} {args : Array Value} {below : List Frame} {meth : Method} {c : Code} {D : va_G} {cy : Nat → ClassId} {Λ : Nat → Nat} (C : Cx p s m args meth c cX8_different 5 RX8 (some .int) D cy Λ (AA Λ s.heap.size)) {a0 : Nat} {x1 : Int32} {x2 : Int32}  {r9 : Int32} {M9 : Mem} (hk0 : Is NN a0 9)  : ∀ (fu : Nat) (M : Mem) (x3 : Int32), m_X8_different_L6 a0 x1 x2 fu M x3 = some (r9, M9) → GW p l e { frames := 6, cells := 0, slots := 0, locals := 143 } s m args below meth c D cy Λ 5 (QcI D cy Λ NN r9 M9) M 6 [(0, .ref (Λ a0)), (1, .int x1), (2, .int x2), (3, .int x3)] [] := by
  intro fu
  induction fu with
  | zero =>
    intro M x3  hf
    cases hf
  | succ fu ih =>
    intro M x3  hf
    unfold m_X8_different_L6 at hf
    refine g_iload_n (pc := 6) C 3 dX8_different_6 rfl rfl ?_
    refine g_iconst (pc := 7) (v := (4 : Int32)) C dX8_different_7 (by decide) ?_
    refine g_aload_n (pc := 8) C 0 dX8_different_8 rfl rfl ?_
    refine g_getR (pc := 9) (T := 9) C hf fgX8_13 (by decide) hk0 rfl dX8_different_9 (fun a11 hk11 hf => ?_)
    refine g_iconst (pc := 12) (v := (0 : Int32)) C dX8_different_12 (by decide) ?_
    refine g_iald (pc := 13) C hf hk11 dX8_different_13 (fun v12 hf => ?_)
    refine g_imul (pc := 14) C dX8_different_14 ?_
    refine g_ic_ge (pc := 15) (tgt := 40) C hf dX8_different_15 (by decide) (fun hf => ?_) (fun hf => ?_)
    · refine g_aload_n (pc := 40) C 0 dX8_different_40 rfl rfl ?_
      refine g_getR (pc := 41) (T := 9) C hf fgX8_22 (by decide) hk0 rfl dX8_different_41 (fun a13 hk13 hf => ?_)
      refine g_bipush (pc := 44) (v := (9 : Int32)) C dX8_different_44 (by decide) ?_
      refine g_iload_n (pc := 46) C 1 dX8_different_46 rfl rfl ?_
      refine g_iadd (pc := 47) C dX8_different_47 ?_
      refine g_dup2 (pc := 48) C dX8_different_48 rfl rfl ?_
      refine g_iald (pc := 49) C hf hk13 dX8_different_49 (fun v14 hf => ?_)
      refine g_iconst (pc := 50) (v := (1 : Int32)) C dX8_different_50 (by decide) ?_
      refine g_iload_n (pc := 51) C 2 dX8_different_51 rfl rfl ?_
      refine g_ishl (pc := 52) C dX8_different_52 ?_
      refine g_ixor (pc := 53) C dX8_different_53 ?_
      refine g_iast (pc := 54) C hf hk13 dX8_different_54 (fun M15 hf => ?_)
      refine g_aload_n (pc := 55) C 0 dX8_different_55 rfl rfl ?_
      obtain ⟨M16, h16, hf⟩ := ob hf
      refine g_resV (pc := 56) C (rnV (As := []) (st := []) C (c_X8_fills C.2.2.2.2.2.1 hk0 h16) lkX8_165 rfl (by decide) hk0 rfl rfl (Nat.le_of_ble_eq_true rfl) ⟨⟨rfl, rfl⟩, Nat.le_of_ble_eq_true rfl, Nat.le_of_ble_eq_true rfl⟩ ⟨Nat.le_of_ble_eq_true rfl, Nat.le_of_ble_eq_true rfl⟩ dX8_different_56) ?_
      refine g_iconst (pc := 59) (v := (0 : Int32)) C dX8_different_59 (by decide) ?_
      refine g_istore_n (pc := 60) (lv2 := [(3, .int (0 : Int32)), (0, .ref (Λ a0)), (1, .int x1), (2, .int x2)]) C dX8_different_60 rfl (by decide) rfl ?_
      refine g_iconst (pc := 61) (v := (0 : Int32)) C dX8_different_61 (by decide) ?_
      refine g_istore (pc := 62) (lv2 := [(4, .int (0 : Int32)), (3, .int (0 : Int32)), (0, .ref (Λ a0)), (1, .int x1), (2, .int x2)]) C dX8_different_62 (by decide) rfl ?_
      refine g_sub [2, 3, 4, 1, 0] rfl ?_
      exact w_X8_different_L64 C hk0 FU M16 (0 : Int32) (0 : Int32)  hf
    refine g_aload_n (pc := 18) C 0 dX8_different_18 rfl rfl ?_
    refine g_getR (pc := 19) (T := 9) C hf fgX8_44 (by decide) hk0 rfl dX8_different_19 (fun a17 hk17 hf => ?_)
    refine g_iload_n (pc := 22) C 3 dX8_different_22 rfl rfl ?_
    refine g_aload_n (pc := 23) C 0 dX8_different_23 rfl rfl ?_
    refine g_iload_n (pc := 24) C 3 dX8_different_24 rfl rfl ?_
    refine g_iconst (pc := 25) (v := (4 : Int32)) C dX8_different_25 (by decide) ?_
    refine g_idiv (pc := 26) C hf dX8_different_26 (fun hf => ?_)
    refine g_iload_n (pc := 27) C 3 dX8_different_27 rfl rfl ?_
    refine g_iconst (pc := 28) (v := (4 : Int32)) C dX8_different_28 (by decide) ?_
    refine g_irem (pc := 29) C hf dX8_different_29 (fun hf => ?_)
    obtain ⟨r18, h18, hf⟩ := ob hf
    refine g_resI (pc := 30) C (rnV (As := [.int (x3 / (4 : Int32)), .int (x3 - x3 / (4 : Int32) * (4 : Int32))]) (st := [.int x3, .ref (Λ a17)]) C (c_X8_valueOf C.2.2.2.2.2.1 hk0 h18) lkX8_156 rfl (by decide) hk0 rfl rfl (Nat.le_of_ble_eq_true rfl) ⟨⟨rfl, rfl⟩, Nat.le_of_ble_eq_true rfl, Nat.le_of_ble_eq_true rfl⟩ ⟨Nat.le_of_ble_eq_true rfl, Nat.le_of_ble_eq_true rfl⟩ dX8_different_30) ?_
    refine g_iast (pc := 33) C hf hk17 dX8_different_33 (fun M19 hf => ?_)
    refine g_iinc (pc := 34) (v := (x3 + (1 : Int32))) (lv2 := [(3, .int (x3 + (1 : Int32))), (0, .ref (Λ a0)), (1, .int x1), (2, .int x2)]) C 3 dX8_different_34 rfl rfl (by decide) rfl ?_
    refine g_goto (pc := 37) (tgt := 6) C dX8_different_37 (by decide) ?_
    refine g_sub [1, 2, 3, 0] rfl ?_
    exact ih M19 (x3 + (1 : Int32))  hf

theorem w_X8_different {p : Program} {l : Launch} {e : Env} {s : State} {m : MethodId} {args : Array Value} {below : List Frame} {meth : Method} {c : Code} {D : va_G} {cy : Nat → ClassId} {Λ : Nat → Nat} (C : Cx p s m args meth c cX8_different 5 RX8 (some .int) D cy Λ (AA Λ s.heap.size)) {M : Mem} {a0 : Nat} {x1 : Int32} {x2 : Int32} {r9 : Int32} {M9 : Mem} (hk0 : Is NN a0 9) (hf : m_X8_different M a0 x1 x2 = some (r9, M9)) : GW p l e { frames := 6, cells := 0, slots := 0, locals := 143 } s m args below meth c D cy Λ 5 (QcI D cy Λ NN r9 M9) M 0 [(0, .ref (Λ a0)), (1, .int x1), (2, .int x2)] [] := by
  unfold m_X8_different at hf
  refine g_aload_n (pc := 0) C 0 dX8_different_0 rfl rfl ?_
  obtain ⟨M11, h11, hf⟩ := ob hf
  refine g_resV (pc := 1) C (rnV (As := []) (st := []) C (c_X8_fills C.2.2.2.2.2.1 hk0 h11) lkX8_165 rfl (by decide) hk0 rfl rfl (Nat.le_of_ble_eq_true rfl) ⟨⟨rfl, rfl⟩, Nat.le_of_ble_eq_true rfl, Nat.le_of_ble_eq_true rfl⟩ ⟨Nat.le_of_ble_eq_true rfl, Nat.le_of_ble_eq_true rfl⟩ dX8_different_1) ?_
  refine g_iconst (pc := 4) (v := (0 : Int32)) C dX8_different_4 (by decide) ?_
  refine g_istore_n (pc := 5) (lv2 := [(3, .int (0 : Int32)), (0, .ref (Λ a0)), (1, .int x1), (2, .int x2)]) C dX8_different_5 rfl (by decide) rfl ?_
  refine g_sub [1, 2, 3, 0] rfl ?_
  exact w_X8_different_L6 C hk0 FU M11 (0 : Int32)  hf

theorem c_X8_different {l : Launch} {D : va_G} {cy : Nat → ClassId} {Λ : Nat → Nat} (hi : ∀ i j : Nat, Λ i = Λ j → i = j) {M : Mem} {a0 : Nat} {x1 : Int32} {x2 : Int32} {r9 : Int32} {M9 : Mem} (hk0 : Is NN a0 9) (hf : m_X8_different M a0 x1 x2 = some (r9, M9)) : Ct l yX8_different cX8_different 5 (some .int) { frames := 6, cells := 0, slots := 0, locals := 143 } D cy Λ [.ref (Λ a0), .int x1, .int x2] NN M 0 0 (QcI D cy Λ NN r9 M9) := ent (by decide) hi (Nat.le_of_ble_eq_true rfl) (fun p e s m args below meth c C => w_X8_different C hk0 hf)
theorem w_X8_change {p : Program} {l : Launch} {e : Env} {s : State} {m : MethodId} {args : Array Value} {below : List Frame} {meth : Method} {c : Code} {D : va_G} {cy : Nat → ClassId} {Λ : Nat → Nat} (C : Cx p s m args meth c cX8_change 4 RX8 (some .int) D cy Λ (AA Λ s.heap.size)) {M : Mem} {a0 : Nat} {x1 : Int32} {x2 : Int32} {x3 : Int32} {r9 : Int32} {M9 : Mem} (hk0 : Is NN a0 9) (hf : m_X8_change M a0 x1 x2 x3 = some (r9, M9)) : GW p l e { frames := 7, cells := 0, slots := 0, locals := 167 } s m args below meth c D cy Λ 4 (QcI D cy Λ NN r9 M9) M 0 [(0, .ref (Λ a0)), (1, .int x1), (2, .int x2), (3, .int x3)] [] := by
  unfold m_X8_change at hf
  refine g_aload_n (pc := 0) C 0 dX8_change_0 rfl rfl ?_
  refine g_iconst (pc := 1) (v := (0 : Int32)) C dX8_change_1 (by decide) ?_
  refine g_pI (pc := 2) C hf fpX8_56 (by decide) hk0 stX8_0 (Nat.le_of_ble_eq_true rfl) rfl rfl dX8_change_2 (fun M11 hf => ?_)
  refine g_aload_n (pc := 5) C 0 dX8_change_5 rfl rfl ?_
  refine g_iload_n (pc := 6) C 1 dX8_change_6 rfl rfl ?_
  obtain ⟨r12, h12, hf⟩ := ob hf
  refine g_resI (pc := 7) C (rnV (As := [.int x1]) (st := []) C (c_X8_isNode C.2.2.2.2.2.1 hk0 h12) lkX8_162 rfl (by decide) hk0 rfl rfl (Nat.le_of_ble_eq_true rfl) ⟨⟨rfl, rfl⟩, Nat.le_of_ble_eq_true rfl, Nat.le_of_ble_eq_true rfl⟩ ⟨Nat.le_of_ble_eq_true rfl, Nat.le_of_ble_eq_true rfl⟩ dX8_change_7) ?_
  refine g_if_eq (pc := 10) (tgt := 29) C hf dX8_change_10 (by decide) (fun hf => ?_) (fun hf => ?_)
  · refine g_bipush (pc := 29) (v := (-2 : Int32)) C dX8_change_29 (by decide) ?_
    exact g_iretM C hf dX8_change_31
  refine g_iload_n (pc := 13) C 2 dX8_change_13 rfl rfl ?_
  obtain ⟨r13, h13, hf⟩ := ob hf
  refine g_resI (pc := 14) C (rnS (As := [.int x2]) (st := []) C (c_X8_isFour C.2.2.2.2.2.1  h13) lkX8_177 rfl rfl (Nat.le_of_ble_eq_true rfl) ⟨⟨rfl, rfl⟩, Nat.le_of_ble_eq_true rfl, Nat.le_of_ble_eq_true rfl⟩ ⟨Nat.le_of_ble_eq_true rfl, Nat.le_of_ble_eq_true rfl⟩ dX8_change_14) ?_
  refine g_if_eq (pc := 17) (tgt := 29) C hf dX8_change_17 (by decide) (fun hf => ?_) (fun hf => ?_)
  · refine g_bipush (pc := 29) (v := (-2 : Int32)) C dX8_change_29 (by decide) ?_
    exact g_iretM C hf dX8_change_31
  refine g_iload_n (pc := 20) C 3 dX8_change_20 rfl rfl ?_
  refine g_iconst (pc := 21) (v := (0 : Int32)) C dX8_change_21 (by decide) ?_
  refine g_iconst (pc := 22) (v := (1 : Int32)) C dX8_change_22 (by decide) ?_
  obtain ⟨r14, h14, hf⟩ := ob hf
  refine g_resI (pc := 23) C (rnS (As := [.int x3, .int (0 : Int32), .int (1 : Int32)]) (st := []) C (c_X8_in C.2.2.2.2.2.1  h14) lkX8_60 rfl rfl (Nat.le_of_ble_eq_true rfl) ⟨⟨rfl, rfl⟩, Nat.le_of_ble_eq_true rfl, Nat.le_of_ble_eq_true rfl⟩ ⟨Nat.le_of_ble_eq_true rfl, Nat.le_of_ble_eq_true rfl⟩ dX8_change_23) ?_
  refine g_if_ne (pc := 26) (tgt := 32) C hf dX8_change_26 (by decide) (fun hf => ?_) (fun hf => ?_)
  · refine g_bipush (pc := 29) (v := (-2 : Int32)) C dX8_change_29 (by decide) ?_
    exact g_iretM C hf dX8_change_31
  refine g_iload_n (pc := 32) C 3 dX8_change_32 rfl rfl ?_
  refine g_if_ne (pc := 33) (tgt := 45) C hf dX8_change_33 (by decide) (fun hf => ?_) (fun hf => ?_)
  · refine g_aload_n (pc := 36) C 0 dX8_change_36 rfl rfl ?_
    refine g_iload_n (pc := 37) C 1 dX8_change_37 rfl rfl ?_
    refine g_iload_n (pc := 38) C 2 dX8_change_38 rfl rfl ?_
    obtain ⟨r15, h15, hf⟩ := ob hf
    refine g_resI (pc := 39) C (rnV (As := [.int x1, .int x2]) (st := []) C (c_X8_lookedAt C.2.2.2.2.2.1 hk0 h15) lkX8_183 rfl (by decide) hk0 rfl rfl (Nat.le_of_ble_eq_true rfl) ⟨⟨rfl, rfl⟩, Nat.le_of_ble_eq_true rfl, Nat.le_of_ble_eq_true rfl⟩ ⟨Nat.le_of_ble_eq_true rfl, Nat.le_of_ble_eq_true rfl⟩ dX8_change_39) ?_
    refine g_goto (pc := 42) (tgt := 51) C dX8_change_42 (by decide) ?_
    exact g_iretM C hf dX8_change_51
  refine g_aload_n (pc := 45) C 0 dX8_change_45 rfl rfl ?_
  refine g_iload_n (pc := 46) C 1 dX8_change_46 rfl rfl ?_
  refine g_iload_n (pc := 47) C 2 dX8_change_47 rfl rfl ?_
  obtain ⟨r16, M16, h16, hf⟩ := ob2 hf
  refine g_resI (pc := 48) C (rnV (As := [.int x1, .int x2]) (st := []) C (c_X8_different C.2.2.2.2.2.1 hk0 h16) lkX8_186 rfl (by decide) hk0 rfl rfl (Nat.le_of_ble_eq_true rfl) ⟨⟨rfl, rfl⟩, Nat.le_of_ble_eq_true rfl, Nat.le_of_ble_eq_true rfl⟩ ⟨Nat.le_of_ble_eq_true rfl, Nat.le_of_ble_eq_true rfl⟩ dX8_change_48) ?_
  exact g_iretM C hf dX8_change_51

theorem c_X8_change {l : Launch} {D : va_G} {cy : Nat → ClassId} {Λ : Nat → Nat} (hi : ∀ i j : Nat, Λ i = Λ j → i = j) {M : Mem} {a0 : Nat} {x1 : Int32} {x2 : Int32} {x3 : Int32} {r9 : Int32} {M9 : Mem} (hk0 : Is NN a0 9) (hf : m_X8_change M a0 x1 x2 x3 = some (r9, M9)) : Ct l yX8_change cX8_change 4 (some .int) { frames := 7, cells := 0, slots := 0, locals := 167 } D cy Λ [.ref (Λ a0), .int x1, .int x2, .int x3] NN M 0 0 (QcI D cy Λ NN r9 M9) := ent (by decide) hi (Nat.le_of_ble_eq_true rfl) (fun p e s m args below meth c C => w_X8_change C hk0 hf)
theorem w_X8_valueBy {p : Program} {l : Launch} {e : Env} {s : State} {m : MethodId} {args : Array Value} {below : List Frame} {meth : Method} {c : Code} {D : va_G} {cy : Nat → ClassId} {Λ : Nat → Nat} (C : Cx p s m args meth c cX8_valueBy 5 RX8 (some .int) D cy Λ (AA Λ s.heap.size)) {M : Mem} {a0 : Nat} {x1 : Int32} {x2 : Int32} {x3 : Int32} {r9 : Int32} {M9 : Mem} (hk0 : Is NN a0 9) (hf : m_X8_valueBy M a0 x1 x2 x3 = some (r9, M9)) : GW p l e { frames := 6, cells := 0, slots := 0, locals := 143 } s m args below meth c D cy Λ 5 (QcI D cy Λ NN r9 M9) M 0 [(0, .ref (Λ a0)), (1, .int x1), (2, .int x2), (3, .int x3)] [] := by
  unfold m_X8_valueBy at hf
  refine g_aload_n (pc := 0) C 0 dX8_valueBy_0 rfl rfl ?_
  refine g_getR (pc := 1) (T := 9) C hf fgX8_22 (by decide) hk0 rfl dX8_valueBy_1 (fun a11 hk11 hf => ?_)
  refine g_bipush (pc := 4) (v := (18 : Int32)) C dX8_valueBy_4 (by decide) ?_
  refine g_dup2 (pc := 6) C dX8_valueBy_6 rfl rfl ?_
  refine g_iald (pc := 7) C hf hk11 dX8_valueBy_7 (fun v12 hf => ?_)
  refine g_iconst (pc := 8) (v := (1 : Int32)) C dX8_valueBy_8 (by decide) ?_
  refine g_iload_n (pc := 9) C 1 dX8_valueBy_9 rfl rfl ?_
  refine g_ishl (pc := 10) C dX8_valueBy_10 ?_
  refine g_ixor (pc := 11) C dX8_valueBy_11 ?_
  refine g_iast (pc := 12) C hf hk11 dX8_valueBy_12 (fun M13 hf => ?_)
  refine g_aload_n (pc := 13) C 0 dX8_valueBy_13 rfl rfl ?_
  obtain ⟨M14, h14, hf⟩ := ob hf
  refine g_resV (pc := 14) C (rnV (As := []) (st := []) C (c_X8_fills C.2.2.2.2.2.1 hk0 h14) lkX8_165 rfl (by decide) hk0 rfl rfl (Nat.le_of_ble_eq_true rfl) ⟨⟨rfl, rfl⟩, Nat.le_of_ble_eq_true rfl, Nat.le_of_ble_eq_true rfl⟩ ⟨Nat.le_of_ble_eq_true rfl, Nat.le_of_ble_eq_true rfl⟩ dX8_valueBy_14) ?_
  refine g_aload_n (pc := 17) C 0 dX8_valueBy_17 rfl rfl ?_
  refine g_iload_n (pc := 18) C 2 dX8_valueBy_18 rfl rfl ?_
  refine g_iload_n (pc := 19) C 3 dX8_valueBy_19 rfl rfl ?_
  obtain ⟨r15, h15, hf⟩ := ob hf
  refine g_resI (pc := 20) C (rnV (As := [.int x2, .int x3]) (st := []) C (c_X8_valueOf C.2.2.2.2.2.1 hk0 h15) lkX8_156 rfl (by decide) hk0 rfl rfl (Nat.le_of_ble_eq_true rfl) ⟨⟨rfl, rfl⟩, Nat.le_of_ble_eq_true rfl, Nat.le_of_ble_eq_true rfl⟩ ⟨Nat.le_of_ble_eq_true rfl, Nat.le_of_ble_eq_true rfl⟩ dX8_valueBy_20) ?_
  refine g_istore (pc := 23) (lv2 := [(4, .int r15), (0, .ref (Λ a0)), (1, .int x1), (2, .int x2), (3, .int x3)]) C dX8_valueBy_23 (by decide) rfl ?_
  refine g_aload_n (pc := 25) C 1 dX8_valueBy_25 rfl rfl ?_
  refine g_getR (pc := 26) (T := 9) C hf fgX8_22 (by decide) hk0 rfl dX8_valueBy_26 (fun a16 hk16 hf => ?_)
  refine g_bipush (pc := 29) (v := (18 : Int32)) C dX8_valueBy_29 (by decide) ?_
  refine g_dup2 (pc := 31) C dX8_valueBy_31 rfl rfl ?_
  refine g_iald (pc := 32) C hf hk16 dX8_valueBy_32 (fun v17 hf => ?_)
  refine g_iconst (pc := 33) (v := (1 : Int32)) C dX8_valueBy_33 (by decide) ?_
  refine g_iload_n (pc := 34) C 2 dX8_valueBy_34 rfl rfl ?_
  refine g_ishl (pc := 35) C dX8_valueBy_35 ?_
  refine g_ixor (pc := 36) C dX8_valueBy_36 ?_
  refine g_iast (pc := 37) C hf hk16 dX8_valueBy_37 (fun M18 hf => ?_)
  refine g_iload (pc := 38) C 0 dX8_valueBy_38 rfl ?_
  exact g_iretM C hf dX8_valueBy_40

theorem c_X8_valueBy {l : Launch} {D : va_G} {cy : Nat → ClassId} {Λ : Nat → Nat} (hi : ∀ i j : Nat, Λ i = Λ j → i = j) {M : Mem} {a0 : Nat} {x1 : Int32} {x2 : Int32} {x3 : Int32} {r9 : Int32} {M9 : Mem} (hk0 : Is NN a0 9) (hf : m_X8_valueBy M a0 x1 x2 x3 = some (r9, M9)) : Ct l yX8_valueBy cX8_valueBy 5 (some .int) { frames := 6, cells := 0, slots := 0, locals := 143 } D cy Λ [.ref (Λ a0), .int x1, .int x2, .int x3] NN M 0 0 (QcI D cy Λ NN r9 M9) := ent (by decide) hi (Nat.le_of_ble_eq_true rfl) (fun p e s m args below meth c C => w_X8_valueBy C hk0 hf)
theorem w_X8_wanted_L144 {p : Program} {l : Launch} {e : Env} {s : State} {m : MethodId} {args : Array Value} {below : List Frame} {meth : Method} {c : Code} {D : va_G} {cy : Nat → ClassId} {Λ : Nat → Nat} (C : Cx p s m args meth c cX8_wanted 6 RX8 (some .int) D cy Λ (AA Λ s.heap.size)) {a0 : Nat} {x1 : Int32} {x2 : Int32} {x3 : Int32}  {r9 : Int32} {M9 : Mem} (hk0 : Is NN a0 9)  : ∀ (fu : Nat) (M : Mem) (x4 : Int32) (x5 : Int32), m_X8_wanted_L144 a0 x1 x2 x3 fu M x4 x5 = some (r9, M9) → GW p l e { frames := 7, cells := 0, slots := 0, locals := 167 } s m args below meth c D cy Λ 6 (QcI D cy Λ NN r9 M9) M 144 [(0, .ref (Λ a0)), (1, .int x1), (2, .int x2), (3, .int x3), (4, .int x4), (5, .int x5)] [] := by
  intro fu
  induction fu with
  | zero =>
    intro M x4 x5  hf
    cases hf
  | succ fu ih =>
    intro M x4 x5  hf
    unfold m_X8_wanted_L144 at hf
    refine g_iload (pc := 144) C 5 dX8_wanted_144 rfl ?_
    refine g_aload_n (pc := 146) C 0 dX8_wanted_146 rfl rfl ?_
    refine g_getR (pc := 147) (T := 9) C hf fgX8_13 (by decide) hk0 rfl dX8_wanted_147 (fun a11 hk11 hf => ?_)
    refine g_iconst (pc := 150) (v := (1 : Int32)) C dX8_wanted_150 (by decide) ?_
    refine g_iald (pc := 151) C hf hk11 dX8_wanted_151 (fun v12 hf => ?_)
    refine g_ic_ge (pc := 152) (tgt := 192) C hf dX8_wanted_152 (by decide) (fun hf => ?_) (fun hf => ?_)
    · refine g_iload (pc := 192) C 4 dX8_wanted_192 rfl ?_
      exact g_iretM C hf dX8_wanted_194
    refine g_iload (pc := 155) C 4 dX8_wanted_155 rfl ?_
    refine g_bipush (pc := 157) (v := (-9 : Int32)) C dX8_wanted_157 (by decide) ?_
    refine g_ic_ne (pc := 159) (tgt := 192) C hf dX8_wanted_159 (by decide) (fun hf => ?_) (fun hf => ?_)
    · refine g_aload_n (pc := 162) C 0 dX8_wanted_162 rfl rfl ?_
      refine g_iload (pc := 163) C 5 dX8_wanted_163 rfl ?_
      refine g_iload_n (pc := 165) C 1 dX8_wanted_165 rfl rfl ?_
      refine g_iload_n (pc := 166) C 2 dX8_wanted_166 rfl rfl ?_
      obtain ⟨r13, M13, h13, hf⟩ := ob2 hf
      refine g_resI (pc := 167) C (rnV (As := [.int x5, .int x1, .int x2]) (st := []) C (c_X8_valueBy C.2.2.2.2.2.1 hk0 h13) lkX8_189 rfl (by decide) hk0 rfl rfl (Nat.le_of_ble_eq_true rfl) ⟨⟨rfl, rfl⟩, Nat.le_of_ble_eq_true rfl, Nat.le_of_ble_eq_true rfl⟩ ⟨Nat.le_of_ble_eq_true rfl, Nat.le_of_ble_eq_true rfl⟩ dX8_wanted_167) ?_
      refine g_iload_n (pc := 170) C 3 dX8_wanted_170 rfl rfl ?_
      refine g_ic_ne (pc := 171) (tgt := 182) C hf dX8_wanted_171 (by decide) (fun hf => ?_) (fun hf => ?_)
      · refine g_bipush (pc := 174) (v := (100 : Int32)) C dX8_wanted_174 (by decide) ?_
        refine g_iload (pc := 176) C 5 dX8_wanted_176 rfl ?_
        refine g_iadd (pc := 178) C dX8_wanted_178 ?_
        refine g_goto (pc := 179) (tgt := 184) C dX8_wanted_179 (by decide) ?_
        refine g_istore (pc := 184) (lv2 := [(4, .int ((100 : Int32) + x5)), (0, .ref (Λ a0)), (1, .int x1), (2, .int x2), (3, .int x3), (5, .int x5)]) C dX8_wanted_184 (by decide) rfl ?_
        refine g_iinc (pc := 186) (v := (x5 + (1 : Int32))) (lv2 := [(5, .int (x5 + (1 : Int32))), (4, .int ((100 : Int32) + x5)), (0, .ref (Λ a0)), (1, .int x1), (2, .int x2), (3, .int x3)]) C 5 dX8_wanted_186 rfl rfl (by decide) rfl ?_
        refine g_goto (pc := 189) (tgt := 144) C dX8_wanted_189 (by decide) ?_
        refine g_sub [2, 3, 4, 5, 1, 0] rfl ?_
        exact ih M13 ((100 : Int32) + x5) (x5 + (1 : Int32))  hf
      refine g_iload (pc := 182) C 4 dX8_wanted_182 rfl ?_
      refine g_istore (pc := 184) (lv2 := [(4, .int x4), (0, .ref (Λ a0)), (1, .int x1), (2, .int x2), (3, .int x3), (5, .int x5)]) C dX8_wanted_184 (by decide) rfl ?_
      refine g_iinc (pc := 186) (v := (x5 + (1 : Int32))) (lv2 := [(5, .int (x5 + (1 : Int32))), (4, .int x4), (0, .ref (Λ a0)), (1, .int x1), (2, .int x2), (3, .int x3)]) C 5 dX8_wanted_186 rfl rfl (by decide) rfl ?_
      refine g_goto (pc := 189) (tgt := 144) C dX8_wanted_189 (by decide) ?_
      refine g_sub [2, 3, 4, 5, 1, 0] rfl ?_
      exact ih M13 x4 (x5 + (1 : Int32))  hf
    refine g_iload (pc := 192) C 4 dX8_wanted_192 rfl ?_
    exact g_iretM C hf dX8_wanted_194

theorem w_X8_wanted_L112 {p : Program} {l : Launch} {e : Env} {s : State} {m : MethodId} {args : Array Value} {below : List Frame} {meth : Method} {c : Code} {D : va_G} {cy : Nat → ClassId} {Λ : Nat → Nat} (C : Cx p s m args meth c cX8_wanted 6 RX8 (some .int) D cy Λ (AA Λ s.heap.size)) {a0 : Nat} {x1 : Int32} {x2 : Int32} {x3 : Int32} {k65 : Mem → Int32 → Int32 → Option (Int32 × Mem)} {r9 : Int32} {M9 : Mem} (hk0 : Is NN a0 9) (hK65 : ∀ (M : Mem) (x4 : Int32) (x5 : Int32), k65 M x4 x5 = some (r9, M9) → GW p l e { frames := 7, cells := 0, slots := 0, locals := 167 } s m args below meth c D cy Λ 6 (QcI D cy Λ NN r9 M9) M 65 [(0, .ref (Λ a0)), (1, .int x1), (2, .int x2), (3, .int x3), (4, .int x4), (5, .int x5)] []) : ∀ (M : Mem) (x5 : Int32) (s0 : Int32), m_X8_wanted_L112 a0 x1 x2 x3 k65 M x5 s0 = some (r9, M9) → GW p l e { frames := 7, cells := 0, slots := 0, locals := 167 } s m args below meth c D cy Λ 6 (QcI D cy Λ NN r9 M9) M 112 [(0, .ref (Λ a0)), (1, .int x1), (2, .int x2), (3, .int x3), (5, .int x5)] [.int s0] := by
  intro M x5 s0  hf
  unfold m_X8_wanted_L112 at hf
  refine g_istore (pc := 112) (lv2 := [(4, .int s0), (0, .ref (Λ a0)), (1, .int x1), (2, .int x2), (3, .int x3), (5, .int x5)]) C dX8_wanted_112 (by decide) rfl ?_
  refine g_aload_n (pc := 114) C 1 dX8_wanted_114 rfl rfl ?_
  refine g_getR (pc := 115) (T := 9) C hf fgX8_22 (by decide) hk0 rfl dX8_wanted_115 (fun a11 hk11 hf => ?_)
  refine g_bipush (pc := 118) (v := (9 : Int32)) C dX8_wanted_118 (by decide) ?_
  refine g_iload (pc := 120) C 5 dX8_wanted_120 rfl ?_
  refine g_iconst (pc := 122) (v := (4 : Int32)) C dX8_wanted_122 (by decide) ?_
  refine g_idiv (pc := 123) C hf dX8_wanted_123 (fun hf => ?_)
  refine g_iadd (pc := 124) C dX8_wanted_124 ?_
  refine g_dup2 (pc := 125) C dX8_wanted_125 rfl rfl ?_
  refine g_iald (pc := 126) C hf hk11 dX8_wanted_126 (fun v12 hf => ?_)
  refine g_iconst (pc := 127) (v := (1 : Int32)) C dX8_wanted_127 (by decide) ?_
  refine g_iload (pc := 128) C 5 dX8_wanted_128 rfl ?_
  refine g_iconst (pc := 130) (v := (4 : Int32)) C dX8_wanted_130 (by decide) ?_
  refine g_irem (pc := 131) C hf dX8_wanted_131 (fun hf => ?_)
  refine g_ishl (pc := 132) C dX8_wanted_132 ?_
  refine g_ixor (pc := 133) C dX8_wanted_133 ?_
  refine g_iast (pc := 134) C hf hk11 dX8_wanted_134 (fun M13 hf => ?_)
  refine g_iinc (pc := 135) (v := (x5 + (-1 : Int32))) (lv2 := [(5, .int (x5 + (-1 : Int32))), (4, .int s0), (0, .ref (Λ a0)), (1, .int x1), (2, .int x2), (3, .int x3)]) C 5 dX8_wanted_135 rfl rfl (by decide) rfl ?_
  refine g_goto (pc := 138) (tgt := 65) C dX8_wanted_138 (by decide) ?_
  refine g_sub [2, 3, 4, 5, 1, 0] rfl ?_
  exact hK65 M13 s0 (x5 + (-1 : Int32))  hf

theorem w_X8_wanted_L65 {p : Program} {l : Launch} {e : Env} {s : State} {m : MethodId} {args : Array Value} {below : List Frame} {meth : Method} {c : Code} {D : va_G} {cy : Nat → ClassId} {Λ : Nat → Nat} (C : Cx p s m args meth c cX8_wanted 6 RX8 (some .int) D cy Λ (AA Λ s.heap.size)) {a0 : Nat} {x1 : Int32} {x2 : Int32} {x3 : Int32}  {r9 : Int32} {M9 : Mem} (hk0 : Is NN a0 9)  : ∀ (fu : Nat) (M : Mem) (x4 : Int32) (x5 : Int32), m_X8_wanted_L65 a0 x1 x2 x3 fu M x4 x5 = some (r9, M9) → GW p l e { frames := 7, cells := 0, slots := 0, locals := 167 } s m args below meth c D cy Λ 6 (QcI D cy Λ NN r9 M9) M 65 [(0, .ref (Λ a0)), (1, .int x1), (2, .int x2), (3, .int x3), (4, .int x4), (5, .int x5)] [] := by
  intro fu
  induction fu with
  | zero =>
    intro M x4 x5  hf
    cases hf
  | succ fu ih =>
    intro M x4 x5  hf
    unfold m_X8_wanted_L65 at hf
    refine g_iload (pc := 65) C 5 dX8_wanted_65 rfl ?_
    refine g_if_lt (pc := 67) (tgt := 141) C hf dX8_wanted_67 (by decide) (fun hf => ?_) (fun hf => ?_)
    · refine g_iconst (pc := 141) (v := (0 : Int32)) C dX8_wanted_141 (by decide) ?_
      refine g_istore (pc := 142) (lv2 := [(5, .int (0 : Int32)), (0, .ref (Λ a0)), (1, .int x1), (2, .int x2), (3, .int x3), (4, .int x4)]) C dX8_wanted_142 (by decide) rfl ?_
      refine g_sub [1, 2, 3, 4, 5, 0] rfl ?_
      exact w_X8_wanted_L144 C hk0 FU M x4 (0 : Int32)  hf
    refine g_aload_n (pc := 70) C 0 dX8_wanted_70 rfl rfl ?_
    refine g_getR (pc := 71) (T := 9) C hf fgX8_22 (by decide) hk0 rfl dX8_wanted_71 (fun a11 hk11 hf => ?_)
    refine g_bipush (pc := 74) (v := (9 : Int32)) C dX8_wanted_74 (by decide) ?_
    refine g_iload (pc := 76) C 5 dX8_wanted_76 rfl ?_
    refine g_iconst (pc := 78) (v := (4 : Int32)) C dX8_wanted_78 (by decide) ?_
    refine g_idiv (pc := 79) C hf dX8_wanted_79 (fun hf => ?_)
    refine g_iadd (pc := 80) C dX8_wanted_80 ?_
    refine g_dup2 (pc := 81) C dX8_wanted_81 rfl rfl ?_
    refine g_iald (pc := 82) C hf hk11 dX8_wanted_82 (fun v12 hf => ?_)
    refine g_iconst (pc := 83) (v := (1 : Int32)) C dX8_wanted_83 (by decide) ?_
    refine g_iload (pc := 84) C 5 dX8_wanted_84 rfl ?_
    refine g_iconst (pc := 86) (v := (4 : Int32)) C dX8_wanted_86 (by decide) ?_
    refine g_irem (pc := 87) C hf dX8_wanted_87 (fun hf => ?_)
    refine g_ishl (pc := 88) C dX8_wanted_88 ?_
    refine g_ixor (pc := 89) C dX8_wanted_89 ?_
    refine g_iast (pc := 90) C hf hk11 dX8_wanted_90 (fun M13 hf => ?_)
    refine g_aload_n (pc := 91) C 0 dX8_wanted_91 rfl rfl ?_
    obtain ⟨M14, h14, hf⟩ := ob hf
    refine g_resV (pc := 92) C (rnV (As := []) (st := []) C (c_X8_fills C.2.2.2.2.2.1 hk0 h14) lkX8_165 rfl (by decide) hk0 rfl rfl (Nat.le_of_ble_eq_true rfl) ⟨⟨rfl, rfl⟩, Nat.le_of_ble_eq_true rfl, Nat.le_of_ble_eq_true rfl⟩ ⟨Nat.le_of_ble_eq_true rfl, Nat.le_of_ble_eq_true rfl⟩ dX8_wanted_92) ?_
    refine g_aload_n (pc := 95) C 0 dX8_wanted_95 rfl rfl ?_
    refine g_iload_n (pc := 96) C 1 dX8_wanted_96 rfl rfl ?_
    refine g_iload_n (pc := 97) C 2 dX8_wanted_97 rfl rfl ?_
    obtain ⟨r15, h15, hf⟩ := ob hf
    refine g_resI (pc := 98) C (rnV (As := [.int x1, .int x2]) (st := []) C (c_X8_valueOf C.2.2.2.2.2.1 hk0 h15) lkX8_156 rfl (by decide) hk0 rfl rfl (Nat.le_of_ble_eq_true rfl) ⟨⟨rfl, rfl⟩, Nat.le_of_ble_eq_true rfl, Nat.le_of_ble_eq_true rfl⟩ ⟨Nat.le_of_ble_eq_true rfl, Nat.le_of_ble_eq_true rfl⟩ dX8_wanted_98) ?_
    refine g_iload_n (pc := 101) C 3 dX8_wanted_101 rfl rfl ?_
    refine g_ic_ne (pc := 102) (tgt := 110) C hf dX8_wanted_102 (by decide) (fun hf => ?_) (fun hf => ?_)
    · refine g_iload (pc := 105) C 5 dX8_wanted_105 rfl ?_
      refine g_goto (pc := 107) (tgt := 112) C dX8_wanted_107 (by decide) ?_
      refine g_sub [0, 1, 2, 3, 5] rfl ?_
      exact w_X8_wanted_L112 C hk0 ih M14 x5 x5  hf
    refine g_iload (pc := 110) C 4 dX8_wanted_110 rfl ?_
    refine g_sub [0, 1, 2, 3, 5] rfl ?_
    exact w_X8_wanted_L112 C hk0 ih M14 x5 x4  hf

theorem w_X8_wanted {p : Program} {l : Launch} {e : Env} {s : State} {m : MethodId} {args : Array Value} {below : List Frame} {meth : Method} {c : Code} {D : va_G} {cy : Nat → ClassId} {Λ : Nat → Nat} (C : Cx p s m args meth c cX8_wanted 6 RX8 (some .int) D cy Λ (AA Λ s.heap.size)) {M : Mem} {a0 : Nat} {x1 : Int32} {x2 : Int32} {x3 : Int32} {r9 : Int32} {M9 : Mem} (hk0 : Is NN a0 9) (hf : m_X8_wanted M a0 x1 x2 x3 = some (r9, M9)) : GW p l e { frames := 7, cells := 0, slots := 0, locals := 167 } s m args below meth c D cy Λ 6 (QcI D cy Λ NN r9 M9) M 0 [(0, .ref (Λ a0)), (1, .int x1), (2, .int x2), (3, .int x3)] [] := by
  unfold m_X8_wanted at hf
  refine g_aload_n (pc := 0) C 0 dX8_wanted_0 rfl rfl ?_
  refine g_iconst (pc := 1) (v := (0 : Int32)) C dX8_wanted_1 (by decide) ?_
  refine g_pI (pc := 2) C hf fpX8_56 (by decide) hk0 stX8_0 (Nat.le_of_ble_eq_true rfl) rfl rfl dX8_wanted_2 (fun M11 hf => ?_)
  refine g_aload_n (pc := 5) C 0 dX8_wanted_5 rfl rfl ?_
  refine g_iload_n (pc := 6) C 1 dX8_wanted_6 rfl rfl ?_
  obtain ⟨r12, h12, hf⟩ := ob hf
  refine g_resI (pc := 7) C (rnV (As := [.int x1]) (st := []) C (c_X8_isNode C.2.2.2.2.2.1 hk0 h12) lkX8_162 rfl (by decide) hk0 rfl rfl (Nat.le_of_ble_eq_true rfl) ⟨⟨rfl, rfl⟩, Nat.le_of_ble_eq_true rfl, Nat.le_of_ble_eq_true rfl⟩ ⟨Nat.le_of_ble_eq_true rfl, Nat.le_of_ble_eq_true rfl⟩ dX8_wanted_7) ?_
  refine g_if_eq (pc := 10) (tgt := 30) C hf dX8_wanted_10 (by decide) (fun hf => ?_) (fun hf => ?_)
  · refine g_bipush (pc := 30) (v := (-2 : Int32)) C dX8_wanted_30 (by decide) ?_
    exact g_iretM C hf dX8_wanted_32
  refine g_iload_n (pc := 13) C 2 dX8_wanted_13 rfl rfl ?_
  obtain ⟨r13, h13, hf⟩ := ob hf
  refine g_resI (pc := 14) C (rnS (As := [.int x2]) (st := []) C (c_X8_isFour C.2.2.2.2.2.1  h13) lkX8_177 rfl rfl (Nat.le_of_ble_eq_true rfl) ⟨⟨rfl, rfl⟩, Nat.le_of_ble_eq_true rfl, Nat.le_of_ble_eq_true rfl⟩ ⟨Nat.le_of_ble_eq_true rfl, Nat.le_of_ble_eq_true rfl⟩ dX8_wanted_14) ?_
  refine g_if_eq (pc := 17) (tgt := 30) C hf dX8_wanted_17 (by decide) (fun hf => ?_) (fun hf => ?_)
  · refine g_bipush (pc := 30) (v := (-2 : Int32)) C dX8_wanted_30 (by decide) ?_
    exact g_iretM C hf dX8_wanted_32
  refine g_iload_n (pc := 20) C 3 dX8_wanted_20 rfl rfl ?_
  refine g_iconst (pc := 21) (v := (0 : Int32)) C dX8_wanted_21 (by decide) ?_
  refine g_bipush (pc := 22) (v := (9 : Int32)) C dX8_wanted_22 (by decide) ?_
  obtain ⟨r14, h14, hf⟩ := ob hf
  refine g_resI (pc := 24) C (rnS (As := [.int x3, .int (0 : Int32), .int (9 : Int32)]) (st := []) C (c_X8_in C.2.2.2.2.2.1  h14) lkX8_60 rfl rfl (Nat.le_of_ble_eq_true rfl) ⟨⟨rfl, rfl⟩, Nat.le_of_ble_eq_true rfl, Nat.le_of_ble_eq_true rfl⟩ ⟨Nat.le_of_ble_eq_true rfl, Nat.le_of_ble_eq_true rfl⟩ dX8_wanted_24) ?_
  refine g_if_ne (pc := 27) (tgt := 33) C hf dX8_wanted_27 (by decide) (fun hf => ?_) (fun hf => ?_)
  · refine g_bipush (pc := 30) (v := (-2 : Int32)) C dX8_wanted_30 (by decide) ?_
    exact g_iretM C hf dX8_wanted_32
  refine g_aload_n (pc := 33) C 0 dX8_wanted_33 rfl rfl ?_
  obtain ⟨M15, h15, hf⟩ := ob hf
  refine g_resV (pc := 34) C (rnV (As := []) (st := []) C (c_X8_fills C.2.2.2.2.2.1 hk0 h15) lkX8_165 rfl (by decide) hk0 rfl rfl (Nat.le_of_ble_eq_true rfl) ⟨⟨rfl, rfl⟩, Nat.le_of_ble_eq_true rfl, Nat.le_of_ble_eq_true rfl⟩ ⟨Nat.le_of_ble_eq_true rfl, Nat.le_of_ble_eq_true rfl⟩ dX8_wanted_34) ?_
  refine g_aload_n (pc := 37) C 0 dX8_wanted_37 rfl rfl ?_
  refine g_iload_n (pc := 38) C 1 dX8_wanted_38 rfl rfl ?_
  refine g_iload_n (pc := 39) C 2 dX8_wanted_39 rfl rfl ?_
  obtain ⟨r16, h16, hf⟩ := ob hf
  refine g_resI (pc := 40) C (rnV (As := [.int x1, .int x2]) (st := []) C (c_X8_valueOf C.2.2.2.2.2.1 hk0 h16) lkX8_156 rfl (by decide) hk0 rfl rfl (Nat.le_of_ble_eq_true rfl) ⟨⟨rfl, rfl⟩, Nat.le_of_ble_eq_true rfl, Nat.le_of_ble_eq_true rfl⟩ ⟨Nat.le_of_ble_eq_true rfl, Nat.le_of_ble_eq_true rfl⟩ dX8_wanted_40) ?_
  refine g_iload_n (pc := 43) C 3 dX8_wanted_43 rfl rfl ?_
  refine g_ic_ne (pc := 44) (tgt := 49) C hf dX8_wanted_44 (by decide) (fun hf => ?_) (fun hf => ?_)
  · refine g_iconst (pc := 47) (v := (-1 : Int32)) C dX8_wanted_47 (by decide) ?_
    exact g_iretM C hf dX8_wanted_48
  refine g_bipush (pc := 49) (v := (-9 : Int32)) C dX8_wanted_49 (by decide) ?_
  refine g_istore (pc := 51) (lv2 := [(4, .int (-9 : Int32)), (0, .ref (Λ a0)), (1, .int x1), (2, .int x2), (3, .int x3)]) C dX8_wanted_51 (by decide) rfl ?_
  refine g_iconst (pc := 53) (v := (4 : Int32)) C dX8_wanted_53 (by decide) ?_
  refine g_aload_n (pc := 54) C 1 dX8_wanted_54 rfl rfl ?_
  refine g_getR (pc := 55) (T := 9) C hf fgX8_13 (by decide) hk0 rfl dX8_wanted_55 (fun a17 hk17 hf => ?_)
  refine g_iconst (pc := 58) (v := (0 : Int32)) C dX8_wanted_58 (by decide) ?_
  refine g_iald (pc := 59) C hf hk17 dX8_wanted_59 (fun v18 hf => ?_)
  refine g_imul (pc := 60) C dX8_wanted_60 ?_
  refine g_iconst (pc := 61) (v := (1 : Int32)) C dX8_wanted_61 (by decide) ?_
  refine g_isub (pc := 62) C dX8_wanted_62 ?_
  refine g_istore (pc := 63) (lv2 := [(5, .int (((4 : Int32) * v18) - (1 : Int32))), (4, .int (-9 : Int32)), (0, .ref (Λ a0)), (1, .int x1), (2, .int x2), (3, .int x3)]) C dX8_wanted_63 (by decide) rfl ?_
  refine g_sub [2, 3, 4, 5, 1, 0] rfl ?_
  exact w_X8_wanted_L65 C hk0 FU M15 (-9 : Int32) (((4 : Int32) * v18) - (1 : Int32))  hf

theorem c_X8_wanted {l : Launch} {D : va_G} {cy : Nat → ClassId} {Λ : Nat → Nat} (hi : ∀ i j : Nat, Λ i = Λ j → i = j) {M : Mem} {a0 : Nat} {x1 : Int32} {x2 : Int32} {x3 : Int32} {r9 : Int32} {M9 : Mem} (hk0 : Is NN a0 9) (hf : m_X8_wanted M a0 x1 x2 x3 = some (r9, M9)) : Ct l yX8_wanted cX8_wanted 6 (some .int) { frames := 7, cells := 0, slots := 0, locals := 167 } D cy Λ [.ref (Λ a0), .int x1, .int x2, .int x3] NN M 0 0 (QcI D cy Λ NN r9 M9) := ent (by decide) hi (Nat.le_of_ble_eq_true rfl) (fun p e s m args below meth c C => w_X8_wanted C hk0 hf)
theorem w_X8_sees {p : Program} {l : Launch} {e : Env} {s : State} {m : MethodId} {args : Array Value} {below : List Frame} {meth : Method} {c : Code} {D : va_G} {cy : Nat → ClassId} {Λ : Nat → Nat} (C : Cx p s m args meth c cX8_sees 4 RX8 (some .int) D cy Λ (AA Λ s.heap.size)) {M : Mem} {a0 : Nat} {x1 : Int32} {x2 : Int32} {x3 : Int32} {r9 : Int32} {M9 : Mem} (hk0 : Is NN a0 9) (hf : m_X8_sees M a0 x1 x2 x3 = some (r9, M9)) : GW p l e { frames := 2, cells := 0, slots := 0, locals := 43 } s m args below meth c D cy Λ 4 (QcI D cy Λ NN r9 M9) M 0 [(0, .ref (Λ a0)), (1, .int x1), (2, .int x2), (3, .int x3)] [] := by
  unfold m_X8_sees at hf
  refine g_aload_n (pc := 0) C 0 dX8_sees_0 rfl rfl ?_
  refine g_iconst (pc := 1) (v := (0 : Int32)) C dX8_sees_1 (by decide) ?_
  refine g_pI (pc := 2) C hf fpX8_56 (by decide) hk0 stX8_0 (Nat.le_of_ble_eq_true rfl) rfl rfl dX8_sees_2 (fun M11 hf => ?_)
  refine g_aload_n (pc := 5) C 0 dX8_sees_5 rfl rfl ?_
  refine g_iload_n (pc := 6) C 1 dX8_sees_6 rfl rfl ?_
  obtain ⟨r12, h12, hf⟩ := ob hf
  refine g_resI (pc := 7) C (rnV (As := [.int x1]) (st := []) C (c_X8_isNode C.2.2.2.2.2.1 hk0 h12) lkX8_162 rfl (by decide) hk0 rfl rfl (Nat.le_of_ble_eq_true rfl) ⟨⟨rfl, rfl⟩, Nat.le_of_ble_eq_true rfl, Nat.le_of_ble_eq_true rfl⟩ ⟨Nat.le_of_ble_eq_true rfl, Nat.le_of_ble_eq_true rfl⟩ dX8_sees_7) ?_
  refine g_if_eq (pc := 10) (tgt := 30) C hf dX8_sees_10 (by decide) (fun hf => ?_) (fun hf => ?_)
  · refine g_bipush (pc := 30) (v := (-2 : Int32)) C dX8_sees_30 (by decide) ?_
    exact g_iretM C hf dX8_sees_32
  refine g_iload_n (pc := 13) C 2 dX8_sees_13 rfl rfl ?_
  obtain ⟨r13, h13, hf⟩ := ob hf
  refine g_resI (pc := 14) C (rnS (As := [.int x2]) (st := []) C (c_X8_isFour C.2.2.2.2.2.1  h13) lkX8_177 rfl rfl (Nat.le_of_ble_eq_true rfl) ⟨⟨rfl, rfl⟩, Nat.le_of_ble_eq_true rfl, Nat.le_of_ble_eq_true rfl⟩ ⟨Nat.le_of_ble_eq_true rfl, Nat.le_of_ble_eq_true rfl⟩ dX8_sees_14) ?_
  refine g_if_eq (pc := 17) (tgt := 30) C hf dX8_sees_17 (by decide) (fun hf => ?_) (fun hf => ?_)
  · refine g_bipush (pc := 30) (v := (-2 : Int32)) C dX8_sees_30 (by decide) ?_
    exact g_iretM C hf dX8_sees_32
  refine g_iload_n (pc := 20) C 3 dX8_sees_20 rfl rfl ?_
  refine g_iconst (pc := 21) (v := (0 : Int32)) C dX8_sees_21 (by decide) ?_
  refine g_bipush (pc := 22) (v := (9 : Int32)) C dX8_sees_22 (by decide) ?_
  obtain ⟨r14, h14, hf⟩ := ob hf
  refine g_resI (pc := 24) C (rnS (As := [.int x3, .int (0 : Int32), .int (9 : Int32)]) (st := []) C (c_X8_in C.2.2.2.2.2.1  h14) lkX8_60 rfl rfl (Nat.le_of_ble_eq_true rfl) ⟨⟨rfl, rfl⟩, Nat.le_of_ble_eq_true rfl, Nat.le_of_ble_eq_true rfl⟩ ⟨Nat.le_of_ble_eq_true rfl, Nat.le_of_ble_eq_true rfl⟩ dX8_sees_24) ?_
  refine g_if_ne (pc := 27) (tgt := 33) C hf dX8_sees_27 (by decide) (fun hf => ?_) (fun hf => ?_)
  · refine g_bipush (pc := 30) (v := (-2 : Int32)) C dX8_sees_30 (by decide) ?_
    exact g_iretM C hf dX8_sees_32
  refine g_aload_n (pc := 33) C 0 dX8_sees_33 rfl rfl ?_
  refine g_getI (pc := 34) C fgX8_124 (by decide) hk0 rfl dX8_sees_34 ?_
  refine g_bipush (pc := 37) (v := (6 : Int32)) C dX8_sees_37 (by decide) ?_
  refine g_ic_ne (pc := 39) (tgt := 45) C hf dX8_sees_39 (by decide) (fun hf => ?_) (fun hf => ?_)
  · refine g_bipush (pc := 42) (v := (-4 : Int32)) C dX8_sees_42 (by decide) ?_
    exact g_iretM C hf dX8_sees_44
  refine g_aload_n (pc := 45) C 0 dX8_sees_45 rfl rfl ?_
  refine g_getR (pc := 46) (T := 9) C hf fgX8_35 (by decide) hk0 rfl dX8_sees_46 (fun a15 hk15 hf => ?_)
  refine g_aload_n (pc := 49) C 0 dX8_sees_49 rfl rfl ?_
  refine g_getI (pc := 50) C fgX8_124 (by decide) hk0 rfl dX8_sees_50 ?_
  refine g_iload_n (pc := 53) C 1 dX8_sees_53 rfl rfl ?_
  refine g_iast (pc := 54) C hf hk15 dX8_sees_54 (fun M16 hf => ?_)
  refine g_aload_n (pc := 55) C 0 dX8_sees_55 rfl rfl ?_
  refine g_getR (pc := 56) (T := 9) C hf fgX8_38 (by decide) hk0 rfl dX8_sees_56 (fun a17 hk17 hf => ?_)
  refine g_aload_n (pc := 59) C 0 dX8_sees_59 rfl rfl ?_
  refine g_getI (pc := 60) C fgX8_124 (by decide) hk0 rfl dX8_sees_60 ?_
  refine g_iload_n (pc := 63) C 2 dX8_sees_63 rfl rfl ?_
  refine g_iast (pc := 64) C hf hk17 dX8_sees_64 (fun M18 hf => ?_)
  refine g_aload_n (pc := 65) C 0 dX8_sees_65 rfl rfl ?_
  refine g_getR (pc := 66) (T := 9) C hf fgX8_41 (by decide) hk0 rfl dX8_sees_66 (fun a19 hk19 hf => ?_)
  refine g_aload_n (pc := 69) C 0 dX8_sees_69 rfl rfl ?_
  refine g_getI (pc := 70) C fgX8_124 (by decide) hk0 rfl dX8_sees_70 ?_
  refine g_iload_n (pc := 73) C 3 dX8_sees_73 rfl rfl ?_
  refine g_iast (pc := 74) C hf hk19 dX8_sees_74 (fun M20 hf => ?_)
  refine g_aload_n (pc := 75) C 0 dX8_sees_75 rfl rfl ?_
  refine g_dup (pc := 76) C dX8_sees_76 rfl ?_
  refine g_getI (pc := 77) C fgX8_124 (by decide) hk0 rfl dX8_sees_77 ?_
  refine g_iconst (pc := 80) (v := (1 : Int32)) C dX8_sees_80 (by decide) ?_
  refine g_iadd (pc := 81) C dX8_sees_81 ?_
  refine g_pI (pc := 82) C hf fpX8_124 (by decide) hk0 stX8_19 (Nat.le_of_ble_eq_true rfl) rfl rfl dX8_sees_82 (fun M21 hf => ?_)
  refine g_aload_n (pc := 85) C 0 dX8_sees_85 rfl rfl ?_
  refine g_getI (pc := 86) C fgX8_124 (by decide) hk0 rfl dX8_sees_86 ?_
  exact g_iretM C hf dX8_sees_89

theorem c_X8_sees {l : Launch} {D : va_G} {cy : Nat → ClassId} {Λ : Nat → Nat} (hi : ∀ i j : Nat, Λ i = Λ j → i = j) {M : Mem} {a0 : Nat} {x1 : Int32} {x2 : Int32} {x3 : Int32} {r9 : Int32} {M9 : Mem} (hk0 : Is NN a0 9) (hf : m_X8_sees M a0 x1 x2 x3 = some (r9, M9)) : Ct l yX8_sees cX8_sees 4 (some .int) { frames := 2, cells := 0, slots := 0, locals := 43 } D cy Λ [.ref (Λ a0), .int x1, .int x2, .int x3] NN M 0 0 (QcI D cy Λ NN r9 M9) := ent (by decide) hi (Nat.le_of_ble_eq_true rfl) (fun p e s m args below meth c C => w_X8_sees C hk0 hf)
theorem w_X8_forget {p : Program} {l : Launch} {e : Env} {s : State} {m : MethodId} {args : Array Value} {below : List Frame} {meth : Method} {c : Code} {D : va_G} {cy : Nat → ClassId} {Λ : Nat → Nat} (C : Cx p s m args meth c cX8_forget 2 RX8 (some .int) D cy Λ (AA Λ s.heap.size)) {M : Mem} {a0 : Nat} {r9 : Int32} {M9 : Mem} (hk0 : Is NN a0 9) (hf : m_X8_forget M a0 = some (r9, M9)) : GW p l e { frames := 0, cells := 0, slots := 0, locals := 0 } s m args below meth c D cy Λ 2 (QcI D cy Λ NN r9 M9) M 0 [(0, .ref (Λ a0))] [] := by
  unfold m_X8_forget at hf
  refine g_aload_n (pc := 0) C 0 dX8_forget_0 rfl rfl ?_
  refine g_iconst (pc := 1) (v := (0 : Int32)) C dX8_forget_1 (by decide) ?_
  refine g_pI (pc := 2) C hf fpX8_56 (by decide) hk0 stX8_0 (Nat.le_of_ble_eq_true rfl) rfl rfl dX8_forget_2 (fun M11 hf => ?_)
  refine g_aload_n (pc := 5) C 0 dX8_forget_5 rfl rfl ?_
  refine g_getI (pc := 6) C fgX8_124 (by decide) hk0 rfl dX8_forget_6 ?_
  refine g_istore_n (pc := 9) (lv2 := [(1, .int (M11.2 a0 19)), (0, .ref (Λ a0))]) C dX8_forget_9 rfl (by decide) rfl ?_
  refine g_aload_n (pc := 10) C 1 dX8_forget_10 rfl rfl ?_
  refine g_iconst (pc := 11) (v := (0 : Int32)) C dX8_forget_11 (by decide) ?_
  refine g_pI (pc := 12) C hf fpX8_124 (by decide) hk0 stX8_19 (Nat.le_of_ble_eq_true rfl) rfl rfl dX8_forget_12 (fun M12 hf => ?_)
  refine g_iload_n (pc := 15) C 0 dX8_forget_15 rfl rfl ?_
  exact g_iretM C hf dX8_forget_16

theorem c_X8_forget {l : Launch} {D : va_G} {cy : Nat → ClassId} {Λ : Nat → Nat} (hi : ∀ i j : Nat, Λ i = Λ j → i = j) {M : Mem} {a0 : Nat} {r9 : Int32} {M9 : Mem} (hk0 : Is NN a0 9) (hf : m_X8_forget M a0 = some (r9, M9)) : Ct l yX8_forget cX8_forget 2 (some .int) { frames := 0, cells := 0, slots := 0, locals := 0 } D cy Λ [.ref (Λ a0)] NN M 0 0 (QcI D cy Λ NN r9 M9) := ent (by decide) hi (Nat.le_of_ble_eq_true rfl) (fun p e s m args below meth c C => w_X8_forget C hk0 hf)
theorem w_X8_unseenSet_L19 {p : Program} {l : Launch} {e : Env} {s : State} {m : MethodId} {args : Array Value} {below : List Frame} {meth : Method} {c : Code} {D : va_G} {cy : Nat → ClassId} {Λ : Nat → Nat} (C : Cx p s m args meth c cX8_unseenSet 5 RX8 (some .int) D cy Λ (AA Λ s.heap.size)) {a0 : Nat} {k4 : Mem → Int32 → Int32 → Option (Int32 × Mem)} {r9 : Int32} {M9 : Mem} (hk0 : Is NN a0 9) (hK4 : ∀ (M : Mem) (x1 : Int32) (x2 : Int32), k4 M x1 x2 = some (r9, M9) → GW p l e { frames := 7, cells := 0, slots := 0, locals := 167 } s m args below meth c D cy Λ 5 (QcI D cy Λ NN r9 M9) M 4 [(0, .ref (Λ a0)), (1, .int x1), (2, .int x2)] []) : ∀ (fu : Nat) (M : Mem) (x1 : Int32) (x2 : Int32) (x3 : Int32) (x4 : Int32), m_X8_unseenSet_L19 a0 k4 fu M x1 x2 x3 x4 = some (r9, M9) → GW p l e { frames := 7, cells := 0, slots := 0, locals := 167 } s m args below meth c D cy Λ 5 (QcI D cy Λ NN r9 M9) M 19 [(0, .ref (Λ a0)), (1, .int x1), (2, .int x2), (3, .int x3), (4, .int x4)] [] := by
  intro fu
  induction fu with
  | zero =>
    intro M x1 x2 x3 x4  hf
    cases hf
  | succ fu ih =>
    intro M x1 x2 x3 x4  hf
    unfold m_X8_unseenSet_L19 at hf
    refine g_iload (pc := 19) C 4 dX8_unseenSet_19 rfl ?_
    refine g_aload_n (pc := 21) C 0 dX8_unseenSet_21 rfl rfl ?_
    refine g_getI (pc := 22) C fgX8_124 (by decide) hk0 rfl dX8_unseenSet_22 ?_
    refine g_ic_ge (pc := 25) (tgt := 73) C hf dX8_unseenSet_25 (by decide) (fun hf => ?_) (fun hf => ?_)
    · refine g_iload_n (pc := 73) C 1 dX8_unseenSet_73 rfl rfl ?_
      refine g_iload_n (pc := 74) C 3 dX8_unseenSet_74 rfl rfl ?_
      refine g_if_eq (pc := 75) (tgt := 84) C hf dX8_unseenSet_75 (by decide) (fun hf => ?_) (fun hf => ?_)
      · refine g_iconst (pc := 84) (v := (0 : Int32)) C dX8_unseenSet_84 (by decide) ?_
        refine g_ior (pc := 85) C dX8_unseenSet_85 ?_
        refine g_istore_n (pc := 86) (lv2 := [(1, .int (x1 ||| (0 : Int32))), (0, .ref (Λ a0)), (2, .int x2), (3, .int x3), (4, .int x4)]) C dX8_unseenSet_86 rfl (by decide) rfl ?_
        refine g_iinc (pc := 87) (v := (x2 + (1 : Int32))) (lv2 := [(2, .int (x2 + (1 : Int32))), (1, .int (x1 ||| (0 : Int32))), (0, .ref (Λ a0)), (3, .int x3), (4, .int x4)]) C 2 dX8_unseenSet_87 rfl rfl (by decide) rfl ?_
        refine g_goto (pc := 90) (tgt := 4) C dX8_unseenSet_90 (by decide) ?_
        refine g_sub [2, 1, 0] rfl ?_
        exact hK4 M (x1 ||| (0 : Int32)) (x2 + (1 : Int32))  hf
      refine g_iconst (pc := 78) (v := (1 : Int32)) C dX8_unseenSet_78 (by decide) ?_
      refine g_iload_n (pc := 79) C 2 dX8_unseenSet_79 rfl rfl ?_
      refine g_ishl (pc := 80) C dX8_unseenSet_80 ?_
      refine g_goto (pc := 81) (tgt := 85) C dX8_unseenSet_81 (by decide) ?_
      refine g_ior (pc := 85) C dX8_unseenSet_85 ?_
      refine g_istore_n (pc := 86) (lv2 := [(1, .int (x1 ||| ((1 : Int32) <<< (x2 &&& 31)))), (0, .ref (Λ a0)), (2, .int x2), (3, .int x3), (4, .int x4)]) C dX8_unseenSet_86 rfl (by decide) rfl ?_
      refine g_iinc (pc := 87) (v := (x2 + (1 : Int32))) (lv2 := [(2, .int (x2 + (1 : Int32))), (1, .int (x1 ||| ((1 : Int32) <<< (x2 &&& 31)))), (0, .ref (Λ a0)), (3, .int x3), (4, .int x4)]) C 2 dX8_unseenSet_87 rfl rfl (by decide) rfl ?_
      refine g_goto (pc := 90) (tgt := 4) C dX8_unseenSet_90 (by decide) ?_
      refine g_sub [2, 1, 0] rfl ?_
      exact hK4 M (x1 ||| ((1 : Int32) <<< (x2 &&& 31))) (x2 + (1 : Int32))  hf
    refine g_iload_n (pc := 28) C 3 dX8_unseenSet_28 rfl rfl ?_
    refine g_if_eq (pc := 29) (tgt := 65) C hf dX8_unseenSet_29 (by decide) (fun hf => ?_) (fun hf => ?_)
    · refine g_iconst (pc := 65) (v := (0 : Int32)) C dX8_unseenSet_65 (by decide) ?_
      refine g_istore_n (pc := 66) (lv2 := [(3, .int (0 : Int32)), (0, .ref (Λ a0)), (1, .int x1), (2, .int x2), (4, .int x4)]) C dX8_unseenSet_66 rfl (by decide) rfl ?_
      refine g_iinc (pc := 67) (v := (x4 + (1 : Int32))) (lv2 := [(4, .int (x4 + (1 : Int32))), (3, .int (0 : Int32)), (0, .ref (Λ a0)), (1, .int x1), (2, .int x2)]) C 4 dX8_unseenSet_67 rfl rfl (by decide) rfl ?_
      refine g_goto (pc := 70) (tgt := 19) C dX8_unseenSet_70 (by decide) ?_
      refine g_sub [2, 3, 4, 1, 0] rfl ?_
      exact ih M x1 x2 (0 : Int32) (x4 + (1 : Int32))  hf
    refine g_aload_n (pc := 32) C 0 dX8_unseenSet_32 rfl rfl ?_
    refine g_iload_n (pc := 33) C 2 dX8_unseenSet_33 rfl rfl ?_
    refine g_aload_n (pc := 34) C 0 dX8_unseenSet_34 rfl rfl ?_
    refine g_getR (pc := 35) (T := 9) C hf fgX8_35 (by decide) hk0 rfl dX8_unseenSet_35 (fun a11 hk11 hf => ?_)
    refine g_iload (pc := 38) C 4 dX8_unseenSet_38 rfl ?_
    refine g_iald (pc := 40) C hf hk11 dX8_unseenSet_40 (fun v12 hf => ?_)
    refine g_aload_n (pc := 41) C 0 dX8_unseenSet_41 rfl rfl ?_
    refine g_getR (pc := 42) (T := 9) C hf fgX8_38 (by decide) hk0 rfl dX8_unseenSet_42 (fun a13 hk13 hf => ?_)
    refine g_iload (pc := 45) C 4 dX8_unseenSet_45 rfl ?_
    refine g_iald (pc := 47) C hf hk13 dX8_unseenSet_47 (fun v14 hf => ?_)
    obtain ⟨r15, M15, h15, hf⟩ := ob2 hf
    refine g_resI (pc := 48) C (rnV (As := [.int x2, .int v12, .int v14]) (st := []) C (c_X8_valueBy C.2.2.2.2.2.1 hk0 h15) lkX8_189 rfl (by decide) hk0 rfl rfl (Nat.le_of_ble_eq_true rfl) ⟨⟨rfl, rfl⟩, Nat.le_of_ble_eq_true rfl, Nat.le_of_ble_eq_true rfl⟩ ⟨Nat.le_of_ble_eq_true rfl, Nat.le_of_ble_eq_true rfl⟩ dX8_unseenSet_48) ?_
    refine g_aload_n (pc := 51) C 0 dX8_unseenSet_51 rfl rfl ?_
    refine g_getR (pc := 52) (T := 9) C hf fgX8_41 (by decide) hk0 rfl dX8_unseenSet_52 (fun a16 hk16 hf => ?_)
    refine g_iload (pc := 55) C 4 dX8_unseenSet_55 rfl ?_
    refine g_iald (pc := 57) C hf hk16 dX8_unseenSet_57 (fun v17 hf => ?_)
    refine g_ic_ne (pc := 58) (tgt := 65) C hf dX8_unseenSet_58 (by decide) (fun hf => ?_) (fun hf => ?_)
    · refine g_iconst (pc := 61) (v := (1 : Int32)) C dX8_unseenSet_61 (by decide) ?_
      refine g_goto (pc := 62) (tgt := 66) C dX8_unseenSet_62 (by decide) ?_
      refine g_istore_n (pc := 66) (lv2 := [(3, .int (1 : Int32)), (0, .ref (Λ a0)), (1, .int x1), (2, .int x2), (4, .int x4)]) C dX8_unseenSet_66 rfl (by decide) rfl ?_
      refine g_iinc (pc := 67) (v := (x4 + (1 : Int32))) (lv2 := [(4, .int (x4 + (1 : Int32))), (3, .int (1 : Int32)), (0, .ref (Λ a0)), (1, .int x1), (2, .int x2)]) C 4 dX8_unseenSet_67 rfl rfl (by decide) rfl ?_
      refine g_goto (pc := 70) (tgt := 19) C dX8_unseenSet_70 (by decide) ?_
      refine g_sub [2, 3, 4, 1, 0] rfl ?_
      exact ih M15 x1 x2 (1 : Int32) (x4 + (1 : Int32))  hf
    refine g_iconst (pc := 65) (v := (0 : Int32)) C dX8_unseenSet_65 (by decide) ?_
    refine g_istore_n (pc := 66) (lv2 := [(3, .int (0 : Int32)), (0, .ref (Λ a0)), (1, .int x1), (2, .int x2), (4, .int x4)]) C dX8_unseenSet_66 rfl (by decide) rfl ?_
    refine g_iinc (pc := 67) (v := (x4 + (1 : Int32))) (lv2 := [(4, .int (x4 + (1 : Int32))), (3, .int (0 : Int32)), (0, .ref (Λ a0)), (1, .int x1), (2, .int x2)]) C 4 dX8_unseenSet_67 rfl rfl (by decide) rfl ?_
    refine g_goto (pc := 70) (tgt := 19) C dX8_unseenSet_70 (by decide) ?_
    refine g_sub [2, 3, 4, 1, 0] rfl ?_
    exact ih M15 x1 x2 (0 : Int32) (x4 + (1 : Int32))  hf

theorem w_X8_unseenSet_L4 {p : Program} {l : Launch} {e : Env} {s : State} {m : MethodId} {args : Array Value} {below : List Frame} {meth : Method} {c : Code} {D : va_G} {cy : Nat → ClassId} {Λ : Nat → Nat} (C : Cx p s m args meth c cX8_unseenSet 5 RX8 (some .int) D cy Λ (AA Λ s.heap.size)) {a0 : Nat}  {r9 : Int32} {M9 : Mem} (hk0 : Is NN a0 9)  : ∀ (fu : Nat) (M : Mem) (x1 : Int32) (x2 : Int32), m_X8_unseenSet_L4 a0 fu M x1 x2 = some (r9, M9) → GW p l e { frames := 7, cells := 0, slots := 0, locals := 167 } s m args below meth c D cy Λ 5 (QcI D cy Λ NN r9 M9) M 4 [(0, .ref (Λ a0)), (1, .int x1), (2, .int x2)] [] := by
  intro fu
  induction fu with
  | zero =>
    intro M x1 x2  hf
    cases hf
  | succ fu ih =>
    intro M x1 x2  hf
    unfold m_X8_unseenSet_L4 at hf
    refine g_iload_n (pc := 4) C 2 dX8_unseenSet_4 rfl rfl ?_
    refine g_aload_n (pc := 5) C 0 dX8_unseenSet_5 rfl rfl ?_
    refine g_getR (pc := 6) (T := 9) C hf fgX8_13 (by decide) hk0 rfl dX8_unseenSet_6 (fun a11 hk11 hf => ?_)
    refine g_iconst (pc := 9) (v := (1 : Int32)) C dX8_unseenSet_9 (by decide) ?_
    refine g_iald (pc := 10) C hf hk11 dX8_unseenSet_10 (fun v12 hf => ?_)
    refine g_ic_ge (pc := 11) (tgt := 93) C hf dX8_unseenSet_11 (by decide) (fun hf => ?_) (fun hf => ?_)
    · refine g_iload_n (pc := 93) C 1 dX8_unseenSet_93 rfl rfl ?_
      exact g_iretM C hf dX8_unseenSet_94
    refine g_iconst (pc := 14) (v := (1 : Int32)) C dX8_unseenSet_14 (by decide) ?_
    refine g_istore_n (pc := 15) (lv2 := [(3, .int (1 : Int32)), (0, .ref (Λ a0)), (1, .int x1), (2, .int x2)]) C dX8_unseenSet_15 rfl (by decide) rfl ?_
    refine g_iconst (pc := 16) (v := (0 : Int32)) C dX8_unseenSet_16 (by decide) ?_
    refine g_istore (pc := 17) (lv2 := [(4, .int (0 : Int32)), (3, .int (1 : Int32)), (0, .ref (Λ a0)), (1, .int x1), (2, .int x2)]) C dX8_unseenSet_17 (by decide) rfl ?_
    refine g_sub [2, 3, 4, 1, 0] rfl ?_
    exact w_X8_unseenSet_L19 C hk0 ih FU M x1 x2 (1 : Int32) (0 : Int32)  hf

theorem w_X8_unseenSet {p : Program} {l : Launch} {e : Env} {s : State} {m : MethodId} {args : Array Value} {below : List Frame} {meth : Method} {c : Code} {D : va_G} {cy : Nat → ClassId} {Λ : Nat → Nat} (C : Cx p s m args meth c cX8_unseenSet 5 RX8 (some .int) D cy Λ (AA Λ s.heap.size)) {M : Mem} {a0 : Nat} {r9 : Int32} {M9 : Mem} (hk0 : Is NN a0 9) (hf : m_X8_unseenSet M a0 = some (r9, M9)) : GW p l e { frames := 7, cells := 0, slots := 0, locals := 167 } s m args below meth c D cy Λ 5 (QcI D cy Λ NN r9 M9) M 0 [(0, .ref (Λ a0))] [] := by
  unfold m_X8_unseenSet at hf
  refine g_iconst (pc := 0) (v := (0 : Int32)) C dX8_unseenSet_0 (by decide) ?_
  refine g_istore_n (pc := 1) (lv2 := [(1, .int (0 : Int32)), (0, .ref (Λ a0))]) C dX8_unseenSet_1 rfl (by decide) rfl ?_
  refine g_iconst (pc := 2) (v := (0 : Int32)) C dX8_unseenSet_2 (by decide) ?_
  refine g_istore_n (pc := 3) (lv2 := [(2, .int (0 : Int32)), (1, .int (0 : Int32)), (0, .ref (Λ a0))]) C dX8_unseenSet_3 rfl (by decide) rfl ?_
  refine g_sub [2, 1, 0] rfl ?_
  exact w_X8_unseenSet_L4 C hk0 FU M (0 : Int32) (0 : Int32)  hf

theorem c_X8_unseenSet {l : Launch} {D : va_G} {cy : Nat → ClassId} {Λ : Nat → Nat} (hi : ∀ i j : Nat, Λ i = Λ j → i = j) {M : Mem} {a0 : Nat} {r9 : Int32} {M9 : Mem} (hk0 : Is NN a0 9) (hf : m_X8_unseenSet M a0 = some (r9, M9)) : Ct l yX8_unseenSet cX8_unseenSet 5 (some .int) { frames := 7, cells := 0, slots := 0, locals := 167 } D cy Λ [.ref (Λ a0)] NN M 0 0 (QcI D cy Λ NN r9 M9) := ent (by decide) hi (Nat.le_of_ble_eq_true rfl) (fun p e s m args below meth c C => w_X8_unseenSet C hk0 hf)
theorem w_X8_unseen {p : Program} {l : Launch} {e : Env} {s : State} {m : MethodId} {args : Array Value} {below : List Frame} {meth : Method} {c : Code} {D : va_G} {cy : Nat → ClassId} {Λ : Nat → Nat} (C : Cx p s m args meth c cX8_unseen 1 RX8 (some .int) D cy Λ (AA Λ s.heap.size)) {M : Mem} {a0 : Nat} {r9 : Int32} {M9 : Mem} (hk0 : Is NN a0 9) (hf : m_X8_unseen M a0 = some (r9, M9)) : GW p l e { frames := 8, cells := 0, slots := 0, locals := 191 } s m args below meth c D cy Λ 1 (QcI D cy Λ NN r9 M9) M 0 [(0, .ref (Λ a0))] [] := by
  unfold m_X8_unseen at hf
  refine g_aload_n (pc := 0) C 0 dX8_unseen_0 rfl rfl ?_
  refine g_iconst (pc := 1) (v := (0 : Int32)) C dX8_unseen_1 (by decide) ?_
  refine g_pI (pc := 2) C hf fpX8_56 (by decide) hk0 stX8_0 (Nat.le_of_ble_eq_true rfl) rfl rfl dX8_unseen_2 (fun M11 hf => ?_)
  refine g_aload_n (pc := 5) C 0 dX8_unseen_5 rfl rfl ?_
  obtain ⟨r12, M12, h12, hf⟩ := ob2 hf
  refine g_resI (pc := 6) C (rnV (As := []) (st := []) C (c_X8_unseenSet C.2.2.2.2.2.1 hk0 h12) lkX8_192 rfl (by decide) hk0 rfl rfl (Nat.le_of_ble_eq_true rfl) ⟨⟨rfl, rfl⟩, Nat.le_of_ble_eq_true rfl, Nat.le_of_ble_eq_true rfl⟩ ⟨Nat.le_of_ble_eq_true rfl, Nat.le_of_ble_eq_true rfl⟩ dX8_unseen_6) ?_
  exact g_iretM C hf dX8_unseen_9

theorem c_X8_unseen {l : Launch} {D : va_G} {cy : Nat → ClassId} {Λ : Nat → Nat} (hi : ∀ i j : Nat, Λ i = Λ j → i = j) {M : Mem} {a0 : Nat} {r9 : Int32} {M9 : Mem} (hk0 : Is NN a0 9) (hf : m_X8_unseen M a0 = some (r9, M9)) : Ct l yX8_unseen cX8_unseen 1 (some .int) { frames := 8, cells := 0, slots := 0, locals := 191 } D cy Λ [.ref (Λ a0)] NN M 0 0 (QcI D cy Λ NN r9 M9) := ent (by decide) hi (Nat.le_of_ble_eq_true rfl) (fun p e s m args below meth c C => w_X8_unseen C hk0 hf)
theorem w_X8_ask_L111 {p : Program} {l : Launch} {e : Env} {s : State} {m : MethodId} {args : Array Value} {below : List Frame} {meth : Method} {c : Code} {D : va_G} {cy : Nat → ClassId} {Λ : Nat → Nat} (C : Cx p s m args meth c cX8_ask 7 RX8 (some .int) D cy Λ (AA Λ s.heap.size)) {a0 : Nat} {k18 : Mem → Int32 → Int32 → Int32 → Int32 → Option (Int32 × Mem)} {r9 : Int32} {M9 : Mem} (hk0 : Is NN a0 9) (hK18 : ∀ (M : Mem) (x1 : Int32) (x2 : Int32) (x3 : Int32) (x4 : Int32), k18 M x1 x2 x3 x4 = some (r9, M9) → GW p l e { frames := 8, cells := 0, slots := 0, locals := 191 } s m args below meth c D cy Λ 7 (QcI D cy Λ NN r9 M9) M 18 [(0, .ref (Λ a0)), (1, .int x1), (2, .int x2), (3, .int x3), (4, .int x4)] []) : ∀ (M : Mem) (x1 : Int32) (x3 : Int32) (x4 : Int32) (x5 : Int32) (s0 : Int32), m_X8_ask_L111 a0 k18 M x1 x3 x4 x5 s0 = some (r9, M9) → GW p l e { frames := 8, cells := 0, slots := 0, locals := 191 } s m args below meth c D cy Λ 7 (QcI D cy Λ NN r9 M9) M 111 [(0, .ref (Λ a0)), (1, .int x1), (3, .int x3), (4, .int x4), (5, .int x5)] [.int s0] := by
  intro M x1 x3 x4 x5 s0  hf
  unfold m_X8_ask_L111 at hf
  refine g_istore_n (pc := 111) (lv2 := [(2, .int s0), (0, .ref (Λ a0)), (1, .int x1), (3, .int x3), (4, .int x4), (5, .int x5)]) C dX8_ask_111 rfl (by decide) rfl ?_
  refine g_iload (pc := 112) C 5 dX8_ask_112 rfl ?_
  obtain ⟨r11, h11, hf⟩ := ob hf
  refine g_resI (pc := 114) C (rnS (As := [.int x5]) (st := []) C (c_X8_ones C.2.2.2.2.2.1  h11) lkX8_137 rfl rfl (Nat.le_of_ble_eq_true rfl) ⟨⟨rfl, rfl⟩, Nat.le_of_ble_eq_true rfl, Nat.le_of_ble_eq_true rfl⟩ ⟨Nat.le_of_ble_eq_true rfl, Nat.le_of_ble_eq_true rfl⟩ dX8_ask_114) ?_
  refine g_iload_n (pc := 117) C 3 dX8_ask_117 rfl rfl ?_
  refine g_ic_le (pc := 118) (tgt := 129) C hf dX8_ask_118 (by decide) (fun hf => ?_) (fun hf => ?_)
  · refine g_iload_n (pc := 129) C 3 dX8_ask_129 rfl rfl ?_
    refine g_istore_n (pc := 130) (lv2 := [(3, .int x3), (2, .int s0), (0, .ref (Λ a0)), (1, .int x1), (4, .int x4), (5, .int x5)]) C dX8_ask_130 rfl (by decide) rfl ?_
    refine g_iinc (pc := 131) (v := (x4 + (1 : Int32))) (lv2 := [(4, .int (x4 + (1 : Int32))), (3, .int x3), (2, .int s0), (0, .ref (Λ a0)), (1, .int x1), (5, .int x5)]) C 4 dX8_ask_131 rfl rfl (by decide) rfl ?_
    refine g_goto (pc := 134) (tgt := 18) C dX8_ask_134 (by decide) ?_
    refine g_sub [3, 4, 2, 1, 0] rfl ?_
    exact hK18 M x1 s0 x3 (x4 + (1 : Int32))  hf
  refine g_iload (pc := 121) C 5 dX8_ask_121 rfl ?_
  obtain ⟨r12, h12, hf⟩ := ob hf
  refine g_resI (pc := 123) C (rnS (As := [.int x5]) (st := []) C (c_X8_ones C.2.2.2.2.2.1  h12) lkX8_137 rfl rfl (Nat.le_of_ble_eq_true rfl) ⟨⟨rfl, rfl⟩, Nat.le_of_ble_eq_true rfl, Nat.le_of_ble_eq_true rfl⟩ ⟨Nat.le_of_ble_eq_true rfl, Nat.le_of_ble_eq_true rfl⟩ dX8_ask_123) ?_
  refine g_goto (pc := 126) (tgt := 130) C dX8_ask_126 (by decide) ?_
  refine g_istore_n (pc := 130) (lv2 := [(3, .int r12), (2, .int s0), (0, .ref (Λ a0)), (1, .int x1), (4, .int x4), (5, .int x5)]) C dX8_ask_130 rfl (by decide) rfl ?_
  refine g_iinc (pc := 131) (v := (x4 + (1 : Int32))) (lv2 := [(4, .int (x4 + (1 : Int32))), (3, .int r12), (2, .int s0), (0, .ref (Λ a0)), (1, .int x1), (5, .int x5)]) C 4 dX8_ask_131 rfl rfl (by decide) rfl ?_
  refine g_goto (pc := 134) (tgt := 18) C dX8_ask_134 (by decide) ?_
  refine g_sub [3, 4, 2, 1, 0] rfl ?_
  exact hK18 M x1 s0 r12 (x4 + (1 : Int32))  hf

theorem w_X8_ask_L45 {p : Program} {l : Launch} {e : Env} {s : State} {m : MethodId} {args : Array Value} {below : List Frame} {meth : Method} {c : Code} {D : va_G} {cy : Nat → ClassId} {Λ : Nat → Nat} (C : Cx p s m args meth c cX8_ask 7 RX8 (some .int) D cy Λ (AA Λ s.heap.size)) {a0 : Nat} {k18 : Mem → Int32 → Int32 → Int32 → Int32 → Option (Int32 × Mem)} {r9 : Int32} {M9 : Mem} (hk0 : Is NN a0 9) (hK18 : ∀ (M : Mem) (x1 : Int32) (x2 : Int32) (x3 : Int32) (x4 : Int32), k18 M x1 x2 x3 x4 = some (r9, M9) → GW p l e { frames := 8, cells := 0, slots := 0, locals := 191 } s m args below meth c D cy Λ 7 (QcI D cy Λ NN r9 M9) M 18 [(0, .ref (Λ a0)), (1, .int x1), (2, .int x2), (3, .int x3), (4, .int x4)] []) : ∀ (fu : Nat) (M : Mem) (x1 : Int32) (x2 : Int32) (x3 : Int32) (x4 : Int32) (x5 : Int32) (x6 : Int32), m_X8_ask_L45 a0 k18 fu M x1 x2 x3 x4 x5 x6 = some (r9, M9) → GW p l e { frames := 8, cells := 0, slots := 0, locals := 191 } s m args below meth c D cy Λ 7 (QcI D cy Λ NN r9 M9) M 45 [(0, .ref (Λ a0)), (1, .int x1), (2, .int x2), (3, .int x3), (4, .int x4), (5, .int x5), (6, .int x6)] [] := by
  intro fu
  induction fu with
  | zero =>
    intro M x1 x2 x3 x4 x5 x6  hf
    cases hf
  | succ fu ih =>
    intro M x1 x2 x3 x4 x5 x6  hf
    unfold m_X8_ask_L45 at hf
    refine g_iload (pc := 45) C 6 dX8_ask_45 rfl ?_
    refine g_aload_n (pc := 47) C 0 dX8_ask_47 rfl rfl ?_
    refine g_getR (pc := 48) (T := 9) C hf fgX8_13 (by decide) hk0 rfl dX8_ask_48 (fun a11 hk11 hf => ?_)
    refine g_iconst (pc := 51) (v := (1 : Int32)) C dX8_ask_51 (by decide) ?_
    refine g_iald (pc := 52) C hf hk11 dX8_ask_52 (fun v12 hf => ?_)
    refine g_ic_ge (pc := 53) (tgt := 96) C hf dX8_ask_53 (by decide) (fun hf => ?_) (fun hf => ?_)
    · refine g_iload (pc := 96) C 5 dX8_ask_96 rfl ?_
      obtain ⟨r13, h13, hf⟩ := ob hf
      refine g_resI (pc := 98) C (rnS (As := [.int x5]) (st := []) C (c_X8_ones C.2.2.2.2.2.1  h13) lkX8_137 rfl rfl (Nat.le_of_ble_eq_true rfl) ⟨⟨rfl, rfl⟩, Nat.le_of_ble_eq_true rfl, Nat.le_of_ble_eq_true rfl⟩ ⟨Nat.le_of_ble_eq_true rfl, Nat.le_of_ble_eq_true rfl⟩ dX8_ask_98) ?_
      refine g_iload_n (pc := 101) C 3 dX8_ask_101 rfl rfl ?_
      refine g_ic_le (pc := 102) (tgt := 110) C hf dX8_ask_102 (by decide) (fun hf => ?_) (fun hf => ?_)
      · refine g_iload_n (pc := 110) C 2 dX8_ask_110 rfl rfl ?_
        refine g_sub [0, 1, 3, 4, 5] rfl ?_
        exact w_X8_ask_L111 C hk0 hK18 M x1 x3 x4 x5 x2  hf
      refine g_iload (pc := 105) C 4 dX8_ask_105 rfl ?_
      refine g_goto (pc := 107) (tgt := 111) C dX8_ask_107 (by decide) ?_
      refine g_sub [0, 1, 3, 4, 5] rfl ?_
      exact w_X8_ask_L111 C hk0 hK18 M x1 x3 x4 x5 x4  hf
    refine g_iload (pc := 56) C 5 dX8_ask_56 rfl ?_
    refine g_iload_n (pc := 58) C 1 dX8_ask_58 rfl rfl ?_
    refine g_iload (pc := 59) C 6 dX8_ask_59 rfl ?_
    obtain ⟨r14, h14, hf⟩ := ob hf
    refine g_resI (pc := 61) C (rnS (As := [.int x1, .int x6]) (st := [.int x5]) C (c_X8_has C.2.2.2.2.2.1  h14) lkX8_105 rfl rfl (Nat.le_of_ble_eq_true rfl) ⟨⟨rfl, rfl⟩, Nat.le_of_ble_eq_true rfl, Nat.le_of_ble_eq_true rfl⟩ ⟨Nat.le_of_ble_eq_true rfl, Nat.le_of_ble_eq_true rfl⟩ dX8_ask_61) ?_
    refine g_if_eq (pc := 64) (tgt := 86) C hf dX8_ask_64 (by decide) (fun hf => ?_) (fun hf => ?_)
    · refine g_iconst (pc := 86) (v := (0 : Int32)) C dX8_ask_86 (by decide) ?_
      refine g_ior (pc := 87) C dX8_ask_87 ?_
      refine g_istore (pc := 88) (lv2 := [(5, .int (x5 ||| (0 : Int32))), (0, .ref (Λ a0)), (1, .int x1), (2, .int x2), (3, .int x3), (4, .int x4), (6, .int x6)]) C dX8_ask_88 (by decide) rfl ?_
      refine g_iinc (pc := 90) (v := (x6 + (1 : Int32))) (lv2 := [(6, .int (x6 + (1 : Int32))), (5, .int (x5 ||| (0 : Int32))), (0, .ref (Λ a0)), (1, .int x1), (2, .int x2), (3, .int x3), (4, .int x4)]) C 6 dX8_ask_90 rfl rfl (by decide) rfl ?_
      refine g_goto (pc := 93) (tgt := 45) C dX8_ask_93 (by decide) ?_
      refine g_sub [2, 3, 4, 5, 6, 1, 0] rfl ?_
      exact ih M x1 x2 x3 x4 (x5 ||| (0 : Int32)) (x6 + (1 : Int32))  hf
    refine g_iconst (pc := 67) (v := (1 : Int32)) C dX8_ask_67 (by decide) ?_
    refine g_aload_n (pc := 68) C 0 dX8_ask_68 rfl rfl ?_
    refine g_iload (pc := 69) C 6 dX8_ask_69 rfl ?_
    refine g_iload (pc := 71) C 4 dX8_ask_71 rfl ?_
    refine g_iconst (pc := 73) (v := (4 : Int32)) C dX8_ask_73 (by decide) ?_
    refine g_idiv (pc := 74) C hf dX8_ask_74 (fun hf => ?_)
    refine g_iload (pc := 75) C 4 dX8_ask_75 rfl ?_
    refine g_iconst (pc := 77) (v := (4 : Int32)) C dX8_ask_77 (by decide) ?_
    refine g_irem (pc := 78) C hf dX8_ask_78 (fun hf => ?_)
    obtain ⟨r15, M15, h15, hf⟩ := ob2 hf
    refine g_resI (pc := 79) C (rnV (As := [.int x6, .int (x4 / (4 : Int32)), .int (x4 - x4 / (4 : Int32) * (4 : Int32))]) (st := [.int (1 : Int32), .int x5]) C (c_X8_valueBy C.2.2.2.2.2.1 hk0 h15) lkX8_189 rfl (by decide) hk0 rfl rfl (Nat.le_of_ble_eq_true rfl) ⟨⟨rfl, rfl⟩, Nat.le_of_ble_eq_true rfl, Nat.le_of_ble_eq_true rfl⟩ ⟨Nat.le_of_ble_eq_true rfl, Nat.le_of_ble_eq_true rfl⟩ dX8_ask_79) ?_
    refine g_ishl (pc := 82) C dX8_ask_82 ?_
    refine g_goto (pc := 83) (tgt := 87) C dX8_ask_83 (by decide) ?_
    refine g_ior (pc := 87) C dX8_ask_87 ?_
    refine g_istore (pc := 88) (lv2 := [(5, .int (x5 ||| ((1 : Int32) <<< (r15 &&& 31)))), (0, .ref (Λ a0)), (1, .int x1), (2, .int x2), (3, .int x3), (4, .int x4), (6, .int x6)]) C dX8_ask_88 (by decide) rfl ?_
    refine g_iinc (pc := 90) (v := (x6 + (1 : Int32))) (lv2 := [(6, .int (x6 + (1 : Int32))), (5, .int (x5 ||| ((1 : Int32) <<< (r15 &&& 31)))), (0, .ref (Λ a0)), (1, .int x1), (2, .int x2), (3, .int x3), (4, .int x4)]) C 6 dX8_ask_90 rfl rfl (by decide) rfl ?_
    refine g_goto (pc := 93) (tgt := 45) C dX8_ask_93 (by decide) ?_
    refine g_sub [2, 3, 4, 5, 6, 1, 0] rfl ?_
    exact ih M15 x1 x2 x3 x4 (x5 ||| ((1 : Int32) <<< (r15 &&& 31))) (x6 + (1 : Int32))  hf

theorem w_X8_ask_L18 {p : Program} {l : Launch} {e : Env} {s : State} {m : MethodId} {args : Array Value} {below : List Frame} {meth : Method} {c : Code} {D : va_G} {cy : Nat → ClassId} {Λ : Nat → Nat} (C : Cx p s m args meth c cX8_ask 7 RX8 (some .int) D cy Λ (AA Λ s.heap.size)) {a0 : Nat}  {r9 : Int32} {M9 : Mem} (hk0 : Is NN a0 9)  : ∀ (fu : Nat) (M : Mem) (x1 : Int32) (x2 : Int32) (x3 : Int32) (x4 : Int32), m_X8_ask_L18 a0 fu M x1 x2 x3 x4 = some (r9, M9) → GW p l e { frames := 8, cells := 0, slots := 0, locals := 191 } s m args below meth c D cy Λ 7 (QcI D cy Λ NN r9 M9) M 18 [(0, .ref (Λ a0)), (1, .int x1), (2, .int x2), (3, .int x3), (4, .int x4)] [] := by
  intro fu
  induction fu with
  | zero =>
    intro M x1 x2 x3 x4  hf
    cases hf
  | succ fu ih =>
    intro M x1 x2 x3 x4  hf
    unfold m_X8_ask_L18 at hf
    refine g_iload (pc := 18) C 4 dX8_ask_18 rfl ?_
    refine g_iconst (pc := 20) (v := (4 : Int32)) C dX8_ask_20 (by decide) ?_
    refine g_aload_n (pc := 21) C 0 dX8_ask_21 rfl rfl ?_
    refine g_getR (pc := 22) (T := 9) C hf fgX8_13 (by decide) hk0 rfl dX8_ask_22 (fun a11 hk11 hf => ?_)
    refine g_iconst (pc := 25) (v := (0 : Int32)) C dX8_ask_25 (by decide) ?_
    refine g_iald (pc := 26) C hf hk11 dX8_ask_26 (fun v12 hf => ?_)
    refine g_imul (pc := 27) C dX8_ask_27 ?_
    refine g_ic_ge (pc := 28) (tgt := 137) C hf dX8_ask_28 (by decide) (fun hf => ?_) (fun hf => ?_)
    · refine g_iload_n (pc := 137) C 2 dX8_ask_137 rfl rfl ?_
      exact g_iretM C hf dX8_ask_138
    refine g_iload_n (pc := 31) C 1 dX8_ask_31 rfl rfl ?_
    obtain ⟨r13, h13, hf⟩ := ob hf
    refine g_resI (pc := 32) C (rnS (As := [.int x1]) (st := []) C (c_X8_ones C.2.2.2.2.2.1  h13) lkX8_137 rfl rfl (Nat.le_of_ble_eq_true rfl) ⟨⟨rfl, rfl⟩, Nat.le_of_ble_eq_true rfl, Nat.le_of_ble_eq_true rfl⟩ ⟨Nat.le_of_ble_eq_true rfl, Nat.le_of_ble_eq_true rfl⟩ dX8_ask_32) ?_
    refine g_iconst (pc := 35) (v := (1 : Int32)) C dX8_ask_35 (by decide) ?_
    refine g_ic_le (pc := 36) (tgt := 137) C hf dX8_ask_36 (by decide) (fun hf => ?_) (fun hf => ?_)
    · refine g_iload_n (pc := 137) C 2 dX8_ask_137 rfl rfl ?_
      exact g_iretM C hf dX8_ask_138
    refine g_iconst (pc := 39) (v := (0 : Int32)) C dX8_ask_39 (by decide) ?_
    refine g_istore (pc := 40) (lv2 := [(5, .int (0 : Int32)), (0, .ref (Λ a0)), (1, .int x1), (2, .int x2), (3, .int x3), (4, .int x4)]) C dX8_ask_40 (by decide) rfl ?_
    refine g_iconst (pc := 42) (v := (0 : Int32)) C dX8_ask_42 (by decide) ?_
    refine g_istore (pc := 43) (lv2 := [(6, .int (0 : Int32)), (5, .int (0 : Int32)), (0, .ref (Λ a0)), (1, .int x1), (2, .int x2), (3, .int x3), (4, .int x4)]) C dX8_ask_43 (by decide) rfl ?_
    refine g_sub [2, 3, 4, 5, 6, 1, 0] rfl ?_
    exact w_X8_ask_L45 C hk0 ih FU M x1 x2 x3 x4 (0 : Int32) (0 : Int32)  hf

theorem w_X8_ask {p : Program} {l : Launch} {e : Env} {s : State} {m : MethodId} {args : Array Value} {below : List Frame} {meth : Method} {c : Code} {D : va_G} {cy : Nat → ClassId} {Λ : Nat → Nat} (C : Cx p s m args meth c cX8_ask 7 RX8 (some .int) D cy Λ (AA Λ s.heap.size)) {M : Mem} {a0 : Nat} {r9 : Int32} {M9 : Mem} (hk0 : Is NN a0 9) (hf : m_X8_ask M a0 = some (r9, M9)) : GW p l e { frames := 8, cells := 0, slots := 0, locals := 191 } s m args below meth c D cy Λ 7 (QcI D cy Λ NN r9 M9) M 0 [(0, .ref (Λ a0))] [] := by
  unfold m_X8_ask at hf
  refine g_aload_n (pc := 0) C 0 dX8_ask_0 rfl rfl ?_
  refine g_iconst (pc := 1) (v := (0 : Int32)) C dX8_ask_1 (by decide) ?_
  refine g_pI (pc := 2) C hf fpX8_56 (by decide) hk0 stX8_0 (Nat.le_of_ble_eq_true rfl) rfl rfl dX8_ask_2 (fun M11 hf => ?_)
  refine g_aload_n (pc := 5) C 0 dX8_ask_5 rfl rfl ?_
  obtain ⟨r12, M12, h12, hf⟩ := ob2 hf
  refine g_resI (pc := 6) C (rnV (As := []) (st := []) C (c_X8_unseenSet C.2.2.2.2.2.1 hk0 h12) lkX8_192 rfl (by decide) hk0 rfl rfl (Nat.le_of_ble_eq_true rfl) ⟨⟨rfl, rfl⟩, Nat.le_of_ble_eq_true rfl, Nat.le_of_ble_eq_true rfl⟩ ⟨Nat.le_of_ble_eq_true rfl, Nat.le_of_ble_eq_true rfl⟩ dX8_ask_6) ?_
  refine g_istore_n (pc := 9) (lv2 := [(1, .int r12), (0, .ref (Λ a0))]) C dX8_ask_9 rfl (by decide) rfl ?_
  refine g_bipush (pc := 10) (v := (-9 : Int32)) C dX8_ask_10 (by decide) ?_
  refine g_istore_n (pc := 12) (lv2 := [(2, .int (-9 : Int32)), (1, .int r12), (0, .ref (Λ a0))]) C dX8_ask_12 rfl (by decide) rfl ?_
  refine g_iconst (pc := 13) (v := (0 : Int32)) C dX8_ask_13 (by decide) ?_
  refine g_istore_n (pc := 14) (lv2 := [(3, .int (0 : Int32)), (2, .int (-9 : Int32)), (1, .int r12), (0, .ref (Λ a0))]) C dX8_ask_14 rfl (by decide) rfl ?_
  refine g_iconst (pc := 15) (v := (0 : Int32)) C dX8_ask_15 (by decide) ?_
  refine g_istore (pc := 16) (lv2 := [(4, .int (0 : Int32)), (3, .int (0 : Int32)), (2, .int (-9 : Int32)), (1, .int r12), (0, .ref (Λ a0))]) C dX8_ask_16 (by decide) rfl ?_
  refine g_sub [4, 3, 2, 1, 0] rfl ?_
  exact w_X8_ask_L18 C hk0 FU M12 r12 (-9 : Int32) (0 : Int32) (0 : Int32)  hf

theorem c_X8_ask {l : Launch} {D : va_G} {cy : Nat → ClassId} {Λ : Nat → Nat} (hi : ∀ i j : Nat, Λ i = Λ j → i = j) {M : Mem} {a0 : Nat} {r9 : Int32} {M9 : Mem} (hk0 : Is NN a0 9) (hf : m_X8_ask M a0 = some (r9, M9)) : Ct l yX8_ask cX8_ask 7 (some .int) { frames := 8, cells := 0, slots := 0, locals := 191 } D cy Λ [.ref (Λ a0)] NN M 0 0 (QcI D cy Λ NN r9 M9) := ent (by decide) hi (Nat.le_of_ble_eq_true rfl) (fun p e s m args below meth c C => w_X8_ask C hk0 hf)
theorem w_X8_keep_L19 {p : Program} {l : Launch} {e : Env} {s : State} {m : MethodId} {args : Array Value} {below : List Frame} {meth : Method} {c : Code} {D : va_G} {cy : Nat → ClassId} {Λ : Nat → Nat} (C : Cx p s m args meth c cX8_keep 3 RX8 (some .int) D cy Λ (AA Λ s.heap.size)) {a0 : Nat} {x1 : Int32}  {r9 : Int32} {M9 : Mem} (hk0 : Is NN a0 9)  : ∀ (fu : Nat) (M : Mem) (x2 : Int32), m_X8_keep_L19 a0 x1 fu M x2 = some (r9, M9) → GW p l e { frames := 1, cells := 0, slots := 0, locals := 22 } s m args below meth c D cy Λ 3 (QcI D cy Λ NN r9 M9) M 19 [(0, .ref (Λ a0)), (1, .int x1), (2, .int x2)] [] := by
  intro fu
  induction fu with
  | zero =>
    intro M x2  hf
    cases hf
  | succ fu ih =>
    intro M x2  hf
    unfold m_X8_keep_L19 at hf
    refine g_iload_n (pc := 19) C 2 dX8_keep_19 rfl rfl ?_
    refine g_bipush (pc := 20) (v := (19 : Int32)) C dX8_keep_20 (by decide) ?_
    refine g_ic_ge (pc := 22) (tgt := 48) C hf dX8_keep_22 (by decide) (fun hf => ?_) (fun hf => ?_)
    · refine g_aload_n (pc := 48) C 0 dX8_keep_48 rfl rfl ?_
      refine g_getR (pc := 49) (T := 11) C hf fgX8_31 (by decide) hk0 rfl dX8_keep_49 (fun a11 hk11 hf => ?_)
      refine g_iload_n (pc := 52) C 1 dX8_keep_52 rfl rfl ?_
      refine g_iconst (pc := 53) (v := (1 : Int32)) C dX8_keep_53 (by decide) ?_
      refine g_zast (pc := 54) C hf hk11 dX8_keep_54 (fun M12 hf => ?_)
      refine g_aload_n (pc := 55) C 0 dX8_keep_55 rfl rfl ?_
      refine g_getR (pc := 56) (T := 9) C hf fgX8_13 (by decide) hk0 rfl dX8_keep_56 (fun a13 hk13 hf => ?_)
      refine g_iconst (pc := 59) (v := (0 : Int32)) C dX8_keep_59 (by decide) ?_
      refine g_iald (pc := 60) C hf hk13 dX8_keep_60 (fun v14 hf => ?_)
      exact g_iretM C hf dX8_keep_61
    refine g_aload_n (pc := 25) C 0 dX8_keep_25 rfl rfl ?_
    refine g_getR (pc := 26) (T := 9) C hf fgX8_28 (by decide) hk0 rfl dX8_keep_26 (fun a15 hk15 hf => ?_)
    refine g_bipush (pc := 29) (v := (19 : Int32)) C dX8_keep_29 (by decide) ?_
    refine g_iload_n (pc := 31) C 1 dX8_keep_31 rfl rfl ?_
    refine g_imul (pc := 32) C dX8_keep_32 ?_
    refine g_iload_n (pc := 33) C 2 dX8_keep_33 rfl rfl ?_
    refine g_iadd (pc := 34) C dX8_keep_34 ?_
    refine g_aload_n (pc := 35) C 0 dX8_keep_35 rfl rfl ?_
    refine g_getR (pc := 36) (T := 9) C hf fgX8_22 (by decide) hk0 rfl dX8_keep_36 (fun a16 hk16 hf => ?_)
    refine g_iload_n (pc := 39) C 2 dX8_keep_39 rfl rfl ?_
    refine g_iald (pc := 40) C hf hk16 dX8_keep_40 (fun v17 hf => ?_)
    refine g_iast (pc := 41) C hf hk15 dX8_keep_41 (fun M18 hf => ?_)
    refine g_iinc (pc := 42) (v := (x2 + (1 : Int32))) (lv2 := [(2, .int (x2 + (1 : Int32))), (0, .ref (Λ a0)), (1, .int x1)]) C 2 dX8_keep_42 rfl rfl (by decide) rfl ?_
    refine g_goto (pc := 45) (tgt := 19) C dX8_keep_45 (by decide) ?_
    refine g_sub [1, 2, 0] rfl ?_
    exact ih M18 (x2 + (1 : Int32))  hf

theorem w_X8_keep {p : Program} {l : Launch} {e : Env} {s : State} {m : MethodId} {args : Array Value} {below : List Frame} {meth : Method} {c : Code} {D : va_G} {cy : Nat → ClassId} {Λ : Nat → Nat} (C : Cx p s m args meth c cX8_keep 3 RX8 (some .int) D cy Λ (AA Λ s.heap.size)) {M : Mem} {a0 : Nat} {x1 : Int32} {r9 : Int32} {M9 : Mem} (hk0 : Is NN a0 9) (hf : m_X8_keep M a0 x1 = some (r9, M9)) : GW p l e { frames := 1, cells := 0, slots := 0, locals := 22 } s m args below meth c D cy Λ 3 (QcI D cy Λ NN r9 M9) M 0 [(0, .ref (Λ a0)), (1, .int x1)] [] := by
  unfold m_X8_keep at hf
  refine g_aload_n (pc := 0) C 0 dX8_keep_0 rfl rfl ?_
  refine g_iconst (pc := 1) (v := (0 : Int32)) C dX8_keep_1 (by decide) ?_
  refine g_pI (pc := 2) C hf fpX8_56 (by decide) hk0 stX8_0 (Nat.le_of_ble_eq_true rfl) rfl rfl dX8_keep_2 (fun M11 hf => ?_)
  refine g_iload_n (pc := 5) C 1 dX8_keep_5 rfl rfl ?_
  refine g_iconst (pc := 6) (v := (0 : Int32)) C dX8_keep_6 (by decide) ?_
  refine g_iconst (pc := 7) (v := (1 : Int32)) C dX8_keep_7 (by decide) ?_
  obtain ⟨r12, h12, hf⟩ := ob hf
  refine g_resI (pc := 8) C (rnS (As := [.int x1, .int (0 : Int32), .int (1 : Int32)]) (st := []) C (c_X8_in C.2.2.2.2.2.1  h12) lkX8_60 rfl rfl (Nat.le_of_ble_eq_true rfl) ⟨⟨rfl, rfl⟩, Nat.le_of_ble_eq_true rfl, Nat.le_of_ble_eq_true rfl⟩ ⟨Nat.le_of_ble_eq_true rfl, Nat.le_of_ble_eq_true rfl⟩ dX8_keep_8) ?_
  refine g_if_ne (pc := 11) (tgt := 17) C hf dX8_keep_11 (by decide) (fun hf => ?_) (fun hf => ?_)
  · refine g_bipush (pc := 14) (v := (-2 : Int32)) C dX8_keep_14 (by decide) ?_
    exact g_iretM C hf dX8_keep_16
  refine g_iconst (pc := 17) (v := (0 : Int32)) C dX8_keep_17 (by decide) ?_
  refine g_istore_n (pc := 18) (lv2 := [(2, .int (0 : Int32)), (0, .ref (Λ a0)), (1, .int x1)]) C dX8_keep_18 rfl (by decide) rfl ?_
  refine g_sub [1, 2, 0] rfl ?_
  exact w_X8_keep_L19 C hk0 FU M11 (0 : Int32)  hf

theorem c_X8_keep {l : Launch} {D : va_G} {cy : Nat → ClassId} {Λ : Nat → Nat} (hi : ∀ i j : Nat, Λ i = Λ j → i = j) {M : Mem} {a0 : Nat} {x1 : Int32} {r9 : Int32} {M9 : Mem} (hk0 : Is NN a0 9) (hf : m_X8_keep M a0 x1 = some (r9, M9)) : Ct l yX8_keep cX8_keep 3 (some .int) { frames := 1, cells := 0, slots := 0, locals := 22 } D cy Λ [.ref (Λ a0), .int x1] NN M 0 0 (QcI D cy Λ NN r9 M9) := ent (by decide) hi (Nat.le_of_ble_eq_true rfl) (fun p e s m args below meth c C => w_X8_keep C hk0 hf)
theorem w_X8_back_L31 {p : Program} {l : Launch} {e : Env} {s : State} {m : MethodId} {args : Array Value} {below : List Frame} {meth : Method} {c : Code} {D : va_G} {cy : Nat → ClassId} {Λ : Nat → Nat} (C : Cx p s m args meth c cX8_back 3 RX8 (some .int) D cy Λ (AA Λ s.heap.size)) {a0 : Nat} {x1 : Int32}  {r9 : Int32} {M9 : Mem} (hk0 : Is NN a0 9)  : ∀ (fu : Nat) (M : Mem) (x2 : Int32), m_X8_back_L31 a0 x1 fu M x2 = some (r9, M9) → GW p l e { frames := 1, cells := 0, slots := 0, locals := 22 } s m args below meth c D cy Λ 3 (QcI D cy Λ NN r9 M9) M 31 [(0, .ref (Λ a0)), (1, .int x1), (2, .int x2)] [] := by
  intro fu
  induction fu with
  | zero =>
    intro M x2  hf
    cases hf
  | succ fu ih =>
    intro M x2  hf
    unfold m_X8_back_L31 at hf
    refine g_iload_n (pc := 31) C 2 dX8_back_31 rfl rfl ?_
    refine g_bipush (pc := 32) (v := (19 : Int32)) C dX8_back_32 (by decide) ?_
    refine g_ic_ge (pc := 34) (tgt := 60) C hf dX8_back_34 (by decide) (fun hf => ?_) (fun hf => ?_)
    · refine g_aload_n (pc := 60) C 0 dX8_back_60 rfl rfl ?_
      refine g_iconst (pc := 61) (v := (0 : Int32)) C dX8_back_61 (by decide) ?_
      refine g_pI (pc := 62) C hf fpX8_127 (by decide) hk0 stX8_13 (Nat.le_of_ble_eq_true rfl) rfl rfl dX8_back_62 (fun M11 hf => ?_)
      refine g_aload_n (pc := 65) C 0 dX8_back_65 rfl rfl ?_
      refine g_getR (pc := 66) (T := 9) C hf fgX8_13 (by decide) hk0 rfl dX8_back_66 (fun a12 hk12 hf => ?_)
      refine g_iconst (pc := 69) (v := (0 : Int32)) C dX8_back_69 (by decide) ?_
      refine g_iald (pc := 70) C hf hk12 dX8_back_70 (fun v13 hf => ?_)
      exact g_iretM C hf dX8_back_71
    refine g_aload_n (pc := 37) C 0 dX8_back_37 rfl rfl ?_
    refine g_getR (pc := 38) (T := 9) C hf fgX8_22 (by decide) hk0 rfl dX8_back_38 (fun a14 hk14 hf => ?_)
    refine g_iload_n (pc := 41) C 2 dX8_back_41 rfl rfl ?_
    refine g_aload_n (pc := 42) C 0 dX8_back_42 rfl rfl ?_
    refine g_getR (pc := 43) (T := 9) C hf fgX8_28 (by decide) hk0 rfl dX8_back_43 (fun a15 hk15 hf => ?_)
    refine g_bipush (pc := 46) (v := (19 : Int32)) C dX8_back_46 (by decide) ?_
    refine g_iload_n (pc := 48) C 1 dX8_back_48 rfl rfl ?_
    refine g_imul (pc := 49) C dX8_back_49 ?_
    refine g_iload_n (pc := 50) C 2 dX8_back_50 rfl rfl ?_
    refine g_iadd (pc := 51) C dX8_back_51 ?_
    refine g_iald (pc := 52) C hf hk15 dX8_back_52 (fun v16 hf => ?_)
    refine g_iast (pc := 53) C hf hk14 dX8_back_53 (fun M17 hf => ?_)
    refine g_iinc (pc := 54) (v := (x2 + (1 : Int32))) (lv2 := [(2, .int (x2 + (1 : Int32))), (0, .ref (Λ a0)), (1, .int x1)]) C 2 dX8_back_54 rfl rfl (by decide) rfl ?_
    refine g_goto (pc := 57) (tgt := 31) C dX8_back_57 (by decide) ?_
    refine g_sub [1, 2, 0] rfl ?_
    exact ih M17 (x2 + (1 : Int32))  hf

theorem w_X8_back {p : Program} {l : Launch} {e : Env} {s : State} {m : MethodId} {args : Array Value} {below : List Frame} {meth : Method} {c : Code} {D : va_G} {cy : Nat → ClassId} {Λ : Nat → Nat} (C : Cx p s m args meth c cX8_back 3 RX8 (some .int) D cy Λ (AA Λ s.heap.size)) {M : Mem} {a0 : Nat} {x1 : Int32} {r9 : Int32} {M9 : Mem} (hk0 : Is NN a0 9) (hf : m_X8_back M a0 x1 = some (r9, M9)) : GW p l e { frames := 1, cells := 0, slots := 0, locals := 22 } s m args below meth c D cy Λ 3 (QcI D cy Λ NN r9 M9) M 0 [(0, .ref (Λ a0)), (1, .int x1)] [] := by
  unfold m_X8_back at hf
  refine g_aload_n (pc := 0) C 0 dX8_back_0 rfl rfl ?_
  refine g_iconst (pc := 1) (v := (0 : Int32)) C dX8_back_1 (by decide) ?_
  refine g_pI (pc := 2) C hf fpX8_56 (by decide) hk0 stX8_0 (Nat.le_of_ble_eq_true rfl) rfl rfl dX8_back_2 (fun M11 hf => ?_)
  refine g_iload_n (pc := 5) C 1 dX8_back_5 rfl rfl ?_
  refine g_iconst (pc := 6) (v := (0 : Int32)) C dX8_back_6 (by decide) ?_
  refine g_iconst (pc := 7) (v := (1 : Int32)) C dX8_back_7 (by decide) ?_
  obtain ⟨r12, h12, hf⟩ := ob hf
  refine g_resI (pc := 8) C (rnS (As := [.int x1, .int (0 : Int32), .int (1 : Int32)]) (st := []) C (c_X8_in C.2.2.2.2.2.1  h12) lkX8_60 rfl rfl (Nat.le_of_ble_eq_true rfl) ⟨⟨rfl, rfl⟩, Nat.le_of_ble_eq_true rfl, Nat.le_of_ble_eq_true rfl⟩ ⟨Nat.le_of_ble_eq_true rfl, Nat.le_of_ble_eq_true rfl⟩ dX8_back_8) ?_
  refine g_if_ne (pc := 11) (tgt := 17) C hf dX8_back_11 (by decide) (fun hf => ?_) (fun hf => ?_)
  · refine g_bipush (pc := 14) (v := (-2 : Int32)) C dX8_back_14 (by decide) ?_
    exact g_iretM C hf dX8_back_16
  refine g_aload_n (pc := 17) C 0 dX8_back_17 rfl rfl ?_
  refine g_getR (pc := 18) (T := 11) C hf fgX8_31 (by decide) hk0 rfl dX8_back_18 (fun a13 hk13 hf => ?_)
  refine g_iload_n (pc := 21) C 1 dX8_back_21 rfl rfl ?_
  refine g_zald (pc := 22) C hf hk13 dX8_back_22 (fun v14 hf => ?_)
  refine g_if_ne (pc := 23) (tgt := 29) C hf dX8_back_23 (by decide) (fun hf => ?_) (fun hf => ?_)
  · refine g_bipush (pc := 26) (v := (-3 : Int32)) C dX8_back_26 (by decide) ?_
    exact g_iretM C hf dX8_back_28
  refine g_iconst (pc := 29) (v := (0 : Int32)) C dX8_back_29 (by decide) ?_
  refine g_istore_n (pc := 30) (lv2 := [(2, .int (0 : Int32)), (0, .ref (Λ a0)), (1, .int x1)]) C dX8_back_30 rfl (by decide) rfl ?_
  refine g_sub [1, 2, 0] rfl ?_
  exact w_X8_back_L31 C hk0 FU M11 (0 : Int32)  hf

theorem c_X8_back {l : Launch} {D : va_G} {cy : Nat → ClassId} {Λ : Nat → Nat} (hi : ∀ i j : Nat, Λ i = Λ j → i = j) {M : Mem} {a0 : Nat} {x1 : Int32} {r9 : Int32} {M9 : Mem} (hk0 : Is NN a0 9) (hf : m_X8_back M a0 x1 = some (r9, M9)) : Ct l yX8_back cX8_back 3 (some .int) { frames := 1, cells := 0, slots := 0, locals := 22 } D cy Λ [.ref (Λ a0), .int x1] NN M 0 0 (QcI D cy Λ NN r9 M9) := ent (by decide) hi (Nat.le_of_ble_eq_true rfl) (fun p e s m args below meth c C => w_X8_back C hk0 hf)
theorem w_X8_styles_L8 {p : Program} {l : Launch} {e : Env} {s : State} {m : MethodId} {args : Array Value} {below : List Frame} {meth : Method} {c : Code} {D : va_G} {cy : Nat → ClassId} {Λ : Nat → Nat} (C : Cx p s m args meth c cX8_styles 3 RX8 (some .int) D cy Λ (AA Λ s.heap.size)) {a0 : Nat}  {r9 : Int32} {M9 : Mem} (hk0 : Is NN a0 9)  : ∀ (fu : Nat) (M : Mem) (x1 : Int32) (x2 : Int32), m_X8_styles_L8 a0 fu M x1 x2 = some (r9, M9) → GW p l e { frames := 8, cells := 0, slots := 0, locals := 189 } s m args below meth c D cy Λ 3 (QcI D cy Λ NN r9 M9) M 8 [(0, .ref (Λ a0)), (1, .int x1), (2, .int x2)] [] := by
  intro fu
  induction fu with
  | zero =>
    intro M x1 x2  hf
    cases hf
  | succ fu ih =>
    intro M x1 x2  hf
    unfold m_X8_styles_L8 at hf
    refine g_iload_n (pc := 8) C 2 dX8_styles_8 rfl rfl ?_
    refine g_aload_n (pc := 9) C 0 dX8_styles_9 rfl rfl ?_
    refine g_getR (pc := 10) (T := 9) C hf fgX8_13 (by decide) hk0 rfl dX8_styles_10 (fun a11 hk11 hf => ?_)
    refine g_iconst (pc := 13) (v := (0 : Int32)) C dX8_styles_13 (by decide) ?_
    refine g_iald (pc := 14) C hf hk11 dX8_styles_14 (fun v12 hf => ?_)
    refine g_ic_ge (pc := 15) (tgt := 41) C hf dX8_styles_15 (by decide) (fun hf => ?_) (fun hf => ?_)
    · refine g_iload_n (pc := 41) C 1 dX8_styles_41 rfl rfl ?_
      exact g_iretM C hf dX8_styles_42
    refine g_iload_n (pc := 18) C 1 dX8_styles_18 rfl rfl ?_
    refine g_aload_n (pc := 19) C 0 dX8_styles_19 rfl rfl ?_
    refine g_iload_n (pc := 20) C 2 dX8_styles_20 rfl rfl ?_
    obtain ⟨r13, h13, hf⟩ := ob hf
    refine g_resI (pc := 21) C (rnV (As := [.int x2]) (st := [.int x1]) C (c_X8_recordOf C.2.2.2.2.2.1 hk0 h13) lkX8_168 rfl (by decide) hk0 rfl rfl (Nat.le_of_ble_eq_true rfl) ⟨⟨rfl, rfl⟩, Nat.le_of_ble_eq_true rfl, Nat.le_of_ble_eq_true rfl⟩ ⟨Nat.le_of_ble_eq_true rfl, Nat.le_of_ble_eq_true rfl⟩ dX8_styles_21) ?_
    refine g_iload_n (pc := 24) C 2 dX8_styles_24 rfl rfl ?_
    refine g_ic_ne (pc := 25) (tgt := 32) C hf dX8_styles_25 (by decide) (fun hf => ?_) (fun hf => ?_)
    · refine g_iconst (pc := 28) (v := (1 : Int32)) C dX8_styles_28 (by decide) ?_
      refine g_goto (pc := 29) (tgt := 33) C dX8_styles_29 (by decide) ?_
      refine g_iadd (pc := 33) C dX8_styles_33 ?_
      refine g_istore_n (pc := 34) (lv2 := [(1, .int (x1 + (1 : Int32))), (0, .ref (Λ a0)), (2, .int x2)]) C dX8_styles_34 rfl (by decide) rfl ?_
      refine g_iinc (pc := 35) (v := (x2 + (1 : Int32))) (lv2 := [(2, .int (x2 + (1 : Int32))), (1, .int (x1 + (1 : Int32))), (0, .ref (Λ a0))]) C 2 dX8_styles_35 rfl rfl (by decide) rfl ?_
      refine g_goto (pc := 38) (tgt := 8) C dX8_styles_38 (by decide) ?_
      refine g_sub [2, 1, 0] rfl ?_
      exact ih M (x1 + (1 : Int32)) (x2 + (1 : Int32))  hf
    refine g_iconst (pc := 32) (v := (0 : Int32)) C dX8_styles_32 (by decide) ?_
    refine g_iadd (pc := 33) C dX8_styles_33 ?_
    refine g_istore_n (pc := 34) (lv2 := [(1, .int (x1 + (0 : Int32))), (0, .ref (Λ a0)), (2, .int x2)]) C dX8_styles_34 rfl (by decide) rfl ?_
    refine g_iinc (pc := 35) (v := (x2 + (1 : Int32))) (lv2 := [(2, .int (x2 + (1 : Int32))), (1, .int (x1 + (0 : Int32))), (0, .ref (Λ a0))]) C 2 dX8_styles_35 rfl rfl (by decide) rfl ?_
    refine g_goto (pc := 38) (tgt := 8) C dX8_styles_38 (by decide) ?_
    refine g_sub [2, 1, 0] rfl ?_
    exact ih M (x1 + (0 : Int32)) (x2 + (1 : Int32))  hf

theorem w_X8_styles {p : Program} {l : Launch} {e : Env} {s : State} {m : MethodId} {args : Array Value} {below : List Frame} {meth : Method} {c : Code} {D : va_G} {cy : Nat → ClassId} {Λ : Nat → Nat} (C : Cx p s m args meth c cX8_styles 3 RX8 (some .int) D cy Λ (AA Λ s.heap.size)) {M : Mem} {a0 : Nat} {r9 : Int32} {M9 : Mem} (hk0 : Is NN a0 9) (hf : m_X8_styles M a0 = some (r9, M9)) : GW p l e { frames := 8, cells := 0, slots := 0, locals := 189 } s m args below meth c D cy Λ 3 (QcI D cy Λ NN r9 M9) M 0 [(0, .ref (Λ a0))] [] := by
  unfold m_X8_styles at hf
  refine g_aload_n (pc := 0) C 0 dX8_styles_0 rfl rfl ?_
  obtain ⟨M11, h11, hf⟩ := ob hf
  refine g_resV (pc := 1) C (rnV (As := []) (st := []) C (c_X8_fills C.2.2.2.2.2.1 hk0 h11) lkX8_165 rfl (by decide) hk0 rfl rfl (Nat.le_of_ble_eq_true rfl) ⟨⟨rfl, rfl⟩, Nat.le_of_ble_eq_true rfl, Nat.le_of_ble_eq_true rfl⟩ ⟨Nat.le_of_ble_eq_true rfl, Nat.le_of_ble_eq_true rfl⟩ dX8_styles_1) ?_
  refine g_iconst (pc := 4) (v := (0 : Int32)) C dX8_styles_4 (by decide) ?_
  refine g_istore_n (pc := 5) (lv2 := [(1, .int (0 : Int32)), (0, .ref (Λ a0))]) C dX8_styles_5 rfl (by decide) rfl ?_
  refine g_iconst (pc := 6) (v := (0 : Int32)) C dX8_styles_6 (by decide) ?_
  refine g_istore_n (pc := 7) (lv2 := [(2, .int (0 : Int32)), (1, .int (0 : Int32)), (0, .ref (Λ a0))]) C dX8_styles_7 rfl (by decide) rfl ?_
  refine g_sub [2, 1, 0] rfl ?_
  exact w_X8_styles_L8 C hk0 FU M11 (0 : Int32) (0 : Int32)  hf

theorem c_X8_styles {l : Launch} {D : va_G} {cy : Nat → ClassId} {Λ : Nat → Nat} (hi : ∀ i j : Nat, Λ i = Λ j → i = j) {M : Mem} {a0 : Nat} {r9 : Int32} {M9 : Mem} (hk0 : Is NN a0 9) (hf : m_X8_styles M a0 = some (r9, M9)) : Ct l yX8_styles cX8_styles 3 (some .int) { frames := 8, cells := 0, slots := 0, locals := 189 } D cy Λ [.ref (Λ a0)] NN M 0 0 (QcI D cy Λ NN r9 M9) := ent (by decide) hi (Nat.le_of_ble_eq_true rfl) (fun p e s m args below meth c C => w_X8_styles C hk0 hf)
theorem w_X8_count {p : Program} {l : Launch} {e : Env} {s : State} {m : MethodId} {args : Array Value} {below : List Frame} {meth : Method} {c : Code} {D : va_G} {cy : Nat → ClassId} {Λ : Nat → Nat} (C : Cx p s m args meth c cX8_count 2 RX8 (some .int) D cy Λ (AA Λ s.heap.size)) {M : Mem} {a0 : Nat} {x1 : Int32} {r9 : Int32} {M9 : Mem} (hk0 : Is NN a0 9) (hf : m_X8_count M a0 x1 = some (r9, M9)) : GW p l e { frames := 9, cells := 0, slots := 0, locals := 211 } s m args below meth c D cy Λ 2 (QcI D cy Λ NN r9 M9) M 0 [(0, .ref (Λ a0)), (1, .int x1)] [] := by
  unfold m_X8_count at hf
  refine g_aload_n (pc := 0) C 0 dX8_count_0 rfl rfl ?_
  refine g_iconst (pc := 1) (v := (0 : Int32)) C dX8_count_1 (by decide) ?_
  refine g_pI (pc := 2) C hf fpX8_56 (by decide) hk0 stX8_0 (Nat.le_of_ble_eq_true rfl) rfl rfl dX8_count_2 (fun M11 hf => ?_)
  refine g_iload_n (pc := 5) C 1 dX8_count_5 rfl rfl ?_
  refine g_iconst (pc := 6) (v := (0 : Int32)) C dX8_count_6 (by decide) ?_
  refine g_bipush (pc := 7) (v := (6 : Int32)) C dX8_count_7 (by decide) ?_
  obtain ⟨r12, h12, hf⟩ := ob hf
  refine g_resI (pc := 9) C (rnS (As := [.int x1, .int (0 : Int32), .int (6 : Int32)]) (st := []) C (c_X8_in C.2.2.2.2.2.1  h12) lkX8_60 rfl rfl (Nat.le_of_ble_eq_true rfl) ⟨⟨rfl, rfl⟩, Nat.le_of_ble_eq_true rfl, Nat.le_of_ble_eq_true rfl⟩ ⟨Nat.le_of_ble_eq_true rfl, Nat.le_of_ble_eq_true rfl⟩ dX8_count_9) ?_
  refine g_if_ne (pc := 12) (tgt := 18) C hf dX8_count_12 (by decide) (fun hf => ?_) (fun hf => ?_)
  · refine g_bipush (pc := 15) (v := (-2 : Int32)) C dX8_count_15 (by decide) ?_
    exact g_iretM C hf dX8_count_17
  refine g_iload_n (pc := 18) C 1 dX8_count_18 rfl rfl ?_
  refine g_iconst (pc := 19) (v := (3 : Int32)) C dX8_count_19 (by decide) ?_
  refine g_ic_ge (pc := 20) (tgt := 45) C hf dX8_count_20 (by decide) (fun hf => ?_) (fun hf => ?_)
  · refine g_iload_n (pc := 45) C 1 dX8_count_45 rfl rfl ?_
    refine g_iconst (pc := 46) (v := (3 : Int32)) C dX8_count_46 (by decide) ?_
    refine g_ic_ne (pc := 47) (tgt := 57) C hf dX8_count_47 (by decide) (fun hf => ?_) (fun hf => ?_)
    · refine g_aload_n (pc := 50) C 0 dX8_count_50 rfl rfl ?_
      obtain ⟨r13, M13, h13, hf⟩ := ob2 hf
      refine g_resI (pc := 51) C (rnV (As := []) (st := []) C (c_X8_styles C.2.2.2.2.2.1 hk0 h13) lkX8_196 rfl (by decide) hk0 rfl rfl (Nat.le_of_ble_eq_true rfl) ⟨⟨rfl, rfl⟩, Nat.le_of_ble_eq_true rfl, Nat.le_of_ble_eq_true rfl⟩ ⟨Nat.le_of_ble_eq_true rfl, Nat.le_of_ble_eq_true rfl⟩ dX8_count_51) ?_
      refine g_goto (pc := 54) (tgt := 85) C dX8_count_54 (by decide) ?_
      exact g_iretM C hf dX8_count_85
    refine g_iload_n (pc := 57) C 1 dX8_count_57 rfl rfl ?_
    refine g_iconst (pc := 58) (v := (4 : Int32)) C dX8_count_58 (by decide) ?_
    refine g_ic_ne (pc := 59) (tgt := 69) C hf dX8_count_59 (by decide) (fun hf => ?_) (fun hf => ?_)
    · refine g_aload_n (pc := 62) C 0 dX8_count_62 rfl rfl ?_
      refine g_getI (pc := 63) C fgX8_124 (by decide) hk0 rfl dX8_count_63 ?_
      refine g_goto (pc := 66) (tgt := 85) C dX8_count_66 (by decide) ?_
      exact g_iretM C hf dX8_count_85
    refine g_iload_n (pc := 69) C 1 dX8_count_69 rfl rfl ?_
    refine g_iconst (pc := 70) (v := (5 : Int32)) C dX8_count_70 (by decide) ?_
    refine g_ic_ne (pc := 71) (tgt := 81) C hf dX8_count_71 (by decide) (fun hf => ?_) (fun hf => ?_)
    · refine g_aload_n (pc := 74) C 0 dX8_count_74 rfl rfl ?_
      refine g_getI (pc := 75) C fgX8_64 (by decide) hk0 rfl dX8_count_75 ?_
      refine g_goto (pc := 78) (tgt := 85) C dX8_count_78 (by decide) ?_
      exact g_iretM C hf dX8_count_85
    refine g_aload_n (pc := 81) C 0 dX8_count_81 rfl rfl ?_
    refine g_getI (pc := 82) C fgX8_127 (by decide) hk0 rfl dX8_count_82 ?_
    exact g_iretM C hf dX8_count_85
  refine g_iload_n (pc := 23) C 1 dX8_count_23 rfl rfl ?_
  refine g_iconst (pc := 24) (v := (2 : Int32)) C dX8_count_24 (by decide) ?_
  refine g_ic_ne (pc := 25) (tgt := 38) C hf dX8_count_25 (by decide) (fun hf => ?_) (fun hf => ?_)
  · refine g_aload_n (pc := 28) C 0 dX8_count_28 rfl rfl ?_
    refine g_getR (pc := 29) (T := 9) C hf fgX8_22 (by decide) hk0 rfl dX8_count_29 (fun a14 hk14 hf => ?_)
    refine g_bipush (pc := 32) (v := (18 : Int32)) C dX8_count_32 (by decide) ?_
    refine g_iald (pc := 34) C hf hk14 dX8_count_34 (fun v15 hf => ?_)
    refine g_goto (pc := 35) (tgt := 44) C dX8_count_35 (by decide) ?_
    exact g_iretM C hf dX8_count_44
  refine g_aload_n (pc := 38) C 0 dX8_count_38 rfl rfl ?_
  refine g_getR (pc := 39) (T := 9) C hf fgX8_13 (by decide) hk0 rfl dX8_count_39 (fun a16 hk16 hf => ?_)
  refine g_iload_n (pc := 42) C 1 dX8_count_42 rfl rfl ?_
  refine g_iald (pc := 43) C hf hk16 dX8_count_43 (fun v17 hf => ?_)
  exact g_iretM C hf dX8_count_44

theorem c_X8_count {l : Launch} {D : va_G} {cy : Nat → ClassId} {Λ : Nat → Nat} (hi : ∀ i j : Nat, Λ i = Λ j → i = j) {M : Mem} {a0 : Nat} {x1 : Int32} {r9 : Int32} {M9 : Mem} (hk0 : Is NN a0 9) (hf : m_X8_count M a0 x1 = some (r9, M9)) : Ct l yX8_count cX8_count 2 (some .int) { frames := 9, cells := 0, slots := 0, locals := 211 } D cy Λ [.ref (Λ a0), .int x1] NN M 0 0 (QcI D cy Λ NN r9 M9) := ent (by decide) hi (Nat.le_of_ble_eq_true rfl) (fun p e s m args below meth c C => w_X8_count C hk0 hf)