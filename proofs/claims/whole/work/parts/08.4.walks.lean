theorem w_X8_readsDeclarations_L0 {p : Program} {l : Launch} {e : Env} {s : State} {m : MethodId} {args : Array Value} {below : List Frame} {meth : Method} {c : Code} {D : va_G} {cy : Nat → ClassId} {Λ : Nat → Nat} (C : Cx p s m args meth c cX8_readsDeclarations 4 RX8 none D cy Λ (AA Λ s.heap.size)) {a0 : Nat} {x1 : Int32}  {M9 : Mem} (hk0 : Is NN a0 9)  : ∀ (fu : Nat) (M : Mem), m_X8_readsDeclarations_L0 a0 x1 fu M = some M9 → GW p l e { frames := 4, cells := 0, slots := 0, locals := 85 } s m args below meth c D cy Λ 4 (QcV D cy Λ NN M9) M 0 [(0, .ref (Λ a0)), (1, .int x1)] [] := by
  intro fu
  induction fu with
  | zero =>
    intro M  hf
    cases hf
  | succ fu ih =>
    intro M  hf
    unfold m_X8_readsDeclarations_L0 at hf
    refine g_aload_n (pc := 0) C 0 dX8_readsDeclarations_0 rfl rfl ?_
    refine g_aload_n (pc := 1) C 0 dX8_readsDeclarations_1 rfl rfl ?_
    refine g_bipush (pc := 2) (v := (119 : Int32)) C dX8_readsDeclarations_2 (by decide) ?_
    refine g_bipush (pc := 4) (v := (122 : Int32)) C dX8_readsDeclarations_4 (by decide) ?_
    obtain ⟨r11, h11, hf⟩ := ob hf
    refine g_resI (pc := 6) C (rnV (As := [.int (119 : Int32), .int (122 : Int32)]) (st := [.ref (Λ a0)]) C (c_X8_isFrom C.2.2.2.2.2.1 hk0 h11) lkX8_101 rfl (by decide) hk0 rfl rfl (Nat.le_of_ble_eq_true rfl) ⟨⟨rfl, rfl⟩, Nat.le_of_ble_eq_true rfl, Nat.le_of_ble_eq_true rfl⟩ ⟨Nat.le_of_ble_eq_true rfl, Nat.le_of_ble_eq_true rfl⟩ dX8_readsDeclarations_6) ?_
    refine g_if_eq (pc := 9) (tgt := 38) C hf dX8_readsDeclarations_9 (by decide) (fun hf => ?_) (fun hf => ?_)
    · refine g_iconst (pc := 38) (v := (0 : Int32)) C dX8_readsDeclarations_38 (by decide) ?_
      exact w_X8_readsDeclarations_L39 C hk0 ih M (0 : Int32) a0 hk0 hf
    refine g_aload_n (pc := 12) C 0 dX8_readsDeclarations_12 rfl rfl ?_
    refine g_getR (pc := 13) (T := 9) C hf fgX8_16 (by decide) hk0 rfl dX8_readsDeclarations_13 (fun a12 hk12 hf => ?_)
    refine g_bipush (pc := 16) (v := (92 : Int32)) C dX8_readsDeclarations_16 (by decide) ?_
    refine g_iload_n (pc := 18) C 1 dX8_readsDeclarations_18 rfl rfl ?_
    refine g_iadd (pc := 19) C dX8_readsDeclarations_19 ?_
    refine g_iald (pc := 20) C hf hk12 dX8_readsDeclarations_20 (fun v13 hf => ?_)
    refine g_aload_n (pc := 21) C 0 dX8_readsDeclarations_21 rfl rfl ?_
    refine g_getI (pc := 22) C fgX8_80 (by decide) hk0 rfl dX8_readsDeclarations_22 ?_
    refine g_bipush (pc := 25) (v := (119 : Int32)) C dX8_readsDeclarations_25 (by decide) ?_
    refine g_isub (pc := 27) C dX8_readsDeclarations_27 ?_
    obtain ⟨r14, h14, hf⟩ := ob hf
    refine g_resI (pc := 28) C (rnS (As := [.int v13, .int ((M.2 a0 6) - (119 : Int32))]) (st := [.ref (Λ a0)]) C (c_X8_has C.2.2.2.2.2.1  h14) lkX8_105 rfl rfl (Nat.le_of_ble_eq_true rfl) ⟨⟨rfl, rfl⟩, Nat.le_of_ble_eq_true rfl, Nat.le_of_ble_eq_true rfl⟩ ⟨Nat.le_of_ble_eq_true rfl, Nat.le_of_ble_eq_true rfl⟩ dX8_readsDeclarations_28) ?_
    refine g_if_ne (pc := 31) (tgt := 38) C hf dX8_readsDeclarations_31 (by decide) (fun hf => ?_) (fun hf => ?_)
    · refine g_iconst (pc := 34) (v := (1 : Int32)) C dX8_readsDeclarations_34 (by decide) ?_
      refine g_goto (pc := 35) (tgt := 39) C dX8_readsDeclarations_35 (by decide) ?_
      exact w_X8_readsDeclarations_L39 C hk0 ih M (1 : Int32) a0 hk0 hf
    refine g_iconst (pc := 38) (v := (0 : Int32)) C dX8_readsDeclarations_38 (by decide) ?_
    exact w_X8_readsDeclarations_L39 C hk0 ih M (0 : Int32) a0 hk0 hf

theorem w_X8_readsDeclarations {p : Program} {l : Launch} {e : Env} {s : State} {m : MethodId} {args : Array Value} {below : List Frame} {meth : Method} {c : Code} {D : va_G} {cy : Nat → ClassId} {Λ : Nat → Nat} (C : Cx p s m args meth c cX8_readsDeclarations 4 RX8 none D cy Λ (AA Λ s.heap.size)) {M : Mem} {a0 : Nat} {x1 : Int32} {M9 : Mem} (hk0 : Is NN a0 9) (hf : m_X8_readsDeclarations M a0 x1 = some M9) : GW p l e { frames := 4, cells := 0, slots := 0, locals := 85 } s m args below meth c D cy Λ 4 (QcV D cy Λ NN M9) M 0 [(0, .ref (Λ a0)), (1, .int x1)] [] := by
  unfold m_X8_readsDeclarations at hf
  exact w_X8_readsDeclarations_L0 C hk0 FU M  hf

theorem c_X8_readsDeclarations {l : Launch} {D : va_G} {cy : Nat → ClassId} {Λ : Nat → Nat} (hi : ∀ i j : Nat, Λ i = Λ j → i = j) {M : Mem} {a0 : Nat} {x1 : Int32} {M9 : Mem} (hk0 : Is NN a0 9) (hf : m_X8_readsDeclarations M a0 x1 = some M9) : Ct l yX8_readsDeclarations cX8_readsDeclarations 4 none { frames := 4, cells := 0, slots := 0, locals := 85 } D cy Λ [.ref (Λ a0), .int x1] NN M 0 0 (QcV D cy Λ NN M9) := ent (by decide) hi (Nat.le_of_ble_eq_true rfl) (fun p e s m args below meth c C => w_X8_readsDeclarations C hk0 hf)
theorem w_X8_readsRule_L75 {p : Program} {l : Launch} {e : Env} {s : State} {m : MethodId} {args : Array Value} {below : List Frame} {meth : Method} {c : Code} {D : va_G} {cy : Nat → ClassId} {Λ : Nat → Nat} (C : Cx p s m args meth c cX8_readsRule 4 RX8 none D cy Λ (AA Λ s.heap.size)) {a0 : Nat} {k46 : Mem → Int32 → Int32 → Option Mem} {M9 : Mem} (hk0 : Is NN a0 9) (hK46 : ∀ (M : Mem) (x1 : Int32) (x2 : Int32), k46 M x1 x2 = some M9 → GW p l e { frames := 5, cells := 0, slots := 0, locals := 108 } s m args below meth c D cy Λ 4 (QcV D cy Λ NN M9) M 46 [(0, .ref (Λ a0)), (1, .int x1), (2, .int x2)] []) : ∀ (M : Mem) (x1 : Int32) (x2 : Int32) (s0 : Int32) (g1 : Nat), Is NN g1 9 → m_X8_readsRule_L75 a0 k46 M x1 x2 s0 g1 = some M9 → GW p l e { frames := 5, cells := 0, slots := 0, locals := 108 } s m args below meth c D cy Λ 4 (QcV D cy Λ NN M9) M 75 [(0, .ref (Λ a0)), (1, .int x1), (2, .int x2)] [.int s0, .ref (Λ g1)] := by
  intro M x1 x2 s0 g1 hk_g1 hf
  unfold m_X8_readsRule_L75 at hf
  obtain ⟨r11, M11, h11, hf⟩ := ob2 hf
  refine g_resI (pc := 75) C (rnV (As := [.int s0]) (st := []) C (c_X8_takes C.2.2.2.2.2.1 hk_g1 h11) lkX8_97 rfl (by decide) hk_g1 rfl rfl (Nat.le_of_ble_eq_true rfl) ⟨⟨rfl, rfl⟩, Nat.le_of_ble_eq_true rfl, Nat.le_of_ble_eq_true rfl⟩ ⟨Nat.le_of_ble_eq_true rfl, Nat.le_of_ble_eq_true rfl⟩ dX8_readsRule_75) ?_
  refine g_istore_n (pc := 78) (lv2 := [(3, .int r11), (0, .ref (Λ a0)), (1, .int x1), (2, .int x2)]) C dX8_readsRule_78 rfl (by decide) rfl ?_
  refine g_aload_n (pc := 79) C 1 dX8_readsRule_79 rfl rfl ?_
  obtain ⟨r12, h12, hf⟩ := ob hf
  refine g_resI (pc := 80) C (rnV (As := []) (st := []) C (c_X8_isWell C.2.2.2.2.2.1 hk0 h12) lkX8_90 rfl (by decide) hk0 rfl rfl (Nat.le_of_ble_eq_true rfl) ⟨⟨rfl, rfl⟩, Nat.le_of_ble_eq_true rfl, Nat.le_of_ble_eq_true rfl⟩ ⟨Nat.le_of_ble_eq_true rfl, Nat.le_of_ble_eq_true rfl⟩ dX8_readsRule_80) ?_
  refine g_if_eq (pc := 83) (tgt := 112) C hf dX8_readsRule_83 (by decide) (fun hf => ?_) (fun hf => ?_)
  · refine g_goto (pc := 112) (tgt := 46) C dX8_readsRule_112 (by decide) ?_
    refine g_sub [1, 2, 3] rfl ?_
    exact hK46 M11 x1 x2  hf
  refine g_aload_n (pc := 86) C 1 dX8_readsRule_86 rfl rfl ?_
  refine g_getR (pc := 87) (T := 9) C hf fgX8_16 (by decide) hk0 rfl dX8_readsRule_87 (fun a13 hk13 hf => ?_)
  refine g_bipush (pc := 90) (v := (68 : Int32)) C dX8_readsRule_90 (by decide) ?_
  refine g_iconst (pc := 92) (v := (3 : Int32)) C dX8_readsRule_92 (by decide) ?_
  refine g_iload_n (pc := 93) C 2 dX8_readsRule_93 rfl rfl ?_
  refine g_imul (pc := 94) C dX8_readsRule_94 ?_
  refine g_iadd (pc := 95) C dX8_readsRule_95 ?_
  refine g_iload_n (pc := 96) C 3 dX8_readsRule_96 rfl rfl ?_
  refine g_iadd (pc := 97) C dX8_readsRule_97 ?_
  refine g_iload_n (pc := 98) C 0 dX8_readsRule_98 rfl rfl ?_
  refine g_iast (pc := 99) C hf hk13 dX8_readsRule_99 (fun M14 hf => ?_)
  refine g_aload_n (pc := 100) C 1 dX8_readsRule_100 rfl rfl ?_
  refine g_iconst (pc := 101) (v := (3 : Int32)) C dX8_readsRule_101 (by decide) ?_
  refine g_iload_n (pc := 102) C 2 dX8_readsRule_102 rfl rfl ?_
  refine g_imul (pc := 103) C dX8_readsRule_103 ?_
  refine g_iload_n (pc := 104) C 3 dX8_readsRule_104 rfl rfl ?_
  refine g_iadd (pc := 105) C dX8_readsRule_105 ?_
  obtain ⟨M15, h15, hf⟩ := ob hf
  refine g_resV (pc := 106) C (rnV (As := [.int (((3 : Int32) * x1) + x2)]) (st := []) C (c_X8_readsCompound C.2.2.2.2.2.1 hk0 h15) lkX8_111 rfl (by decide) hk0 rfl rfl (Nat.le_of_ble_eq_true rfl) ⟨⟨rfl, rfl⟩, Nat.le_of_ble_eq_true rfl, Nat.le_of_ble_eq_true rfl⟩ ⟨Nat.le_of_ble_eq_true rfl, Nat.le_of_ble_eq_true rfl⟩ dX8_readsRule_106) ?_
  refine g_iinc (pc := 109) (v := (x2 + (1 : Int32))) (lv2 := [(2, .int (x2 + (1 : Int32))), (3, .int r11), (0, .ref (Λ a0)), (1, .int x1)]) C 3 dX8_readsRule_109 rfl rfl (by decide) rfl ?_
  refine g_goto (pc := 112) (tgt := 46) C dX8_readsRule_112 (by decide) ?_
  refine g_sub [2, 3, 0] rfl ?_
  exact hK46 M15 x1 (x2 + (1 : Int32))  hf

theorem w_X8_readsRule_L46 {p : Program} {l : Launch} {e : Env} {s : State} {m : MethodId} {args : Array Value} {below : List Frame} {meth : Method} {c : Code} {D : va_G} {cy : Nat → ClassId} {Λ : Nat → Nat} (C : Cx p s m args meth c cX8_readsRule 4 RX8 none D cy Λ (AA Λ s.heap.size)) {a0 : Nat}  {M9 : Mem} (hk0 : Is NN a0 9)  : ∀ (fu : Nat) (M : Mem) (x1 : Int32) (x2 : Int32), m_X8_readsRule_L46 a0 fu M x1 x2 = some M9 → GW p l e { frames := 5, cells := 0, slots := 0, locals := 108 } s m args below meth c D cy Λ 4 (QcV D cy Λ NN M9) M 46 [(0, .ref (Λ a0)), (1, .int x1), (2, .int x2)] [] := by
  intro fu
  induction fu with
  | zero =>
    intro M x1 x2  hf
    cases hf
  | succ fu ih =>
    intro M x1 x2  hf
    unfold m_X8_readsRule_L46 at hf
    refine g_aload_n (pc := 46) C 0 dX8_readsRule_46 rfl rfl ?_
    refine g_bipush (pc := 47) (v := (62 : Int32)) C dX8_readsRule_47 (by decide) ?_
    obtain ⟨r11, h11, hf⟩ := ob hf
    refine g_resI (pc := 49) C (rnV (As := [.int (62 : Int32)]) (st := []) C (c_X8_isThis C.2.2.2.2.2.1 hk0 h11) lkX8_108 rfl (by decide) hk0 rfl rfl (Nat.le_of_ble_eq_true rfl) ⟨⟨rfl, rfl⟩, Nat.le_of_ble_eq_true rfl, Nat.le_of_ble_eq_true rfl⟩ ⟨Nat.le_of_ble_eq_true rfl, Nat.le_of_ble_eq_true rfl⟩ dX8_readsRule_49) ?_
    refine g_if_ne (pc := 52) (tgt := 64) C hf dX8_readsRule_52 (by decide) (fun hf => ?_) (fun hf => ?_)
    · refine g_aload_n (pc := 55) C 0 dX8_readsRule_55 rfl rfl ?_
      refine g_bipush (pc := 56) (v := (47 : Int32)) C dX8_readsRule_56 (by decide) ?_
      obtain ⟨r12, h12, hf⟩ := ob hf
      refine g_resI (pc := 58) C (rnV (As := [.int (47 : Int32)]) (st := []) C (c_X8_isThis C.2.2.2.2.2.1 hk0 h12) lkX8_108 rfl (by decide) hk0 rfl rfl (Nat.le_of_ble_eq_true rfl) ⟨⟨rfl, rfl⟩, Nat.le_of_ble_eq_true rfl, Nat.le_of_ble_eq_true rfl⟩ ⟨Nat.le_of_ble_eq_true rfl, Nat.le_of_ble_eq_true rfl⟩ dX8_readsRule_58) ?_
      refine g_if_eq (pc := 61) (tgt := 115) C hf dX8_readsRule_61 (by decide) (fun hf => ?_) (fun hf => ?_)
      · refine g_aload_n (pc := 115) C 0 dX8_readsRule_115 rfl rfl ?_
        refine g_getR (pc := 116) (T := 9) C hf fgX8_16 (by decide) hk0 rfl dX8_readsRule_116 (fun a13 hk13 hf => ?_)
        refine g_bipush (pc := 119) (v := (12 : Int32)) C dX8_readsRule_119 (by decide) ?_
        refine g_iload_n (pc := 121) C 1 dX8_readsRule_121 rfl rfl ?_
        refine g_iadd (pc := 122) C dX8_readsRule_122 ?_
        refine g_iload_n (pc := 123) C 2 dX8_readsRule_123 rfl rfl ?_
        refine g_iast (pc := 124) C hf hk13 dX8_readsRule_124 (fun M14 hf => ?_)
        refine g_aload_n (pc := 125) C 0 dX8_readsRule_125 rfl rfl ?_
        refine g_aload_n (pc := 126) C 0 dX8_readsRule_126 rfl rfl ?_
        refine g_bipush (pc := 127) (v := (58 : Int32)) C dX8_readsRule_127 (by decide) ?_
        obtain ⟨r15, h15, hf⟩ := ob hf
        refine g_resI (pc := 129) C (rnV (As := [.int (58 : Int32)]) (st := [.ref (Λ a0)]) C (c_X8_isThis C.2.2.2.2.2.1 hk0 h15) lkX8_108 rfl (by decide) hk0 rfl rfl (Nat.le_of_ble_eq_true rfl) ⟨⟨rfl, rfl⟩, Nat.le_of_ble_eq_true rfl, Nat.le_of_ble_eq_true rfl⟩ ⟨Nat.le_of_ble_eq_true rfl, Nat.le_of_ble_eq_true rfl⟩ dX8_readsRule_129) ?_
        obtain ⟨r16, M16, h16, hf⟩ := ob2 hf
        refine g_resI (pc := 132) C (rnV (As := [.int r15]) (st := []) C (c_X8_takes C.2.2.2.2.2.1 hk0 h16) lkX8_97 rfl (by decide) hk0 rfl rfl (Nat.le_of_ble_eq_true rfl) ⟨⟨rfl, rfl⟩, Nat.le_of_ble_eq_true rfl, Nat.le_of_ble_eq_true rfl⟩ ⟨Nat.le_of_ble_eq_true rfl, Nat.le_of_ble_eq_true rfl⟩ dX8_readsRule_132) ?_
        refine g_pop (pc := 135) C dX8_readsRule_135 rfl ?_
        refine g_aload_n (pc := 136) C 0 dX8_readsRule_136 rfl rfl ?_
        obtain ⟨r17, h17, hf⟩ := ob hf
        refine g_resI (pc := 137) C (rnV (As := []) (st := []) C (c_X8_isWell C.2.2.2.2.2.1 hk0 h17) lkX8_90 rfl (by decide) hk0 rfl rfl (Nat.le_of_ble_eq_true rfl) ⟨⟨rfl, rfl⟩, Nat.le_of_ble_eq_true rfl, Nat.le_of_ble_eq_true rfl⟩ ⟨Nat.le_of_ble_eq_true rfl, Nat.le_of_ble_eq_true rfl⟩ dX8_readsRule_137) ?_
        refine g_if_eq (pc := 140) (tgt := 148) C hf dX8_readsRule_140 (by decide) (fun hf => ?_) (fun hf => ?_)
        · refine g_aload_n (pc := 148) C 0 dX8_readsRule_148 rfl rfl ?_
          refine g_getR (pc := 149) (T := 9) C hf fgX8_16 (by decide) hk0 rfl dX8_readsRule_149 (fun a18 hk18 hf => ?_)
          refine g_iconst (pc := 152) (v := (1 : Int32)) C dX8_readsRule_152 (by decide) ?_
          refine g_dup2 (pc := 153) C dX8_readsRule_153 rfl rfl ?_
          refine g_iald (pc := 154) C hf hk18 dX8_readsRule_154 (fun v19 hf => ?_)
          refine g_iconst (pc := 155) (v := (1 : Int32)) C dX8_readsRule_155 (by decide) ?_
          refine g_iadd (pc := 156) C dX8_readsRule_156 ?_
          refine g_iast (pc := 157) C hf hk18 dX8_readsRule_157 (fun M20 hf => ?_)
          exact g_vret C hf dX8_readsRule_158
        refine g_aload_n (pc := 143) C 0 dX8_readsRule_143 rfl rfl ?_
        refine g_iload_n (pc := 144) C 1 dX8_readsRule_144 rfl rfl ?_
        obtain ⟨M21, h21, hf⟩ := ob hf
        refine g_resV (pc := 145) C (rnV (As := [.int x1]) (st := []) C (c_X8_readsDeclarations C.2.2.2.2.2.1 hk0 h21) lkX8_115 rfl (by decide) hk0 rfl rfl (Nat.le_of_ble_eq_true rfl) ⟨⟨rfl, rfl⟩, Nat.le_of_ble_eq_true rfl, Nat.le_of_ble_eq_true rfl⟩ ⟨Nat.le_of_ble_eq_true rfl, Nat.le_of_ble_eq_true rfl⟩ dX8_readsRule_145) ?_
        refine g_aload_n (pc := 148) C 0 dX8_readsRule_148 rfl rfl ?_
        refine g_getR (pc := 149) (T := 9) C hf fgX8_16 (by decide) hk0 rfl dX8_readsRule_149 (fun a22 hk22 hf => ?_)
        refine g_iconst (pc := 152) (v := (1 : Int32)) C dX8_readsRule_152 (by decide) ?_
        refine g_dup2 (pc := 153) C dX8_readsRule_153 rfl rfl ?_
        refine g_iald (pc := 154) C hf hk22 dX8_readsRule_154 (fun v23 hf => ?_)
        refine g_iconst (pc := 155) (v := (1 : Int32)) C dX8_readsRule_155 (by decide) ?_
        refine g_iadd (pc := 156) C dX8_readsRule_156 ?_
        refine g_iast (pc := 157) C hf hk22 dX8_readsRule_157 (fun M24 hf => ?_)
        exact g_vret C hf dX8_readsRule_158
      refine g_aload_n (pc := 64) C 0 dX8_readsRule_64 rfl rfl ?_
      refine g_iload_n (pc := 65) C 2 dX8_readsRule_65 rfl rfl ?_
      refine g_iconst (pc := 66) (v := (3 : Int32)) C dX8_readsRule_66 (by decide) ?_
      refine g_ic_ge (pc := 67) (tgt := 74) C hf dX8_readsRule_67 (by decide) (fun hf => ?_) (fun hf => ?_)
      · refine g_iconst (pc := 74) (v := (0 : Int32)) C dX8_readsRule_74 (by decide) ?_
        exact w_X8_readsRule_L75 C hk0 ih M x1 x2 (0 : Int32) a0 hk0 hf
      refine g_iconst (pc := 70) (v := (1 : Int32)) C dX8_readsRule_70 (by decide) ?_
      refine g_goto (pc := 71) (tgt := 75) C dX8_readsRule_71 (by decide) ?_
      exact w_X8_readsRule_L75 C hk0 ih M x1 x2 (1 : Int32) a0 hk0 hf
    refine g_aload_n (pc := 64) C 0 dX8_readsRule_64 rfl rfl ?_
    refine g_iload_n (pc := 65) C 2 dX8_readsRule_65 rfl rfl ?_
    refine g_iconst (pc := 66) (v := (3 : Int32)) C dX8_readsRule_66 (by decide) ?_
    refine g_ic_ge (pc := 67) (tgt := 74) C hf dX8_readsRule_67 (by decide) (fun hf => ?_) (fun hf => ?_)
    · refine g_iconst (pc := 74) (v := (0 : Int32)) C dX8_readsRule_74 (by decide) ?_
      exact w_X8_readsRule_L75 C hk0 ih M x1 x2 (0 : Int32) a0 hk0 hf
    refine g_iconst (pc := 70) (v := (1 : Int32)) C dX8_readsRule_70 (by decide) ?_
    refine g_goto (pc := 71) (tgt := 75) C dX8_readsRule_71 (by decide) ?_
    exact w_X8_readsRule_L75 C hk0 ih M x1 x2 (1 : Int32) a0 hk0 hf

theorem w_X8_readsRule {p : Program} {l : Launch} {e : Env} {s : State} {m : MethodId} {args : Array Value} {below : List Frame} {meth : Method} {c : Code} {D : va_G} {cy : Nat → ClassId} {Λ : Nat → Nat} (C : Cx p s m args meth c cX8_readsRule 4 RX8 none D cy Λ (AA Λ s.heap.size)) {M : Mem} {a0 : Nat} {M9 : Mem} (hk0 : Is NN a0 9) (hf : m_X8_readsRule M a0 = some M9) : GW p l e { frames := 5, cells := 0, slots := 0, locals := 108 } s m args below meth c D cy Λ 4 (QcV D cy Λ NN M9) M 0 [(0, .ref (Λ a0))] [] := by
  unfold m_X8_readsRule at hf
  refine g_aload_n (pc := 0) C 0 dX8_readsRule_0 rfl rfl ?_
  refine g_getR (pc := 1) (T := 9) C hf fgX8_16 (by decide) hk0 rfl dX8_readsRule_1 (fun a11 hk11 hf => ?_)
  refine g_iconst (pc := 4) (v := (1 : Int32)) C dX8_readsRule_4 (by decide) ?_
  refine g_iald (pc := 5) C hf hk11 dX8_readsRule_5 (fun v12 hf => ?_)
  refine g_istore_n (pc := 6) (lv2 := [(1, .int v12), (0, .ref (Λ a0))]) C dX8_readsRule_6 rfl (by decide) rfl ?_
  refine g_aload_n (pc := 7) C 1 dX8_readsRule_7 rfl rfl ?_
  refine g_bipush (pc := 8) (v := (85 : Int32)) C dX8_readsRule_8 (by decide) ?_
  obtain ⟨r13, h13, hf⟩ := ob hf
  refine g_resI (pc := 10) C (rnV (As := [.int (85 : Int32)]) (st := []) C (c_X8_isThis C.2.2.2.2.2.1 hk0 h13) lkX8_108 rfl (by decide) hk0 rfl rfl (Nat.le_of_ble_eq_true rfl) ⟨⟨rfl, rfl⟩, Nat.le_of_ble_eq_true rfl, Nat.le_of_ble_eq_true rfl⟩ ⟨Nat.le_of_ble_eq_true rfl, Nat.le_of_ble_eq_true rfl⟩ dX8_readsRule_10) ?_
  refine g_if_eq (pc := 13) (tgt := 34) C hf dX8_readsRule_13 (by decide) (fun hf => ?_) (fun hf => ?_)
  · refine g_iconst (pc := 34) (v := (0 : Int32)) C dX8_readsRule_34 (by decide) ?_
    refine g_istore_n (pc := 35) (lv2 := [(2, .int (0 : Int32)), (1, .int v12), (0, .ref (Λ a0))]) C dX8_readsRule_35 rfl (by decide) rfl ?_
    refine g_aload_n (pc := 36) C 2 dX8_readsRule_36 rfl rfl ?_
    refine g_iconst (pc := 37) (v := (3 : Int32)) C dX8_readsRule_37 (by decide) ?_
    refine g_iload_n (pc := 38) C 1 dX8_readsRule_38 rfl rfl ?_
    refine g_imul (pc := 39) C dX8_readsRule_39 ?_
    obtain ⟨M14, h14, hf⟩ := ob hf
    refine g_resV (pc := 40) C (rnV (As := [.int ((3 : Int32) * v12)]) (st := []) C (c_X8_readsCompound C.2.2.2.2.2.1 hk0 h14) lkX8_111 rfl (by decide) hk0 rfl rfl (Nat.le_of_ble_eq_true rfl) ⟨⟨rfl, rfl⟩, Nat.le_of_ble_eq_true rfl, Nat.le_of_ble_eq_true rfl⟩ ⟨Nat.le_of_ble_eq_true rfl, Nat.le_of_ble_eq_true rfl⟩ dX8_readsRule_40) ?_
    refine g_iinc (pc := 43) (v := ((0 : Int32) + (1 : Int32))) (lv2 := [(2, .int ((0 : Int32) + (1 : Int32))), (1, .int v12), (0, .ref (Λ a0))]) C 0 dX8_readsRule_43 rfl rfl (by decide) rfl ?_
    refine g_sub [2, 1, 0] rfl ?_
    exact w_X8_readsRule_L46 C hk0 FU M14 v12 ((0 : Int32) + (1 : Int32))  hf
  refine g_aload_n (pc := 16) C 1 dX8_readsRule_16 rfl rfl ?_
  refine g_iconst (pc := 17) (v := (1 : Int32)) C dX8_readsRule_17 (by decide) ?_
  obtain ⟨r15, M15, h15, hf⟩ := ob2 hf
  refine g_resI (pc := 18) C (rnV (As := [.int (1 : Int32)]) (st := []) C (c_X8_takes C.2.2.2.2.2.1 hk0 h15) lkX8_97 rfl (by decide) hk0 rfl rfl (Nat.le_of_ble_eq_true rfl) ⟨⟨rfl, rfl⟩, Nat.le_of_ble_eq_true rfl, Nat.le_of_ble_eq_true rfl⟩ ⟨Nat.le_of_ble_eq_true rfl, Nat.le_of_ble_eq_true rfl⟩ dX8_readsRule_18) ?_
  refine g_pop (pc := 21) C dX8_readsRule_21 rfl ?_
  refine g_aload_n (pc := 22) C 1 dX8_readsRule_22 rfl rfl ?_
  refine g_getR (pc := 23) (T := 9) C hf fgX8_16 (by decide) hk0 rfl dX8_readsRule_23 (fun a16 hk16 hf => ?_)
  refine g_iconst (pc := 26) (v := (2 : Int32)) C dX8_readsRule_26 (by decide) ?_
  refine g_dup2 (pc := 27) C dX8_readsRule_27 rfl rfl ?_
  refine g_iald (pc := 28) C hf hk16 dX8_readsRule_28 (fun v17 hf => ?_)
  refine g_iconst (pc := 29) (v := (1 : Int32)) C dX8_readsRule_29 (by decide) ?_
  refine g_iload_n (pc := 30) C 0 dX8_readsRule_30 rfl rfl ?_
  refine g_ishl (pc := 31) C dX8_readsRule_31 ?_
  refine g_ior (pc := 32) C dX8_readsRule_32 ?_
  refine g_iast (pc := 33) C hf hk16 dX8_readsRule_33 (fun M18 hf => ?_)
  refine g_iconst (pc := 34) (v := (0 : Int32)) C dX8_readsRule_34 (by decide) ?_
  refine g_istore_n (pc := 35) (lv2 := [(2, .int (0 : Int32)), (1, .int v12), (0, .ref (Λ a0))]) C dX8_readsRule_35 rfl (by decide) rfl ?_
  refine g_aload_n (pc := 36) C 2 dX8_readsRule_36 rfl rfl ?_
  refine g_iconst (pc := 37) (v := (3 : Int32)) C dX8_readsRule_37 (by decide) ?_
  refine g_iload_n (pc := 38) C 1 dX8_readsRule_38 rfl rfl ?_
  refine g_imul (pc := 39) C dX8_readsRule_39 ?_
  obtain ⟨M19, h19, hf⟩ := ob hf
  refine g_resV (pc := 40) C (rnV (As := [.int ((3 : Int32) * v12)]) (st := []) C (c_X8_readsCompound C.2.2.2.2.2.1 hk0 h19) lkX8_111 rfl (by decide) hk0 rfl rfl (Nat.le_of_ble_eq_true rfl) ⟨⟨rfl, rfl⟩, Nat.le_of_ble_eq_true rfl, Nat.le_of_ble_eq_true rfl⟩ ⟨Nat.le_of_ble_eq_true rfl, Nat.le_of_ble_eq_true rfl⟩ dX8_readsRule_40) ?_
  refine g_iinc (pc := 43) (v := ((0 : Int32) + (1 : Int32))) (lv2 := [(2, .int ((0 : Int32) + (1 : Int32))), (1, .int v12), (0, .ref (Λ a0))]) C 0 dX8_readsRule_43 rfl rfl (by decide) rfl ?_
  refine g_sub [2, 1, 0] rfl ?_
  exact w_X8_readsRule_L46 C hk0 FU M19 v12 ((0 : Int32) + (1 : Int32))  hf

theorem c_X8_readsRule {l : Launch} {D : va_G} {cy : Nat → ClassId} {Λ : Nat → Nat} (hi : ∀ i j : Nat, Λ i = Λ j → i = j) {M : Mem} {a0 : Nat} {M9 : Mem} (hk0 : Is NN a0 9) (hf : m_X8_readsRule M a0 = some M9) : Ct l yX8_readsRule cX8_readsRule 4 none { frames := 5, cells := 0, slots := 0, locals := 108 } D cy Λ [.ref (Λ a0)] NN M 0 0 (QcV D cy Λ NN M9) := ent (by decide) hi (Nat.le_of_ble_eq_true rfl) (fun p e s m args below meth c C => w_X8_readsRule C hk0 hf)
theorem w_X8_settles_L29 {p : Program} {l : Launch} {e : Env} {s : State} {m : MethodId} {args : Array Value} {below : List Frame} {meth : Method} {c : Code} {D : va_G} {cy : Nat → ClassId} {Λ : Nat → Nat} (C : Cx p s m args meth c cX8_settles 2 RX8 none D cy Λ (AA Λ s.heap.size)) {a0 : Nat}  {M9 : Mem} (hk0 : Is NN a0 9)  : ∀ (fu : Nat) (M : Mem) (x1 : Int32), m_X8_settles_L29 a0 fu M x1 = some M9 → GW p l e { frames := 0, cells := 0, slots := 0, locals := 0 } s m args below meth c D cy Λ 2 (QcV D cy Λ NN M9) M 29 [(0, .ref (Λ a0)), (1, .int x1)] [] := by
  intro fu
  induction fu with
  | zero =>
    intro M x1  hf
    cases hf
  | succ fu ih =>
    intro M x1  hf
    unfold m_X8_settles_L29 at hf
    refine g_iload_n (pc := 29) C 1 dX8_settles_29 rfl rfl ?_
    refine g_bipush (pc := 30) (v := (19 : Int32)) C dX8_settles_30 (by decide) ?_
    refine g_ic_ge (pc := 32) (tgt := 53) C hf dX8_settles_32 (by decide) (fun hf => ?_) (fun hf => ?_)
    · refine g_aload_n (pc := 53) C 0 dX8_settles_53 rfl rfl ?_
      refine g_iconst (pc := 54) (v := (0 : Int32)) C dX8_settles_54 (by decide) ?_
      refine g_pI (pc := 55) C hf fpX8_64 (by decide) hk0 stX8_2 (Nat.le_of_ble_eq_true rfl) rfl rfl dX8_settles_55 (fun M11 hf => ?_)
      refine g_aload_n (pc := 58) C 0 dX8_settles_58 rfl rfl ?_
      refine g_iconst (pc := 59) (v := (0 : Int32)) C dX8_settles_59 (by decide) ?_
      refine g_pI (pc := 60) C hf fpX8_124 (by decide) hk0 stX8_19 (Nat.le_of_ble_eq_true rfl) rfl rfl dX8_settles_60 (fun M12 hf => ?_)
      refine g_aload_n (pc := 63) C 0 dX8_settles_63 rfl rfl ?_
      refine g_iconst (pc := 64) (v := (0 : Int32)) C dX8_settles_64 (by decide) ?_
      refine g_pI (pc := 65) C hf fpX8_127 (by decide) hk0 stX8_13 (Nat.le_of_ble_eq_true rfl) rfl rfl dX8_settles_65 (fun M13 hf => ?_)
      refine g_aload_n (pc := 68) C 0 dX8_settles_68 rfl rfl ?_
      refine g_getR (pc := 69) (T := 11) C hf fgX8_31 (by decide) hk0 rfl dX8_settles_69 (fun a14 hk14 hf => ?_)
      refine g_iconst (pc := 72) (v := (0 : Int32)) C dX8_settles_72 (by decide) ?_
      refine g_iconst (pc := 73) (v := (0 : Int32)) C dX8_settles_73 (by decide) ?_
      refine g_zast (pc := 74) C hf hk14 dX8_settles_74 (fun M15 hf => ?_)
      refine g_aload_n (pc := 75) C 0 dX8_settles_75 rfl rfl ?_
      refine g_getR (pc := 76) (T := 11) C hf fgX8_31 (by decide) hk0 rfl dX8_settles_76 (fun a16 hk16 hf => ?_)
      refine g_iconst (pc := 79) (v := (1 : Int32)) C dX8_settles_79 (by decide) ?_
      refine g_iconst (pc := 80) (v := (0 : Int32)) C dX8_settles_80 (by decide) ?_
      refine g_zast (pc := 81) C hf hk16 dX8_settles_81 (fun M17 hf => ?_)
      exact g_vret C hf dX8_settles_82
    refine g_aload_n (pc := 35) C 0 dX8_settles_35 rfl rfl ?_
    refine g_getR (pc := 36) (T := 9) C hf fgX8_22 (by decide) hk0 rfl dX8_settles_36 (fun a18 hk18 hf => ?_)
    refine g_iload_n (pc := 39) C 1 dX8_settles_39 rfl rfl ?_
    refine g_aload_n (pc := 40) C 0 dX8_settles_40 rfl rfl ?_
    refine g_getR (pc := 41) (T := 9) C hf fgX8_19 (by decide) hk0 rfl dX8_settles_41 (fun a19 hk19 hf => ?_)
    refine g_iload_n (pc := 44) C 1 dX8_settles_44 rfl rfl ?_
    refine g_iald (pc := 45) C hf hk19 dX8_settles_45 (fun v20 hf => ?_)
    refine g_iast (pc := 46) C hf hk18 dX8_settles_46 (fun M21 hf => ?_)
    refine g_iinc (pc := 47) (v := (x1 + (1 : Int32))) (lv2 := [(1, .int (x1 + (1 : Int32))), (0, .ref (Λ a0))]) C 1 dX8_settles_47 rfl rfl (by decide) rfl ?_
    refine g_goto (pc := 50) (tgt := 29) C dX8_settles_50 (by decide) ?_
    refine g_sub [1, 0] rfl ?_
    exact ih M21 (x1 + (1 : Int32))  hf

theorem w_X8_settles_L2 {p : Program} {l : Launch} {e : Env} {s : State} {m : MethodId} {args : Array Value} {below : List Frame} {meth : Method} {c : Code} {D : va_G} {cy : Nat → ClassId} {Λ : Nat → Nat} (C : Cx p s m args meth c cX8_settles 2 RX8 none D cy Λ (AA Λ s.heap.size)) {a0 : Nat}  {M9 : Mem} (hk0 : Is NN a0 9)  : ∀ (fu : Nat) (M : Mem) (x1 : Int32), m_X8_settles_L2 a0 fu M x1 = some M9 → GW p l e { frames := 0, cells := 0, slots := 0, locals := 0 } s m args below meth c D cy Λ 2 (QcV D cy Λ NN M9) M 2 [(0, .ref (Λ a0)), (1, .int x1)] [] := by
  intro fu
  induction fu with
  | zero =>
    intro M x1  hf
    cases hf
  | succ fu ih =>
    intro M x1  hf
    unfold m_X8_settles_L2 at hf
    refine g_iload_n (pc := 2) C 1 dX8_settles_2 rfl rfl ?_
    refine g_sipush (pc := 3) (v := (140 : Int32)) C dX8_settles_3 (by decide) ?_
    refine g_ic_ge (pc := 6) (tgt := 27) C hf dX8_settles_6 (by decide) (fun hf => ?_) (fun hf => ?_)
    · refine g_iconst (pc := 27) (v := (0 : Int32)) C dX8_settles_27 (by decide) ?_
      refine g_istore_n (pc := 28) (lv2 := [(1, .int (0 : Int32)), (0, .ref (Λ a0))]) C dX8_settles_28 rfl (by decide) rfl ?_
      refine g_sub [1, 0] rfl ?_
      exact w_X8_settles_L29 C hk0 FU M (0 : Int32)  hf
    refine g_aload_n (pc := 9) C 0 dX8_settles_9 rfl rfl ?_
    refine g_getR (pc := 10) (T := 9) C hf fgX8_13 (by decide) hk0 rfl dX8_settles_10 (fun a11 hk11 hf => ?_)
    refine g_iload_n (pc := 13) C 1 dX8_settles_13 rfl rfl ?_
    refine g_aload_n (pc := 14) C 0 dX8_settles_14 rfl rfl ?_
    refine g_getR (pc := 15) (T := 9) C hf fgX8_16 (by decide) hk0 rfl dX8_settles_15 (fun a12 hk12 hf => ?_)
    refine g_iload_n (pc := 18) C 1 dX8_settles_18 rfl rfl ?_
    refine g_iald (pc := 19) C hf hk12 dX8_settles_19 (fun v13 hf => ?_)
    refine g_iast (pc := 20) C hf hk11 dX8_settles_20 (fun M14 hf => ?_)
    refine g_iinc (pc := 21) (v := (x1 + (1 : Int32))) (lv2 := [(1, .int (x1 + (1 : Int32))), (0, .ref (Λ a0))]) C 1 dX8_settles_21 rfl rfl (by decide) rfl ?_
    refine g_goto (pc := 24) (tgt := 2) C dX8_settles_24 (by decide) ?_
    refine g_sub [1, 0] rfl ?_
    exact ih M14 (x1 + (1 : Int32))  hf

theorem w_X8_settles {p : Program} {l : Launch} {e : Env} {s : State} {m : MethodId} {args : Array Value} {below : List Frame} {meth : Method} {c : Code} {D : va_G} {cy : Nat → ClassId} {Λ : Nat → Nat} (C : Cx p s m args meth c cX8_settles 2 RX8 none D cy Λ (AA Λ s.heap.size)) {M : Mem} {a0 : Nat} {M9 : Mem} (hk0 : Is NN a0 9) (hf : m_X8_settles M a0 = some M9) : GW p l e { frames := 0, cells := 0, slots := 0, locals := 0 } s m args below meth c D cy Λ 2 (QcV D cy Λ NN M9) M 0 [(0, .ref (Λ a0))] [] := by
  unfold m_X8_settles at hf
  refine g_iconst (pc := 0) (v := (0 : Int32)) C dX8_settles_0 (by decide) ?_
  refine g_istore_n (pc := 1) (lv2 := [(1, .int (0 : Int32)), (0, .ref (Λ a0))]) C dX8_settles_1 rfl (by decide) rfl ?_
  refine g_sub [1, 0] rfl ?_
  exact w_X8_settles_L2 C hk0 FU M (0 : Int32)  hf

theorem c_X8_settles {l : Launch} {D : va_G} {cy : Nat → ClassId} {Λ : Nat → Nat} (hi : ∀ i j : Nat, Λ i = Λ j → i = j) {M : Mem} {a0 : Nat} {M9 : Mem} (hk0 : Is NN a0 9) (hf : m_X8_settles M a0 = some M9) : Ct l yX8_settles cX8_settles 2 none { frames := 0, cells := 0, slots := 0, locals := 0 } D cy Λ [.ref (Λ a0)] NN M 0 0 (QcV D cy Λ NN M9) := ent (by decide) hi (Nat.le_of_ble_eq_true rfl) (fun p e s m args below meth c C => w_X8_settles C hk0 hf)
theorem w_X8_page_L137 {p : Program} {l : Launch} {e : Env} {s : State} {m : MethodId} {args : Array Value} {below : List Frame} {meth : Method} {c : Code} {D : va_G} {cy : Nat → ClassId} {Λ : Nat → Nat} (C : Cx p s m args meth c cX8_page 3 RX8 (some .int) D cy Λ (AA Λ s.heap.size)) {a0 : Nat}  {r9 : Int32} {M9 : Mem} (hk0 : Is NN a0 9)  : ∀ (M : Mem) (x1 : Int32), m_X8_page_L137 a0 M x1 = some (r9, M9) → GW p l e { frames := 6, cells := 0, slots := 0, locals := 131 } s m args below meth c D cy Λ 3 (QcI D cy Λ NN r9 M9) M 137 [(0, .ref (Λ a0)), (1, .int x1)] [] := by
  intro M x1  hf
  unfold m_X8_page_L137 at hf
  refine g_aload_n (pc := 137) C 0 dX8_page_137 rfl rfl ?_
  obtain ⟨r11, h11, hf⟩ := ob hf
  refine g_resI (pc := 138) C (rnV (As := []) (st := []) C (c_X8_isWell C.2.2.2.2.2.1 hk0 h11) lkX8_90 rfl (by decide) hk0 rfl rfl (Nat.le_of_ble_eq_true rfl) ⟨⟨rfl, rfl⟩, Nat.le_of_ble_eq_true rfl, Nat.le_of_ble_eq_true rfl⟩ ⟨Nat.le_of_ble_eq_true rfl, Nat.le_of_ble_eq_true rfl⟩ dX8_page_138) ?_
  refine g_if_ne (pc := 141) (tgt := 152) C hf dX8_page_141 (by decide) (fun hf => ?_) (fun hf => ?_)
  · refine g_bipush (pc := 144) (v := (-10 : Int32)) C dX8_page_144 (by decide) ?_
    refine g_aload_n (pc := 146) C 0 dX8_page_146 rfl rfl ?_
    refine g_getI (pc := 147) C fgX8_87 (by decide) hk0 rfl dX8_page_147 ?_
    refine g_isub (pc := 150) C dX8_page_150 ?_
    exact g_iretM C hf dX8_page_151
  refine g_aload_n (pc := 152) C 0 dX8_page_152 rfl rfl ?_
  refine g_getR (pc := 153) (T := 9) C hf fgX8_19 (by decide) hk0 rfl dX8_page_153 (fun a12 hk12 hf => ?_)
  refine g_bipush (pc := 156) (v := (18 : Int32)) C dX8_page_156 (by decide) ?_
  refine g_iconst (pc := 158) (v := (1 : Int32)) C dX8_page_158 (by decide) ?_
  refine g_aload_n (pc := 159) C 0 dX8_page_159 rfl rfl ?_
  refine g_getR (pc := 160) (T := 9) C hf fgX8_16 (by decide) hk0 rfl dX8_page_160 (fun a13 hk13 hf => ?_)
  refine g_iconst (pc := 163) (v := (1 : Int32)) C dX8_page_163 (by decide) ?_
  refine g_iald (pc := 164) C hf hk13 dX8_page_164 (fun v14 hf => ?_)
  refine g_ishl (pc := 165) C dX8_page_165 ?_
  refine g_iconst (pc := 166) (v := (1 : Int32)) C dX8_page_166 (by decide) ?_
  refine g_isub (pc := 167) C dX8_page_167 ?_
  refine g_iast (pc := 168) C hf hk12 dX8_page_168 (fun M15 hf => ?_)
  refine g_aload_n (pc := 169) C 0 dX8_page_169 rfl rfl ?_
  obtain ⟨M16, h16, hf⟩ := ob hf
  refine g_resV (pc := 170) C (rnV (As := []) (st := []) C (c_X8_settles C.2.2.2.2.2.1 hk0 h16) lkX8_53 rfl (by decide) hk0 rfl rfl (Nat.le_of_ble_eq_true rfl) ⟨⟨rfl, rfl⟩, Nat.le_of_ble_eq_true rfl, Nat.le_of_ble_eq_true rfl⟩ ⟨Nat.le_of_ble_eq_true rfl, Nat.le_of_ble_eq_true rfl⟩ dX8_page_170) ?_
  refine g_iload_n (pc := 173) C 1 dX8_page_173 rfl rfl ?_
  exact g_iretM C hf dX8_page_174

theorem w_X8_page_L109 {p : Program} {l : Launch} {e : Env} {s : State} {m : MethodId} {args : Array Value} {below : List Frame} {meth : Method} {c : Code} {D : va_G} {cy : Nat → ClassId} {Λ : Nat → Nat} (C : Cx p s m args meth c cX8_page 3 RX8 (some .int) D cy Λ (AA Λ s.heap.size)) {a0 : Nat} {k25 : Mem → Int32 → Option (Int32 × Mem)} {r9 : Int32} {M9 : Mem} (hk0 : Is NN a0 9) (hK25 : ∀ (M : Mem) (x1 : Int32), k25 M x1 = some (r9, M9) → GW p l e { frames := 6, cells := 0, slots := 0, locals := 131 } s m args below meth c D cy Λ 3 (QcI D cy Λ NN r9 M9) M 25 [(0, .ref (Λ a0)), (1, .int x1)] []) : ∀ (M : Mem) (x1 : Int32), m_X8_page_L109 a0 k25 M x1 = some (r9, M9) → GW p l e { frames := 6, cells := 0, slots := 0, locals := 131 } s m args below meth c D cy Λ 3 (QcI D cy Λ NN r9 M9) M 109 [(0, .ref (Λ a0)), (1, .int x1)] [] := by
  intro M x1  hf
  unfold m_X8_page_L109 at hf
  refine g_aload_n (pc := 109) C 0 dX8_page_109 rfl rfl ?_
  obtain ⟨r11, h11, hf⟩ := ob hf
  refine g_resI (pc := 110) C (rnV (As := []) (st := []) C (c_X8_isWell C.2.2.2.2.2.1 hk0 h11) lkX8_90 rfl (by decide) hk0 rfl rfl (Nat.le_of_ble_eq_true rfl) ⟨⟨rfl, rfl⟩, Nat.le_of_ble_eq_true rfl, Nat.le_of_ble_eq_true rfl⟩ ⟨Nat.le_of_ble_eq_true rfl, Nat.le_of_ble_eq_true rfl⟩ dX8_page_110) ?_
  refine g_if_eq (pc := 113) (tgt := 120) C hf dX8_page_113 (by decide) (fun hf => ?_) (fun hf => ?_)
  · refine g_aload_n (pc := 120) C 0 dX8_page_120 rfl rfl ?_
    refine g_aload_n (pc := 121) C 0 dX8_page_121 rfl rfl ?_
    refine g_bipush (pc := 122) (v := (59 : Int32)) C dX8_page_122 (by decide) ?_
    obtain ⟨r12, h12, hf⟩ := ob hf
    refine g_resI (pc := 124) C (rnV (As := [.int (59 : Int32)]) (st := [.ref (Λ a0)]) C (c_X8_isThis C.2.2.2.2.2.1 hk0 h12) lkX8_108 rfl (by decide) hk0 rfl rfl (Nat.le_of_ble_eq_true rfl) ⟨⟨rfl, rfl⟩, Nat.le_of_ble_eq_true rfl, Nat.le_of_ble_eq_true rfl⟩ ⟨Nat.le_of_ble_eq_true rfl, Nat.le_of_ble_eq_true rfl⟩ dX8_page_124) ?_
    obtain ⟨r13, M13, h13, hf⟩ := ob2 hf
    refine g_resI (pc := 127) C (rnV (As := [.int r12]) (st := []) C (c_X8_takes C.2.2.2.2.2.1 hk0 h13) lkX8_97 rfl (by decide) hk0 rfl rfl (Nat.le_of_ble_eq_true rfl) ⟨⟨rfl, rfl⟩, Nat.le_of_ble_eq_true rfl, Nat.le_of_ble_eq_true rfl⟩ ⟨Nat.le_of_ble_eq_true rfl, Nat.le_of_ble_eq_true rfl⟩ dX8_page_127) ?_
    refine g_pop (pc := 130) C dX8_page_130 rfl ?_
    refine g_iinc (pc := 131) (v := (x1 + (1 : Int32))) (lv2 := [(1, .int (x1 + (1 : Int32))), (0, .ref (Λ a0))]) C 1 dX8_page_131 rfl rfl (by decide) rfl ?_
    refine g_goto (pc := 134) (tgt := 25) C dX8_page_134 (by decide) ?_
    refine g_sub [1, 0] rfl ?_
    exact hK25 M13 (x1 + (1 : Int32))  hf
  refine g_aload_n (pc := 116) C 0 dX8_page_116 rfl rfl ?_
  obtain ⟨M14, h14, hf⟩ := ob hf
  refine g_resV (pc := 117) C (rnV (As := []) (st := []) C (c_X8_readsRule C.2.2.2.2.2.1 hk0 h14) lkX8_121 rfl (by decide) hk0 rfl rfl (Nat.le_of_ble_eq_true rfl) ⟨⟨rfl, rfl⟩, Nat.le_of_ble_eq_true rfl, Nat.le_of_ble_eq_true rfl⟩ ⟨Nat.le_of_ble_eq_true rfl, Nat.le_of_ble_eq_true rfl⟩ dX8_page_117) ?_
  refine g_aload_n (pc := 120) C 0 dX8_page_120 rfl rfl ?_
  refine g_aload_n (pc := 121) C 0 dX8_page_121 rfl rfl ?_
  refine g_bipush (pc := 122) (v := (59 : Int32)) C dX8_page_122 (by decide) ?_
  obtain ⟨r15, h15, hf⟩ := ob hf
  refine g_resI (pc := 124) C (rnV (As := [.int (59 : Int32)]) (st := [.ref (Λ a0)]) C (c_X8_isThis C.2.2.2.2.2.1 hk0 h15) lkX8_108 rfl (by decide) hk0 rfl rfl (Nat.le_of_ble_eq_true rfl) ⟨⟨rfl, rfl⟩, Nat.le_of_ble_eq_true rfl, Nat.le_of_ble_eq_true rfl⟩ ⟨Nat.le_of_ble_eq_true rfl, Nat.le_of_ble_eq_true rfl⟩ dX8_page_124) ?_
  obtain ⟨r16, M16, h16, hf⟩ := ob2 hf
  refine g_resI (pc := 127) C (rnV (As := [.int r15]) (st := []) C (c_X8_takes C.2.2.2.2.2.1 hk0 h16) lkX8_97 rfl (by decide) hk0 rfl rfl (Nat.le_of_ble_eq_true rfl) ⟨⟨rfl, rfl⟩, Nat.le_of_ble_eq_true rfl, Nat.le_of_ble_eq_true rfl⟩ ⟨Nat.le_of_ble_eq_true rfl, Nat.le_of_ble_eq_true rfl⟩ dX8_page_127) ?_
  refine g_pop (pc := 130) C dX8_page_130 rfl ?_
  refine g_iinc (pc := 131) (v := (x1 + (1 : Int32))) (lv2 := [(1, .int (x1 + (1 : Int32))), (0, .ref (Λ a0))]) C 1 dX8_page_131 rfl rfl (by decide) rfl ?_
  refine g_goto (pc := 134) (tgt := 25) C dX8_page_134 (by decide) ?_
  refine g_sub [1, 0] rfl ?_
  exact hK25 M16 (x1 + (1 : Int32))  hf

theorem w_X8_page_L85 {p : Program} {l : Launch} {e : Env} {s : State} {m : MethodId} {args : Array Value} {below : List Frame} {meth : Method} {c : Code} {D : va_G} {cy : Nat → ClassId} {Λ : Nat → Nat} (C : Cx p s m args meth c cX8_page 3 RX8 (some .int) D cy Λ (AA Λ s.heap.size)) {a0 : Nat} {k25 : Mem → Int32 → Option (Int32 × Mem)} {r9 : Int32} {M9 : Mem} (hk0 : Is NN a0 9) (hK25 : ∀ (M : Mem) (x1 : Int32), k25 M x1 = some (r9, M9) → GW p l e { frames := 6, cells := 0, slots := 0, locals := 131 } s m args below meth c D cy Λ 3 (QcI D cy Λ NN r9 M9) M 25 [(0, .ref (Λ a0)), (1, .int x1)] []) : ∀ (M : Mem) (x1 : Int32) (s0 : Int32) (g1 : Nat), Is NN g1 9 → m_X8_page_L85 a0 k25 M x1 s0 g1 = some (r9, M9) → GW p l e { frames := 6, cells := 0, slots := 0, locals := 131 } s m args below meth c D cy Λ 3 (QcI D cy Λ NN r9 M9) M 85 [(0, .ref (Λ a0)), (1, .int x1)] [.int s0, .ref (Λ g1)] := by
  intro M x1 s0 g1 hk_g1 hf
  unfold m_X8_page_L85 at hf
  obtain ⟨r11, M11, h11, hf⟩ := ob2 hf
  refine g_resI (pc := 85) C (rnV (As := [.int s0]) (st := []) C (c_X8_takes C.2.2.2.2.2.1 hk_g1 h11) lkX8_97 rfl (by decide) hk_g1 rfl rfl (Nat.le_of_ble_eq_true rfl) ⟨⟨rfl, rfl⟩, Nat.le_of_ble_eq_true rfl, Nat.le_of_ble_eq_true rfl⟩ ⟨Nat.le_of_ble_eq_true rfl, Nat.le_of_ble_eq_true rfl⟩ dX8_page_85) ?_
  refine g_istore_n (pc := 88) (lv2 := [(2, .int r11), (0, .ref (Λ a0)), (1, .int x1)]) C dX8_page_88 rfl (by decide) rfl ?_
  refine g_aload_n (pc := 89) C 1 dX8_page_89 rfl rfl ?_
  obtain ⟨r12, h12, hf⟩ := ob hf
  refine g_resI (pc := 90) C (rnV (As := []) (st := []) C (c_X8_isWell C.2.2.2.2.2.1 hk0 h12) lkX8_90 rfl (by decide) hk0 rfl rfl (Nat.le_of_ble_eq_true rfl) ⟨⟨rfl, rfl⟩, Nat.le_of_ble_eq_true rfl, Nat.le_of_ble_eq_true rfl⟩ ⟨Nat.le_of_ble_eq_true rfl, Nat.le_of_ble_eq_true rfl⟩ dX8_page_90) ?_
  refine g_if_eq (pc := 93) (tgt := 109) C hf dX8_page_93 (by decide) (fun hf => ?_) (fun hf => ?_)
  · refine g_sub [1, 2] rfl ?_
    exact w_X8_page_L109 C hk0 hK25 M11 x1  hf
  refine g_iload_n (pc := 96) C 0 dX8_page_96 rfl rfl ?_
  refine g_bipush (pc := 97) (v := (78 : Int32)) C dX8_page_97 (by decide) ?_
  refine g_ic_ne (pc := 99) (tgt := 109) C hf dX8_page_99 (by decide) (fun hf => ?_) (fun hf => ?_)
  · refine g_aload_n (pc := 102) C 1 dX8_page_102 rfl rfl ?_
    obtain ⟨M13, h13, hf⟩ := ob hf
    refine g_resV (pc := 103) C (rnV (As := []) (st := []) C (c_X8_readsNode C.2.2.2.2.2.1 hk0 h13) lkX8_118 rfl (by decide) hk0 rfl rfl (Nat.le_of_ble_eq_true rfl) ⟨⟨rfl, rfl⟩, Nat.le_of_ble_eq_true rfl, Nat.le_of_ble_eq_true rfl⟩ ⟨Nat.le_of_ble_eq_true rfl, Nat.le_of_ble_eq_true rfl⟩ dX8_page_103) ?_
    refine g_goto (pc := 106) (tgt := 120) C dX8_page_106 (by decide) ?_
    refine g_aload_n (pc := 120) C 1 dX8_page_120 rfl rfl ?_
    refine g_aload_n (pc := 121) C 1 dX8_page_121 rfl rfl ?_
    refine g_bipush (pc := 122) (v := (59 : Int32)) C dX8_page_122 (by decide) ?_
    obtain ⟨r14, h14, hf⟩ := ob hf
    refine g_resI (pc := 124) C (rnV (As := [.int (59 : Int32)]) (st := [.ref (Λ a0)]) C (c_X8_isThis C.2.2.2.2.2.1 hk0 h14) lkX8_108 rfl (by decide) hk0 rfl rfl (Nat.le_of_ble_eq_true rfl) ⟨⟨rfl, rfl⟩, Nat.le_of_ble_eq_true rfl, Nat.le_of_ble_eq_true rfl⟩ ⟨Nat.le_of_ble_eq_true rfl, Nat.le_of_ble_eq_true rfl⟩ dX8_page_124) ?_
    obtain ⟨r15, M15, h15, hf⟩ := ob2 hf
    refine g_resI (pc := 127) C (rnV (As := [.int r14]) (st := []) C (c_X8_takes C.2.2.2.2.2.1 hk0 h15) lkX8_97 rfl (by decide) hk0 rfl rfl (Nat.le_of_ble_eq_true rfl) ⟨⟨rfl, rfl⟩, Nat.le_of_ble_eq_true rfl, Nat.le_of_ble_eq_true rfl⟩ ⟨Nat.le_of_ble_eq_true rfl, Nat.le_of_ble_eq_true rfl⟩ dX8_page_127) ?_
    refine g_pop (pc := 130) C dX8_page_130 rfl ?_
    refine g_iinc (pc := 131) (v := (x1 + (1 : Int32))) (lv2 := [(1, .int (x1 + (1 : Int32))), (2, .int r11), (0, .ref (Λ a0))]) C 2 dX8_page_131 rfl rfl (by decide) rfl ?_
    refine g_goto (pc := 134) (tgt := 25) C dX8_page_134 (by decide) ?_
    refine g_sub [2, 0] rfl ?_
    exact hK25 M15 (x1 + (1 : Int32))  hf
  refine g_sub [1, 2] rfl ?_
  exact w_X8_page_L109 C hk0 hK25 M11 x1  hf

theorem w_X8_page_L60 {p : Program} {l : Launch} {e : Env} {s : State} {m : MethodId} {args : Array Value} {below : List Frame} {meth : Method} {c : Code} {D : va_G} {cy : Nat → ClassId} {Λ : Nat → Nat} (C : Cx p s m args meth c cX8_page 3 RX8 (some .int) D cy Λ (AA Λ s.heap.size)) {a0 : Nat} {k25 : Mem → Int32 → Option (Int32 × Mem)} {r9 : Int32} {M9 : Mem} (hk0 : Is NN a0 9) (hK25 : ∀ (M : Mem) (x1 : Int32), k25 M x1 = some (r9, M9) → GW p l e { frames := 6, cells := 0, slots := 0, locals := 131 } s m args below meth c D cy Λ 3 (QcI D cy Λ NN r9 M9) M 25 [(0, .ref (Λ a0)), (1, .int x1)] []) : ∀ (M : Mem) (x1 : Int32) (g0 : Nat), Is NN g0 9 → m_X8_page_L60 a0 k25 M x1 g0 = some (r9, M9) → GW p l e { frames := 6, cells := 0, slots := 0, locals := 131 } s m args below meth c D cy Λ 3 (QcI D cy Λ NN r9 M9) M 60 [(0, .ref (Λ a0)), (1, .int x1)] [.ref (Λ g0)] := by
  intro M x1 g0 hk_g0 hf
  unfold m_X8_page_L60 at hf
  refine g_aload_n (pc := 60) C 0 dX8_page_60 rfl rfl ?_
  refine g_bipush (pc := 61) (v := (82 : Int32)) C dX8_page_61 (by decide) ?_
  obtain ⟨r11, h11, hf⟩ := ob hf
  refine g_resI (pc := 63) C (rnV (As := [.int (82 : Int32)]) (st := [.ref (Λ g0)]) C (c_X8_isThis C.2.2.2.2.2.1 hk0 h11) lkX8_108 rfl (by decide) hk0 rfl rfl (Nat.le_of_ble_eq_true rfl) ⟨⟨rfl, rfl⟩, Nat.le_of_ble_eq_true rfl, Nat.le_of_ble_eq_true rfl⟩ ⟨Nat.le_of_ble_eq_true rfl, Nat.le_of_ble_eq_true rfl⟩ dX8_page_63) ?_
  refine g_if_eq (pc := 66) (tgt := 84) C hf dX8_page_66 (by decide) (fun hf => ?_) (fun hf => ?_)
  · refine g_iconst (pc := 84) (v := (0 : Int32)) C dX8_page_84 (by decide) ?_
    exact w_X8_page_L85 C hk0 hK25 M x1 (0 : Int32) g0 hk_g0 hf
  refine g_aload_n (pc := 69) C 0 dX8_page_69 rfl rfl ?_
  refine g_getR (pc := 70) (T := 9) C hf fgX8_16 (by decide) hk0 rfl dX8_page_70 (fun a12 hk12 hf => ?_)
  refine g_iconst (pc := 73) (v := (1 : Int32)) C dX8_page_73 (by decide) ?_
  refine g_iald (pc := 74) C hf hk12 dX8_page_74 (fun v13 hf => ?_)
  refine g_bipush (pc := 75) (v := (8 : Int32)) C dX8_page_75 (by decide) ?_
  refine g_ic_ge (pc := 77) (tgt := 84) C hf dX8_page_77 (by decide) (fun hf => ?_) (fun hf => ?_)
  · refine g_iconst (pc := 84) (v := (0 : Int32)) C dX8_page_84 (by decide) ?_
    exact w_X8_page_L85 C hk0 hK25 M x1 (0 : Int32) g0 hk_g0 hf
  refine g_iconst (pc := 80) (v := (1 : Int32)) C dX8_page_80 (by decide) ?_
  refine g_goto (pc := 81) (tgt := 85) C dX8_page_81 (by decide) ?_
  exact w_X8_page_L85 C hk0 hK25 M x1 (1 : Int32) g0 hk_g0 hf

theorem w_X8_page_L25 {p : Program} {l : Launch} {e : Env} {s : State} {m : MethodId} {args : Array Value} {below : List Frame} {meth : Method} {c : Code} {D : va_G} {cy : Nat → ClassId} {Λ : Nat → Nat} (C : Cx p s m args meth c cX8_page 3 RX8 (some .int) D cy Λ (AA Λ s.heap.size)) {a0 : Nat}  {r9 : Int32} {M9 : Mem} (hk0 : Is NN a0 9)  : ∀ (fu : Nat) (M : Mem) (x1 : Int32), m_X8_page_L25 a0 fu M x1 = some (r9, M9) → GW p l e { frames := 6, cells := 0, slots := 0, locals := 131 } s m args below meth c D cy Λ 3 (QcI D cy Λ NN r9 M9) M 25 [(0, .ref (Λ a0)), (1, .int x1)] [] := by
  intro fu
  induction fu with
  | zero =>
    intro M x1  hf
    cases hf
  | succ fu ih =>
    intro M x1  hf
    unfold m_X8_page_L25 at hf
    refine g_aload_n (pc := 25) C 0 dX8_page_25 rfl rfl ?_
    obtain ⟨r11, h11, hf⟩ := ob hf
    refine g_resI (pc := 26) C (rnV (As := []) (st := []) C (c_X8_isWell C.2.2.2.2.2.1 hk0 h11) lkX8_90 rfl (by decide) hk0 rfl rfl (Nat.le_of_ble_eq_true rfl) ⟨⟨rfl, rfl⟩, Nat.le_of_ble_eq_true rfl, Nat.le_of_ble_eq_true rfl⟩ ⟨Nat.le_of_ble_eq_true rfl, Nat.le_of_ble_eq_true rfl⟩ dX8_page_26) ?_
    refine g_if_eq (pc := 29) (tgt := 137) C hf dX8_page_29 (by decide) (fun hf => ?_) (fun hf => ?_)
    · exact w_X8_page_L137 C hk0 M x1  hf
    refine g_aload_n (pc := 32) C 0 dX8_page_32 rfl rfl ?_
    refine g_getI (pc := 33) C fgX8_77 (by decide) hk0 rfl dX8_page_33 ?_
    refine g_if_eq (pc := 36) (tgt := 137) C hf dX8_page_36 (by decide) (fun hf => ?_) (fun hf => ?_)
    · exact w_X8_page_L137 C hk0 M x1  hf
    refine g_aload_n (pc := 39) C 0 dX8_page_39 rfl rfl ?_
    refine g_aload_n (pc := 40) C 0 dX8_page_40 rfl rfl ?_
    refine g_bipush (pc := 41) (v := (78 : Int32)) C dX8_page_41 (by decide) ?_
    obtain ⟨r12, h12, hf⟩ := ob hf
    refine g_resI (pc := 43) C (rnV (As := [.int (78 : Int32)]) (st := [.ref (Λ a0)]) C (c_X8_isThis C.2.2.2.2.2.1 hk0 h12) lkX8_108 rfl (by decide) hk0 rfl rfl (Nat.le_of_ble_eq_true rfl) ⟨⟨rfl, rfl⟩, Nat.le_of_ble_eq_true rfl, Nat.le_of_ble_eq_true rfl⟩ ⟨Nat.le_of_ble_eq_true rfl, Nat.le_of_ble_eq_true rfl⟩ dX8_page_43) ?_
    refine g_if_eq (pc := 46) (tgt := 60) C hf dX8_page_46 (by decide) (fun hf => ?_) (fun hf => ?_)
    · exact w_X8_page_L60 C hk0 ih M x1 a0 hk0 hf
    refine g_aload_n (pc := 49) C 0 dX8_page_49 rfl rfl ?_
    refine g_getR (pc := 50) (T := 9) C hf fgX8_16 (by decide) hk0 rfl dX8_page_50 (fun a13 hk13 hf => ?_)
    refine g_iconst (pc := 53) (v := (0 : Int32)) C dX8_page_53 (by decide) ?_
    refine g_iald (pc := 54) C hf hk13 dX8_page_54 (fun v14 hf => ?_)
    refine g_bipush (pc := 55) (v := (9 : Int32)) C dX8_page_55 (by decide) ?_
    refine g_ic_lt (pc := 57) (tgt := 80) C hf dX8_page_57 (by decide) (fun hf => ?_) (fun hf => ?_)
    · refine g_iconst (pc := 80) (v := (1 : Int32)) C dX8_page_80 (by decide) ?_
      refine g_goto (pc := 81) (tgt := 85) C dX8_page_81 (by decide) ?_
      exact w_X8_page_L85 C hk0 ih M x1 (1 : Int32) a0 hk0 hf
    exact w_X8_page_L60 C hk0 ih M x1 a0 hk0 hf

theorem w_X8_page {p : Program} {l : Launch} {e : Env} {s : State} {m : MethodId} {args : Array Value} {below : List Frame} {meth : Method} {c : Code} {D : va_G} {cy : Nat → ClassId} {Λ : Nat → Nat} (C : Cx p s m args meth c cX8_page 3 RX8 (some .int) D cy Λ (AA Λ s.heap.size)) {M : Mem} {a0 : Nat} {r9 : Int32} {M9 : Mem} (hk0 : Is NN a0 9) (hf : m_X8_page M a0 = some (r9, M9)) : GW p l e { frames := 6, cells := 0, slots := 0, locals := 131 } s m args below meth c D cy Λ 3 (QcI D cy Λ NN r9 M9) M 0 [(0, .ref (Λ a0))] [] := by
  unfold m_X8_page at hf
  refine g_aload_n (pc := 0) C 0 dX8_page_0 rfl rfl ?_
  refine g_iconst (pc := 1) (v := (0 : Int32)) C dX8_page_1 (by decide) ?_
  refine g_pI (pc := 2) C hf fpX8_56 (by decide) hk0 stX8_0 (Nat.le_of_ble_eq_true rfl) rfl rfl dX8_page_2 (fun M11 hf => ?_)
  refine g_aload_n (pc := 5) C 0 dX8_page_5 rfl rfl ?_
  refine g_iconst (pc := 6) (v := (-1 : Int32)) C dX8_page_6 (by decide) ?_
  refine g_pI (pc := 7) C hf fpX8_87 (by decide) hk0 stX8_7 (Nat.le_of_ble_eq_true rfl) rfl rfl dX8_page_7 (fun M12 hf => ?_)
  refine g_aload_n (pc := 10) C 0 dX8_page_10 rfl rfl ?_
  refine g_iconst (pc := 11) (v := (0 : Int32)) C dX8_page_11 (by decide) ?_
  refine g_pI (pc := 12) C hf fpX8_67 (by decide) hk0 stX8_3 (Nat.le_of_ble_eq_true rfl) rfl rfl dX8_page_12 (fun M13 hf => ?_)
  refine g_aload_n (pc := 15) C 0 dX8_page_15 rfl rfl ?_
  obtain ⟨M14, h14, hf⟩ := ob hf
  refine g_resV (pc := 16) C (rnV (As := []) (st := []) C (c_X8_begins C.2.2.2.2.2.1 hk0 h14) lkX8_50 rfl (by decide) hk0 rfl rfl (Nat.le_of_ble_eq_true rfl) ⟨⟨rfl, rfl⟩, Nat.le_of_ble_eq_true rfl, Nat.le_of_ble_eq_true rfl⟩ ⟨Nat.le_of_ble_eq_true rfl, Nat.le_of_ble_eq_true rfl⟩ dX8_page_16) ?_
  refine g_iconst (pc := 19) (v := (0 : Int32)) C dX8_page_19 (by decide) ?_
  refine g_istore_n (pc := 20) (lv2 := [(1, .int (0 : Int32)), (0, .ref (Λ a0))]) C dX8_page_20 rfl (by decide) rfl ?_
  refine g_aload_n (pc := 21) C 1 dX8_page_21 rfl rfl ?_
  obtain ⟨M15, h15, hf⟩ := ob hf
  refine g_resV (pc := 22) C (rnV (As := []) (st := []) C (c_X8_advances C.2.2.2.2.2.1 hk0 h15) lkX8_94 rfl (by decide) hk0 rfl rfl (Nat.le_of_ble_eq_true rfl) ⟨⟨rfl, rfl⟩, Nat.le_of_ble_eq_true rfl, Nat.le_of_ble_eq_true rfl⟩ ⟨Nat.le_of_ble_eq_true rfl, Nat.le_of_ble_eq_true rfl⟩ dX8_page_22) ?_
  refine g_sub [1, 0] rfl ?_
  exact w_X8_page_L25 C hk0 FU M15 (0 : Int32)  hf

theorem c_X8_page {l : Launch} {D : va_G} {cy : Nat → ClassId} {Λ : Nat → Nat} (hi : ∀ i j : Nat, Λ i = Λ j → i = j) {M : Mem} {a0 : Nat} {r9 : Int32} {M9 : Mem} (hk0 : Is NN a0 9) (hf : m_X8_page M a0 = some (r9, M9)) : Ct l yX8_page cX8_page 3 (some .int) { frames := 6, cells := 0, slots := 0, locals := 131 } D cy Λ [.ref (Λ a0)] NN M 0 0 (QcI D cy Λ NN r9 M9) := ent (by decide) hi (Nat.le_of_ble_eq_true rfl) (fun p e s m args below meth c C => w_X8_page C hk0 hf)
theorem w_X8_isNode {p : Program} {l : Launch} {e : Env} {s : State} {m : MethodId} {args : Array Value} {below : List Frame} {meth : Method} {c : Code} {D : va_G} {cy : Nat → ClassId} {Λ : Nat → Nat} (C : Cx p s m args meth c cX8_isNode 2 RX8 (some .boolean) D cy Λ (AA Λ s.heap.size)) {M : Mem} {a0 : Nat} {x1 : Int32} {r9 : Int32} (hk0 : Is NN a0 9) (hf : m_X8_isNode M a0 x1 = some r9) : GW p l e { frames := 1, cells := 0, slots := 0, locals := 22 } s m args below meth c D cy Λ 2 (QcI D cy Λ NN r9 M) M 0 [(0, .ref (Λ a0)), (1, .int x1)] [] := by
  unfold m_X8_isNode at hf
  refine g_iload_n (pc := 0) C 1 dX8_isNode_0 rfl rfl ?_
  refine g_iconst (pc := 1) (v := (0 : Int32)) C dX8_isNode_1 (by decide) ?_
  refine g_aload_n (pc := 2) C 0 dX8_isNode_2 rfl rfl ?_
  refine g_getR (pc := 3) (T := 9) C hf fgX8_13 (by decide) hk0 rfl dX8_isNode_3 (fun a11 hk11 hf => ?_)
  refine g_iconst (pc := 6) (v := (0 : Int32)) C dX8_isNode_6 (by decide) ?_
  refine g_iald (pc := 7) C hf hk11 dX8_isNode_7 (fun v12 hf => ?_)
  refine g_iconst (pc := 8) (v := (1 : Int32)) C dX8_isNode_8 (by decide) ?_
  refine g_isub (pc := 9) C dX8_isNode_9 ?_
  obtain ⟨r13, h13, hf⟩ := ob hf
  refine g_resI (pc := 10) C (rnS (As := [.int x1, .int (0 : Int32), .int (v12 - (1 : Int32))]) (st := []) C (c_X8_in C.2.2.2.2.2.1  h13) lkX8_60 rfl rfl (Nat.le_of_ble_eq_true rfl) ⟨⟨rfl, rfl⟩, Nat.le_of_ble_eq_true rfl, Nat.le_of_ble_eq_true rfl⟩ ⟨Nat.le_of_ble_eq_true rfl, Nat.le_of_ble_eq_true rfl⟩ dX8_isNode_10) ?_
  obtain ⟨hn, hf⟩ := bz_n hf
  exact g_zret C hn hf dX8_isNode_13

theorem c_X8_isNode {l : Launch} {D : va_G} {cy : Nat → ClassId} {Λ : Nat → Nat} (hi : ∀ i j : Nat, Λ i = Λ j → i = j) {M : Mem} {a0 : Nat} {x1 : Int32} {r9 : Int32} (hk0 : Is NN a0 9) (hf : m_X8_isNode M a0 x1 = some r9) : Ct l yX8_isNode cX8_isNode 2 (some .boolean) { frames := 1, cells := 0, slots := 0, locals := 22 } D cy Λ [.ref (Λ a0), .int x1] NN M 0 0 (QcI D cy Λ NN r9 M) := ent (by decide) hi (Nat.le_of_ble_eq_true rfl) (fun p e s m args below meth c C => w_X8_isNode C hk0 hf)
theorem w_X8_isRule {p : Program} {l : Launch} {e : Env} {s : State} {m : MethodId} {args : Array Value} {below : List Frame} {meth : Method} {c : Code} {D : va_G} {cy : Nat → ClassId} {Λ : Nat → Nat} (C : Cx p s m args meth c cX8_isRule 2 RX8 (some .boolean) D cy Λ (AA Λ s.heap.size)) {M : Mem} {a0 : Nat} {x1 : Int32} {r9 : Int32} (hk0 : Is NN a0 9) (hf : m_X8_isRule M a0 x1 = some r9) : GW p l e { frames := 1, cells := 0, slots := 0, locals := 22 } s m args below meth c D cy Λ 2 (QcI D cy Λ NN r9 M) M 0 [(0, .ref (Λ a0)), (1, .int x1)] [] := by
  unfold m_X8_isRule at hf
  refine g_iload_n (pc := 0) C 1 dX8_isRule_0 rfl rfl ?_
  refine g_iconst (pc := 1) (v := (0 : Int32)) C dX8_isRule_1 (by decide) ?_
  refine g_aload_n (pc := 2) C 0 dX8_isRule_2 rfl rfl ?_
  refine g_getR (pc := 3) (T := 9) C hf fgX8_13 (by decide) hk0 rfl dX8_isRule_3 (fun a11 hk11 hf => ?_)
  refine g_iconst (pc := 6) (v := (1 : Int32)) C dX8_isRule_6 (by decide) ?_
  refine g_iald (pc := 7) C hf hk11 dX8_isRule_7 (fun v12 hf => ?_)
  refine g_iconst (pc := 8) (v := (1 : Int32)) C dX8_isRule_8 (by decide) ?_
  refine g_isub (pc := 9) C dX8_isRule_9 ?_
  obtain ⟨r13, h13, hf⟩ := ob hf
  refine g_resI (pc := 10) C (rnS (As := [.int x1, .int (0 : Int32), .int (v12 - (1 : Int32))]) (st := []) C (c_X8_in C.2.2.2.2.2.1  h13) lkX8_60 rfl rfl (Nat.le_of_ble_eq_true rfl) ⟨⟨rfl, rfl⟩, Nat.le_of_ble_eq_true rfl, Nat.le_of_ble_eq_true rfl⟩ ⟨Nat.le_of_ble_eq_true rfl, Nat.le_of_ble_eq_true rfl⟩ dX8_isRule_10) ?_
  obtain ⟨hn, hf⟩ := bz_n hf
  exact g_zret C hn hf dX8_isRule_13

theorem c_X8_isRule {l : Launch} {D : va_G} {cy : Nat → ClassId} {Λ : Nat → Nat} (hi : ∀ i j : Nat, Λ i = Λ j → i = j) {M : Mem} {a0 : Nat} {x1 : Int32} {r9 : Int32} (hk0 : Is NN a0 9) (hf : m_X8_isRule M a0 x1 = some r9) : Ct l yX8_isRule cX8_isRule 2 (some .boolean) { frames := 1, cells := 0, slots := 0, locals := 22 } D cy Λ [.ref (Λ a0), .int x1] NN M 0 0 (QcI D cy Λ NN r9 M) := ent (by decide) hi (Nat.le_of_ble_eq_true rfl) (fun p e s m args below meth c C => w_X8_isRule C hk0 hf)
theorem w_X8_isFour {p : Program} {l : Launch} {e : Env} {s : State} {m : MethodId} {args : Array Value} {below : List Frame} {meth : Method} {c : Code} {D : va_G} {cy : Nat → ClassId} {Λ : Nat → Nat} (C : Cx p s m args meth c cX8_isFour 1 RX8 (some .boolean) D cy Λ (AA Λ s.heap.size)) {M : Mem} {x0 : Int32} {r9 : Int32}  (hf : m_X8_isFour x0 = some r9) : GW p l e { frames := 1, cells := 0, slots := 0, locals := 22 } s m args below meth c D cy Λ 1 (QcI D cy Λ NN r9 M) M 0 [(0, .int x0)] [] := by
  unfold m_X8_isFour at hf
  refine g_iload_n (pc := 0) C 0 dX8_isFour_0 rfl rfl ?_
  refine g_iconst (pc := 1) (v := (0 : Int32)) C dX8_isFour_1 (by decide) ?_
  refine g_iconst (pc := 2) (v := (3 : Int32)) C dX8_isFour_2 (by decide) ?_
  obtain ⟨r11, h11, hf⟩ := ob hf
  refine g_resI (pc := 3) C (rnS (As := [.int x0, .int (0 : Int32), .int (3 : Int32)]) (st := []) C (c_X8_in C.2.2.2.2.2.1  h11) lkX8_60 rfl rfl (Nat.le_of_ble_eq_true rfl) ⟨⟨rfl, rfl⟩, Nat.le_of_ble_eq_true rfl, Nat.le_of_ble_eq_true rfl⟩ ⟨Nat.le_of_ble_eq_true rfl, Nat.le_of_ble_eq_true rfl⟩ dX8_isFour_3) ?_
  obtain ⟨hn, hf⟩ := bz_n hf
  exact g_zret C hn hf dX8_isFour_6

theorem c_X8_isFour {l : Launch} {D : va_G} {cy : Nat → ClassId} {Λ : Nat → Nat} (hi : ∀ i j : Nat, Λ i = Λ j → i = j) {M : Mem} {x0 : Int32} {r9 : Int32}  (hf : m_X8_isFour x0 = some r9) : Ct l yX8_isFour cX8_isFour 1 (some .boolean) { frames := 1, cells := 0, slots := 0, locals := 22 } D cy Λ [.int x0] NN M 0 0 (QcI D cy Λ NN r9 M) := ent (by decide) hi (Nat.le_of_ble_eq_true rfl) (fun p e s m args below meth c C => w_X8_isFour C  hf)
theorem w_X8_fits_L28 {p : Program} {l : Launch} {e : Env} {s : State} {m : MethodId} {args : Array Value} {below : List Frame} {meth : Method} {c : Code} {D : va_G} {cy : Nat → ClassId} {Λ : Nat → Nat} (C : Cx p s m args meth c cX8_fits 4 RX8 (some .boolean) D cy Λ (AA Λ s.heap.size)) {M : Mem} {a0 : Nat} {x1 : Int32} {x2 : Int32}  {r9 : Int32} (hk0 : Is NN a0 9)  : m_X8_fits_L28 M a0 x1 x2  = some r9 → GW p l e { frames := 0, cells := 0, slots := 0, locals := 0 } s m args below meth c D cy Λ 4 (QcI D cy Λ NN r9 M) M 28 [(0, .ref (Λ a0)), (1, .int x1), (2, .int x2)] [] := by
  intro   hf
  unfold m_X8_fits_L28 at hf
  refine g_aload_n (pc := 28) C 0 dX8_fits_28 rfl rfl ?_
  refine g_getR (pc := 29) (T := 9) C hf fgX8_13 (by decide) hk0 rfl dX8_fits_29 (fun a11 hk11 hf => ?_)
  refine g_bipush (pc := 32) (v := (44 : Int32)) C dX8_fits_32 (by decide) ?_
  refine g_iload_n (pc := 34) C 1 dX8_fits_34 rfl rfl ?_
  refine g_iadd (pc := 35) C dX8_fits_35 ?_
  refine g_iald (pc := 36) C hf hk11 dX8_fits_36 (fun v12 hf => ?_)
  refine g_aload_n (pc := 37) C 0 dX8_fits_37 rfl rfl ?_
  refine g_getR (pc := 38) (T := 9) C hf fgX8_22 (by decide) hk0 rfl dX8_fits_38 (fun a13 hk13 hf => ?_)
  refine g_bipush (pc := 41) (v := (9 : Int32)) C dX8_fits_41 (by decide) ?_
  refine g_iload_n (pc := 43) C 2 dX8_fits_43 rfl rfl ?_
  refine g_iadd (pc := 44) C dX8_fits_44 ?_
  refine g_iald (pc := 45) C hf hk13 dX8_fits_45 (fun v14 hf => ?_)
  refine g_iconst (pc := 46) (v := (-1 : Int32)) C dX8_fits_46 (by decide) ?_
  refine g_ixor (pc := 47) C dX8_fits_47 ?_
  refine g_iand (pc := 48) C dX8_fits_48 ?_
  refine g_if_ne (pc := 49) (tgt := 56) C hf dX8_fits_49 (by decide) (fun hf => ?_) (fun hf => ?_)
  · refine g_iconst (pc := 52) (v := (1 : Int32)) C dX8_fits_52 (by decide) ?_
    refine g_goto (pc := 53) (tgt := 57) C dX8_fits_53 (by decide) ?_
    exact g_zret C (by decide) hf dX8_fits_57
  refine g_iconst (pc := 56) (v := (0 : Int32)) C dX8_fits_56 (by decide) ?_
  exact g_zret C (by decide) hf dX8_fits_57

theorem w_X8_fits {p : Program} {l : Launch} {e : Env} {s : State} {m : MethodId} {args : Array Value} {below : List Frame} {meth : Method} {c : Code} {D : va_G} {cy : Nat → ClassId} {Λ : Nat → Nat} (C : Cx p s m args meth c cX8_fits 4 RX8 (some .boolean) D cy Λ (AA Λ s.heap.size)) {M : Mem} {a0 : Nat} {x1 : Int32} {x2 : Int32} {r9 : Int32} (hk0 : Is NN a0 9) (hf : m_X8_fits M a0 x1 x2 = some r9) : GW p l e { frames := 0, cells := 0, slots := 0, locals := 0 } s m args below meth c D cy Λ 4 (QcI D cy Λ NN r9 M) M 0 [(0, .ref (Λ a0)), (1, .int x1), (2, .int x2)] [] := by
  unfold m_X8_fits at hf
  refine g_aload_n (pc := 0) C 0 dX8_fits_0 rfl rfl ?_
  refine g_getR (pc := 1) (T := 9) C hf fgX8_13 (by decide) hk0 rfl dX8_fits_1 (fun a11 hk11 hf => ?_)
  refine g_bipush (pc := 4) (v := (20 : Int32)) C dX8_fits_4 (by decide) ?_
  refine g_iload_n (pc := 6) C 1 dX8_fits_6 rfl rfl ?_
  refine g_iadd (pc := 7) C dX8_fits_7 ?_
  refine g_iald (pc := 8) C hf hk11 dX8_fits_8 (fun v12 hf => ?_)
  refine g_istore_n (pc := 9) (lv2 := [(3, .int v12), (0, .ref (Λ a0)), (1, .int x1), (2, .int x2)]) C dX8_fits_9 rfl (by decide) rfl ?_
  refine g_iload_n (pc := 10) C 0 dX8_fits_10 rfl rfl ?_
  refine g_bipush (pc := 11) (v := (-9 : Int32)) C dX8_fits_11 (by decide) ?_
  refine g_ic_eq (pc := 13) (tgt := 28) C hf dX8_fits_13 (by decide) (fun hf => ?_) (fun hf => ?_)
  · refine g_sub [1, 2, 3] rfl ?_
    exact w_X8_fits_L28 C hk0   hf
  refine g_iload_n (pc := 16) C 0 dX8_fits_16 rfl rfl ?_
  refine g_aload_n (pc := 17) C 1 dX8_fits_17 rfl rfl ?_
  refine g_getR (pc := 18) (T := 9) C hf fgX8_22 (by decide) hk0 rfl dX8_fits_18 (fun a13 hk13 hf => ?_)
  refine g_iconst (pc := 21) (v := (0 : Int32)) C dX8_fits_21 (by decide) ?_
  refine g_iload_n (pc := 22) C 3 dX8_fits_22 rfl rfl ?_
  refine g_iadd (pc := 23) C dX8_fits_23 ?_
  refine g_iald (pc := 24) C hf hk13 dX8_fits_24 (fun v14 hf => ?_)
  refine g_ic_ne (pc := 25) (tgt := 56) C hf dX8_fits_25 (by decide) (fun hf => ?_) (fun hf => ?_)
  · refine g_sub [1, 2, 3] rfl ?_
    exact w_X8_fits_L28 C hk0   hf
  refine g_iconst (pc := 56) (v := (0 : Int32)) C dX8_fits_56 (by decide) ?_
  exact g_zret C (by decide) hf dX8_fits_57

theorem c_X8_fits {l : Launch} {D : va_G} {cy : Nat → ClassId} {Λ : Nat → Nat} (hi : ∀ i j : Nat, Λ i = Λ j → i = j) {M : Mem} {a0 : Nat} {x1 : Int32} {x2 : Int32} {r9 : Int32} (hk0 : Is NN a0 9) (hf : m_X8_fits M a0 x1 x2 = some r9) : Ct l yX8_fits cX8_fits 4 (some .boolean) { frames := 0, cells := 0, slots := 0, locals := 0 } D cy Λ [.ref (Λ a0), .int x1, .int x2] NN M 0 0 (QcI D cy Λ NN r9 M) := ent (by decide) hi (Nat.le_of_ble_eq_true rfl) (fun p e s m args below meth c C => w_X8_fits C hk0 hf)
theorem w_X8_matching_L87 {p : Program} {l : Launch} {e : Env} {s : State} {m : MethodId} {args : Array Value} {below : List Frame} {meth : Method} {c : Code} {D : va_G} {cy : Nat → ClassId} {Λ : Nat → Nat} (C : Cx p s m args meth c cX8_matching 9 RX8 (some .int) D cy Λ (AA Λ s.heap.size)) {M : Mem} {a0 : Nat} {x1 : Int32} {x2 : Int32} {k5 : Int32 → Int32 → Option Int32} {k17 : Int32 → Int32 → Int32 → Int32 → Option Int32} {k61 : Int32 → Int32 → Int32 → Int32 → Int32 → Int32 → Option Int32} {r9 : Int32} (hk0 : Is NN a0 9) (hK5 : ∀ (x3 : Int32) (x4 : Int32), k5 x3 x4 = some r9 → GW p l e { frames := 1, cells := 0, slots := 0, locals := 23 } s m args below meth c D cy Λ 9 (QcI D cy Λ NN r9 M) M 5 [(0, .ref (Λ a0)), (1, .int x1), (2, .int x2), (3, .int x3), (4, .int x4)] []) (hK17 : ∀ (x3 : Int32) (x4 : Int32) (x5 : Int32) (x6 : Int32), k17 x3 x4 x5 x6 = some r9 → GW p l e { frames := 1, cells := 0, slots := 0, locals := 23 } s m args below meth c D cy Λ 9 (QcI D cy Λ NN r9 M) M 17 [(0, .ref (Λ a0)), (1, .int x1), (2, .int x2), (3, .int x3), (4, .int x4), (5, .int x5), (6, .int x6)] []) (hK61 : ∀ (x3 : Int32) (x4 : Int32) (x5 : Int32) (x6 : Int32) (x7 : Int32) (x8 : Int32), k61 x3 x4 x5 x6 x7 x8 = some r9 → GW p l e { frames := 1, cells := 0, slots := 0, locals := 23 } s m args below meth c D cy Λ 9 (QcI D cy Λ NN r9 M) M 61 [(0, .ref (Λ a0)), (1, .int x1), (2, .int x2), (3, .int x3), (4, .int x4), (5, .int x5), (6, .int x6), (7, .int x7), (8, .int x8)] []) : ∀ (x3 : Int32) (x4 : Int32) (x5 : Int32) (x6 : Int32) (x8 : Int32) (s0 : Int32), m_X8_matching_L87 M a0 x1 x2 k5 k17 k61 x3 x4 x5 x6 x8 s0 = some r9 → GW p l e { frames := 1, cells := 0, slots := 0, locals := 23 } s m args below meth c D cy Λ 9 (QcI D cy Λ NN r9 M) M 87 [(0, .ref (Λ a0)), (1, .int x1), (2, .int x2), (3, .int x3), (4, .int x4), (5, .int x5), (6, .int x6), (8, .int x8)] [.int s0] := by
  intro x3 x4 x5 x6 x8 s0  hf
  unfold m_X8_matching_L87 at hf
  refine g_istore (pc := 87) (lv2 := [(7, .int s0), (0, .ref (Λ a0)), (1, .int x1), (2, .int x2), (3, .int x3), (4, .int x4), (5, .int x5), (6, .int x6), (8, .int x8)]) C dX8_matching_87 (by decide) rfl ?_
  refine g_aload_n (pc := 89) C 1 dX8_matching_89 rfl rfl ?_
  refine g_getR (pc := 90) (T := 9) C hf fgX8_13 (by decide) hk0 rfl dX8_matching_90 (fun a11 hk11 hf => ?_)
  refine g_bipush (pc := 93) (v := (68 : Int32)) C dX8_matching_93 (by decide) ?_
  refine g_iconst (pc := 95) (v := (3 : Int32)) C dX8_matching_95 (by decide) ?_
  refine g_iload_n (pc := 96) C 2 dX8_matching_96 rfl rfl ?_
  refine g_imul (pc := 97) C dX8_matching_97 ?_
  refine g_iadd (pc := 98) C dX8_matching_98 ?_
  refine g_iload (pc := 99) C 5 dX8_matching_99 rfl ?_
  refine g_iadd (pc := 101) C dX8_matching_101 ?_
  refine g_iald (pc := 102) C hf hk11 dX8_matching_102 (fun v12 hf => ?_)
  refine g_bipush (pc := 103) (v := (62 : Int32)) C dX8_matching_103 (by decide) ?_
  refine g_ic_ne (pc := 105) (tgt := 113) C hf dX8_matching_105 (by decide) (fun hf => ?_) (fun hf => ?_)
  · refine g_bipush (pc := 108) (v := (-9 : Int32)) C dX8_matching_108 (by decide) ?_
    refine g_goto (pc := 110) (tgt := 122) C dX8_matching_110 (by decide) ?_
    refine g_istore (pc := 122) (lv2 := [(8, .int (-9 : Int32)), (7, .int s0), (0, .ref (Λ a0)), (1, .int x1), (2, .int x2), (3, .int x3), (4, .int x4), (5, .int x5), (6, .int x6)]) C dX8_matching_122 (by decide) rfl ?_
    refine g_goto (pc := 124) (tgt := 61) C dX8_matching_124 (by decide) ?_
    refine g_sub [2, 3, 4, 5, 6, 7, 8, 1, 0] rfl ?_
    exact hK61 x3 x4 x5 x6 s0 (-9 : Int32)  hf
  refine g_aload_n (pc := 113) C 1 dX8_matching_113 rfl rfl ?_
  refine g_getR (pc := 114) (T := 9) C hf fgX8_13 (by decide) hk0 rfl dX8_matching_114 (fun a13 hk13 hf => ?_)
  refine g_iconst (pc := 117) (v := (3 : Int32)) C dX8_matching_117 (by decide) ?_
  refine g_iload (pc := 118) C 8 dX8_matching_118 rfl ?_
  refine g_iadd (pc := 120) C dX8_matching_120 ?_
  refine g_iald (pc := 121) C hf hk13 dX8_matching_121 (fun v14 hf => ?_)
  refine g_istore (pc := 122) (lv2 := [(8, .int v14), (7, .int s0), (0, .ref (Λ a0)), (1, .int x1), (2, .int x2), (3, .int x3), (4, .int x4), (5, .int x5), (6, .int x6)]) C dX8_matching_122 (by decide) rfl ?_
  refine g_goto (pc := 124) (tgt := 61) C dX8_matching_124 (by decide) ?_
  refine g_sub [2, 3, 4, 5, 6, 7, 8, 1, 0] rfl ?_
  exact hK61 x3 x4 x5 x6 s0 v14  hf

theorem w_X8_matching_L61 {p : Program} {l : Launch} {e : Env} {s : State} {m : MethodId} {args : Array Value} {below : List Frame} {meth : Method} {c : Code} {D : va_G} {cy : Nat → ClassId} {Λ : Nat → Nat} (C : Cx p s m args meth c cX8_matching 9 RX8 (some .int) D cy Λ (AA Λ s.heap.size)) {M : Mem} {a0 : Nat} {x1 : Int32} {x2 : Int32} {k5 : Int32 → Int32 → Option Int32} {k17 : Int32 → Int32 → Int32 → Int32 → Option Int32} {r9 : Int32} (hk0 : Is NN a0 9) (hK5 : ∀ (x3 : Int32) (x4 : Int32), k5 x3 x4 = some r9 → GW p l e { frames := 1, cells := 0, slots := 0, locals := 23 } s m args below meth c D cy Λ 9 (QcI D cy Λ NN r9 M) M 5 [(0, .ref (Λ a0)), (1, .int x1), (2, .int x2), (3, .int x3), (4, .int x4)] []) (hK17 : ∀ (x3 : Int32) (x4 : Int32) (x5 : Int32) (x6 : Int32), k17 x3 x4 x5 x6 = some r9 → GW p l e { frames := 1, cells := 0, slots := 0, locals := 23 } s m args below meth c D cy Λ 9 (QcI D cy Λ NN r9 M) M 17 [(0, .ref (Λ a0)), (1, .int x1), (2, .int x2), (3, .int x3), (4, .int x4), (5, .int x5), (6, .int x6)] []) : ∀ (fu : Nat) (x3 : Int32) (x4 : Int32) (x5 : Int32) (x6 : Int32) (x7 : Int32) (x8 : Int32), m_X8_matching_L61 M a0 x1 x2 k5 k17 fu x3 x4 x5 x6 x7 x8 = some r9 → GW p l e { frames := 1, cells := 0, slots := 0, locals := 23 } s m args below meth c D cy Λ 9 (QcI D cy Λ NN r9 M) M 61 [(0, .ref (Λ a0)), (1, .int x1), (2, .int x2), (3, .int x3), (4, .int x4), (5, .int x5), (6, .int x6), (7, .int x7), (8, .int x8)] [] := by
  intro fu
  induction fu with
  | zero =>
    intro x3 x4 x5 x6 x7 x8  hf
    cases hf
  | succ fu ih =>
    intro x3 x4 x5 x6 x7 x8  hf
    unfold m_X8_matching_L61 at hf
    refine g_iload (pc := 61) C 8 dX8_matching_61 rfl ?_
    refine g_bipush (pc := 63) (v := (-9 : Int32)) C dX8_matching_63 (by decide) ?_
    refine g_ic_eq (pc := 65) (tgt := 127) C hf dX8_matching_65 (by decide) (fun hf => ?_) (fun hf => ?_)
    · refine g_iload (pc := 127) C 5 dX8_matching_127 rfl ?_
      refine g_iload (pc := 129) C 7 dX8_matching_129 rfl ?_
      refine g_if_eq (pc := 131) (tgt := 156) C hf dX8_matching_131 (by decide) (fun hf => ?_) (fun hf => ?_)
      · refine g_iconst (pc := 156) (v := (0 : Int32)) C dX8_matching_156 (by decide) ?_
        refine g_ior (pc := 157) C dX8_matching_157 ?_
        refine g_istore (pc := 158) (lv2 := [(5, .int (x5 ||| (0 : Int32))), (0, .ref (Λ a0)), (1, .int x1), (2, .int x2), (3, .int x3), (4, .int x4), (6, .int x6), (7, .int x7), (8, .int x8)]) C dX8_matching_158 (by decide) rfl ?_
        refine g_iinc (pc := 160) (v := (x6 + (1 : Int32))) (lv2 := [(6, .int (x6 + (1 : Int32))), (5, .int (x5 ||| (0 : Int32))), (0, .ref (Λ a0)), (1, .int x1), (2, .int x2), (3, .int x3), (4, .int x4), (7, .int x7), (8, .int x8)]) C 6 dX8_matching_160 rfl rfl (by decide) rfl ?_
        refine g_goto (pc := 163) (tgt := 17) C dX8_matching_163 (by decide) ?_
        refine g_sub [2, 3, 4, 5, 6, 1, 0] rfl ?_
        exact hK17 x3 x4 (x5 ||| (0 : Int32)) (x6 + (1 : Int32))  hf
      refine g_aload_n (pc := 134) C 0 dX8_matching_134 rfl rfl ?_
      refine g_iconst (pc := 135) (v := (3 : Int32)) C dX8_matching_135 (by decide) ?_
      refine g_iload_n (pc := 136) C 1 dX8_matching_136 rfl rfl ?_
      refine g_imul (pc := 137) C dX8_matching_137 ?_
      refine g_iload (pc := 138) C 4 dX8_matching_138 rfl ?_
      refine g_iadd (pc := 140) C dX8_matching_140 ?_
      refine g_iload (pc := 141) C 6 dX8_matching_141 rfl ?_
      obtain ⟨r11, h11, hf⟩ := ob hf
      refine g_resI (pc := 143) C (rnV (As := [.int (((3 : Int32) * x1) + x4), .int x6]) (st := [.int x5]) C (c_X8_fits C.2.2.2.2.2.1 hk0 h11) lkX8_130 rfl (by decide) hk0 rfl rfl (Nat.le_of_ble_eq_true rfl) ⟨⟨rfl, rfl⟩, Nat.le_of_ble_eq_true rfl, Nat.le_of_ble_eq_true rfl⟩ ⟨Nat.le_of_ble_eq_true rfl, Nat.le_of_ble_eq_true rfl⟩ dX8_matching_143) ?_
      refine g_if_eq (pc := 146) (tgt := 156) C hf dX8_matching_146 (by decide) (fun hf => ?_) (fun hf => ?_)
      · refine g_iconst (pc := 156) (v := (0 : Int32)) C dX8_matching_156 (by decide) ?_
        refine g_ior (pc := 157) C dX8_matching_157 ?_
        refine g_istore (pc := 158) (lv2 := [(5, .int (x5 ||| (0 : Int32))), (0, .ref (Λ a0)), (1, .int x1), (2, .int x2), (3, .int x3), (4, .int x4), (6, .int x6), (7, .int x7), (8, .int x8)]) C dX8_matching_158 (by decide) rfl ?_
        refine g_iinc (pc := 160) (v := (x6 + (1 : Int32))) (lv2 := [(6, .int (x6 + (1 : Int32))), (5, .int (x5 ||| (0 : Int32))), (0, .ref (Λ a0)), (1, .int x1), (2, .int x2), (3, .int x3), (4, .int x4), (7, .int x7), (8, .int x8)]) C 6 dX8_matching_160 rfl rfl (by decide) rfl ?_
        refine g_goto (pc := 163) (tgt := 17) C dX8_matching_163 (by decide) ?_
        refine g_sub [2, 3, 4, 5, 6, 1, 0] rfl ?_
        exact hK17 x3 x4 (x5 ||| (0 : Int32)) (x6 + (1 : Int32))  hf
      refine g_iconst (pc := 149) (v := (1 : Int32)) C dX8_matching_149 (by decide) ?_
      refine g_iload (pc := 150) C 6 dX8_matching_150 rfl ?_
      refine g_ishl (pc := 152) C dX8_matching_152 ?_
      refine g_goto (pc := 153) (tgt := 157) C dX8_matching_153 (by decide) ?_
      refine g_ior (pc := 157) C dX8_matching_157 ?_
      refine g_istore (pc := 158) (lv2 := [(5, .int (x5 ||| ((1 : Int32) <<< (x6 &&& 31)))), (0, .ref (Λ a0)), (1, .int x1), (2, .int x2), (3, .int x3), (4, .int x4), (6, .int x6), (7, .int x7), (8, .int x8)]) C dX8_matching_158 (by decide) rfl ?_
      refine g_iinc (pc := 160) (v := (x6 + (1 : Int32))) (lv2 := [(6, .int (x6 + (1 : Int32))), (5, .int (x5 ||| ((1 : Int32) <<< (x6 &&& 31)))), (0, .ref (Λ a0)), (1, .int x1), (2, .int x2), (3, .int x3), (4, .int x4), (7, .int x7), (8, .int x8)]) C 6 dX8_matching_160 rfl rfl (by decide) rfl ?_
      refine g_goto (pc := 163) (tgt := 17) C dX8_matching_163 (by decide) ?_
      refine g_sub [2, 3, 4, 5, 6, 1, 0] rfl ?_
      exact hK17 x3 x4 (x5 ||| ((1 : Int32) <<< (x6 &&& 31))) (x6 + (1 : Int32))  hf
    refine g_iload (pc := 68) C 7 dX8_matching_68 rfl ?_
    refine g_if_ne (pc := 70) (tgt := 82) C hf dX8_matching_70 (by decide) (fun hf => ?_) (fun hf => ?_)
    · refine g_iload_n (pc := 73) C 3 dX8_matching_73 rfl rfl ?_
      refine g_iload (pc := 74) C 8 dX8_matching_74 rfl ?_
      obtain ⟨r12, h12, hf⟩ := ob hf
      refine g_resI (pc := 76) C (rnS (As := [.int x3, .int x8]) (st := []) C (c_X8_has C.2.2.2.2.2.1  h12) lkX8_105 rfl rfl (Nat.le_of_ble_eq_true rfl) ⟨⟨rfl, rfl⟩, Nat.le_of_ble_eq_true rfl, Nat.le_of_ble_eq_true rfl⟩ ⟨Nat.le_of_ble_eq_true rfl, Nat.le_of_ble_eq_true rfl⟩ dX8_matching_76) ?_
      refine g_if_eq (pc := 79) (tgt := 86) C hf dX8_matching_79 (by decide) (fun hf => ?_) (fun hf => ?_)
      · refine g_iconst (pc := 86) (v := (0 : Int32)) C dX8_matching_86 (by decide) ?_
        refine g_sub [0, 1, 2, 3, 4, 5, 6, 8] rfl ?_
        exact w_X8_matching_L87 C hk0 hK5 hK17 ih x3 x4 x5 x6 x8 (0 : Int32)  hf
      refine g_iconst (pc := 82) (v := (1 : Int32)) C dX8_matching_82 (by decide) ?_
      refine g_goto (pc := 83) (tgt := 87) C dX8_matching_83 (by decide) ?_
      refine g_sub [0, 1, 2, 3, 4, 5, 6, 8] rfl ?_
      exact w_X8_matching_L87 C hk0 hK5 hK17 ih x3 x4 x5 x6 x8 (1 : Int32)  hf
    refine g_iconst (pc := 82) (v := (1 : Int32)) C dX8_matching_82 (by decide) ?_
    refine g_goto (pc := 83) (tgt := 87) C dX8_matching_83 (by decide) ?_
    refine g_sub [0, 1, 2, 3, 4, 5, 6, 8] rfl ?_
    exact w_X8_matching_L87 C hk0 hK5 hK17 ih x3 x4 x5 x6 x8 (1 : Int32)  hf

theorem w_X8_matching_L38 {p : Program} {l : Launch} {e : Env} {s : State} {m : MethodId} {args : Array Value} {below : List Frame} {meth : Method} {c : Code} {D : va_G} {cy : Nat → ClassId} {Λ : Nat → Nat} (C : Cx p s m args meth c cX8_matching 9 RX8 (some .int) D cy Λ (AA Λ s.heap.size)) {M : Mem} {a0 : Nat} {x1 : Int32} {x2 : Int32} {k5 : Int32 → Int32 → Option Int32} {k17 : Int32 → Int32 → Int32 → Int32 → Option Int32} {r9 : Int32} (hk0 : Is NN a0 9) (hK5 : ∀ (x3 : Int32) (x4 : Int32), k5 x3 x4 = some r9 → GW p l e { frames := 1, cells := 0, slots := 0, locals := 23 } s m args below meth c D cy Λ 9 (QcI D cy Λ NN r9 M) M 5 [(0, .ref (Λ a0)), (1, .int x1), (2, .int x2), (3, .int x3), (4, .int x4)] []) (hK17 : ∀ (x3 : Int32) (x4 : Int32) (x5 : Int32) (x6 : Int32), k17 x3 x4 x5 x6 = some r9 → GW p l e { frames := 1, cells := 0, slots := 0, locals := 23 } s m args below meth c D cy Λ 9 (QcI D cy Λ NN r9 M) M 17 [(0, .ref (Λ a0)), (1, .int x1), (2, .int x2), (3, .int x3), (4, .int x4), (5, .int x5), (6, .int x6)] []) : ∀ (x3 : Int32) (x4 : Int32) (x5 : Int32) (x6 : Int32) (s0 : Int32), m_X8_matching_L38 M a0 x1 x2 k5 k17 x3 x4 x5 x6 s0 = some r9 → GW p l e { frames := 1, cells := 0, slots := 0, locals := 23 } s m args below meth c D cy Λ 9 (QcI D cy Λ NN r9 M) M 38 [(0, .ref (Λ a0)), (1, .int x1), (2, .int x2), (3, .int x3), (4, .int x4), (5, .int x5), (6, .int x6)] [.int s0] := by
  intro x3 x4 x5 x6 s0  hf
  unfold m_X8_matching_L38 at hf
  refine g_istore (pc := 38) (lv2 := [(7, .int s0), (0, .ref (Λ a0)), (1, .int x1), (2, .int x2), (3, .int x3), (4, .int x4), (5, .int x5), (6, .int x6)]) C dX8_matching_38 (by decide) rfl ?_
  refine g_iload (pc := 40) C 5 dX8_matching_40 rfl ?_
  refine g_if_ne (pc := 42) (tgt := 50) C hf dX8_matching_42 (by decide) (fun hf => ?_) (fun hf => ?_)
  · refine g_bipush (pc := 45) (v := (-9 : Int32)) C dX8_matching_45 (by decide) ?_
    refine g_goto (pc := 47) (tgt := 59) C dX8_matching_47 (by decide) ?_
    refine g_istore (pc := 59) (lv2 := [(8, .int (-9 : Int32)), (7, .int s0), (0, .ref (Λ a0)), (1, .int x1), (2, .int x2), (3, .int x3), (4, .int x4), (5, .int x5), (6, .int x6)]) C dX8_matching_59 (by decide) rfl ?_
    refine g_sub [2, 3, 4, 5, 6, 7, 8, 1, 0] rfl ?_
    exact w_X8_matching_L61 C hk0 hK5 hK17 FU x3 x4 x5 x6 s0 (-9 : Int32)  hf
  refine g_aload_n (pc := 50) C 1 dX8_matching_50 rfl rfl ?_
  refine g_getR (pc := 51) (T := 9) C hf fgX8_13 (by decide) hk0 rfl dX8_matching_51 (fun a11 hk11 hf => ?_)
  refine g_iconst (pc := 54) (v := (3 : Int32)) C dX8_matching_54 (by decide) ?_
  refine g_iload (pc := 55) C 7 dX8_matching_55 rfl ?_
  refine g_iadd (pc := 57) C dX8_matching_57 ?_
  refine g_iald (pc := 58) C hf hk11 dX8_matching_58 (fun v12 hf => ?_)
  refine g_istore (pc := 59) (lv2 := [(8, .int v12), (7, .int s0), (0, .ref (Λ a0)), (1, .int x1), (2, .int x2), (3, .int x3), (4, .int x4), (5, .int x5), (6, .int x6)]) C dX8_matching_59 (by decide) rfl ?_
  refine g_sub [2, 3, 4, 5, 6, 7, 8, 1, 0] rfl ?_
  exact w_X8_matching_L61 C hk0 hK5 hK17 FU x3 x4 x5 x6 s0 v12  hf

theorem w_X8_matching_L17 {p : Program} {l : Launch} {e : Env} {s : State} {m : MethodId} {args : Array Value} {below : List Frame} {meth : Method} {c : Code} {D : va_G} {cy : Nat → ClassId} {Λ : Nat → Nat} (C : Cx p s m args meth c cX8_matching 9 RX8 (some .int) D cy Λ (AA Λ s.heap.size)) {M : Mem} {a0 : Nat} {x1 : Int32} {x2 : Int32} {k5 : Int32 → Int32 → Option Int32} {r9 : Int32} (hk0 : Is NN a0 9) (hK5 : ∀ (x3 : Int32) (x4 : Int32), k5 x3 x4 = some r9 → GW p l e { frames := 1, cells := 0, slots := 0, locals := 23 } s m args below meth c D cy Λ 9 (QcI D cy Λ NN r9 M) M 5 [(0, .ref (Λ a0)), (1, .int x1), (2, .int x2), (3, .int x3), (4, .int x4)] []) : ∀ (fu : Nat) (x3 : Int32) (x4 : Int32) (x5 : Int32) (x6 : Int32), m_X8_matching_L17 M a0 x1 x2 k5 fu x3 x4 x5 x6 = some r9 → GW p l e { frames := 1, cells := 0, slots := 0, locals := 23 } s m args below meth c D cy Λ 9 (QcI D cy Λ NN r9 M) M 17 [(0, .ref (Λ a0)), (1, .int x1), (2, .int x2), (3, .int x3), (4, .int x4), (5, .int x5), (6, .int x6)] [] := by
  intro fu
  induction fu with
  | zero =>
    intro x3 x4 x5 x6  hf
    cases hf
  | succ fu ih =>
    intro x3 x4 x5 x6  hf
    unfold m_X8_matching_L17 at hf
    refine g_iload (pc := 17) C 6 dX8_matching_17 rfl ?_
    refine g_aload_n (pc := 19) C 0 dX8_matching_19 rfl rfl ?_
    refine g_getR (pc := 20) (T := 9) C hf fgX8_13 (by decide) hk0 rfl dX8_matching_20 (fun a11 hk11 hf => ?_)
    refine g_iconst (pc := 23) (v := (0 : Int32)) C dX8_matching_23 (by decide) ?_
    refine g_iald (pc := 24) C hf hk11 dX8_matching_24 (fun v12 hf => ?_)
    refine g_ic_ge (pc := 25) (tgt := 166) C hf dX8_matching_25 (by decide) (fun hf => ?_) (fun hf => ?_)
    · refine g_iload (pc := 166) C 5 dX8_matching_166 rfl ?_
      refine g_istore_n (pc := 168) (lv2 := [(3, .int x5), (0, .ref (Λ a0)), (1, .int x1), (2, .int x2), (4, .int x4), (5, .int x5), (6, .int x6)]) C dX8_matching_168 rfl (by decide) rfl ?_
      refine g_iinc (pc := 169) (v := (x4 + (1 : Int32))) (lv2 := [(4, .int (x4 + (1 : Int32))), (3, .int x5), (0, .ref (Λ a0)), (1, .int x1), (2, .int x2), (5, .int x5), (6, .int x6)]) C 4 dX8_matching_169 rfl rfl (by decide) rfl ?_
      refine g_goto (pc := 172) (tgt := 5) C dX8_matching_172 (by decide) ?_
      refine g_sub [2, 3, 4, 1, 0] rfl ?_
      exact hK5 x5 (x4 + (1 : Int32))  hf
    refine g_iload (pc := 28) C 4 dX8_matching_28 rfl ?_
    refine g_if_ne (pc := 30) (tgt := 37) C hf dX8_matching_30 (by decide) (fun hf => ?_) (fun hf => ?_)
    · refine g_iconst (pc := 33) (v := (1 : Int32)) C dX8_matching_33 (by decide) ?_
      refine g_goto (pc := 34) (tgt := 38) C dX8_matching_34 (by decide) ?_
      exact w_X8_matching_L38 C hk0 hK5 ih x3 x4 x5 x6 (1 : Int32)  hf
    refine g_iconst (pc := 37) (v := (0 : Int32)) C dX8_matching_37 (by decide) ?_
    exact w_X8_matching_L38 C hk0 hK5 ih x3 x4 x5 x6 (0 : Int32)  hf

theorem w_X8_matching_L5 {p : Program} {l : Launch} {e : Env} {s : State} {m : MethodId} {args : Array Value} {below : List Frame} {meth : Method} {c : Code} {D : va_G} {cy : Nat → ClassId} {Λ : Nat → Nat} (C : Cx p s m args meth c cX8_matching 9 RX8 (some .int) D cy Λ (AA Λ s.heap.size)) {M : Mem} {a0 : Nat} {x1 : Int32} {x2 : Int32}  {r9 : Int32} (hk0 : Is NN a0 9)  : ∀ (fu : Nat) (x3 : Int32) (x4 : Int32), m_X8_matching_L5 M a0 x1 x2 fu x3 x4 = some r9 → GW p l e { frames := 1, cells := 0, slots := 0, locals := 23 } s m args below meth c D cy Λ 9 (QcI D cy Λ NN r9 M) M 5 [(0, .ref (Λ a0)), (1, .int x1), (2, .int x2), (3, .int x3), (4, .int x4)] [] := by
  intro fu
  induction fu with
  | zero =>
    intro x3 x4  hf
    cases hf
  | succ fu ih =>
    intro x3 x4  hf
    unfold m_X8_matching_L5 at hf
    refine g_iload (pc := 5) C 4 dX8_matching_5 rfl ?_
    refine g_iload_n (pc := 7) C 2 dX8_matching_7 rfl rfl ?_
    refine g_ic_ge (pc := 8) (tgt := 175) C hf dX8_matching_8 (by decide) (fun hf => ?_) (fun hf => ?_)
    · refine g_iload_n (pc := 175) C 3 dX8_matching_175 rfl rfl ?_
      exact g_iret C hf dX8_matching_176
    refine g_iconst (pc := 11) (v := (0 : Int32)) C dX8_matching_11 (by decide) ?_
    refine g_istore (pc := 12) (lv2 := [(5, .int (0 : Int32)), (0, .ref (Λ a0)), (1, .int x1), (2, .int x2), (3, .int x3), (4, .int x4)]) C dX8_matching_12 (by decide) rfl ?_
    refine g_iconst (pc := 14) (v := (0 : Int32)) C dX8_matching_14 (by decide) ?_
    refine g_istore (pc := 15) (lv2 := [(6, .int (0 : Int32)), (5, .int (0 : Int32)), (0, .ref (Λ a0)), (1, .int x1), (2, .int x2), (3, .int x3), (4, .int x4)]) C dX8_matching_15 (by decide) rfl ?_
    refine g_sub [2, 3, 4, 5, 6, 1, 0] rfl ?_
    exact w_X8_matching_L17 C hk0 ih FU x3 x4 (0 : Int32) (0 : Int32)  hf

theorem w_X8_matching {p : Program} {l : Launch} {e : Env} {s : State} {m : MethodId} {args : Array Value} {below : List Frame} {meth : Method} {c : Code} {D : va_G} {cy : Nat → ClassId} {Λ : Nat → Nat} (C : Cx p s m args meth c cX8_matching 9 RX8 (some .int) D cy Λ (AA Λ s.heap.size)) {M : Mem} {a0 : Nat} {x1 : Int32} {x2 : Int32} {r9 : Int32} (hk0 : Is NN a0 9) (hf : m_X8_matching M a0 x1 x2 = some r9) : GW p l e { frames := 1, cells := 0, slots := 0, locals := 23 } s m args below meth c D cy Λ 9 (QcI D cy Λ NN r9 M) M 0 [(0, .ref (Λ a0)), (1, .int x1), (2, .int x2)] [] := by
  unfold m_X8_matching at hf
  refine g_iconst (pc := 0) (v := (0 : Int32)) C dX8_matching_0 (by decide) ?_
  refine g_istore_n (pc := 1) (lv2 := [(3, .int (0 : Int32)), (0, .ref (Λ a0)), (1, .int x1), (2, .int x2)]) C dX8_matching_1 rfl (by decide) rfl ?_
  refine g_iconst (pc := 2) (v := (0 : Int32)) C dX8_matching_2 (by decide) ?_
  refine g_istore (pc := 3) (lv2 := [(4, .int (0 : Int32)), (3, .int (0 : Int32)), (0, .ref (Λ a0)), (1, .int x1), (2, .int x2)]) C dX8_matching_3 (by decide) rfl ?_
  refine g_sub [2, 3, 4, 1, 0] rfl ?_
  exact w_X8_matching_L5 C hk0 FU (0 : Int32) (0 : Int32)  hf

theorem c_X8_matching {l : Launch} {D : va_G} {cy : Nat → ClassId} {Λ : Nat → Nat} (hi : ∀ i j : Nat, Λ i = Λ j → i = j) {M : Mem} {a0 : Nat} {x1 : Int32} {x2 : Int32} {r9 : Int32} (hk0 : Is NN a0 9) (hf : m_X8_matching M a0 x1 x2 = some r9) : Ct l yX8_matching cX8_matching 9 (some .int) { frames := 1, cells := 0, slots := 0, locals := 23 } D cy Λ [.ref (Λ a0), .int x1, .int x2] NN M 0 0 (QcI D cy Λ NN r9 M) := ent (by decide) hi (Nat.le_of_ble_eq_true rfl) (fun p e s m args below meth c C => w_X8_matching C hk0 hf)
theorem w_X8_fills_L2 {p : Program} {l : Launch} {e : Env} {s : State} {m : MethodId} {args : Array Value} {below : List Frame} {meth : Method} {c : Code} {D : va_G} {cy : Nat → ClassId} {Λ : Nat → Nat} (C : Cx p s m args meth c cX8_fills 2 RX8 none D cy Λ (AA Λ s.heap.size)) {a0 : Nat}  {M9 : Mem} (hk0 : Is NN a0 9)  : ∀ (fu : Nat) (M : Mem) (x1 : Int32), m_X8_fills_L2 a0 fu M x1 = some M9 → GW p l e { frames := 2, cells := 0, slots := 0, locals := 51 } s m args below meth c D cy Λ 2 (QcV D cy Λ NN M9) M 2 [(0, .ref (Λ a0)), (1, .int x1)] [] := by
  intro fu
  induction fu with
  | zero =>
    intro M x1  hf
    cases hf
  | succ fu ih =>
    intro M x1  hf
    unfold m_X8_fills_L2 at hf
    refine g_iload_n (pc := 2) C 1 dX8_fills_2 rfl rfl ?_
    refine g_aload_n (pc := 3) C 0 dX8_fills_3 rfl rfl ?_
    refine g_getR (pc := 4) (T := 9) C hf fgX8_13 (by decide) hk0 rfl dX8_fills_4 (fun a11 hk11 hf => ?_)
    refine g_iconst (pc := 7) (v := (1 : Int32)) C dX8_fills_7 (by decide) ?_
    refine g_iald (pc := 8) C hf hk11 dX8_fills_8 (fun v12 hf => ?_)
    refine g_ic_ge (pc := 9) (tgt := 56) C hf dX8_fills_9 (by decide) (fun hf => ?_) (fun hf => ?_)
    · exact g_vret C hf dX8_fills_56
    refine g_aload_n (pc := 12) C 0 dX8_fills_12 rfl rfl ?_
    refine g_getR (pc := 13) (T := 9) C hf fgX8_47 (by decide) hk0 rfl dX8_fills_13 (fun a13 hk13 hf => ?_)
    refine g_iload_n (pc := 16) C 1 dX8_fills_16 rfl rfl ?_
    refine g_aload_n (pc := 17) C 0 dX8_fills_17 rfl rfl ?_
    refine g_getR (pc := 18) (T := 9) C hf fgX8_22 (by decide) hk0 rfl dX8_fills_18 (fun a14 hk14 hf => ?_)
    refine g_bipush (pc := 21) (v := (18 : Int32)) C dX8_fills_21 (by decide) ?_
    refine g_iald (pc := 23) C hf hk14 dX8_fills_23 (fun v15 hf => ?_)
    refine g_iload_n (pc := 24) C 1 dX8_fills_24 rfl rfl ?_
    obtain ⟨r16, h16, hf⟩ := ob hf
    refine g_resI (pc := 25) C (rnS (As := [.int v15, .int x1]) (st := [.int x1, .ref (Λ a13)]) C (c_X8_has C.2.2.2.2.2.1  h16) lkX8_105 rfl rfl (Nat.le_of_ble_eq_true rfl) ⟨⟨rfl, rfl⟩, Nat.le_of_ble_eq_true rfl, Nat.le_of_ble_eq_true rfl⟩ ⟨Nat.le_of_ble_eq_true rfl, Nat.le_of_ble_eq_true rfl⟩ dX8_fills_25) ?_
    refine g_if_eq (pc := 28) (tgt := 48) C hf dX8_fills_28 (by decide) (fun hf => ?_) (fun hf => ?_)
    · refine g_iconst (pc := 48) (v := (0 : Int32)) C dX8_fills_48 (by decide) ?_
      refine g_iast (pc := 49) C hf hk13 dX8_fills_49 (fun M17 hf => ?_)
      refine g_iinc (pc := 50) (v := (x1 + (1 : Int32))) (lv2 := [(1, .int (x1 + (1 : Int32))), (0, .ref (Λ a0))]) C 1 dX8_fills_50 rfl rfl (by decide) rfl ?_
      refine g_goto (pc := 53) (tgt := 2) C dX8_fills_53 (by decide) ?_
      refine g_sub [1, 0] rfl ?_
      exact ih M17 (x1 + (1 : Int32))  hf
    refine g_aload_n (pc := 31) C 0 dX8_fills_31 rfl rfl ?_
    refine g_iload_n (pc := 32) C 1 dX8_fills_32 rfl rfl ?_
    refine g_aload_n (pc := 33) C 0 dX8_fills_33 rfl rfl ?_
    refine g_getR (pc := 34) (T := 9) C hf fgX8_13 (by decide) hk0 rfl dX8_fills_34 (fun a18 hk18 hf => ?_)
    refine g_bipush (pc := 37) (v := (12 : Int32)) C dX8_fills_37 (by decide) ?_
    refine g_iload_n (pc := 39) C 1 dX8_fills_39 rfl rfl ?_
    refine g_iadd (pc := 40) C dX8_fills_40 ?_
    refine g_iald (pc := 41) C hf hk18 dX8_fills_41 (fun v19 hf => ?_)
    obtain ⟨r20, h20, hf⟩ := ob hf
    refine g_resI (pc := 42) C (rnV (As := [.int x1, .int v19]) (st := [.int x1, .ref (Λ a13)]) C (c_X8_matching C.2.2.2.2.2.1 hk0 h20) lkX8_133 rfl (by decide) hk0 rfl rfl (Nat.le_of_ble_eq_true rfl) ⟨⟨rfl, rfl⟩, Nat.le_of_ble_eq_true rfl, Nat.le_of_ble_eq_true rfl⟩ ⟨Nat.le_of_ble_eq_true rfl, Nat.le_of_ble_eq_true rfl⟩ dX8_fills_42) ?_
    refine g_goto (pc := 45) (tgt := 49) C dX8_fills_45 (by decide) ?_
    refine g_iast (pc := 49) C hf hk13 dX8_fills_49 (fun M21 hf => ?_)
    refine g_iinc (pc := 50) (v := (x1 + (1 : Int32))) (lv2 := [(1, .int (x1 + (1 : Int32))), (0, .ref (Λ a0))]) C 1 dX8_fills_50 rfl rfl (by decide) rfl ?_
    refine g_goto (pc := 53) (tgt := 2) C dX8_fills_53 (by decide) ?_
    refine g_sub [1, 0] rfl ?_
    exact ih M21 (x1 + (1 : Int32))  hf

theorem w_X8_fills {p : Program} {l : Launch} {e : Env} {s : State} {m : MethodId} {args : Array Value} {below : List Frame} {meth : Method} {c : Code} {D : va_G} {cy : Nat → ClassId} {Λ : Nat → Nat} (C : Cx p s m args meth c cX8_fills 2 RX8 none D cy Λ (AA Λ s.heap.size)) {M : Mem} {a0 : Nat} {M9 : Mem} (hk0 : Is NN a0 9) (hf : m_X8_fills M a0 = some M9) : GW p l e { frames := 2, cells := 0, slots := 0, locals := 51 } s m args below meth c D cy Λ 2 (QcV D cy Λ NN M9) M 0 [(0, .ref (Λ a0))] [] := by
  unfold m_X8_fills at hf
  refine g_iconst (pc := 0) (v := (0 : Int32)) C dX8_fills_0 (by decide) ?_
  refine g_istore_n (pc := 1) (lv2 := [(1, .int (0 : Int32)), (0, .ref (Λ a0))]) C dX8_fills_1 rfl (by decide) rfl ?_
  refine g_sub [1, 0] rfl ?_
  exact w_X8_fills_L2 C hk0 FU M (0 : Int32)  hf

theorem c_X8_fills {l : Launch} {D : va_G} {cy : Nat → ClassId} {Λ : Nat → Nat} (hi : ∀ i j : Nat, Λ i = Λ j → i = j) {M : Mem} {a0 : Nat} {M9 : Mem} (hk0 : Is NN a0 9) (hf : m_X8_fills M a0 = some M9) : Ct l yX8_fills cX8_fills 2 none { frames := 2, cells := 0, slots := 0, locals := 51 } D cy Λ [.ref (Λ a0)] NN M 0 0 (QcV D cy Λ NN M9) := ent (by decide) hi (Nat.le_of_ble_eq_true rfl) (fun p e s m args below meth c C => w_X8_fills C hk0 hf)
theorem w_X8_rulesOf_L4 {p : Program} {l : Launch} {e : Env} {s : State} {m : MethodId} {args : Array Value} {below : List Frame} {meth : Method} {c : Code} {D : va_G} {cy : Nat → ClassId} {Λ : Nat → Nat} (C : Cx p s m args meth c cX8_rulesOf 4 RX8 (some .int) D cy Λ (AA Λ s.heap.size)) {M : Mem} {a0 : Nat} {x1 : Int32}  {r9 : Int32} (hk0 : Is NN a0 9)  : ∀ (fu : Nat) (x2 : Int32) (x3 : Int32), m_X8_rulesOf_L4 M a0 x1 fu x2 x3 = some r9 → GW p l e { frames := 1, cells := 0, slots := 0, locals := 21 } s m args below meth c D cy Λ 4 (QcI D cy Λ NN r9 M) M 4 [(0, .ref (Λ a0)), (1, .int x1), (2, .int x2), (3, .int x3)] [] := by
  intro fu
  induction fu with
  | zero =>
    intro x2 x3  hf
    cases hf
  | succ fu ih =>
    intro x2 x3  hf
    unfold m_X8_rulesOf_L4 at hf
    refine g_iload_n (pc := 4) C 3 dX8_rulesOf_4 rfl rfl ?_
    refine g_aload_n (pc := 5) C 0 dX8_rulesOf_5 rfl rfl ?_
    refine g_getR (pc := 6) (T := 9) C hf fgX8_13 (by decide) hk0 rfl dX8_rulesOf_6 (fun a11 hk11 hf => ?_)
    refine g_iconst (pc := 9) (v := (1 : Int32)) C dX8_rulesOf_9 (by decide) ?_
    refine g_iald (pc := 10) C hf hk11 dX8_rulesOf_10 (fun v12 hf => ?_)
    refine g_ic_ge (pc := 11) (tgt := 43) C hf dX8_rulesOf_11 (by decide) (fun hf => ?_) (fun hf => ?_)
    · refine g_iload_n (pc := 43) C 2 dX8_rulesOf_43 rfl rfl ?_
      exact g_iret C hf dX8_rulesOf_44
    refine g_iload_n (pc := 14) C 2 dX8_rulesOf_14 rfl rfl ?_
    refine g_aload_n (pc := 15) C 0 dX8_rulesOf_15 rfl rfl ?_
    refine g_getR (pc := 16) (T := 9) C hf fgX8_47 (by decide) hk0 rfl dX8_rulesOf_16 (fun a13 hk13 hf => ?_)
    refine g_iload_n (pc := 19) C 3 dX8_rulesOf_19 rfl rfl ?_
    refine g_iald (pc := 20) C hf hk13 dX8_rulesOf_20 (fun v14 hf => ?_)
    refine g_iload_n (pc := 21) C 1 dX8_rulesOf_21 rfl rfl ?_
    obtain ⟨r15, h15, hf⟩ := ob hf
    refine g_resI (pc := 22) C (rnS (As := [.int v14, .int x1]) (st := [.int x2]) C (c_X8_has C.2.2.2.2.2.1  h15) lkX8_105 rfl rfl (Nat.le_of_ble_eq_true rfl) ⟨⟨rfl, rfl⟩, Nat.le_of_ble_eq_true rfl, Nat.le_of_ble_eq_true rfl⟩ ⟨Nat.le_of_ble_eq_true rfl, Nat.le_of_ble_eq_true rfl⟩ dX8_rulesOf_22) ?_
    refine g_if_eq (pc := 25) (tgt := 34) C hf dX8_rulesOf_25 (by decide) (fun hf => ?_) (fun hf => ?_)
    · refine g_iconst (pc := 34) (v := (0 : Int32)) C dX8_rulesOf_34 (by decide) ?_
      refine g_ior (pc := 35) C dX8_rulesOf_35 ?_
      refine g_istore_n (pc := 36) (lv2 := [(2, .int (x2 ||| (0 : Int32))), (0, .ref (Λ a0)), (1, .int x1), (3, .int x3)]) C dX8_rulesOf_36 rfl (by decide) rfl ?_
      refine g_iinc (pc := 37) (v := (x3 + (1 : Int32))) (lv2 := [(3, .int (x3 + (1 : Int32))), (2, .int (x2 ||| (0 : Int32))), (0, .ref (Λ a0)), (1, .int x1)]) C 3 dX8_rulesOf_37 rfl rfl (by decide) rfl ?_
      refine g_goto (pc := 40) (tgt := 4) C dX8_rulesOf_40 (by decide) ?_
      refine g_sub [2, 3, 1, 0] rfl ?_
      exact ih (x2 ||| (0 : Int32)) (x3 + (1 : Int32))  hf
    refine g_iconst (pc := 28) (v := (1 : Int32)) C dX8_rulesOf_28 (by decide) ?_
    refine g_iload_n (pc := 29) C 3 dX8_rulesOf_29 rfl rfl ?_
    refine g_ishl (pc := 30) C dX8_rulesOf_30 ?_
    refine g_goto (pc := 31) (tgt := 35) C dX8_rulesOf_31 (by decide) ?_
    refine g_ior (pc := 35) C dX8_rulesOf_35 ?_
    refine g_istore_n (pc := 36) (lv2 := [(2, .int (x2 ||| ((1 : Int32) <<< (x3 &&& 31)))), (0, .ref (Λ a0)), (1, .int x1), (3, .int x3)]) C dX8_rulesOf_36 rfl (by decide) rfl ?_
    refine g_iinc (pc := 37) (v := (x3 + (1 : Int32))) (lv2 := [(3, .int (x3 + (1 : Int32))), (2, .int (x2 ||| ((1 : Int32) <<< (x3 &&& 31)))), (0, .ref (Λ a0)), (1, .int x1)]) C 3 dX8_rulesOf_37 rfl rfl (by decide) rfl ?_
    refine g_goto (pc := 40) (tgt := 4) C dX8_rulesOf_40 (by decide) ?_
    refine g_sub [2, 3, 1, 0] rfl ?_
    exact ih (x2 ||| ((1 : Int32) <<< (x3 &&& 31))) (x3 + (1 : Int32))  hf

theorem w_X8_rulesOf {p : Program} {l : Launch} {e : Env} {s : State} {m : MethodId} {args : Array Value} {below : List Frame} {meth : Method} {c : Code} {D : va_G} {cy : Nat → ClassId} {Λ : Nat → Nat} (C : Cx p s m args meth c cX8_rulesOf 4 RX8 (some .int) D cy Λ (AA Λ s.heap.size)) {M : Mem} {a0 : Nat} {x1 : Int32} {r9 : Int32} (hk0 : Is NN a0 9) (hf : m_X8_rulesOf M a0 x1 = some r9) : GW p l e { frames := 1, cells := 0, slots := 0, locals := 21 } s m args below meth c D cy Λ 4 (QcI D cy Λ NN r9 M) M 0 [(0, .ref (Λ a0)), (1, .int x1)] [] := by
  unfold m_X8_rulesOf at hf
  refine g_iconst (pc := 0) (v := (0 : Int32)) C dX8_rulesOf_0 (by decide) ?_
  refine g_istore_n (pc := 1) (lv2 := [(2, .int (0 : Int32)), (0, .ref (Λ a0)), (1, .int x1)]) C dX8_rulesOf_1 rfl (by decide) rfl ?_
  refine g_iconst (pc := 2) (v := (0 : Int32)) C dX8_rulesOf_2 (by decide) ?_
  refine g_istore_n (pc := 3) (lv2 := [(3, .int (0 : Int32)), (2, .int (0 : Int32)), (0, .ref (Λ a0)), (1, .int x1)]) C dX8_rulesOf_3 rfl (by decide) rfl ?_
  refine g_sub [2, 3, 1, 0] rfl ?_
  exact w_X8_rulesOf_L4 C hk0 FU (0 : Int32) (0 : Int32)  hf

theorem c_X8_rulesOf {l : Launch} {D : va_G} {cy : Nat → ClassId} {Λ : Nat → Nat} (hi : ∀ i j : Nat, Λ i = Λ j → i = j) {M : Mem} {a0 : Nat} {x1 : Int32} {r9 : Int32} (hk0 : Is NN a0 9) (hf : m_X8_rulesOf M a0 x1 = some r9) : Ct l yX8_rulesOf cX8_rulesOf 4 (some .int) { frames := 1, cells := 0, slots := 0, locals := 21 } D cy Λ [.ref (Λ a0), .int x1] NN M 0 0 (QcI D cy Λ NN r9 M) := ent (by decide) hi (Nat.le_of_ble_eq_true rfl) (fun p e s m args below meth c C => w_X8_rulesOf C hk0 hf)
theorem w_X8_below_L45 {p : Program} {l : Launch} {e : Env} {s : State} {m : MethodId} {args : Array Value} {below : List Frame} {meth : Method} {c : Code} {D : va_G} {cy : Nat → ClassId} {Λ : Nat → Nat} (C : Cx p s m args meth c cX8_below 5 RX8 (some .int) D cy Λ (AA Λ s.heap.size)) {M : Mem} {a0 : Nat} {x1 : Int32} {k4 : Int32 → Int32 → Option Int32} {k24 : Int32 → Int32 → Int32 → Option Int32} {r9 : Int32} (hk0 : Is NN a0 9) (hK4 : ∀ (x2 : Int32) (x3 : Int32), k4 x2 x3 = some r9 → GW p l e { frames := 0, cells := 0, slots := 0, locals := 0 } s m args below meth c D cy Λ 5 (QcI D cy Λ NN r9 M) M 4 [(0, .ref (Λ a0)), (1, .int x1), (2, .int x2), (3, .int x3)] []) (hK24 : ∀ (x2 : Int32) (x3 : Int32) (x4 : Int32), k24 x2 x3 x4 = some r9 → GW p l e { frames := 0, cells := 0, slots := 0, locals := 0 } s m args below meth c D cy Λ 5 (QcI D cy Λ NN r9 M) M 24 [(0, .ref (Λ a0)), (1, .int x1), (2, .int x2), (3, .int x3), (4, .int x4)] []) : ∀ (x3 : Int32) (x4 : Int32) (s0 : Int32) (s1 : Int32), m_X8_below_L45 M a0 x1 k4 k24 x3 x4 s0 s1 = some r9 → GW p l e { frames := 0, cells := 0, slots := 0, locals := 0 } s m args below meth c D cy Λ 5 (QcI D cy Λ NN r9 M) M 45 [(0, .ref (Λ a0)), (1, .int x1), (3, .int x3), (4, .int x4)] [.int s0, .int s1] := by
  intro x3 x4 s0 s1  hf
  unfold m_X8_below_L45 at hf
  refine g_ior (pc := 45) C dX8_below_45 ?_
  refine g_istore_n (pc := 46) (lv2 := [(2, .int (s1 ||| s0)), (0, .ref (Λ a0)), (1, .int x1), (3, .int x3), (4, .int x4)]) C dX8_below_46 rfl (by decide) rfl ?_
  refine g_aload_n (pc := 47) C 1 dX8_below_47 rfl rfl ?_
  refine g_getR (pc := 48) (T := 9) C hf fgX8_13 (by decide) hk0 rfl dX8_below_48 (fun a11 hk11 hf => ?_)
  refine g_iconst (pc := 51) (v := (3 : Int32)) C dX8_below_51 (by decide) ?_
  refine g_iload (pc := 52) C 4 dX8_below_52 rfl ?_
  refine g_iadd (pc := 54) C dX8_below_54 ?_
  refine g_iald (pc := 55) C hf hk11 dX8_below_55 (fun v12 hf => ?_)
  refine g_istore (pc := 56) (lv2 := [(4, .int v12), (2, .int (s1 ||| s0)), (0, .ref (Λ a0)), (1, .int x1), (3, .int x3)]) C dX8_below_56 (by decide) rfl ?_
  refine g_goto (pc := 58) (tgt := 24) C dX8_below_58 (by decide) ?_
  refine g_sub [2, 3, 1, 4, 0] rfl ?_
  exact hK24 (s1 ||| s0) x3 v12  hf

theorem w_X8_below_L24 {p : Program} {l : Launch} {e : Env} {s : State} {m : MethodId} {args : Array Value} {below : List Frame} {meth : Method} {c : Code} {D : va_G} {cy : Nat → ClassId} {Λ : Nat → Nat} (C : Cx p s m args meth c cX8_below 5 RX8 (some .int) D cy Λ (AA Λ s.heap.size)) {M : Mem} {a0 : Nat} {x1 : Int32} {k4 : Int32 → Int32 → Option Int32} {r9 : Int32} (hk0 : Is NN a0 9) (hK4 : ∀ (x2 : Int32) (x3 : Int32), k4 x2 x3 = some r9 → GW p l e { frames := 0, cells := 0, slots := 0, locals := 0 } s m args below meth c D cy Λ 5 (QcI D cy Λ NN r9 M) M 4 [(0, .ref (Λ a0)), (1, .int x1), (2, .int x2), (3, .int x3)] []) : ∀ (fu : Nat) (x2 : Int32) (x3 : Int32) (x4 : Int32), m_X8_below_L24 M a0 x1 k4 fu x2 x3 x4 = some r9 → GW p l e { frames := 0, cells := 0, slots := 0, locals := 0 } s m args below meth c D cy Λ 5 (QcI D cy Λ NN r9 M) M 24 [(0, .ref (Λ a0)), (1, .int x1), (2, .int x2), (3, .int x3), (4, .int x4)] [] := by
  intro fu
  induction fu with
  | zero =>
    intro x2 x3 x4  hf
    cases hf
  | succ fu ih =>
    intro x2 x3 x4  hf
    unfold m_X8_below_L24 at hf
    refine g_iload (pc := 24) C 4 dX8_below_24 rfl ?_
    refine g_bipush (pc := 26) (v := (-9 : Int32)) C dX8_below_26 (by decide) ?_
    refine g_ic_eq (pc := 28) (tgt := 61) C hf dX8_below_28 (by decide) (fun hf => ?_) (fun hf => ?_)
    · refine g_iinc (pc := 61) (v := (x3 + (1 : Int32))) (lv2 := [(3, .int (x3 + (1 : Int32))), (0, .ref (Λ a0)), (1, .int x1), (2, .int x2), (4, .int x4)]) C 3 dX8_below_61 rfl rfl (by decide) rfl ?_
      refine g_goto (pc := 64) (tgt := 4) C dX8_below_64 (by decide) ?_
      refine g_sub [1, 2, 3, 0] rfl ?_
      exact hK4 x2 (x3 + (1 : Int32))  hf
    refine g_iload_n (pc := 31) C 2 dX8_below_31 rfl rfl ?_
    refine g_iload (pc := 32) C 4 dX8_below_32 rfl ?_
    refine g_iload_n (pc := 34) C 1 dX8_below_34 rfl rfl ?_
    refine g_ic_ne (pc := 35) (tgt := 44) C hf dX8_below_35 (by decide) (fun hf => ?_) (fun hf => ?_)
    · refine g_iconst (pc := 38) (v := (1 : Int32)) C dX8_below_38 (by decide) ?_
      refine g_iload_n (pc := 39) C 3 dX8_below_39 rfl rfl ?_
      refine g_ishl (pc := 40) C dX8_below_40 ?_
      refine g_goto (pc := 41) (tgt := 45) C dX8_below_41 (by decide) ?_
      refine g_sub [0, 1, 3, 4] rfl ?_
      exact w_X8_below_L45 C hk0 hK4 ih x3 x4 ((1 : Int32) <<< (x3 &&& 31)) x2  hf
    refine g_iconst (pc := 44) (v := (0 : Int32)) C dX8_below_44 (by decide) ?_
    refine g_sub [0, 1, 3, 4] rfl ?_
    exact w_X8_below_L45 C hk0 hK4 ih x3 x4 (0 : Int32) x2  hf

theorem w_X8_below_L4 {p : Program} {l : Launch} {e : Env} {s : State} {m : MethodId} {args : Array Value} {below : List Frame} {meth : Method} {c : Code} {D : va_G} {cy : Nat → ClassId} {Λ : Nat → Nat} (C : Cx p s m args meth c cX8_below 5 RX8 (some .int) D cy Λ (AA Λ s.heap.size)) {M : Mem} {a0 : Nat} {x1 : Int32}  {r9 : Int32} (hk0 : Is NN a0 9)  : ∀ (fu : Nat) (x2 : Int32) (x3 : Int32), m_X8_below_L4 M a0 x1 fu x2 x3 = some r9 → GW p l e { frames := 0, cells := 0, slots := 0, locals := 0 } s m args below meth c D cy Λ 5 (QcI D cy Λ NN r9 M) M 4 [(0, .ref (Λ a0)), (1, .int x1), (2, .int x2), (3, .int x3)] [] := by
  intro fu
  induction fu with
  | zero =>
    intro x2 x3  hf
    cases hf
  | succ fu ih =>
    intro x2 x3  hf
    unfold m_X8_below_L4 at hf
    refine g_iload_n (pc := 4) C 3 dX8_below_4 rfl rfl ?_
    refine g_aload_n (pc := 5) C 0 dX8_below_5 rfl rfl ?_
    refine g_getR (pc := 6) (T := 9) C hf fgX8_13 (by decide) hk0 rfl dX8_below_6 (fun a11 hk11 hf => ?_)
    refine g_iconst (pc := 9) (v := (0 : Int32)) C dX8_below_9 (by decide) ?_
    refine g_iald (pc := 10) C hf hk11 dX8_below_10 (fun v12 hf => ?_)
    refine g_ic_ge (pc := 11) (tgt := 67) C hf dX8_below_11 (by decide) (fun hf => ?_) (fun hf => ?_)
    · refine g_iload_n (pc := 67) C 2 dX8_below_67 rfl rfl ?_
      exact g_iret C hf dX8_below_68
    refine g_aload_n (pc := 14) C 0 dX8_below_14 rfl rfl ?_
    refine g_getR (pc := 15) (T := 9) C hf fgX8_13 (by decide) hk0 rfl dX8_below_15 (fun a13 hk13 hf => ?_)
    refine g_iconst (pc := 18) (v := (3 : Int32)) C dX8_below_18 (by decide) ?_
    refine g_iload_n (pc := 19) C 3 dX8_below_19 rfl rfl ?_
    refine g_iadd (pc := 20) C dX8_below_20 ?_
    refine g_iald (pc := 21) C hf hk13 dX8_below_21 (fun v14 hf => ?_)
    refine g_istore (pc := 22) (lv2 := [(4, .int v14), (0, .ref (Λ a0)), (1, .int x1), (2, .int x2), (3, .int x3)]) C dX8_below_22 (by decide) rfl ?_
    refine g_sub [1, 2, 3, 4, 0] rfl ?_
    exact w_X8_below_L24 C hk0 ih FU x2 x3 v14  hf

theorem w_X8_below {p : Program} {l : Launch} {e : Env} {s : State} {m : MethodId} {args : Array Value} {below : List Frame} {meth : Method} {c : Code} {D : va_G} {cy : Nat → ClassId} {Λ : Nat → Nat} (C : Cx p s m args meth c cX8_below 5 RX8 (some .int) D cy Λ (AA Λ s.heap.size)) {M : Mem} {a0 : Nat} {x1 : Int32} {r9 : Int32} (hk0 : Is NN a0 9) (hf : m_X8_below M a0 x1 = some r9) : GW p l e { frames := 0, cells := 0, slots := 0, locals := 0 } s m args below meth c D cy Λ 5 (QcI D cy Λ NN r9 M) M 0 [(0, .ref (Λ a0)), (1, .int x1)] [] := by
  unfold m_X8_below at hf
  refine g_iconst (pc := 0) (v := (0 : Int32)) C dX8_below_0 (by decide) ?_
  refine g_istore_n (pc := 1) (lv2 := [(2, .int (0 : Int32)), (0, .ref (Λ a0)), (1, .int x1)]) C dX8_below_1 rfl (by decide) rfl ?_
  refine g_iconst (pc := 2) (v := (0 : Int32)) C dX8_below_2 (by decide) ?_
  refine g_istore_n (pc := 3) (lv2 := [(3, .int (0 : Int32)), (2, .int (0 : Int32)), (0, .ref (Λ a0)), (1, .int x1)]) C dX8_below_3 rfl (by decide) rfl ?_
  refine g_sub [2, 3, 1, 0] rfl ?_
  exact w_X8_below_L4 C hk0 FU (0 : Int32) (0 : Int32)  hf

theorem c_X8_below {l : Launch} {D : va_G} {cy : Nat → ClassId} {Λ : Nat → Nat} (hi : ∀ i j : Nat, Λ i = Λ j → i = j) {M : Mem} {a0 : Nat} {x1 : Int32} {r9 : Int32} (hk0 : Is NN a0 9) (hf : m_X8_below M a0 x1 = some r9) : Ct l yX8_below cX8_below 5 (some .int) { frames := 0, cells := 0, slots := 0, locals := 0 } D cy Λ [.ref (Λ a0), .int x1] NN M 0 0 (QcI D cy Λ NN r9 M) := ent (by decide) hi (Nat.le_of_ble_eq_true rfl) (fun p e s m args below meth c C => w_X8_below C hk0 hf)
theorem w_X8_specific_L4 {p : Program} {l : Launch} {e : Env} {s : State} {m : MethodId} {args : Array Value} {below : List Frame} {meth : Method} {c : Code} {D : va_G} {cy : Nat → ClassId} {Λ : Nat → Nat} (C : Cx p s m args meth c cX8_specific 4 RX8 (some .int) D cy Λ (AA Λ s.heap.size)) {M : Mem} {a0 : Nat} {x1 : Int32}  {r9 : Int32} (hk0 : Is NN a0 9)  : ∀ (fu : Nat) (x2 : Int32) (x3 : Int32), m_X8_specific_L4 M a0 x1 fu x2 x3 = some r9 → GW p l e { frames := 1, cells := 0, slots := 0, locals := 22 } s m args below meth c D cy Λ 4 (QcI D cy Λ NN r9 M) M 4 [(0, .ref (Λ a0)), (1, .int x1), (2, .int x2), (3, .int x3)] [] := by
  intro fu
  induction fu with
  | zero =>
    intro x2 x3  hf
    cases hf
  | succ fu ih =>
    intro x2 x3  hf
    unfold m_X8_specific_L4 at hf
    refine g_iload_n (pc := 4) C 3 dX8_specific_4 rfl rfl ?_
    refine g_aload_n (pc := 5) C 0 dX8_specific_5 rfl rfl ?_
    refine g_getR (pc := 6) (T := 9) C hf fgX8_13 (by decide) hk0 rfl dX8_specific_6 (fun a11 hk11 hf => ?_)
    refine g_bipush (pc := 9) (v := (12 : Int32)) C dX8_specific_9 (by decide) ?_
    refine g_iload_n (pc := 11) C 1 dX8_specific_11 rfl rfl ?_
    refine g_iadd (pc := 12) C dX8_specific_12 ?_
    refine g_iald (pc := 13) C hf hk11 dX8_specific_13 (fun v12 hf => ?_)
    refine g_ic_ge (pc := 14) (tgt := 69) C hf dX8_specific_14 (by decide) (fun hf => ?_) (fun hf => ?_)
    · refine g_iload_n (pc := 69) C 2 dX8_specific_69 rfl rfl ?_
      exact g_iret C hf dX8_specific_70
    refine g_iload_n (pc := 17) C 2 dX8_specific_17 rfl rfl ?_
    refine g_bipush (pc := 18) (v := (10 : Int32)) C dX8_specific_18 (by decide) ?_
    refine g_aload_n (pc := 20) C 0 dX8_specific_20 rfl rfl ?_
    refine g_getR (pc := 21) (T := 9) C hf fgX8_13 (by decide) hk0 rfl dX8_specific_21 (fun a13 hk13 hf => ?_)
    refine g_bipush (pc := 24) (v := (44 : Int32)) C dX8_specific_24 (by decide) ?_
    refine g_iconst (pc := 26) (v := (3 : Int32)) C dX8_specific_26 (by decide) ?_
    refine g_iload_n (pc := 27) C 1 dX8_specific_27 rfl rfl ?_
    refine g_imul (pc := 28) C dX8_specific_28 ?_
    refine g_iadd (pc := 29) C dX8_specific_29 ?_
    refine g_iload_n (pc := 30) C 3 dX8_specific_30 rfl rfl ?_
    refine g_iadd (pc := 31) C dX8_specific_31 ?_
    refine g_iald (pc := 32) C hf hk13 dX8_specific_32 (fun v14 hf => ?_)
    obtain ⟨r15, h15, hf⟩ := ob hf
    refine g_resI (pc := 33) C (rnS (As := [.int v14]) (st := [.int (10 : Int32), .int x2]) C (c_X8_ones C.2.2.2.2.2.1  h15) lkX8_137 rfl rfl (Nat.le_of_ble_eq_true rfl) ⟨⟨rfl, rfl⟩, Nat.le_of_ble_eq_true rfl, Nat.le_of_ble_eq_true rfl⟩ ⟨Nat.le_of_ble_eq_true rfl, Nat.le_of_ble_eq_true rfl⟩ dX8_specific_33) ?_
    refine g_imul (pc := 36) C dX8_specific_36 ?_
    refine g_aload_n (pc := 37) C 0 dX8_specific_37 rfl rfl ?_
    refine g_getR (pc := 38) (T := 9) C hf fgX8_13 (by decide) hk0 rfl dX8_specific_38 (fun a16 hk16 hf => ?_)
    refine g_bipush (pc := 41) (v := (20 : Int32)) C dX8_specific_41 (by decide) ?_
    refine g_iconst (pc := 43) (v := (3 : Int32)) C dX8_specific_43 (by decide) ?_
    refine g_iload_n (pc := 44) C 1 dX8_specific_44 rfl rfl ?_
    refine g_imul (pc := 45) C dX8_specific_45 ?_
    refine g_iadd (pc := 46) C dX8_specific_46 ?_
    refine g_iload_n (pc := 47) C 3 dX8_specific_47 rfl rfl ?_
    refine g_iadd (pc := 48) C dX8_specific_48 ?_
    refine g_iald (pc := 49) C hf hk16 dX8_specific_49 (fun v17 hf => ?_)
    refine g_bipush (pc := 50) (v := (-9 : Int32)) C dX8_specific_50 (by decide) ?_
    refine g_ic_ne (pc := 52) (tgt := 59) C hf dX8_specific_52 (by decide) (fun hf => ?_) (fun hf => ?_)
    · refine g_iconst (pc := 55) (v := (0 : Int32)) C dX8_specific_55 (by decide) ?_
      refine g_goto (pc := 56) (tgt := 60) C dX8_specific_56 (by decide) ?_
      refine g_iadd (pc := 60) C dX8_specific_60 ?_
      refine g_iadd (pc := 61) C dX8_specific_61 ?_
      refine g_istore_n (pc := 62) (lv2 := [(2, .int (x2 + (((10 : Int32) * r15) + (0 : Int32)))), (0, .ref (Λ a0)), (1, .int x1), (3, .int x3)]) C dX8_specific_62 rfl (by decide) rfl ?_
      refine g_iinc (pc := 63) (v := (x3 + (1 : Int32))) (lv2 := [(3, .int (x3 + (1 : Int32))), (2, .int (x2 + (((10 : Int32) * r15) + (0 : Int32)))), (0, .ref (Λ a0)), (1, .int x1)]) C 3 dX8_specific_63 rfl rfl (by decide) rfl ?_
      refine g_goto (pc := 66) (tgt := 4) C dX8_specific_66 (by decide) ?_
      refine g_sub [2, 3, 1, 0] rfl ?_
      exact ih (x2 + (((10 : Int32) * r15) + (0 : Int32))) (x3 + (1 : Int32))  hf
    refine g_iconst (pc := 59) (v := (1 : Int32)) C dX8_specific_59 (by decide) ?_
    refine g_iadd (pc := 60) C dX8_specific_60 ?_
    refine g_iadd (pc := 61) C dX8_specific_61 ?_
    refine g_istore_n (pc := 62) (lv2 := [(2, .int (x2 + (((10 : Int32) * r15) + (1 : Int32)))), (0, .ref (Λ a0)), (1, .int x1), (3, .int x3)]) C dX8_specific_62 rfl (by decide) rfl ?_
    refine g_iinc (pc := 63) (v := (x3 + (1 : Int32))) (lv2 := [(3, .int (x3 + (1 : Int32))), (2, .int (x2 + (((10 : Int32) * r15) + (1 : Int32)))), (0, .ref (Λ a0)), (1, .int x1)]) C 3 dX8_specific_63 rfl rfl (by decide) rfl ?_
    refine g_goto (pc := 66) (tgt := 4) C dX8_specific_66 (by decide) ?_
    refine g_sub [2, 3, 1, 0] rfl ?_
    exact ih (x2 + (((10 : Int32) * r15) + (1 : Int32))) (x3 + (1 : Int32))  hf

theorem w_X8_specific {p : Program} {l : Launch} {e : Env} {s : State} {m : MethodId} {args : Array Value} {below : List Frame} {meth : Method} {c : Code} {D : va_G} {cy : Nat → ClassId} {Λ : Nat → Nat} (C : Cx p s m args meth c cX8_specific 4 RX8 (some .int) D cy Λ (AA Λ s.heap.size)) {M : Mem} {a0 : Nat} {x1 : Int32} {r9 : Int32} (hk0 : Is NN a0 9) (hf : m_X8_specific M a0 x1 = some r9) : GW p l e { frames := 1, cells := 0, slots := 0, locals := 22 } s m args below meth c D cy Λ 4 (QcI D cy Λ NN r9 M) M 0 [(0, .ref (Λ a0)), (1, .int x1)] [] := by
  unfold m_X8_specific at hf
  refine g_iconst (pc := 0) (v := (0 : Int32)) C dX8_specific_0 (by decide) ?_
  refine g_istore_n (pc := 1) (lv2 := [(2, .int (0 : Int32)), (0, .ref (Λ a0)), (1, .int x1)]) C dX8_specific_1 rfl (by decide) rfl ?_
  refine g_iconst (pc := 2) (v := (0 : Int32)) C dX8_specific_2 (by decide) ?_
  refine g_istore_n (pc := 3) (lv2 := [(3, .int (0 : Int32)), (2, .int (0 : Int32)), (0, .ref (Λ a0)), (1, .int x1)]) C dX8_specific_3 rfl (by decide) rfl ?_
  refine g_sub [2, 3, 1, 0] rfl ?_
  exact w_X8_specific_L4 C hk0 FU (0 : Int32) (0 : Int32)  hf

theorem c_X8_specific {l : Launch} {D : va_G} {cy : Nat → ClassId} {Λ : Nat → Nat} (hi : ∀ i j : Nat, Λ i = Λ j → i = j) {M : Mem} {a0 : Nat} {x1 : Int32} {r9 : Int32} (hk0 : Is NN a0 9) (hf : m_X8_specific M a0 x1 = some r9) : Ct l yX8_specific cX8_specific 4 (some .int) { frames := 1, cells := 0, slots := 0, locals := 22 } D cy Λ [.ref (Λ a0), .int x1] NN M 0 0 (QcI D cy Λ NN r9 M) := ent (by decide) hi (Nat.le_of_ble_eq_true rfl) (fun p e s m args below meth c C => w_X8_specific C hk0 hf)
theorem w_X8_heightOf_L48 {p : Program} {l : Launch} {e : Env} {s : State} {m : MethodId} {args : Array Value} {below : List Frame} {meth : Method} {c : Code} {D : va_G} {cy : Nat → ClassId} {Λ : Nat → Nat} (C : Cx p s m args meth c cX8_heightOf 5 RX8 (some .int) D cy Λ (AA Λ s.heap.size)) {M : Mem} {a0 : Nat} {x1 : Int32} {x2 : Int32}  {r9 : Int32} (hk0 : Is NN a0 9)  : ∀ (s0 : Int32), m_X8_heightOf_L48 M a0 x1 x2 s0 = some r9 → GW p l e { frames := 2, cells := 0, slots := 0, locals := 45 } s m args below meth c D cy Λ 5 (QcI D cy Λ NN r9 M) M 48 [(0, .ref (Λ a0)), (1, .int x1), (2, .int x2)] [.int s0] := by
  intro s0  hf
  unfold m_X8_heightOf_L48 at hf
  refine g_istore (pc := 48) (lv2 := [(4, .int s0), (0, .ref (Λ a0)), (1, .int x1), (2, .int x2)]) C dX8_heightOf_48 (by decide) rfl ?_
  refine g_sipush (pc := 50) (v := (10000 : Int32)) C dX8_heightOf_50 (by decide) ?_
  refine g_iload (pc := 53) C 0 dX8_heightOf_53 rfl ?_
  refine g_imul (pc := 55) C dX8_heightOf_55 ?_
  refine g_bipush (pc := 56) (v := (10 : Int32)) C dX8_heightOf_56 (by decide) ?_
  refine g_aload_n (pc := 58) C 1 dX8_heightOf_58 rfl rfl ?_
  refine g_iload_n (pc := 59) C 2 dX8_heightOf_59 rfl rfl ?_
  obtain ⟨r11, h11, hf⟩ := ob hf
  refine g_resI (pc := 60) C (rnV (As := [.int x1]) (st := [.int (10 : Int32), .int ((10000 : Int32) * s0)]) C (c_X8_specific C.2.2.2.2.2.1 hk0 h11) lkX8_140 rfl (by decide) hk0 rfl rfl (Nat.le_of_ble_eq_true rfl) ⟨⟨rfl, rfl⟩, Nat.le_of_ble_eq_true rfl, Nat.le_of_ble_eq_true rfl⟩ ⟨Nat.le_of_ble_eq_true rfl, Nat.le_of_ble_eq_true rfl⟩ dX8_heightOf_60) ?_
  refine g_imul (pc := 63) C dX8_heightOf_63 ?_
  refine g_iadd (pc := 64) C dX8_heightOf_64 ?_
  refine g_iload_n (pc := 65) C 2 dX8_heightOf_65 rfl rfl ?_
  refine g_iadd (pc := 66) C dX8_heightOf_66 ?_
  exact g_iret C hf dX8_heightOf_67

theorem w_X8_heightOf {p : Program} {l : Launch} {e : Env} {s : State} {m : MethodId} {args : Array Value} {below : List Frame} {meth : Method} {c : Code} {D : va_G} {cy : Nat → ClassId} {Λ : Nat → Nat} (C : Cx p s m args meth c cX8_heightOf 5 RX8 (some .int) D cy Λ (AA Λ s.heap.size)) {M : Mem} {a0 : Nat} {x1 : Int32} {x2 : Int32} {r9 : Int32} (hk0 : Is NN a0 9) (hf : m_X8_heightOf M a0 x1 x2 = some r9) : GW p l e { frames := 2, cells := 0, slots := 0, locals := 45 } s m args below meth c D cy Λ 5 (QcI D cy Λ NN r9 M) M 0 [(0, .ref (Λ a0)), (1, .int x1), (2, .int x2)] [] := by
  unfold m_X8_heightOf at hf
  refine g_aload_n (pc := 0) C 0 dX8_heightOf_0 rfl rfl ?_
  refine g_getR (pc := 1) (T := 9) C hf fgX8_13 (by decide) hk0 rfl dX8_heightOf_1 (fun a11 hk11 hf => ?_)
  refine g_iconst (pc := 4) (v := (2 : Int32)) C dX8_heightOf_4 (by decide) ?_
  refine g_iald (pc := 5) C hf hk11 dX8_heightOf_5 (fun v12 hf => ?_)
  refine g_iload_n (pc := 6) C 1 dX8_heightOf_6 rfl rfl ?_
  obtain ⟨r13, h13, hf⟩ := ob hf
  refine g_resI (pc := 7) C (rnS (As := [.int v12, .int x1]) (st := []) C (c_X8_has C.2.2.2.2.2.1  h13) lkX8_105 rfl rfl (Nat.le_of_ble_eq_true rfl) ⟨⟨rfl, rfl⟩, Nat.le_of_ble_eq_true rfl, Nat.le_of_ble_eq_true rfl⟩ ⟨Nat.le_of_ble_eq_true rfl, Nat.le_of_ble_eq_true rfl⟩ dX8_heightOf_7) ?_
  refine g_istore_n (pc := 10) (lv2 := [(3, .int r13), (0, .ref (Λ a0)), (1, .int x1), (2, .int x2)]) C dX8_heightOf_10 rfl (by decide) rfl ?_
  refine g_aload_n (pc := 11) C 1 dX8_heightOf_11 rfl rfl ?_
  refine g_getR (pc := 12) (T := 9) C hf fgX8_13 (by decide) hk0 rfl dX8_heightOf_12 (fun a14 hk14 hf => ?_)
  refine g_bipush (pc := 15) (v := (100 : Int32)) C dX8_heightOf_15 (by decide) ?_
  refine g_iload_n (pc := 17) C 2 dX8_heightOf_17 rfl rfl ?_
  refine g_iadd (pc := 18) C dX8_heightOf_18 ?_
  refine g_iald (pc := 19) C hf hk14 dX8_heightOf_19 (fun v15 hf => ?_)
  refine g_iload_n (pc := 20) C 3 dX8_heightOf_20 rfl rfl ?_
  obtain ⟨r16, h16, hf⟩ := ob hf
  refine g_resI (pc := 21) C (rnS (As := [.int v15, .int x2]) (st := []) C (c_X8_has C.2.2.2.2.2.1  h16) lkX8_105 rfl rfl (Nat.le_of_ble_eq_true rfl) ⟨⟨rfl, rfl⟩, Nat.le_of_ble_eq_true rfl, Nat.le_of_ble_eq_true rfl⟩ ⟨Nat.le_of_ble_eq_true rfl, Nat.le_of_ble_eq_true rfl⟩ dX8_heightOf_21) ?_
  refine g_if_eq (pc := 24) (tgt := 39) C hf dX8_heightOf_24 (by decide) (fun hf => ?_) (fun hf => ?_)
  · refine g_iload_n (pc := 39) C 0 dX8_heightOf_39 rfl rfl ?_
    refine g_if_eq (pc := 40) (tgt := 47) C hf dX8_heightOf_40 (by decide) (fun hf => ?_) (fun hf => ?_)
    · refine g_iconst (pc := 47) (v := (1 : Int32)) C dX8_heightOf_47 (by decide) ?_
      refine g_sub [1, 2, 3] rfl ?_
      exact w_X8_heightOf_L48 C hk0 (1 : Int32)  hf
    refine g_iconst (pc := 43) (v := (0 : Int32)) C dX8_heightOf_43 (by decide) ?_
    refine g_goto (pc := 44) (tgt := 48) C dX8_heightOf_44 (by decide) ?_
    refine g_sub [1, 2, 3] rfl ?_
    exact w_X8_heightOf_L48 C hk0 (0 : Int32)  hf
  refine g_iload_n (pc := 27) C 0 dX8_heightOf_27 rfl rfl ?_
  refine g_if_eq (pc := 28) (tgt := 35) C hf dX8_heightOf_28 (by decide) (fun hf => ?_) (fun hf => ?_)
  · refine g_iconst (pc := 35) (v := (2 : Int32)) C dX8_heightOf_35 (by decide) ?_
    refine g_goto (pc := 36) (tgt := 48) C dX8_heightOf_36 (by decide) ?_
    refine g_sub [1, 2, 3] rfl ?_
    exact w_X8_heightOf_L48 C hk0 (2 : Int32)  hf
  refine g_iconst (pc := 31) (v := (3 : Int32)) C dX8_heightOf_31 (by decide) ?_
  refine g_goto (pc := 32) (tgt := 48) C dX8_heightOf_32 (by decide) ?_
  refine g_sub [1, 2, 3] rfl ?_
  exact w_X8_heightOf_L48 C hk0 (3 : Int32)  hf

theorem c_X8_heightOf {l : Launch} {D : va_G} {cy : Nat → ClassId} {Λ : Nat → Nat} (hi : ∀ i j : Nat, Λ i = Λ j → i = j) {M : Mem} {a0 : Nat} {x1 : Int32} {x2 : Int32} {r9 : Int32} (hk0 : Is NN a0 9) (hf : m_X8_heightOf M a0 x1 x2 = some r9) : Ct l yX8_heightOf cX8_heightOf 5 (some .int) { frames := 2, cells := 0, slots := 0, locals := 45 } D cy Λ [.ref (Λ a0), .int x1, .int x2] NN M 0 0 (QcI D cy Λ NN r9 M) := ent (by decide) hi (Nat.le_of_ble_eq_true rfl) (fun p e s m args below meth c C => w_X8_heightOf C hk0 hf)
theorem w_X8_winnerOf_L97 {p : Program} {l : Launch} {e : Env} {s : State} {m : MethodId} {args : Array Value} {below : List Frame} {meth : Method} {c : Code} {D : va_G} {cy : Nat → ClassId} {Λ : Nat → Nat} (C : Cx p s m args meth c cX8_winnerOf 9 RX8 (some .int) D cy Λ (AA Λ s.heap.size)) {M : Mem} {a0 : Nat} {x1 : Int32} {x2 : Int32} {x3 : Int32} {k77 : Int32 → Int32 → Int32 → Option Int32} {r9 : Int32} (hk0 : Is NN a0 9) (hK77 : ∀ (x4 : Int32) (x6 : Int32) (x7 : Int32), k77 x4 x6 x7 = some r9 → GW p l e { frames := 3, cells := 0, slots := 0, locals := 69 } s m args below meth c D cy Λ 9 (QcI D cy Λ NN r9 M) M 77 [(0, .ref (Λ a0)), (1, .int x1), (2, .int x2), (3, .int x3), (4, .int x4), (6, .int x6), (7, .int x7)] []) : ∀ (fu : Nat) (x4 : Int32) (x6 : Int32) (x7 : Int32) (x8 : Int32), m_X8_winnerOf_L97 M a0 x1 x2 x3 k77 fu x4 x6 x7 x8 = some r9 → GW p l e { frames := 3, cells := 0, slots := 0, locals := 69 } s m args below meth c D cy Λ 9 (QcI D cy Λ NN r9 M) M 97 [(0, .ref (Λ a0)), (1, .int x1), (2, .int x2), (3, .int x3), (4, .int x4), (6, .int x6), (7, .int x7), (8, .int x8)] [] := by
  intro fu
  induction fu with
  | zero =>
    intro x4 x6 x7 x8  hf
    cases hf
  | succ fu ih =>
    intro x4 x6 x7 x8  hf
    unfold m_X8_winnerOf_L97 at hf
    refine g_iload (pc := 97) C 7 dX8_winnerOf_97 rfl ?_
    refine g_aload_n (pc := 99) C 0 dX8_winnerOf_99 rfl rfl ?_
    refine g_getR (pc := 100) (T := 9) C hf fgX8_13 (by decide) hk0 rfl dX8_winnerOf_100 (fun a11 hk11 hf => ?_)
    refine g_iconst (pc := 103) (v := (1 : Int32)) C dX8_winnerOf_103 (by decide) ?_
    refine g_iald (pc := 104) C hf hk11 dX8_winnerOf_104 (fun v12 hf => ?_)
    refine g_ic_ge (pc := 105) (tgt := 157) C hf dX8_winnerOf_105 (by decide) (fun hf => ?_) (fun hf => ?_)
    · refine g_iload (pc := 157) C 4 dX8_winnerOf_157 rfl ?_
      refine g_iload (pc := 159) C 5 dX8_winnerOf_159 rfl ?_
      refine g_bipush (pc := 161) (v := (-9 : Int32)) C dX8_winnerOf_161 (by decide) ?_
      refine g_ic_ne (pc := 163) (tgt := 171) C hf dX8_winnerOf_163 (by decide) (fun hf => ?_) (fun hf => ?_)
      · refine g_iload (pc := 166) C 4 dX8_winnerOf_166 rfl ?_
        refine g_goto (pc := 168) (tgt := 177) C dX8_winnerOf_168 (by decide) ?_
        refine g_iand (pc := 177) C dX8_winnerOf_177 ?_
        refine g_istore (pc := 178) (lv2 := [(4, .int (x4 &&& x4)), (0, .ref (Λ a0)), (1, .int x1), (2, .int x2), (3, .int x3), (6, .int x6), (7, .int x7), (8, .int x8)]) C dX8_winnerOf_178 (by decide) rfl ?_
        refine g_iinc (pc := 180) (v := (x7 + (1 : Int32))) (lv2 := [(7, .int (x7 + (1 : Int32))), (4, .int (x4 &&& x4)), (0, .ref (Λ a0)), (1, .int x1), (2, .int x2), (3, .int x3), (6, .int x6), (8, .int x8)]) C 6 dX8_winnerOf_180 rfl rfl (by decide) rfl ?_
        refine g_goto (pc := 183) (tgt := 77) C dX8_winnerOf_183 (by decide) ?_
        refine g_sub [2, 3, 4, 5, 1, 6, 0] rfl ?_
        exact hK77 (x4 &&& x4) x6 (x7 + (1 : Int32))  hf
      refine g_iconst (pc := 171) (v := (1 : Int32)) C dX8_winnerOf_171 (by decide) ?_
      refine g_iload (pc := 172) C 5 dX8_winnerOf_172 rfl ?_
      refine g_ishl (pc := 174) C dX8_winnerOf_174 ?_
      refine g_iconst (pc := 175) (v := (-1 : Int32)) C dX8_winnerOf_175 (by decide) ?_
      refine g_ixor (pc := 176) C dX8_winnerOf_176 ?_
      refine g_iand (pc := 177) C dX8_winnerOf_177 ?_
      refine g_istore (pc := 178) (lv2 := [(4, .int (x4 &&& (((1 : Int32) <<< (x6 &&& 31)) ^^^ (-1 : Int32)))), (0, .ref (Λ a0)), (1, .int x1), (2, .int x2), (3, .int x3), (6, .int x6), (7, .int x7), (8, .int x8)]) C dX8_winnerOf_178 (by decide) rfl ?_
      refine g_iinc (pc := 180) (v := (x7 + (1 : Int32))) (lv2 := [(7, .int (x7 + (1 : Int32))), (4, .int (x4 &&& (((1 : Int32) <<< (x6 &&& 31)) ^^^ (-1 : Int32)))), (0, .ref (Λ a0)), (1, .int x1), (2, .int x2), (3, .int x3), (6, .int x6), (8, .int x8)]) C 6 dX8_winnerOf_180 rfl rfl (by decide) rfl ?_
      refine g_goto (pc := 183) (tgt := 77) C dX8_winnerOf_183 (by decide) ?_
      refine g_sub [2, 3, 4, 5, 1, 6, 0] rfl ?_
      exact hK77 (x4 &&& (((1 : Int32) <<< (x6 &&& 31)) ^^^ (-1 : Int32))) x6 (x7 + (1 : Int32))  hf
    refine g_iload (pc := 108) C 4 dX8_winnerOf_108 rfl ?_
    refine g_iload (pc := 110) C 7 dX8_winnerOf_110 rfl ?_
    obtain ⟨r13, h13, hf⟩ := ob hf
    refine g_resI (pc := 112) C (rnS (As := [.int x4, .int x8]) (st := []) C (c_X8_has C.2.2.2.2.2.1  h13) lkX8_105 rfl rfl (Nat.le_of_ble_eq_true rfl) ⟨⟨rfl, rfl⟩, Nat.le_of_ble_eq_true rfl, Nat.le_of_ble_eq_true rfl⟩ ⟨Nat.le_of_ble_eq_true rfl, Nat.le_of_ble_eq_true rfl⟩ dX8_winnerOf_112) ?_
    refine g_if_eq (pc := 115) (tgt := 147) C hf dX8_winnerOf_115 (by decide) (fun hf => ?_) (fun hf => ?_)
    · refine g_iload (pc := 147) C 5 dX8_winnerOf_147 rfl ?_
      refine g_istore (pc := 149) (lv2 := [(6, .int x6), (0, .ref (Λ a0)), (1, .int x1), (2, .int x2), (3, .int x3), (4, .int x4), (7, .int x7), (8, .int x8)]) C dX8_winnerOf_149 (by decide) rfl ?_
      refine g_iinc (pc := 151) (v := (x8 + (1 : Int32))) (lv2 := [(8, .int (x8 + (1 : Int32))), (6, .int x6), (0, .ref (Λ a0)), (1, .int x1), (2, .int x2), (3, .int x3), (4, .int x4), (7, .int x7)]) C 7 dX8_winnerOf_151 rfl rfl (by decide) rfl ?_
      refine g_goto (pc := 154) (tgt := 97) C dX8_winnerOf_154 (by decide) ?_
      refine g_sub [2, 3, 4, 5, 6, 1, 7, 0] rfl ?_
      exact ih x4 x6 x7 (x8 + (1 : Int32))  hf
    refine g_iload (pc := 118) C 5 dX8_winnerOf_118 rfl ?_
    refine g_bipush (pc := 120) (v := (-9 : Int32)) C dX8_winnerOf_120 (by decide) ?_
    refine g_ic_eq (pc := 122) (tgt := 142) C hf dX8_winnerOf_122 (by decide) (fun hf => ?_) (fun hf => ?_)
    · refine g_iload (pc := 142) C 7 dX8_winnerOf_142 rfl ?_
      refine g_goto (pc := 144) (tgt := 149) C dX8_winnerOf_144 (by decide) ?_
      refine g_istore (pc := 149) (lv2 := [(6, .int x8), (0, .ref (Λ a0)), (1, .int x1), (2, .int x2), (3, .int x3), (4, .int x4), (7, .int x7), (8, .int x8)]) C dX8_winnerOf_149 (by decide) rfl ?_
      refine g_iinc (pc := 151) (v := (x8 + (1 : Int32))) (lv2 := [(8, .int (x8 + (1 : Int32))), (6, .int x8), (0, .ref (Λ a0)), (1, .int x1), (2, .int x2), (3, .int x3), (4, .int x4), (7, .int x7)]) C 7 dX8_winnerOf_151 rfl rfl (by decide) rfl ?_
      refine g_goto (pc := 154) (tgt := 97) C dX8_winnerOf_154 (by decide) ?_
      refine g_sub [2, 3, 4, 5, 6, 1, 7, 0] rfl ?_
      exact ih x4 x8 x7 (x8 + (1 : Int32))  hf
    refine g_aload_n (pc := 125) C 0 dX8_winnerOf_125 rfl rfl ?_
    refine g_iload (pc := 126) C 7 dX8_winnerOf_126 rfl ?_
    refine g_iload_n (pc := 128) C 2 dX8_winnerOf_128 rfl rfl ?_
    obtain ⟨r14, h14, hf⟩ := ob hf
    refine g_resI (pc := 129) C (rnV (As := [.int x8, .int x2]) (st := []) C (c_X8_heightOf C.2.2.2.2.2.1 hk0 h14) lkX8_146 rfl (by decide) hk0 rfl rfl (Nat.le_of_ble_eq_true rfl) ⟨⟨rfl, rfl⟩, Nat.le_of_ble_eq_true rfl, Nat.le_of_ble_eq_true rfl⟩ ⟨Nat.le_of_ble_eq_true rfl, Nat.le_of_ble_eq_true rfl⟩ dX8_winnerOf_129) ?_
    refine g_aload_n (pc := 132) C 0 dX8_winnerOf_132 rfl rfl ?_
    refine g_iload (pc := 133) C 5 dX8_winnerOf_133 rfl ?_
    refine g_iload_n (pc := 135) C 2 dX8_winnerOf_135 rfl rfl ?_
    obtain ⟨r15, h15, hf⟩ := ob hf
    refine g_resI (pc := 136) C (rnV (As := [.int x6, .int x2]) (st := [.int r14]) C (c_X8_heightOf C.2.2.2.2.2.1 hk0 h15) lkX8_146 rfl (by decide) hk0 rfl rfl (Nat.le_of_ble_eq_true rfl) ⟨⟨rfl, rfl⟩, Nat.le_of_ble_eq_true rfl, Nat.le_of_ble_eq_true rfl⟩ ⟨Nat.le_of_ble_eq_true rfl, Nat.le_of_ble_eq_true rfl⟩ dX8_winnerOf_136) ?_
    refine g_ic_le (pc := 139) (tgt := 147) C hf dX8_winnerOf_139 (by decide) (fun hf => ?_) (fun hf => ?_)
    · refine g_iload (pc := 147) C 5 dX8_winnerOf_147 rfl ?_
      refine g_istore (pc := 149) (lv2 := [(6, .int x6), (0, .ref (Λ a0)), (1, .int x1), (2, .int x2), (3, .int x3), (4, .int x4), (7, .int x7), (8, .int x8)]) C dX8_winnerOf_149 (by decide) rfl ?_
      refine g_iinc (pc := 151) (v := (x8 + (1 : Int32))) (lv2 := [(8, .int (x8 + (1 : Int32))), (6, .int x6), (0, .ref (Λ a0)), (1, .int x1), (2, .int x2), (3, .int x3), (4, .int x4), (7, .int x7)]) C 7 dX8_winnerOf_151 rfl rfl (by decide) rfl ?_
      refine g_goto (pc := 154) (tgt := 97) C dX8_winnerOf_154 (by decide) ?_
      refine g_sub [2, 3, 4, 5, 6, 1, 7, 0] rfl ?_
      exact ih x4 x6 x7 (x8 + (1 : Int32))  hf
    refine g_iload (pc := 142) C 7 dX8_winnerOf_142 rfl ?_
    refine g_goto (pc := 144) (tgt := 149) C dX8_winnerOf_144 (by decide) ?_
    refine g_istore (pc := 149) (lv2 := [(6, .int x8), (0, .ref (Λ a0)), (1, .int x1), (2, .int x2), (3, .int x3), (4, .int x4), (7, .int x7), (8, .int x8)]) C dX8_winnerOf_149 (by decide) rfl ?_
    refine g_iinc (pc := 151) (v := (x8 + (1 : Int32))) (lv2 := [(8, .int (x8 + (1 : Int32))), (6, .int x8), (0, .ref (Λ a0)), (1, .int x1), (2, .int x2), (3, .int x3), (4, .int x4), (7, .int x7)]) C 7 dX8_winnerOf_151 rfl rfl (by decide) rfl ?_
    refine g_goto (pc := 154) (tgt := 97) C dX8_winnerOf_154 (by decide) ?_
    refine g_sub [2, 3, 4, 5, 6, 1, 7, 0] rfl ?_
    exact ih x4 x8 x7 (x8 + (1 : Int32))  hf

theorem w_X8_winnerOf_L77 {p : Program} {l : Launch} {e : Env} {s : State} {m : MethodId} {args : Array Value} {below : List Frame} {meth : Method} {c : Code} {D : va_G} {cy : Nat → ClassId} {Λ : Nat → Nat} (C : Cx p s m args meth c cX8_winnerOf 9 RX8 (some .int) D cy Λ (AA Λ s.heap.size)) {M : Mem} {a0 : Nat} {x1 : Int32} {x2 : Int32} {x3 : Int32}  {r9 : Int32} (hk0 : Is NN a0 9)  : ∀ (fu : Nat) (x4 : Int32) (x6 : Int32) (x7 : Int32), m_X8_winnerOf_L77 M a0 x1 x2 x3 fu x4 x6 x7 = some r9 → GW p l e { frames := 3, cells := 0, slots := 0, locals := 69 } s m args below meth c D cy Λ 9 (QcI D cy Λ NN r9 M) M 77 [(0, .ref (Λ a0)), (1, .int x1), (2, .int x2), (3, .int x3), (4, .int x4), (6, .int x6), (7, .int x7)] [] := by
  intro fu
  induction fu with
  | zero =>
    intro x4 x6 x7  hf
    cases hf
  | succ fu ih =>
    intro x4 x6 x7  hf
    unfold m_X8_winnerOf_L77 at hf
    refine g_iload (pc := 77) C 6 dX8_winnerOf_77 rfl ?_
    refine g_iload_n (pc := 79) C 3 dX8_winnerOf_79 rfl rfl ?_
    refine g_ic_gt (pc := 80) (tgt := 186) C hf dX8_winnerOf_80 (by decide) (fun hf => ?_) (fun hf => ?_)
    · refine g_iload_n (pc := 186) C 3 dX8_winnerOf_186 rfl rfl ?_
      refine g_bipush (pc := 187) (v := (8 : Int32)) C dX8_winnerOf_187 (by decide) ?_
      refine g_ic_le (pc := 189) (tgt := 197) C hf dX8_winnerOf_189 (by decide) (fun hf => ?_) (fun hf => ?_)
      · refine g_iload (pc := 197) C 5 dX8_winnerOf_197 rfl ?_
        exact g_iret C hf dX8_winnerOf_199
      refine g_bipush (pc := 192) (v := (-9 : Int32)) C dX8_winnerOf_192 (by decide) ?_
      refine g_goto (pc := 194) (tgt := 199) C dX8_winnerOf_194 (by decide) ?_
      exact g_iret C hf dX8_winnerOf_199
    refine g_iload (pc := 83) C 6 dX8_winnerOf_83 rfl ?_
    refine g_bipush (pc := 85) (v := (9 : Int32)) C dX8_winnerOf_85 (by decide) ?_
    refine g_ic_ge (pc := 87) (tgt := 186) C hf dX8_winnerOf_87 (by decide) (fun hf => ?_) (fun hf => ?_)
    · refine g_iload_n (pc := 186) C 3 dX8_winnerOf_186 rfl rfl ?_
      refine g_bipush (pc := 187) (v := (8 : Int32)) C dX8_winnerOf_187 (by decide) ?_
      refine g_ic_le (pc := 189) (tgt := 197) C hf dX8_winnerOf_189 (by decide) (fun hf => ?_) (fun hf => ?_)
      · refine g_iload (pc := 197) C 5 dX8_winnerOf_197 rfl ?_
        exact g_iret C hf dX8_winnerOf_199
      refine g_bipush (pc := 192) (v := (-9 : Int32)) C dX8_winnerOf_192 (by decide) ?_
      refine g_goto (pc := 194) (tgt := 199) C dX8_winnerOf_194 (by decide) ?_
      exact g_iret C hf dX8_winnerOf_199
    refine g_bipush (pc := 90) (v := (-9 : Int32)) C dX8_winnerOf_90 (by decide) ?_
    refine g_istore (pc := 92) (lv2 := [(6, .int (-9 : Int32)), (0, .ref (Λ a0)), (1, .int x1), (2, .int x2), (3, .int x3), (4, .int x4), (7, .int x7)]) C dX8_winnerOf_92 (by decide) rfl ?_
    refine g_iconst (pc := 94) (v := (0 : Int32)) C dX8_winnerOf_94 (by decide) ?_
    refine g_istore (pc := 95) (lv2 := [(8, .int (0 : Int32)), (6, .int (-9 : Int32)), (0, .ref (Λ a0)), (1, .int x1), (2, .int x2), (3, .int x3), (4, .int x4), (7, .int x7)]) C dX8_winnerOf_95 (by decide) rfl ?_
    refine g_sub [2, 3, 4, 5, 6, 1, 7, 0] rfl ?_
    exact w_X8_winnerOf_L97 C hk0 ih FU x4 (-9 : Int32) x7 (0 : Int32)  hf

theorem w_X8_winnerOf_L13 {p : Program} {l : Launch} {e : Env} {s : State} {m : MethodId} {args : Array Value} {below : List Frame} {meth : Method} {c : Code} {D : va_G} {cy : Nat → ClassId} {Λ : Nat → Nat} (C : Cx p s m args meth c cX8_winnerOf 9 RX8 (some .int) D cy Λ (AA Λ s.heap.size)) {M : Mem} {a0 : Nat} {x1 : Int32} {x2 : Int32} {x3 : Int32}  {r9 : Int32} (hk0 : Is NN a0 9)  : ∀ (fu : Nat) (x4 : Int32) (x5 : Int32) (x6 : Int32), m_X8_winnerOf_L13 M a0 x1 x2 x3 fu x4 x5 x6 = some r9 → GW p l e { frames := 3, cells := 0, slots := 0, locals := 69 } s m args below meth c D cy Λ 9 (QcI D cy Λ NN r9 M) M 13 [(0, .ref (Λ a0)), (1, .int x1), (2, .int x2), (3, .int x3), (4, .int x4), (5, .int x5), (6, .int x6)] [] := by
  intro fu
  induction fu with
  | zero =>
    intro x4 x5 x6  hf
    cases hf
  | succ fu ih =>
    intro x4 x5 x6  hf
    unfold m_X8_winnerOf_L13 at hf
    refine g_iload (pc := 13) C 6 dX8_winnerOf_13 rfl ?_
    refine g_aload_n (pc := 15) C 0 dX8_winnerOf_15 rfl rfl ?_
    refine g_getR (pc := 16) (T := 9) C hf fgX8_13 (by decide) hk0 rfl dX8_winnerOf_16 (fun a11 hk11 hf => ?_)
    refine g_iconst (pc := 19) (v := (1 : Int32)) C dX8_winnerOf_19 (by decide) ?_
    refine g_iald (pc := 20) C hf hk11 dX8_winnerOf_20 (fun v12 hf => ?_)
    refine g_ic_ge (pc := 21) (tgt := 70) C hf dX8_winnerOf_21 (by decide) (fun hf => ?_) (fun hf => ?_)
    · refine g_bipush (pc := 70) (v := (-9 : Int32)) C dX8_winnerOf_70 (by decide) ?_
      refine g_istore (pc := 72) (lv2 := [(6, .int (-9 : Int32)), (0, .ref (Λ a0)), (1, .int x1), (2, .int x2), (3, .int x3), (4, .int x4), (5, .int x5)]) C dX8_winnerOf_72 (by decide) rfl ?_
      refine g_iconst (pc := 74) (v := (0 : Int32)) C dX8_winnerOf_74 (by decide) ?_
      refine g_istore (pc := 75) (lv2 := [(7, .int (0 : Int32)), (6, .int (-9 : Int32)), (0, .ref (Λ a0)), (1, .int x1), (2, .int x2), (3, .int x3), (4, .int x4), (5, .int x5)]) C dX8_winnerOf_75 (by decide) rfl ?_
      refine g_sub [2, 3, 4, 5, 6, 1, 0] rfl ?_
      exact w_X8_winnerOf_L77 C hk0 FU x4 (-9 : Int32) (0 : Int32)  hf
    refine g_iload (pc := 24) C 4 dX8_winnerOf_24 rfl ?_
    refine g_iload (pc := 26) C 5 dX8_winnerOf_26 rfl ?_
    refine g_iload (pc := 28) C 6 dX8_winnerOf_28 rfl ?_
    obtain ⟨r13, h13, hf⟩ := ob hf
    refine g_resI (pc := 30) C (rnS (As := [.int x5, .int x6]) (st := [.int x4]) C (c_X8_has C.2.2.2.2.2.1  h13) lkX8_105 rfl rfl (Nat.le_of_ble_eq_true rfl) ⟨⟨rfl, rfl⟩, Nat.le_of_ble_eq_true rfl, Nat.le_of_ble_eq_true rfl⟩ ⟨Nat.le_of_ble_eq_true rfl, Nat.le_of_ble_eq_true rfl⟩ dX8_winnerOf_30) ?_
    refine g_if_eq (pc := 33) (tgt := 60) C hf dX8_winnerOf_33 (by decide) (fun hf => ?_) (fun hf => ?_)
    · refine g_iconst (pc := 60) (v := (0 : Int32)) C dX8_winnerOf_60 (by decide) ?_
      refine g_ior (pc := 61) C dX8_winnerOf_61 ?_
      refine g_istore (pc := 62) (lv2 := [(4, .int (x4 ||| (0 : Int32))), (0, .ref (Λ a0)), (1, .int x1), (2, .int x2), (3, .int x3), (5, .int x5), (6, .int x6)]) C dX8_winnerOf_62 (by decide) rfl ?_
      refine g_iinc (pc := 64) (v := (x6 + (1 : Int32))) (lv2 := [(6, .int (x6 + (1 : Int32))), (4, .int (x4 ||| (0 : Int32))), (0, .ref (Λ a0)), (1, .int x1), (2, .int x2), (3, .int x3), (5, .int x5)]) C 6 dX8_winnerOf_64 rfl rfl (by decide) rfl ?_
      refine g_goto (pc := 67) (tgt := 13) C dX8_winnerOf_67 (by decide) ?_
      refine g_sub [2, 3, 4, 5, 1, 6, 0] rfl ?_
      exact ih (x4 ||| (0 : Int32)) x5 (x6 + (1 : Int32))  hf
    refine g_aload_n (pc := 36) C 0 dX8_winnerOf_36 rfl rfl ?_
    refine g_getR (pc := 37) (T := 9) C hf fgX8_13 (by decide) hk0 rfl dX8_winnerOf_37 (fun a14 hk14 hf => ?_)
    refine g_bipush (pc := 40) (v := (92 : Int32)) C dX8_winnerOf_40 (by decide) ?_
    refine g_iload (pc := 42) C 6 dX8_winnerOf_42 rfl ?_
    refine g_iadd (pc := 44) C dX8_winnerOf_44 ?_
    refine g_iald (pc := 45) C hf hk14 dX8_winnerOf_45 (fun v15 hf => ?_)
    refine g_iload_n (pc := 46) C 2 dX8_winnerOf_46 rfl rfl ?_
    obtain ⟨r16, h16, hf⟩ := ob hf
    refine g_resI (pc := 47) C (rnS (As := [.int v15, .int x2]) (st := [.int x4]) C (c_X8_has C.2.2.2.2.2.1  h16) lkX8_105 rfl rfl (Nat.le_of_ble_eq_true rfl) ⟨⟨rfl, rfl⟩, Nat.le_of_ble_eq_true rfl, Nat.le_of_ble_eq_true rfl⟩ ⟨Nat.le_of_ble_eq_true rfl, Nat.le_of_ble_eq_true rfl⟩ dX8_winnerOf_47) ?_
    refine g_if_eq (pc := 50) (tgt := 60) C hf dX8_winnerOf_50 (by decide) (fun hf => ?_) (fun hf => ?_)
    · refine g_iconst (pc := 60) (v := (0 : Int32)) C dX8_winnerOf_60 (by decide) ?_
      refine g_ior (pc := 61) C dX8_winnerOf_61 ?_
      refine g_istore (pc := 62) (lv2 := [(4, .int (x4 ||| (0 : Int32))), (0, .ref (Λ a0)), (1, .int x1), (2, .int x2), (3, .int x3), (5, .int x5), (6, .int x6)]) C dX8_winnerOf_62 (by decide) rfl ?_
      refine g_iinc (pc := 64) (v := (x6 + (1 : Int32))) (lv2 := [(6, .int (x6 + (1 : Int32))), (4, .int (x4 ||| (0 : Int32))), (0, .ref (Λ a0)), (1, .int x1), (2, .int x2), (3, .int x3), (5, .int x5)]) C 6 dX8_winnerOf_64 rfl rfl (by decide) rfl ?_
      refine g_goto (pc := 67) (tgt := 13) C dX8_winnerOf_67 (by decide) ?_
      refine g_sub [2, 3, 4, 5, 1, 6, 0] rfl ?_
      exact ih (x4 ||| (0 : Int32)) x5 (x6 + (1 : Int32))  hf
    refine g_iconst (pc := 53) (v := (1 : Int32)) C dX8_winnerOf_53 (by decide) ?_
    refine g_iload (pc := 54) C 6 dX8_winnerOf_54 rfl ?_
    refine g_ishl (pc := 56) C dX8_winnerOf_56 ?_
    refine g_goto (pc := 57) (tgt := 61) C dX8_winnerOf_57 (by decide) ?_
    refine g_ior (pc := 61) C dX8_winnerOf_61 ?_
    refine g_istore (pc := 62) (lv2 := [(4, .int (x4 ||| ((1 : Int32) <<< (x6 &&& 31)))), (0, .ref (Λ a0)), (1, .int x1), (2, .int x2), (3, .int x3), (5, .int x5), (6, .int x6)]) C dX8_winnerOf_62 (by decide) rfl ?_
    refine g_iinc (pc := 64) (v := (x6 + (1 : Int32))) (lv2 := [(6, .int (x6 + (1 : Int32))), (4, .int (x4 ||| ((1 : Int32) <<< (x6 &&& 31)))), (0, .ref (Λ a0)), (1, .int x1), (2, .int x2), (3, .int x3), (5, .int x5)]) C 6 dX8_winnerOf_64 rfl rfl (by decide) rfl ?_
    refine g_goto (pc := 67) (tgt := 13) C dX8_winnerOf_67 (by decide) ?_
    refine g_sub [2, 3, 4, 5, 1, 6, 0] rfl ?_
    exact ih (x4 ||| ((1 : Int32) <<< (x6 &&& 31))) x5 (x6 + (1 : Int32))  hf

theorem w_X8_winnerOf {p : Program} {l : Launch} {e : Env} {s : State} {m : MethodId} {args : Array Value} {below : List Frame} {meth : Method} {c : Code} {D : va_G} {cy : Nat → ClassId} {Λ : Nat → Nat} (C : Cx p s m args meth c cX8_winnerOf 9 RX8 (some .int) D cy Λ (AA Λ s.heap.size)) {M : Mem} {a0 : Nat} {x1 : Int32} {x2 : Int32} {x3 : Int32} {r9 : Int32} (hk0 : Is NN a0 9) (hf : m_X8_winnerOf M a0 x1 x2 x3 = some r9) : GW p l e { frames := 3, cells := 0, slots := 0, locals := 69 } s m args below meth c D cy Λ 9 (QcI D cy Λ NN r9 M) M 0 [(0, .ref (Λ a0)), (1, .int x1), (2, .int x2), (3, .int x3)] [] := by
  unfold m_X8_winnerOf at hf
  refine g_iconst (pc := 0) (v := (0 : Int32)) C dX8_winnerOf_0 (by decide) ?_
  refine g_istore (pc := 1) (lv2 := [(4, .int (0 : Int32)), (0, .ref (Λ a0)), (1, .int x1), (2, .int x2), (3, .int x3)]) C dX8_winnerOf_1 (by decide) rfl ?_
  refine g_aload_n (pc := 3) C 1 dX8_winnerOf_3 rfl rfl ?_
  refine g_iload_n (pc := 4) C 2 dX8_winnerOf_4 rfl rfl ?_
  obtain ⟨r11, h11, hf⟩ := ob hf
  refine g_resI (pc := 5) C (rnV (As := [.int x1]) (st := []) C (c_X8_rulesOf C.2.2.2.2.2.1 hk0 h11) lkX8_143 rfl (by decide) hk0 rfl rfl (Nat.le_of_ble_eq_true rfl) ⟨⟨rfl, rfl⟩, Nat.le_of_ble_eq_true rfl, Nat.le_of_ble_eq_true rfl⟩ ⟨Nat.le_of_ble_eq_true rfl, Nat.le_of_ble_eq_true rfl⟩ dX8_winnerOf_5) ?_
  refine g_istore (pc := 8) (lv2 := [(5, .int r11), (4, .int (0 : Int32)), (0, .ref (Λ a0)), (1, .int x1), (2, .int x2), (3, .int x3)]) C dX8_winnerOf_8 (by decide) rfl ?_
  refine g_iconst (pc := 10) (v := (0 : Int32)) C dX8_winnerOf_10 (by decide) ?_
  refine g_istore (pc := 11) (lv2 := [(6, .int (0 : Int32)), (5, .int r11), (4, .int (0 : Int32)), (0, .ref (Λ a0)), (1, .int x1), (2, .int x2), (3, .int x3)]) C dX8_winnerOf_11 (by decide) rfl ?_
  refine g_sub [3, 4, 5, 6, 2, 1, 0] rfl ?_
  exact w_X8_winnerOf_L13 C hk0 FU (0 : Int32) r11 (0 : Int32)  hf

theorem c_X8_winnerOf {l : Launch} {D : va_G} {cy : Nat → ClassId} {Λ : Nat → Nat} (hi : ∀ i j : Nat, Λ i = Λ j → i = j) {M : Mem} {a0 : Nat} {x1 : Int32} {x2 : Int32} {x3 : Int32} {r9 : Int32} (hk0 : Is NN a0 9) (hf : m_X8_winnerOf M a0 x1 x2 x3 = some r9) : Ct l yX8_winnerOf cX8_winnerOf 9 (some .int) { frames := 3, cells := 0, slots := 0, locals := 69 } D cy Λ [.ref (Λ a0), .int x1, .int x2, .int x3] NN M 0 0 (QcI D cy Λ NN r9 M) := ent (by decide) hi (Nat.le_of_ble_eq_true rfl) (fun p e s m args below meth c C => w_X8_winnerOf C hk0 hf)
theorem w_X8_sourceOf_L2 {p : Program} {l : Launch} {e : Env} {s : State} {m : MethodId} {args : Array Value} {below : List Frame} {meth : Method} {c : Code} {D : va_G} {cy : Nat → ClassId} {Λ : Nat → Nat} (C : Cx p s m args meth c cX8_sourceOf 4 RX8 (some .int) D cy Λ (AA Λ s.heap.size)) {M : Mem} {a0 : Nat} {x1 : Int32} {x2 : Int32}  {r9 : Int32} (hk0 : Is NN a0 9)  : ∀ (fu : Nat) (x3 : Int32), m_X8_sourceOf_L2 M a0 x1 x2 fu x3 = some r9 → GW p l e { frames := 4, cells := 0, slots := 0, locals := 97 } s m args below meth c D cy Λ 4 (QcI D cy Λ NN r9 M) M 2 [(0, .ref (Λ a0)), (1, .int x1), (2, .int x2), (3, .int x3)] [] := by
  intro fu
  induction fu with
  | zero =>
    intro x3  hf
    cases hf
  | succ fu ih =>
    intro x3  hf
    unfold m_X8_sourceOf_L2 at hf
    refine g_iload_n (pc := 2) C 3 dX8_sourceOf_2 rfl rfl ?_
    refine g_bipush (pc := 3) (v := (-9 : Int32)) C dX8_sourceOf_3 (by decide) ?_
    refine g_ic_eq (pc := 5) (tgt := 42) C hf dX8_sourceOf_5 (by decide) (fun hf => ?_) (fun hf => ?_)
    · refine g_iload_n (pc := 42) C 3 dX8_sourceOf_42 rfl rfl ?_
      exact g_iret C hf dX8_sourceOf_43
    refine g_aload_n (pc := 8) C 0 dX8_sourceOf_8 rfl rfl ?_
    refine g_iload_n (pc := 9) C 3 dX8_sourceOf_9 rfl rfl ?_
    refine g_iload_n (pc := 10) C 2 dX8_sourceOf_10 rfl rfl ?_
    refine g_iconst (pc := 11) (v := (0 : Int32)) C dX8_sourceOf_11 (by decide) ?_
    obtain ⟨r11, h11, hf⟩ := ob hf
    refine g_resI (pc := 12) C (rnV (As := [.int x3, .int x2, .int (0 : Int32)]) (st := []) C (c_X8_winnerOf C.2.2.2.2.2.1 hk0 h11) lkX8_149 rfl (by decide) hk0 rfl rfl (Nat.le_of_ble_eq_true rfl) ⟨⟨rfl, rfl⟩, Nat.le_of_ble_eq_true rfl, Nat.le_of_ble_eq_true rfl⟩ ⟨Nat.le_of_ble_eq_true rfl, Nat.le_of_ble_eq_true rfl⟩ dX8_sourceOf_12) ?_
    refine g_bipush (pc := 15) (v := (-9 : Int32)) C dX8_sourceOf_15 (by decide) ?_
    refine g_ic_ne (pc := 17) (tgt := 42) C hf dX8_sourceOf_17 (by decide) (fun hf => ?_) (fun hf => ?_)
    · refine g_iload_n (pc := 20) C 2 dX8_sourceOf_20 rfl rfl ?_
      refine g_iconst (pc := 21) (v := (2 : Int32)) C dX8_sourceOf_21 (by decide) ?_
      refine g_ic_ge (pc := 22) (tgt := 36) C hf dX8_sourceOf_22 (by decide) (fun hf => ?_) (fun hf => ?_)
      · refine g_bipush (pc := 36) (v := (-9 : Int32)) C dX8_sourceOf_36 (by decide) ?_
        refine g_istore_n (pc := 38) (lv2 := [(3, .int (-9 : Int32)), (0, .ref (Λ a0)), (1, .int x1), (2, .int x2)]) C dX8_sourceOf_38 rfl (by decide) rfl ?_
        refine g_goto (pc := 39) (tgt := 2) C dX8_sourceOf_39 (by decide) ?_
        refine g_sub [1, 2, 3, 0] rfl ?_
        exact ih (-9 : Int32)  hf
      refine g_aload_n (pc := 25) C 0 dX8_sourceOf_25 rfl rfl ?_
      refine g_getR (pc := 26) (T := 9) C hf fgX8_13 (by decide) hk0 rfl dX8_sourceOf_26 (fun a12 hk12 hf => ?_)
      refine g_iconst (pc := 29) (v := (3 : Int32)) C dX8_sourceOf_29 (by decide) ?_
      refine g_iload_n (pc := 30) C 3 dX8_sourceOf_30 rfl rfl ?_
      refine g_iadd (pc := 31) C dX8_sourceOf_31 ?_
      refine g_iald (pc := 32) C hf hk12 dX8_sourceOf_32 (fun v13 hf => ?_)
      refine g_goto (pc := 33) (tgt := 38) C dX8_sourceOf_33 (by decide) ?_
      refine g_istore_n (pc := 38) (lv2 := [(3, .int v13), (0, .ref (Λ a0)), (1, .int x1), (2, .int x2)]) C dX8_sourceOf_38 rfl (by decide) rfl ?_
      refine g_goto (pc := 39) (tgt := 2) C dX8_sourceOf_39 (by decide) ?_
      refine g_sub [1, 2, 3, 0] rfl ?_
      exact ih v13  hf
    refine g_iload_n (pc := 42) C 3 dX8_sourceOf_42 rfl rfl ?_
    exact g_iret C hf dX8_sourceOf_43

theorem w_X8_sourceOf {p : Program} {l : Launch} {e : Env} {s : State} {m : MethodId} {args : Array Value} {below : List Frame} {meth : Method} {c : Code} {D : va_G} {cy : Nat → ClassId} {Λ : Nat → Nat} (C : Cx p s m args meth c cX8_sourceOf 4 RX8 (some .int) D cy Λ (AA Λ s.heap.size)) {M : Mem} {a0 : Nat} {x1 : Int32} {x2 : Int32} {r9 : Int32} (hk0 : Is NN a0 9) (hf : m_X8_sourceOf M a0 x1 x2 = some r9) : GW p l e { frames := 4, cells := 0, slots := 0, locals := 97 } s m args below meth c D cy Λ 4 (QcI D cy Λ NN r9 M) M 0 [(0, .ref (Λ a0)), (1, .int x1), (2, .int x2)] [] := by
  unfold m_X8_sourceOf at hf
  refine g_iload_n (pc := 0) C 1 dX8_sourceOf_0 rfl rfl ?_
  refine g_istore_n (pc := 1) (lv2 := [(3, .int x1), (0, .ref (Λ a0)), (1, .int x1), (2, .int x2)]) C dX8_sourceOf_1 rfl (by decide) rfl ?_
  refine g_sub [1, 2, 3, 0] rfl ?_
  exact w_X8_sourceOf_L2 C hk0 FU x1  hf

theorem c_X8_sourceOf {l : Launch} {D : va_G} {cy : Nat → ClassId} {Λ : Nat → Nat} (hi : ∀ i j : Nat, Λ i = Λ j → i = j) {M : Mem} {a0 : Nat} {x1 : Int32} {x2 : Int32} {r9 : Int32} (hk0 : Is NN a0 9) (hf : m_X8_sourceOf M a0 x1 x2 = some r9) : Ct l yX8_sourceOf cX8_sourceOf 4 (some .int) { frames := 4, cells := 0, slots := 0, locals := 97 } D cy Λ [.ref (Λ a0), .int x1, .int x2] NN M 0 0 (QcI D cy Λ NN r9 M) := ent (by decide) hi (Nat.le_of_ble_eq_true rfl) (fun p e s m args below meth c C => w_X8_sourceOf C hk0 hf)
theorem w_X8_valueOf {p : Program} {l : Launch} {e : Env} {s : State} {m : MethodId} {args : Array Value} {below : List Frame} {meth : Method} {c : Code} {D : va_G} {cy : Nat → ClassId} {Λ : Nat → Nat} (C : Cx p s m args meth c cX8_valueOf 4 RX8 (some .int) D cy Λ (AA Λ s.heap.size)) {M : Mem} {a0 : Nat} {x1 : Int32} {x2 : Int32} {r9 : Int32} (hk0 : Is NN a0 9) (hf : m_X8_valueOf M a0 x1 x2 = some r9) : GW p l e { frames := 5, cells := 0, slots := 0, locals := 120 } s m args below meth c D cy Λ 4 (QcI D cy Λ NN r9 M) M 0 [(0, .ref (Λ a0)), (1, .int x1), (2, .int x2)] [] := by
  unfold m_X8_valueOf at hf
  refine g_aload_n (pc := 0) C 0 dX8_valueOf_0 rfl rfl ?_
  refine g_iload_n (pc := 1) C 1 dX8_valueOf_1 rfl rfl ?_
  refine g_iload_n (pc := 2) C 2 dX8_valueOf_2 rfl rfl ?_
  obtain ⟨r11, h11, hf⟩ := ob hf
  refine g_resI (pc := 3) C (rnV (As := [.int x1, .int x2]) (st := []) C (c_X8_sourceOf C.2.2.2.2.2.1 hk0 h11) lkX8_153 rfl (by decide) hk0 rfl rfl (Nat.le_of_ble_eq_true rfl) ⟨⟨rfl, rfl⟩, Nat.le_of_ble_eq_true rfl, Nat.le_of_ble_eq_true rfl⟩ ⟨Nat.le_of_ble_eq_true rfl, Nat.le_of_ble_eq_true rfl⟩ dX8_valueOf_3) ?_
  refine g_istore_n (pc := 6) (lv2 := [(3, .int r11), (0, .ref (Λ a0)), (1, .int x1), (2, .int x2)]) C dX8_valueOf_6 rfl (by decide) rfl ?_
  refine g_iload_n (pc := 7) C 0 dX8_valueOf_7 rfl rfl ?_
  refine g_bipush (pc := 8) (v := (-9 : Int32)) C dX8_valueOf_8 (by decide) ?_
  refine g_ic_ne (pc := 10) (tgt := 17) C hf dX8_valueOf_10 (by decide) (fun hf => ?_) (fun hf => ?_)
  · refine g_iconst (pc := 13) (v := (0 : Int32)) C dX8_valueOf_13 (by decide) ?_
    refine g_goto (pc := 14) (tgt := 36) C dX8_valueOf_14 (by decide) ?_
    exact g_iret C hf dX8_valueOf_36
  refine g_aload_n (pc := 17) C 1 dX8_valueOf_17 rfl rfl ?_
  refine g_getR (pc := 18) (T := 9) C hf fgX8_13 (by decide) hk0 rfl dX8_valueOf_18 (fun a12 hk12 hf => ?_)
  refine g_bipush (pc := 21) (v := (108 : Int32)) C dX8_valueOf_21 (by decide) ?_
  refine g_iconst (pc := 23) (v := (4 : Int32)) C dX8_valueOf_23 (by decide) ?_
  refine g_aload_n (pc := 24) C 1 dX8_valueOf_24 rfl rfl ?_
  refine g_iload_n (pc := 25) C 0 dX8_valueOf_25 rfl rfl ?_
  refine g_iload_n (pc := 26) C 3 dX8_valueOf_26 rfl rfl ?_
  refine g_iconst (pc := 27) (v := (0 : Int32)) C dX8_valueOf_27 (by decide) ?_
  obtain ⟨r13, h13, hf⟩ := ob hf
  refine g_resI (pc := 28) C (rnV (As := [.int r11, .int x2, .int (0 : Int32)]) (st := [.int (4 : Int32), .int (108 : Int32), .ref (Λ a12)]) C (c_X8_winnerOf C.2.2.2.2.2.1 hk0 h13) lkX8_149 rfl (by decide) hk0 rfl rfl (Nat.le_of_ble_eq_true rfl) ⟨⟨rfl, rfl⟩, Nat.le_of_ble_eq_true rfl, Nat.le_of_ble_eq_true rfl⟩ ⟨Nat.le_of_ble_eq_true rfl, Nat.le_of_ble_eq_true rfl⟩ dX8_valueOf_28) ?_
  refine g_imul (pc := 31) C dX8_valueOf_31 ?_
  refine g_iadd (pc := 32) C dX8_valueOf_32 ?_
  refine g_iload_n (pc := 33) C 3 dX8_valueOf_33 rfl rfl ?_
  refine g_iadd (pc := 34) C dX8_valueOf_34 ?_
  refine g_iald (pc := 35) C hf hk12 dX8_valueOf_35 (fun v14 hf => ?_)
  exact g_iret C hf dX8_valueOf_36

theorem c_X8_valueOf {l : Launch} {D : va_G} {cy : Nat → ClassId} {Λ : Nat → Nat} (hi : ∀ i j : Nat, Λ i = Λ j → i = j) {M : Mem} {a0 : Nat} {x1 : Int32} {x2 : Int32} {r9 : Int32} (hk0 : Is NN a0 9) (hf : m_X8_valueOf M a0 x1 x2 = some r9) : Ct l yX8_valueOf cX8_valueOf 4 (some .int) { frames := 5, cells := 0, slots := 0, locals := 120 } D cy Λ [.ref (Λ a0), .int x1, .int x2] NN M 0 0 (QcI D cy Λ NN r9 M) := ent (by decide) hi (Nat.le_of_ble_eq_true rfl) (fun p e s m args below meth c C => w_X8_valueOf C hk0 hf)
theorem w_X8_isLike_L5 {p : Program} {l : Launch} {e : Env} {s : State} {m : MethodId} {args : Array Value} {below : List Frame} {meth : Method} {c : Code} {D : va_G} {cy : Nat → ClassId} {Λ : Nat → Nat} (C : Cx p s m args meth c cX8_isLike 5 RX8 (some .boolean) D cy Λ (AA Λ s.heap.size)) {M : Mem} {a0 : Nat} {x1 : Int32} {x2 : Int32}  {r9 : Int32} (hk0 : Is NN a0 9)  : ∀ (fu : Nat) (x3 : Int32) (x4 : Int32), m_X8_isLike_L5 M a0 x1 x2 fu x3 x4 = some r9 → GW p l e { frames := 6, cells := 0, slots := 0, locals := 143 } s m args below meth c D cy Λ 5 (QcI D cy Λ NN r9 M) M 5 [(0, .ref (Λ a0)), (1, .int x1), (2, .int x2), (3, .int x3), (4, .int x4)] [] := by
  intro fu
  induction fu with
  | zero =>
    intro x3 x4  hf
    cases hf
  | succ fu ih =>
    intro x3 x4  hf
    unfold m_X8_isLike_L5 at hf
    refine g_iload (pc := 5) C 4 dX8_isLike_5 rfl ?_
    refine g_iconst (pc := 7) (v := (4 : Int32)) C dX8_isLike_7 (by decide) ?_
    refine g_ic_ge (pc := 8) (tgt := 44) C hf dX8_isLike_8 (by decide) (fun hf => ?_) (fun hf => ?_)
    · refine g_iload_n (pc := 44) C 3 dX8_isLike_44 rfl rfl ?_
      obtain ⟨hn, hf⟩ := bz_n hf
      exact g_zret C hn hf dX8_isLike_45
    refine g_iload_n (pc := 11) C 3 dX8_isLike_11 rfl rfl ?_
    refine g_if_eq (pc := 12) (tgt := 36) C hf dX8_isLike_12 (by decide) (fun hf => ?_) (fun hf => ?_)
    · refine g_iconst (pc := 36) (v := (0 : Int32)) C dX8_isLike_36 (by decide) ?_
      refine g_istore_n (pc := 37) (lv2 := [(3, .int (0 : Int32)), (0, .ref (Λ a0)), (1, .int x1), (2, .int x2), (4, .int x4)]) C dX8_isLike_37 rfl (by decide) rfl ?_
      refine g_iinc (pc := 38) (v := (x4 + (1 : Int32))) (lv2 := [(4, .int (x4 + (1 : Int32))), (3, .int (0 : Int32)), (0, .ref (Λ a0)), (1, .int x1), (2, .int x2)]) C 4 dX8_isLike_38 rfl rfl (by decide) rfl ?_
      refine g_goto (pc := 41) (tgt := 5) C dX8_isLike_41 (by decide) ?_
      refine g_sub [2, 3, 4, 1, 0] rfl ?_
      exact ih (0 : Int32) (x4 + (1 : Int32))  hf
    refine g_aload_n (pc := 15) C 0 dX8_isLike_15 rfl rfl ?_
    refine g_iload_n (pc := 16) C 1 dX8_isLike_16 rfl rfl ?_
    refine g_iload (pc := 17) C 4 dX8_isLike_17 rfl ?_
    obtain ⟨r11, h11, hf⟩ := ob hf
    refine g_resI (pc := 19) C (rnV (As := [.int x1, .int x4]) (st := []) C (c_X8_valueOf C.2.2.2.2.2.1 hk0 h11) lkX8_156 rfl (by decide) hk0 rfl rfl (Nat.le_of_ble_eq_true rfl) ⟨⟨rfl, rfl⟩, Nat.le_of_ble_eq_true rfl, Nat.le_of_ble_eq_true rfl⟩ ⟨Nat.le_of_ble_eq_true rfl, Nat.le_of_ble_eq_true rfl⟩ dX8_isLike_19) ?_
    refine g_aload_n (pc := 22) C 0 dX8_isLike_22 rfl rfl ?_
    refine g_iload_n (pc := 23) C 2 dX8_isLike_23 rfl rfl ?_
    refine g_iload (pc := 24) C 4 dX8_isLike_24 rfl ?_
    obtain ⟨r12, h12, hf⟩ := ob hf
    refine g_resI (pc := 26) C (rnV (As := [.int x2, .int x4]) (st := [.int r11]) C (c_X8_valueOf C.2.2.2.2.2.1 hk0 h12) lkX8_156 rfl (by decide) hk0 rfl rfl (Nat.le_of_ble_eq_true rfl) ⟨⟨rfl, rfl⟩, Nat.le_of_ble_eq_true rfl, Nat.le_of_ble_eq_true rfl⟩ ⟨Nat.le_of_ble_eq_true rfl, Nat.le_of_ble_eq_true rfl⟩ dX8_isLike_26) ?_
    refine g_ic_ne (pc := 29) (tgt := 36) C hf dX8_isLike_29 (by decide) (fun hf => ?_) (fun hf => ?_)
    · refine g_iconst (pc := 32) (v := (1 : Int32)) C dX8_isLike_32 (by decide) ?_
      refine g_goto (pc := 33) (tgt := 37) C dX8_isLike_33 (by decide) ?_
      refine g_istore_n (pc := 37) (lv2 := [(3, .int (1 : Int32)), (0, .ref (Λ a0)), (1, .int x1), (2, .int x2), (4, .int x4)]) C dX8_isLike_37 rfl (by decide) rfl ?_
      refine g_iinc (pc := 38) (v := (x4 + (1 : Int32))) (lv2 := [(4, .int (x4 + (1 : Int32))), (3, .int (1 : Int32)), (0, .ref (Λ a0)), (1, .int x1), (2, .int x2)]) C 4 dX8_isLike_38 rfl rfl (by decide) rfl ?_
      refine g_goto (pc := 41) (tgt := 5) C dX8_isLike_41 (by decide) ?_
      refine g_sub [2, 3, 4, 1, 0] rfl ?_
      exact ih (1 : Int32) (x4 + (1 : Int32))  hf
    refine g_iconst (pc := 36) (v := (0 : Int32)) C dX8_isLike_36 (by decide) ?_
    refine g_istore_n (pc := 37) (lv2 := [(3, .int (0 : Int32)), (0, .ref (Λ a0)), (1, .int x1), (2, .int x2), (4, .int x4)]) C dX8_isLike_37 rfl (by decide) rfl ?_
    refine g_iinc (pc := 38) (v := (x4 + (1 : Int32))) (lv2 := [(4, .int (x4 + (1 : Int32))), (3, .int (0 : Int32)), (0, .ref (Λ a0)), (1, .int x1), (2, .int x2)]) C 4 dX8_isLike_38 rfl rfl (by decide) rfl ?_
    refine g_goto (pc := 41) (tgt := 5) C dX8_isLike_41 (by decide) ?_
    refine g_sub [2, 3, 4, 1, 0] rfl ?_
    exact ih (0 : Int32) (x4 + (1 : Int32))  hf

theorem w_X8_isLike {p : Program} {l : Launch} {e : Env} {s : State} {m : MethodId} {args : Array Value} {below : List Frame} {meth : Method} {c : Code} {D : va_G} {cy : Nat → ClassId} {Λ : Nat → Nat} (C : Cx p s m args meth c cX8_isLike 5 RX8 (some .boolean) D cy Λ (AA Λ s.heap.size)) {M : Mem} {a0 : Nat} {x1 : Int32} {x2 : Int32} {r9 : Int32} (hk0 : Is NN a0 9) (hf : m_X8_isLike M a0 x1 x2 = some r9) : GW p l e { frames := 6, cells := 0, slots := 0, locals := 143 } s m args below meth c D cy Λ 5 (QcI D cy Λ NN r9 M) M 0 [(0, .ref (Λ a0)), (1, .int x1), (2, .int x2)] [] := by
  unfold m_X8_isLike at hf
  refine g_iconst (pc := 0) (v := (1 : Int32)) C dX8_isLike_0 (by decide) ?_
  refine g_istore_n (pc := 1) (lv2 := [(3, .int (1 : Int32)), (0, .ref (Λ a0)), (1, .int x1), (2, .int x2)]) C dX8_isLike_1 rfl (by decide) rfl ?_
  refine g_iconst (pc := 2) (v := (0 : Int32)) C dX8_isLike_2 (by decide) ?_
  refine g_istore (pc := 3) (lv2 := [(4, .int (0 : Int32)), (3, .int (1 : Int32)), (0, .ref (Λ a0)), (1, .int x1), (2, .int x2)]) C dX8_isLike_3 (by decide) rfl ?_
  refine g_sub [2, 3, 4, 1, 0] rfl ?_
  exact w_X8_isLike_L5 C hk0 FU (1 : Int32) (0 : Int32)  hf

theorem c_X8_isLike {l : Launch} {D : va_G} {cy : Nat → ClassId} {Λ : Nat → Nat} (hi : ∀ i j : Nat, Λ i = Λ j → i = j) {M : Mem} {a0 : Nat} {x1 : Int32} {x2 : Int32} {r9 : Int32} (hk0 : Is NN a0 9) (hf : m_X8_isLike M a0 x1 x2 = some r9) : Ct l yX8_isLike cX8_isLike 5 (some .boolean) { frames := 6, cells := 0, slots := 0, locals := 143 } D cy Λ [.ref (Λ a0), .int x1, .int x2] NN M 0 0 (QcI D cy Λ NN r9 M) := ent (by decide) hi (Nat.le_of_ble_eq_true rfl) (fun p e s m args below meth c C => w_X8_isLike C hk0 hf)
theorem w_X8_recordOf_L2 {p : Program} {l : Launch} {e : Env} {s : State} {m : MethodId} {args : Array Value} {below : List Frame} {meth : Method} {c : Code} {D : va_G} {cy : Nat → ClassId} {Λ : Nat → Nat} (C : Cx p s m args meth c cX8_recordOf 3 RX8 (some .int) D cy Λ (AA Λ s.heap.size)) {M : Mem} {a0 : Nat} {x1 : Int32}  {r9 : Int32} (hk0 : Is NN a0 9)  : ∀ (fu : Nat) (x2 : Int32), m_X8_recordOf_L2 M a0 x1 fu x2 = some r9 → GW p l e { frames := 7, cells := 0, slots := 0, locals := 167 } s m args below meth c D cy Λ 3 (QcI D cy Λ NN r9 M) M 2 [(0, .ref (Λ a0)), (1, .int x1), (2, .int x2)] [] := by
  intro fu
  induction fu with
  | zero =>
    intro x2  hf
    cases hf
  | succ fu ih =>
    intro x2  hf
    unfold m_X8_recordOf_L2 at hf
    refine g_aload_n (pc := 2) C 0 dX8_recordOf_2 rfl rfl ?_
    refine g_iload_n (pc := 3) C 2 dX8_recordOf_3 rfl rfl ?_
    refine g_iload_n (pc := 4) C 1 dX8_recordOf_4 rfl rfl ?_
    obtain ⟨r11, h11, hf⟩ := ob hf
    refine g_resI (pc := 5) C (rnV (As := [.int x2, .int x1]) (st := []) C (c_X8_isLike C.2.2.2.2.2.1 hk0 h11) lkX8_159 rfl (by decide) hk0 rfl rfl (Nat.le_of_ble_eq_true rfl) ⟨⟨rfl, rfl⟩, Nat.le_of_ble_eq_true rfl, Nat.le_of_ble_eq_true rfl⟩ ⟨Nat.le_of_ble_eq_true rfl, Nat.le_of_ble_eq_true rfl⟩ dX8_recordOf_5) ?_
    refine g_if_ne (pc := 8) (tgt := 17) C hf dX8_recordOf_8 (by decide) (fun hf => ?_) (fun hf => ?_)
    · refine g_iinc (pc := 11) (v := (x2 + (1 : Int32))) (lv2 := [(2, .int (x2 + (1 : Int32))), (0, .ref (Λ a0)), (1, .int x1)]) C 2 dX8_recordOf_11 rfl rfl (by decide) rfl ?_
      refine g_goto (pc := 14) (tgt := 2) C dX8_recordOf_14 (by decide) ?_
      refine g_sub [1, 2, 0] rfl ?_
      exact ih (x2 + (1 : Int32))  hf
    refine g_iload_n (pc := 17) C 2 dX8_recordOf_17 rfl rfl ?_
    exact g_iret C hf dX8_recordOf_18

theorem w_X8_recordOf {p : Program} {l : Launch} {e : Env} {s : State} {m : MethodId} {args : Array Value} {below : List Frame} {meth : Method} {c : Code} {D : va_G} {cy : Nat → ClassId} {Λ : Nat → Nat} (C : Cx p s m args meth c cX8_recordOf 3 RX8 (some .int) D cy Λ (AA Λ s.heap.size)) {M : Mem} {a0 : Nat} {x1 : Int32} {r9 : Int32} (hk0 : Is NN a0 9) (hf : m_X8_recordOf M a0 x1 = some r9) : GW p l e { frames := 7, cells := 0, slots := 0, locals := 167 } s m args below meth c D cy Λ 3 (QcI D cy Λ NN r9 M) M 0 [(0, .ref (Λ a0)), (1, .int x1)] [] := by
  unfold m_X8_recordOf at hf
  refine g_iconst (pc := 0) (v := (0 : Int32)) C dX8_recordOf_0 (by decide) ?_
  refine g_istore_n (pc := 1) (lv2 := [(2, .int (0 : Int32)), (0, .ref (Λ a0)), (1, .int x1)]) C dX8_recordOf_1 rfl (by decide) rfl ?_
  refine g_sub [1, 2, 0] rfl ?_
  exact w_X8_recordOf_L2 C hk0 FU (0 : Int32)  hf

theorem c_X8_recordOf {l : Launch} {D : va_G} {cy : Nat → ClassId} {Λ : Nat → Nat} (hi : ∀ i j : Nat, Λ i = Λ j → i = j) {M : Mem} {a0 : Nat} {x1 : Int32} {r9 : Int32} (hk0 : Is NN a0 9) (hf : m_X8_recordOf M a0 x1 = some r9) : Ct l yX8_recordOf cX8_recordOf 3 (some .int) { frames := 7, cells := 0, slots := 0, locals := 167 } D cy Λ [.ref (Λ a0), .int x1] NN M 0 0 (QcI D cy Λ NN r9 M) := ent (by decide) hi (Nat.le_of_ble_eq_true rfl) (fun p e s m args below meth c C => w_X8_recordOf C hk0 hf)
theorem w_X8_node {p : Program} {l : Launch} {e : Env} {s : State} {m : MethodId} {args : Array Value} {below : List Frame} {meth : Method} {c : Code} {D : va_G} {cy : Nat → ClassId} {Λ : Nat → Nat} (C : Cx p s m args meth c cX8_node 3 RX8 (some .int) D cy Λ (AA Λ s.heap.size)) {M : Mem} {a0 : Nat} {x1 : Int32} {x2 : Int32} {r9 : Int32} {M9 : Mem} (hk0 : Is NN a0 9) (hf : m_X8_node M a0 x1 x2 = some (r9, M9)) : GW p l e { frames := 8, cells := 0, slots := 0, locals := 189 } s m args below meth c D cy Λ 3 (QcI D cy Λ NN r9 M9) M 0 [(0, .ref (Λ a0)), (1, .int x1), (2, .int x2)] [] := by
  unfold m_X8_node at hf
  refine g_aload_n (pc := 0) C 0 dX8_node_0 rfl rfl ?_
  refine g_iconst (pc := 1) (v := (0 : Int32)) C dX8_node_1 (by decide) ?_
  refine g_pI (pc := 2) C hf fpX8_56 (by decide) hk0 stX8_0 (Nat.le_of_ble_eq_true rfl) rfl rfl dX8_node_2 (fun M11 hf => ?_)
  refine g_aload_n (pc := 5) C 0 dX8_node_5 rfl rfl ?_
  refine g_iload_n (pc := 6) C 1 dX8_node_6 rfl rfl ?_
  obtain ⟨r12, h12, hf⟩ := ob hf
  refine g_resI (pc := 7) C (rnV (As := [.int x1]) (st := []) C (c_X8_isNode C.2.2.2.2.2.1 hk0 h12) lkX8_162 rfl (by decide) hk0 rfl rfl (Nat.le_of_ble_eq_true rfl) ⟨⟨rfl, rfl⟩, Nat.le_of_ble_eq_true rfl, Nat.le_of_ble_eq_true rfl⟩ ⟨Nat.le_of_ble_eq_true rfl, Nat.le_of_ble_eq_true rfl⟩ dX8_node_7) ?_
  refine g_if_eq (pc := 10) (tgt := 22) C hf dX8_node_10 (by decide) (fun hf => ?_) (fun hf => ?_)
  · refine g_bipush (pc := 22) (v := (-2 : Int32)) C dX8_node_22 (by decide) ?_
    exact g_iretM C hf dX8_node_24
  refine g_iload_n (pc := 13) C 2 dX8_node_13 rfl rfl ?_
  refine g_iconst (pc := 14) (v := (0 : Int32)) C dX8_node_14 (by decide) ?_
  refine g_iconst (pc := 15) (v := (5 : Int32)) C dX8_node_15 (by decide) ?_
  obtain ⟨r13, h13, hf⟩ := ob hf
  refine g_resI (pc := 16) C (rnS (As := [.int x2, .int (0 : Int32), .int (5 : Int32)]) (st := []) C (c_X8_in C.2.2.2.2.2.1  h13) lkX8_60 rfl rfl (Nat.le_of_ble_eq_true rfl) ⟨⟨rfl, rfl⟩, Nat.le_of_ble_eq_true rfl, Nat.le_of_ble_eq_true rfl⟩ ⟨Nat.le_of_ble_eq_true rfl, Nat.le_of_ble_eq_true rfl⟩ dX8_node_16) ?_
  refine g_if_ne (pc := 19) (tgt := 25) C hf dX8_node_19 (by decide) (fun hf => ?_) (fun hf => ?_)
  · refine g_bipush (pc := 22) (v := (-2 : Int32)) C dX8_node_22 (by decide) ?_
    exact g_iretM C hf dX8_node_24
  refine g_iload_n (pc := 25) C 2 dX8_node_25 rfl rfl ?_
  refine g_iconst (pc := 26) (v := (3 : Int32)) C dX8_node_26 (by decide) ?_
  refine g_ic_ge (pc := 27) (tgt := 71) C hf dX8_node_27 (by decide) (fun hf => ?_) (fun hf => ?_)
  · refine g_aload_n (pc := 71) C 0 dX8_node_71 rfl rfl ?_
    obtain ⟨M14, h14, hf⟩ := ob hf
    refine g_resV (pc := 72) C (rnV (As := []) (st := []) C (c_X8_fills C.2.2.2.2.2.1 hk0 h14) lkX8_165 rfl (by decide) hk0 rfl rfl (Nat.le_of_ble_eq_true rfl) ⟨⟨rfl, rfl⟩, Nat.le_of_ble_eq_true rfl, Nat.le_of_ble_eq_true rfl⟩ ⟨Nat.le_of_ble_eq_true rfl, Nat.le_of_ble_eq_true rfl⟩ dX8_node_72) ?_
    refine g_iload_n (pc := 75) C 2 dX8_node_75 rfl rfl ?_
    refine g_iconst (pc := 76) (v := (3 : Int32)) C dX8_node_76 (by decide) ?_
    refine g_ic_ne (pc := 77) (tgt := 88) C hf dX8_node_77 (by decide) (fun hf => ?_) (fun hf => ?_)
    · refine g_aload_n (pc := 80) C 0 dX8_node_80 rfl rfl ?_
      refine g_iload_n (pc := 81) C 1 dX8_node_81 rfl rfl ?_
      obtain ⟨r15, h15, hf⟩ := ob hf
      refine g_resI (pc := 82) C (rnV (As := [.int x1]) (st := []) C (c_X8_rulesOf C.2.2.2.2.2.1 hk0 h15) lkX8_143 rfl (by decide) hk0 rfl rfl (Nat.le_of_ble_eq_true rfl) ⟨⟨rfl, rfl⟩, Nat.le_of_ble_eq_true rfl, Nat.le_of_ble_eq_true rfl⟩ ⟨Nat.le_of_ble_eq_true rfl, Nat.le_of_ble_eq_true rfl⟩ dX8_node_82) ?_
      refine g_goto (pc := 85) (tgt := 106) C dX8_node_85 (by decide) ?_
      exact g_iretM C hf dX8_node_106
    refine g_iload_n (pc := 88) C 2 dX8_node_88 rfl rfl ?_
    refine g_iconst (pc := 89) (v := (4 : Int32)) C dX8_node_89 (by decide) ?_
    refine g_ic_ne (pc := 90) (tgt := 101) C hf dX8_node_90 (by decide) (fun hf => ?_) (fun hf => ?_)
    · refine g_aload_n (pc := 93) C 0 dX8_node_93 rfl rfl ?_
      refine g_iload_n (pc := 94) C 1 dX8_node_94 rfl rfl ?_
      obtain ⟨r16, h16, hf⟩ := ob hf
      refine g_resI (pc := 95) C (rnV (As := [.int x1]) (st := []) C (c_X8_recordOf C.2.2.2.2.2.1 hk0 h16) lkX8_168 rfl (by decide) hk0 rfl rfl (Nat.le_of_ble_eq_true rfl) ⟨⟨rfl, rfl⟩, Nat.le_of_ble_eq_true rfl, Nat.le_of_ble_eq_true rfl⟩ ⟨Nat.le_of_ble_eq_true rfl, Nat.le_of_ble_eq_true rfl⟩ dX8_node_95) ?_
      refine g_goto (pc := 98) (tgt := 106) C dX8_node_98 (by decide) ?_
      exact g_iretM C hf dX8_node_106
    refine g_aload_n (pc := 101) C 0 dX8_node_101 rfl rfl ?_
    refine g_iload_n (pc := 102) C 1 dX8_node_102 rfl rfl ?_
    obtain ⟨r17, h17, hf⟩ := ob hf
    refine g_resI (pc := 103) C (rnV (As := [.int x1]) (st := []) C (c_X8_below C.2.2.2.2.2.1 hk0 h17) lkX8_171 rfl (by decide) hk0 rfl rfl (Nat.le_of_ble_eq_true rfl) ⟨⟨rfl, rfl⟩, Nat.le_of_ble_eq_true rfl, Nat.le_of_ble_eq_true rfl⟩ ⟨Nat.le_of_ble_eq_true rfl, Nat.le_of_ble_eq_true rfl⟩ dX8_node_103) ?_
    exact g_iretM C hf dX8_node_106
  refine g_iload_n (pc := 30) C 2 dX8_node_30 rfl rfl ?_
  refine g_if_ne (pc := 31) (tgt := 45) C hf dX8_node_31 (by decide) (fun hf => ?_) (fun hf => ?_)
  · refine g_aload_n (pc := 34) C 0 dX8_node_34 rfl rfl ?_
    refine g_getR (pc := 35) (T := 9) C hf fgX8_13 (by decide) hk0 rfl dX8_node_35 (fun a18 hk18 hf => ?_)
    refine g_iconst (pc := 38) (v := (3 : Int32)) C dX8_node_38 (by decide) ?_
    refine g_iload_n (pc := 39) C 1 dX8_node_39 rfl rfl ?_
    refine g_iadd (pc := 40) C dX8_node_40 ?_
    refine g_iald (pc := 41) C hf hk18 dX8_node_41 (fun v19 hf => ?_)
    refine g_goto (pc := 42) (tgt := 70) C dX8_node_42 (by decide) ?_
    exact g_iretM C hf dX8_node_70
  refine g_iload_n (pc := 45) C 2 dX8_node_45 rfl rfl ?_
  refine g_iconst (pc := 46) (v := (1 : Int32)) C dX8_node_46 (by decide) ?_
  refine g_ic_ne (pc := 47) (tgt := 61) C hf dX8_node_47 (by decide) (fun hf => ?_) (fun hf => ?_)
  · refine g_aload_n (pc := 50) C 0 dX8_node_50 rfl rfl ?_
    refine g_getR (pc := 51) (T := 9) C hf fgX8_22 (by decide) hk0 rfl dX8_node_51 (fun a20 hk20 hf => ?_)
    refine g_iconst (pc := 54) (v := (0 : Int32)) C dX8_node_54 (by decide) ?_
    refine g_iload_n (pc := 55) C 1 dX8_node_55 rfl rfl ?_
    refine g_iadd (pc := 56) C dX8_node_56 ?_
    refine g_iald (pc := 57) C hf hk20 dX8_node_57 (fun v21 hf => ?_)
    refine g_goto (pc := 58) (tgt := 70) C dX8_node_58 (by decide) ?_
    exact g_iretM C hf dX8_node_70
  refine g_aload_n (pc := 61) C 0 dX8_node_61 rfl rfl ?_
  refine g_getR (pc := 62) (T := 9) C hf fgX8_22 (by decide) hk0 rfl dX8_node_62 (fun a22 hk22 hf => ?_)
  refine g_bipush (pc := 65) (v := (9 : Int32)) C dX8_node_65 (by decide) ?_
  refine g_iload_n (pc := 67) C 1 dX8_node_67 rfl rfl ?_
  refine g_iadd (pc := 68) C dX8_node_68 ?_
  refine g_iald (pc := 69) C hf hk22 dX8_node_69 (fun v23 hf => ?_)
  exact g_iretM C hf dX8_node_70

theorem c_X8_node {l : Launch} {D : va_G} {cy : Nat → ClassId} {Λ : Nat → Nat} (hi : ∀ i j : Nat, Λ i = Λ j → i = j) {M : Mem} {a0 : Nat} {x1 : Int32} {x2 : Int32} {r9 : Int32} {M9 : Mem} (hk0 : Is NN a0 9) (hf : m_X8_node M a0 x1 x2 = some (r9, M9)) : Ct l yX8_node cX8_node 3 (some .int) { frames := 8, cells := 0, slots := 0, locals := 189 } D cy Λ [.ref (Λ a0), .int x1, .int x2] NN M 0 0 (QcI D cy Λ NN r9 M9) := ent (by decide) hi (Nat.le_of_ble_eq_true rfl) (fun p e s m args below meth c C => w_X8_node C hk0 hf)
theorem w_X8_rule {p : Program} {l : Launch} {e : Env} {s : State} {m : MethodId} {args : Array Value} {below : List Frame} {meth : Method} {c : Code} {D : va_G} {cy : Nat → ClassId} {Λ : Nat → Nat} (C : Cx p s m args meth c cX8_rule 3 RX8 (some .int) D cy Λ (AA Λ s.heap.size)) {M : Mem} {a0 : Nat} {x1 : Int32} {x2 : Int32} {r9 : Int32} {M9 : Mem} (hk0 : Is NN a0 9) (hf : m_X8_rule M a0 x1 x2 = some (r9, M9)) : GW p l e { frames := 3, cells := 0, slots := 0, locals := 72 } s m args below meth c D cy Λ 3 (QcI D cy Λ NN r9 M9) M 0 [(0, .ref (Λ a0)), (1, .int x1), (2, .int x2)] [] := by
  unfold m_X8_rule at hf
  refine g_aload_n (pc := 0) C 0 dX8_rule_0 rfl rfl ?_
  refine g_iconst (pc := 1) (v := (0 : Int32)) C dX8_rule_1 (by decide) ?_
  refine g_pI (pc := 2) C hf fpX8_56 (by decide) hk0 stX8_0 (Nat.le_of_ble_eq_true rfl) rfl rfl dX8_rule_2 (fun M11 hf => ?_)
  refine g_aload_n (pc := 5) C 0 dX8_rule_5 rfl rfl ?_
  refine g_iload_n (pc := 6) C 1 dX8_rule_6 rfl rfl ?_
  obtain ⟨r12, h12, hf⟩ := ob hf
  refine g_resI (pc := 7) C (rnV (As := [.int x1]) (st := []) C (c_X8_isRule C.2.2.2.2.2.1 hk0 h12) lkX8_174 rfl (by decide) hk0 rfl rfl (Nat.le_of_ble_eq_true rfl) ⟨⟨rfl, rfl⟩, Nat.le_of_ble_eq_true rfl, Nat.le_of_ble_eq_true rfl⟩ ⟨Nat.le_of_ble_eq_true rfl, Nat.le_of_ble_eq_true rfl⟩ dX8_rule_7) ?_
  refine g_if_eq (pc := 10) (tgt := 23) C hf dX8_rule_10 (by decide) (fun hf => ?_) (fun hf => ?_)
  · refine g_bipush (pc := 23) (v := (-2 : Int32)) C dX8_rule_23 (by decide) ?_
    exact g_iretM C hf dX8_rule_25
  refine g_iload_n (pc := 13) C 2 dX8_rule_13 rfl rfl ?_
  refine g_iconst (pc := 14) (v := (0 : Int32)) C dX8_rule_14 (by decide) ?_
  refine g_bipush (pc := 15) (v := (6 : Int32)) C dX8_rule_15 (by decide) ?_
  obtain ⟨r13, h13, hf⟩ := ob hf
  refine g_resI (pc := 17) C (rnS (As := [.int x2, .int (0 : Int32), .int (6 : Int32)]) (st := []) C (c_X8_in C.2.2.2.2.2.1  h13) lkX8_60 rfl rfl (Nat.le_of_ble_eq_true rfl) ⟨⟨rfl, rfl⟩, Nat.le_of_ble_eq_true rfl, Nat.le_of_ble_eq_true rfl⟩ ⟨Nat.le_of_ble_eq_true rfl, Nat.le_of_ble_eq_true rfl⟩ dX8_rule_17) ?_
  refine g_if_ne (pc := 20) (tgt := 26) C hf dX8_rule_20 (by decide) (fun hf => ?_) (fun hf => ?_)
  · refine g_bipush (pc := 23) (v := (-2 : Int32)) C dX8_rule_23 (by decide) ?_
    exact g_iretM C hf dX8_rule_25
  refine g_iload_n (pc := 26) C 2 dX8_rule_26 rfl rfl ?_
  refine g_iconst (pc := 27) (v := (3 : Int32)) C dX8_rule_27 (by decide) ?_
  refine g_ic_ge (pc := 28) (tgt := 71) C hf dX8_rule_28 (by decide) (fun hf => ?_) (fun hf => ?_)
  · refine g_iload_n (pc := 71) C 2 dX8_rule_71 rfl rfl ?_
    refine g_iconst (pc := 72) (v := (5 : Int32)) C dX8_rule_72 (by decide) ?_
    refine g_ic_ge (pc := 73) (tgt := 103) C hf dX8_rule_73 (by decide) (fun hf => ?_) (fun hf => ?_)
    · refine g_aload_n (pc := 103) C 0 dX8_rule_103 rfl rfl ?_
      obtain ⟨M14, h14, hf⟩ := ob hf
      refine g_resV (pc := 104) C (rnV (As := []) (st := []) C (c_X8_fills C.2.2.2.2.2.1 hk0 h14) lkX8_165 rfl (by decide) hk0 rfl rfl (Nat.le_of_ble_eq_true rfl) ⟨⟨rfl, rfl⟩, Nat.le_of_ble_eq_true rfl, Nat.le_of_ble_eq_true rfl⟩ ⟨Nat.le_of_ble_eq_true rfl, Nat.le_of_ble_eq_true rfl⟩ dX8_rule_104) ?_
      refine g_iload_n (pc := 107) C 2 dX8_rule_107 rfl rfl ?_
      refine g_iconst (pc := 108) (v := (5 : Int32)) C dX8_rule_108 (by decide) ?_
      refine g_ic_ne (pc := 109) (tgt := 126) C hf dX8_rule_109 (by decide) (fun hf => ?_) (fun hf => ?_)
      · refine g_aload_n (pc := 112) C 0 dX8_rule_112 rfl rfl ?_
        refine g_getR (pc := 113) (T := 9) C hf fgX8_22 (by decide) hk0 rfl dX8_rule_113 (fun a15 hk15 hf => ?_)
        refine g_bipush (pc := 116) (v := (18 : Int32)) C dX8_rule_116 (by decide) ?_
        refine g_iald (pc := 118) C hf hk15 dX8_rule_118 (fun v16 hf => ?_)
        refine g_iload_n (pc := 119) C 1 dX8_rule_119 rfl rfl ?_
        refine g_ishr (pc := 120) C dX8_rule_120 ?_
        refine g_iconst (pc := 121) (v := (1 : Int32)) C dX8_rule_121 (by decide) ?_
        refine g_iand (pc := 122) C dX8_rule_122 ?_
        refine g_goto (pc := 123) (tgt := 132) C dX8_rule_123 (by decide) ?_
        exact g_iretM C hf dX8_rule_132
      refine g_aload_n (pc := 126) C 0 dX8_rule_126 rfl rfl ?_
      refine g_getR (pc := 127) (T := 9) C hf fgX8_47 (by decide) hk0 rfl dX8_rule_127 (fun a17 hk17 hf => ?_)
      refine g_iload_n (pc := 130) C 1 dX8_rule_130 rfl rfl ?_
      refine g_iald (pc := 131) C hf hk17 dX8_rule_131 (fun v18 hf => ?_)
      exact g_iretM C hf dX8_rule_132
    refine g_iload_n (pc := 76) C 2 dX8_rule_76 rfl rfl ?_
    refine g_iconst (pc := 77) (v := (3 : Int32)) C dX8_rule_77 (by decide) ?_
    refine g_ic_ne (pc := 78) (tgt := 93) C hf dX8_rule_78 (by decide) (fun hf => ?_) (fun hf => ?_)
    · refine g_aload_n (pc := 81) C 0 dX8_rule_81 rfl rfl ?_
      refine g_getR (pc := 82) (T := 9) C hf fgX8_13 (by decide) hk0 rfl dX8_rule_82 (fun a19 hk19 hf => ?_)
      refine g_bipush (pc := 85) (v := (92 : Int32)) C dX8_rule_85 (by decide) ?_
      refine g_iload_n (pc := 87) C 1 dX8_rule_87 rfl rfl ?_
      refine g_iadd (pc := 88) C dX8_rule_88 ?_
      refine g_iald (pc := 89) C hf hk19 dX8_rule_89 (fun v20 hf => ?_)
      refine g_goto (pc := 90) (tgt := 102) C dX8_rule_90 (by decide) ?_
      exact g_iretM C hf dX8_rule_102
    refine g_aload_n (pc := 93) C 0 dX8_rule_93 rfl rfl ?_
    refine g_getR (pc := 94) (T := 9) C hf fgX8_13 (by decide) hk0 rfl dX8_rule_94 (fun a21 hk21 hf => ?_)
    refine g_bipush (pc := 97) (v := (100 : Int32)) C dX8_rule_97 (by decide) ?_
    refine g_iload_n (pc := 99) C 1 dX8_rule_99 rfl rfl ?_
    refine g_iadd (pc := 100) C dX8_rule_100 ?_
    refine g_iald (pc := 101) C hf hk21 dX8_rule_101 (fun v22 hf => ?_)
    exact g_iretM C hf dX8_rule_102
  refine g_iload_n (pc := 31) C 2 dX8_rule_31 rfl rfl ?_
  refine g_if_ne (pc := 32) (tgt := 48) C hf dX8_rule_32 (by decide) (fun hf => ?_) (fun hf => ?_)
  · refine g_aload_n (pc := 35) C 0 dX8_rule_35 rfl rfl ?_
    refine g_getR (pc := 36) (T := 9) C hf fgX8_13 (by decide) hk0 rfl dX8_rule_36 (fun a23 hk23 hf => ?_)
    refine g_iconst (pc := 39) (v := (2 : Int32)) C dX8_rule_39 (by decide) ?_
    refine g_iald (pc := 40) C hf hk23 dX8_rule_40 (fun v24 hf => ?_)
    refine g_iload_n (pc := 41) C 1 dX8_rule_41 rfl rfl ?_
    refine g_ishr (pc := 42) C dX8_rule_42 ?_
    refine g_iconst (pc := 43) (v := (1 : Int32)) C dX8_rule_43 (by decide) ?_
    refine g_iand (pc := 44) C dX8_rule_44 ?_
    refine g_goto (pc := 45) (tgt := 70) C dX8_rule_45 (by decide) ?_
    exact g_iretM C hf dX8_rule_70
  refine g_iload_n (pc := 48) C 2 dX8_rule_48 rfl rfl ?_
  refine g_iconst (pc := 49) (v := (1 : Int32)) C dX8_rule_49 (by decide) ?_
  refine g_ic_ne (pc := 50) (tgt := 65) C hf dX8_rule_50 (by decide) (fun hf => ?_) (fun hf => ?_)
  · refine g_aload_n (pc := 53) C 0 dX8_rule_53 rfl rfl ?_
    refine g_getR (pc := 54) (T := 9) C hf fgX8_13 (by decide) hk0 rfl dX8_rule_54 (fun a25 hk25 hf => ?_)
    refine g_bipush (pc := 57) (v := (12 : Int32)) C dX8_rule_57 (by decide) ?_
    refine g_iload_n (pc := 59) C 1 dX8_rule_59 rfl rfl ?_
    refine g_iadd (pc := 60) C dX8_rule_60 ?_
    refine g_iald (pc := 61) C hf hk25 dX8_rule_61 (fun v26 hf => ?_)
    refine g_goto (pc := 62) (tgt := 70) C dX8_rule_62 (by decide) ?_
    exact g_iretM C hf dX8_rule_70
  refine g_aload_n (pc := 65) C 0 dX8_rule_65 rfl rfl ?_
  refine g_iload_n (pc := 66) C 1 dX8_rule_66 rfl rfl ?_
  obtain ⟨r27, h27, hf⟩ := ob hf
  refine g_resI (pc := 67) C (rnV (As := [.int x1]) (st := []) C (c_X8_specific C.2.2.2.2.2.1 hk0 h27) lkX8_140 rfl (by decide) hk0 rfl rfl (Nat.le_of_ble_eq_true rfl) ⟨⟨rfl, rfl⟩, Nat.le_of_ble_eq_true rfl, Nat.le_of_ble_eq_true rfl⟩ ⟨Nat.le_of_ble_eq_true rfl, Nat.le_of_ble_eq_true rfl⟩ dX8_rule_67) ?_
  exact g_iretM C hf dX8_rule_70

theorem c_X8_rule {l : Launch} {D : va_G} {cy : Nat → ClassId} {Λ : Nat → Nat} (hi : ∀ i j : Nat, Λ i = Λ j → i = j) {M : Mem} {a0 : Nat} {x1 : Int32} {x2 : Int32} {r9 : Int32} {M9 : Mem} (hk0 : Is NN a0 9) (hf : m_X8_rule M a0 x1 x2 = some (r9, M9)) : Ct l yX8_rule cX8_rule 3 (some .int) { frames := 3, cells := 0, slots := 0, locals := 72 } D cy Λ [.ref (Λ a0), .int x1, .int x2] NN M 0 0 (QcI D cy Λ NN r9 M9) := ent (by decide) hi (Nat.le_of_ble_eq_true rfl) (fun p e s m args below meth c C => w_X8_rule C hk0 hf)