theorem nwX7_17 : NW RX7 17 2 6 tyX2 := ⟨RX2, TX2, rfl, hinX2, tyX2_ok, tw_81, tw_82, tw_62⟩
theorem nwX2_28 : NW RX2 28 4 6 tyX4 := ⟨RX4, TX4, rfl, hinX4, tyX4_ok, tw_87, tw_88, tw_63⟩
theorem nwX4_25 : NW RX4 25 1 3 tyX1 := ⟨RX1, TX1, rfl, hinX1, tyX1_ok, tw_93, tw_94, tw_64⟩
theorem nwX4_32 : NW RX4 32 3 10 tyX3 := ⟨RX3, TX3, rfl, hinX3, tyX3_ok, tw_117, tw_119, tw_65⟩
theorem nwX7_24 : NW RX7 24 4 6 tyX4 := ⟨RX4, TX4, rfl, hinX4, tyX4_ok, tw_218, tw_88, tw_63⟩
theorem nwX7_31 : NW RX7 31 1 3 tyX1 := ⟨RX1, TX1, rfl, hinX1, tyX1_ok, tw_220, tw_94, tw_64⟩
theorem nwX7_41 : NW RX7 41 6 5 tyX6 := ⟨RX6, TX6, rfl, hinX6, tyX6_ok, tw_222, tw_223, tw_66⟩
theorem nwX7_51 : NW RX7 51 0 2 tyX0 := ⟨RX0, TX0, rfl, hinX0, tyX0_ok, tw_244, tw_245, tw_67⟩
theorem nwX7_58 : NW RX7 58 5 4 tyX5 := ⟨RX5, TX5, rfl, hinX5, tyX5_ok, tw_258, tw_259, tw_68⟩
theorem linX4_27 : LkIN RX4 27 yX1_init cX1_init 1 0 := ⟨⟨_, tn_95⟩, ⟨tw_96, tw_64, tw_97⟩, rfl, by decide +kernel⟩
theorem linX4_38 : LkIN RX4 38 yX3_init cX3_init 1 0 := ⟨⟨_, tn_120⟩, ⟨tw_121, tw_65, tw_122⟩, rfl, by decide +kernel⟩
theorem liX2_30 : LkI RX2 30 yX4_init cX4_init 2 0 := ⟨⟨tw_89, tw_90, tw_63, tw_91⟩, rfl, by decide +kernel⟩
theorem linX7_19 : LkIN RX7 19 yX2_init cX2_init 1 0 := ⟨⟨_, tn_83⟩, ⟨tw_84, tw_62, tw_85⟩, rfl, by decide +kernel⟩
theorem liX7_26 : LkI RX7 26 yX4_init cX4_init 2 0 := ⟨⟨tw_219, tw_90, tw_63, tw_91⟩, rfl, by decide +kernel⟩
theorem linX7_33 : LkIN RX7 33 yX1_init cX1_init 1 0 := ⟨⟨_, tn_221⟩, ⟨tw_96, tw_64, tw_97⟩, rfl, by decide +kernel⟩
theorem linX7_43 : LkIN RX7 43 yX6_init cX6_init 1 0 := ⟨⟨_, tn_224⟩, ⟨tw_225, tw_66, tw_226⟩, rfl, by decide +kernel⟩
theorem linX7_53 : LkIN RX7 53 yX0_init cX0_init 1 0 := ⟨⟨_, tn_246⟩, ⟨tw_247, tw_67, tw_248⟩, rfl, by decide +kernel⟩
theorem linX7_60 : LkIN RX7 60 yX5_init cX5_init 1 0 := ⟨⟨_, tn_260⟩, ⟨tw_261, tw_68, tw_262⟩, rfl, by decide +kernel⟩
def m_X1_init (M : Mem) (a0 : Nat) : Option Mem :=
  (nwa 10 9 M (a0 + 1)).bind fun M11 =>
  (pR M11 a0 0 (a0 + 1)).bind fun M12 =>
  (nwa 10 9 M12 (a0 + 2)).bind fun M13 =>
  (pR M13 a0 1 (a0 + 2)).bind fun M14 =>
  (pI M14 a0 2 (0 : Int32)).bind fun M15 =>
  some M15

theorem w_X1_init {p : Program} {l : Launch} {e : Env} {s : State} {m : MethodId} {args : Array Value} {below : List Frame} {meth : Method} {c : Code} {D : va_G} {cy : Nat → ClassId} {Λ : Nat → Nat} (C : Cx p s m args meth c cX1_init 1 RX1 none D cy Λ (AA Λ s.heap.size)) {a0 : Nat} {M M9 : Mem} (hL : ∀ k : Nat, Λ (k + 1) = Λ k + 1) (hs : s.heap.size = Λ (a0 + 1)) (hin : meth.name = "<init>") (hk0 : kd a0 = 2) (hf : m_X1_init M a0 = some M9) : GG p l e { frames := 1, cells := 2, slots := 18, locals := 20 } s m args below meth c D cy Λ (AA Λ s.heap.size) 1 0 0 (MQ below (QcV D cy Λ (a0 + 1 + 2) M9 s.heap.size) args s 2 18 (AA Λ s.heap.size)) (a0 + 1) M 0 [(0, .ref (Λ a0))] [] := by
  unfold m_X1_init at hf
  refine g_aload_n (pc := 0) C 0 dX1_init_0 rfl rfl ?_
  refine g_obj (pc := 1) C tw_98 tw_79 tw_80 ⟨Nat.le_of_ble_eq_true rfl, Nat.le_of_ble_eq_true rfl⟩ dX1_init_1 ?_
  refine g_aload_n (pc := 4) C 0 dX1_init_4 rfl rfl ?_
  refine g_bipush (pc := 5) (v := (9 : Int32)) C dX1_init_5 (by decide) ?_
  refine g_newa (pc := 7) (n := (a0 + 1)) (ai := 0) (ty := .int) C hf hL hs rfl rfl tw_116 (fun U cA h => h) rfl rfl (fun M2 h => cell_a0 h) ⟨by decide, by decide⟩ (by decide) ⟨Nat.le_of_ble_eq_true rfl, Nat.le_of_ble_eq_true rfl⟩ dX1_init_7 (fun M11 hk11 hf => ?_)
  refine g_pFR (pc := 9) (n := (a0 + 2)) C hf hin fpX1_9 (by decide) ⟨by omega, hk0⟩ stX1_0 (Nat.le_of_ble_eq_true rfl) rfl rfl dX1_init_9 (fun M12 hf => ?_)
  refine g_aload_n (pc := 12) C 0 dX1_init_12 rfl rfl ?_
  refine g_bipush (pc := 13) (v := (9 : Int32)) C dX1_init_13 (by decide) ?_
  refine g_newa (pc := 15) (n := (a0 + 2)) (ai := 0) (ty := .int) C hf hL hs rfl rfl tw_116 (fun U cA h => h) rfl rfl (fun M2 h => cell_a0 h) ⟨by decide, by decide⟩ (by decide) ⟨Nat.le_of_ble_eq_true rfl, Nat.le_of_ble_eq_true rfl⟩ dX1_init_15 (fun M13 hk13 hf => ?_)
  refine g_pFR (pc := 17) (n := (a0 + 3)) C hf hin fpX1_15 (by decide) ⟨by omega, hk0⟩ stX1_1 (Nat.le_of_ble_eq_true rfl) rfl rfl dX1_init_17 (fun M14 hf => ?_)
  refine g_aload_n (pc := 20) C 0 dX1_init_20 rfl rfl ?_
  refine g_iconst (pc := 21) (v := (0 : Int32)) C dX1_init_21 (by decide) ?_
  refine g_pI (pc := 22) (n := (a0 + 3)) C hf fpX1_18 (by decide) ⟨by omega, hk0⟩ stX1_2 (Nat.le_of_ble_eq_true rfl) rfl rfl dX1_init_22 (fun M15 hf => ?_)
  exact g_vret C hf dX1_init_25

theorem c_X1_init {l : Launch} {D : va_G} {cy : Nat → ClassId} {Λ : Nat → Nat} (hi : ∀ i j : Nat, Λ i = Λ j → i = j) (hL : ∀ k : Nat, Λ (k + 1) = Λ k + 1) {a0 : Nat} {M M9 : Mem} (hk0 : kd a0 = 2) (hf : m_X1_init M a0 = some M9) : CtC l yX1_init cX1_init 1 none { frames := 1, cells := 2, slots := 18, locals := 20 } D cy Λ [.ref (Λ a0)] (a0 + 1) M 2 18 (QcV D cy Λ (a0 + 1 + 2) M9) := entC (by decide) hi (Nat.le_of_ble_eq_true rfl) (fun p e s m args below meth c hs hin C => w_X1_init C hL hs hin hk0 hf)
def m_X3_init (M : Mem) (a0 : Nat) : Option Mem :=
  (nwa 10 3 M (a0 + 1)).bind fun M11 =>
  (pR M11 a0 5 (a0 + 1)).bind fun M12 =>
  (nwa 10 3 M12 (a0 + 2)).bind fun M13 =>
  (pR M13 a0 6 (a0 + 2)).bind fun M14 =>
  (nwa 12 3 M14 (a0 + 3)).bind fun M15 =>
  (pR M15 a0 7 (a0 + 3)).bind fun M16 =>
  (nwa 10 4 M16 (a0 + 4)).bind fun M17 =>
  (pR M17 a0 8 (a0 + 4)).bind fun M18 =>
  (nwa 10 4 M18 (a0 + 5)).bind fun M19 =>
  (pR M19 a0 9 (a0 + 5)).bind fun M20 =>
  some M20

theorem w_X3_init {p : Program} {l : Launch} {e : Env} {s : State} {m : MethodId} {args : Array Value} {below : List Frame} {meth : Method} {c : Code} {D : va_G} {cy : Nat → ClassId} {Λ : Nat → Nat} (C : Cx p s m args meth c cX3_init 1 RX3 none D cy Λ (AA Λ s.heap.size)) {a0 : Nat} {M M9 : Mem} (hL : ∀ k : Nat, Λ (k + 1) = Λ k + 1) (hs : s.heap.size = Λ (a0 + 1)) (hin : meth.name = "<init>") (hk0 : kd a0 = 4) (hf : m_X3_init M a0 = some M9) : GG p l e { frames := 1, cells := 5, slots := 17, locals := 20 } s m args below meth c D cy Λ (AA Λ s.heap.size) 1 0 0 (MQ below (QcV D cy Λ (a0 + 1 + 5) M9 s.heap.size) args s 5 17 (AA Λ s.heap.size)) (a0 + 1) M 0 [(0, .ref (Λ a0))] [] := by
  unfold m_X3_init at hf
  refine g_aload_n (pc := 0) C 0 dX3_init_0 rfl rfl ?_
  refine g_obj (pc := 1) C tw_123 tw_79 tw_80 ⟨Nat.le_of_ble_eq_true rfl, Nat.le_of_ble_eq_true rfl⟩ dX3_init_1 ?_
  refine g_aload_n (pc := 4) C 0 dX3_init_4 rfl rfl ?_
  refine g_iconst (pc := 5) (v := (3 : Int32)) C dX3_init_5 (by decide) ?_
  refine g_newa (pc := 6) (n := (a0 + 1)) (ai := 0) (ty := .int) C hf hL hs rfl rfl tw_116 (fun U cA h => h) rfl rfl (fun M2 h => cell_a0 h) ⟨by decide, by decide⟩ (by decide) ⟨Nat.le_of_ble_eq_true rfl, Nat.le_of_ble_eq_true rfl⟩ dX3_init_6 (fun M11 hk11 hf => ?_)
  refine g_pFR (pc := 8) (n := (a0 + 2)) C hf hin fpX3_9 (by decide) ⟨by omega, hk0⟩ stX3_5 (Nat.le_of_ble_eq_true rfl) rfl rfl dX3_init_8 (fun M12 hf => ?_)
  refine g_aload_n (pc := 11) C 0 dX3_init_11 rfl rfl ?_
  refine g_iconst (pc := 12) (v := (3 : Int32)) C dX3_init_12 (by decide) ?_
  refine g_newa (pc := 13) (n := (a0 + 2)) (ai := 0) (ty := .int) C hf hL hs rfl rfl tw_116 (fun U cA h => h) rfl rfl (fun M2 h => cell_a0 h) ⟨by decide, by decide⟩ (by decide) ⟨Nat.le_of_ble_eq_true rfl, Nat.le_of_ble_eq_true rfl⟩ dX3_init_13 (fun M13 hk13 hf => ?_)
  refine g_pFR (pc := 15) (n := (a0 + 3)) C hf hin fpX3_15 (by decide) ⟨by omega, hk0⟩ stX3_6 (Nat.le_of_ble_eq_true rfl) rfl rfl dX3_init_15 (fun M14 hf => ?_)
  refine g_aload_n (pc := 18) C 0 dX3_init_18 rfl rfl ?_
  refine g_iconst (pc := 19) (v := (3 : Int32)) C dX3_init_19 (by decide) ?_
  refine g_newa (pc := 20) (n := (a0 + 3)) (ai := 2) (ty := .boolean) C hf hL hs rfl rfl tw_167 (fun U cA h => h) rfl rfl (fun M2 h => cell_a2 h) ⟨by decide, by decide⟩ (by decide) ⟨Nat.le_of_ble_eq_true rfl, Nat.le_of_ble_eq_true rfl⟩ dX3_init_20 (fun M15 hk15 hf => ?_)
  refine g_pFR (pc := 22) (n := (a0 + 4)) C hf hin fpX3_18 (by decide) ⟨by omega, hk0⟩ stX3_7 (Nat.le_of_ble_eq_true rfl) rfl rfl dX3_init_22 (fun M16 hf => ?_)
  refine g_aload_n (pc := 25) C 0 dX3_init_25 rfl rfl ?_
  refine g_iconst (pc := 26) (v := (4 : Int32)) C dX3_init_26 (by decide) ?_
  refine g_newa (pc := 27) (n := (a0 + 4)) (ai := 0) (ty := .int) C hf hL hs rfl rfl tw_116 (fun U cA h => h) rfl rfl (fun M2 h => cell_a0 h) ⟨by decide, by decide⟩ (by decide) ⟨Nat.le_of_ble_eq_true rfl, Nat.le_of_ble_eq_true rfl⟩ dX3_init_27 (fun M17 hk17 hf => ?_)
  refine g_pFR (pc := 29) (n := (a0 + 5)) C hf hin fpX3_22 (by decide) ⟨by omega, hk0⟩ stX3_8 (Nat.le_of_ble_eq_true rfl) rfl rfl dX3_init_29 (fun M18 hf => ?_)
  refine g_aload_n (pc := 32) C 0 dX3_init_32 rfl rfl ?_
  refine g_iconst (pc := 33) (v := (4 : Int32)) C dX3_init_33 (by decide) ?_
  refine g_newa (pc := 34) (n := (a0 + 5)) (ai := 0) (ty := .int) C hf hL hs rfl rfl tw_116 (fun U cA h => h) rfl rfl (fun M2 h => cell_a0 h) ⟨by decide, by decide⟩ (by decide) ⟨Nat.le_of_ble_eq_true rfl, Nat.le_of_ble_eq_true rfl⟩ dX3_init_34 (fun M19 hk19 hf => ?_)
  refine g_pFR (pc := 36) (n := (a0 + 6)) C hf hin fpX3_25 (by decide) ⟨by omega, hk0⟩ stX3_9 (Nat.le_of_ble_eq_true rfl) rfl rfl dX3_init_36 (fun M20 hf => ?_)
  exact g_vret C hf dX3_init_39

theorem c_X3_init {l : Launch} {D : va_G} {cy : Nat → ClassId} {Λ : Nat → Nat} (hi : ∀ i j : Nat, Λ i = Λ j → i = j) (hL : ∀ k : Nat, Λ (k + 1) = Λ k + 1) {a0 : Nat} {M M9 : Mem} (hk0 : kd a0 = 4) (hf : m_X3_init M a0 = some M9) : CtC l yX3_init cX3_init 1 none { frames := 1, cells := 5, slots := 17, locals := 20 } D cy Λ [.ref (Λ a0)] (a0 + 1) M 5 17 (QcV D cy Λ (a0 + 1 + 5) M9) := entC (by decide) hi (Nat.le_of_ble_eq_true rfl) (fun p e s m args below meth c hs hin C => w_X3_init C hL hs hin hk0 hf)
def m_X4_init (M : Mem) (a0 : Nat) : Option Mem :=
  (pI M a0 0 (0 : Int32)).bind fun M11 =>
  (pI M11 a0 1 (0 : Int32)).bind fun M12 =>
  (nwa 10 9 M12 (a0 + 1)).bind fun M13 =>
  (pR M13 a0 2 (a0 + 1)).bind fun M14 =>
  (nwa 10 9 M14 (a0 + 2)).bind fun M15 =>
  (pR M15 a0 3 (a0 + 2)).bind fun M16 =>
  (nw 2 M16 (a0 + 3)).bind fun M17 =>
  (m_X1_init M17 (a0 + 3)).bind fun M18 =>
  (pR M18 a0 4 (a0 + 3)).bind fun M19 =>
  (nwa 14 8 M19 (a0 + 6)).bind fun M20 =>
  (pR M20 a0 5 (a0 + 6)).bind fun M21 =>
  (rfn (a0 + 7) 14 M21 a0 5).bind fun a22 =>
  (nw 4 M21 (a0 + 7)).bind fun M23 =>
  (m_X3_init M23 (a0 + 7)).bind fun M24 =>
  (wr M24 a22 (0 : Int32) (a0 + 7)).bind fun M25 =>
  (rfn (a0 + 13) 14 M25 a0 5).bind fun a26 =>
  (nw 4 M25 (a0 + 13)).bind fun M27 =>
  (m_X3_init M27 (a0 + 13)).bind fun M28 =>
  (wr M28 a26 (1 : Int32) (a0 + 13)).bind fun M29 =>
  (rfn (a0 + 19) 14 M29 a0 5).bind fun a30 =>
  (nw 4 M29 (a0 + 19)).bind fun M31 =>
  (m_X3_init M31 (a0 + 19)).bind fun M32 =>
  (wr M32 a30 (2 : Int32) (a0 + 19)).bind fun M33 =>
  (rfn (a0 + 25) 14 M33 a0 5).bind fun a34 =>
  (nw 4 M33 (a0 + 25)).bind fun M35 =>
  (m_X3_init M35 (a0 + 25)).bind fun M36 =>
  (wr M36 a34 (3 : Int32) (a0 + 25)).bind fun M37 =>
  (rfn (a0 + 31) 14 M37 a0 5).bind fun a38 =>
  (nw 4 M37 (a0 + 31)).bind fun M39 =>
  (m_X3_init M39 (a0 + 31)).bind fun M40 =>
  (wr M40 a38 (4 : Int32) (a0 + 31)).bind fun M41 =>
  (rfn (a0 + 37) 14 M41 a0 5).bind fun a42 =>
  (nw 4 M41 (a0 + 37)).bind fun M43 =>
  (m_X3_init M43 (a0 + 37)).bind fun M44 =>
  (wr M44 a42 (5 : Int32) (a0 + 37)).bind fun M45 =>
  (rfn (a0 + 43) 14 M45 a0 5).bind fun a46 =>
  (nw 4 M45 (a0 + 43)).bind fun M47 =>
  (m_X3_init M47 (a0 + 43)).bind fun M48 =>
  (wr M48 a46 (6 : Int32) (a0 + 43)).bind fun M49 =>
  (rfn (a0 + 49) 14 M49 a0 5).bind fun a50 =>
  (nw 4 M49 (a0 + 49)).bind fun M51 =>
  (m_X3_init M51 (a0 + 49)).bind fun M52 =>
  (wr M52 a50 (7 : Int32) (a0 + 49)).bind fun M53 =>
  some M53

theorem w_X4_init {p : Program} {l : Launch} {e : Env} {s : State} {m : MethodId} {args : Array Value} {below : List Frame} {meth : Method} {c : Code} {D : va_G} {cy : Nat → ClassId} {Λ : Nat → Nat} (C : Cx p s m args meth c cX4_init 2 RX4 none D cy Λ (AA Λ s.heap.size)) {a0 : Nat} {M M9 : Mem} (hL : ∀ k : Nat, Λ (k + 1) = Λ k + 1) (hs : s.heap.size = Λ (a0 + 1)) (hin : meth.name = "<init>") (hk0 : kd a0 = 5) (hf : m_X4_init M a0 = some M9) : GG p l e { frames := 2, cells := 54, slots := 263, locals := 40 } s m args below meth c D cy Λ (AA Λ s.heap.size) 2 0 0 (MQ below (QcV D cy Λ (a0 + 1 + 54) M9 s.heap.size) args s 54 263 (AA Λ s.heap.size)) (a0 + 1) M 0 [(0, .ref (Λ a0))] [] := by
  unfold m_X4_init at hf
  refine g_aload_n (pc := 0) C 0 dX4_init_0 rfl rfl ?_
  refine g_obj (pc := 1) C tw_92 tw_79 tw_80 ⟨Nat.le_of_ble_eq_true rfl, Nat.le_of_ble_eq_true rfl⟩ dX4_init_1 ?_
  refine g_aload_n (pc := 4) C 0 dX4_init_4 rfl rfl ?_
  refine g_iconst (pc := 5) (v := (0 : Int32)) C dX4_init_5 (by decide) ?_
  refine g_pI (pc := 6) (n := (a0 + 1)) C hf fpX4_9 (by decide) ⟨by omega, hk0⟩ stX4_0 (Nat.le_of_ble_eq_true rfl) rfl rfl dX4_init_6 (fun M11 hf => ?_)
  refine g_aload_n (pc := 9) C 0 dX4_init_9 rfl rfl ?_
  refine g_iconst (pc := 10) (v := (0 : Int32)) C dX4_init_10 (by decide) ?_
  refine g_pI (pc := 11) (n := (a0 + 1)) C hf fpX4_15 (by decide) ⟨by omega, hk0⟩ stX4_1 (Nat.le_of_ble_eq_true rfl) rfl rfl dX4_init_11 (fun M12 hf => ?_)
  refine g_aload_n (pc := 14) C 0 dX4_init_14 rfl rfl ?_
  refine g_bipush (pc := 15) (v := (9 : Int32)) C dX4_init_15 (by decide) ?_
  refine g_newa (pc := 17) (n := (a0 + 1)) (ai := 0) (ty := .int) C hf hL hs rfl rfl tw_116 (fun U cA h => h) rfl rfl (fun M2 h => cell_a0 h) ⟨by decide, by decide⟩ (by decide) ⟨Nat.le_of_ble_eq_true rfl, Nat.le_of_ble_eq_true rfl⟩ dX4_init_17 (fun M13 hk13 hf => ?_)
  refine g_pFR (pc := 19) (n := (a0 + 2)) C hf hin fpX4_18 (by decide) ⟨by omega, hk0⟩ stX4_2 (Nat.le_of_ble_eq_true rfl) rfl rfl dX4_init_19 (fun M14 hf => ?_)
  refine g_aload_n (pc := 22) C 0 dX4_init_22 rfl rfl ?_
  refine g_bipush (pc := 23) (v := (9 : Int32)) C dX4_init_23 (by decide) ?_
  refine g_newa (pc := 25) (n := (a0 + 2)) (ai := 0) (ty := .int) C hf hL hs rfl rfl tw_116 (fun U cA h => h) rfl rfl (fun M2 h => cell_a0 h) ⟨by decide, by decide⟩ (by decide) ⟨Nat.le_of_ble_eq_true rfl, Nat.le_of_ble_eq_true rfl⟩ dX4_init_25 (fun M15 hk15 hf => ?_)
  refine g_pFR (pc := 27) (n := (a0 + 3)) C hf hin fpX4_22 (by decide) ⟨by omega, hk0⟩ stX4_3 (Nat.le_of_ble_eq_true rfl) rfl rfl dX4_init_27 (fun M16 hf => ?_)
  refine g_aload_n (pc := 30) C 0 dX4_init_30 rfl rfl ?_
  refine g_new (pc := 31) (n := (a0 + 3)) (ci := 1) C hf hL hs rfl nwX4_25 (by decide) dfX1 ⟨Nat.le_of_ble_eq_true rfl, Nat.le_of_ble_eq_true rfl⟩ dX4_init_31 (fun M17 hk17 hf => ?_)
  refine g_dup (pc := 34) C dX4_init_34 rfl ?_
  obtain ⟨M18, h18, hf⟩ := ob hf
  refine g_ctorN (pc := 35) (n := (a0 + 4)) C hL hs rfl (c_X1_init C.2.2.2.2.2.1 hL hk17 h18) linX4_27 (Nat.le_of_ble_eq_true rfl) ⟨⟨rfl, rfl⟩, Nat.le_of_ble_eq_true rfl, Nat.le_of_ble_eq_true rfl⟩ ⟨Nat.le_of_ble_eq_true rfl, Nat.le_of_ble_eq_true rfl⟩ dX4_init_35 ?_
  refine g_pFR (pc := 38) (n := (a0 + 6)) C hf hin fpX4_28 (by decide) ⟨by omega, hk0⟩ stX4_4 (Nat.le_of_ble_eq_true rfl) rfl rfl dX4_init_38 (fun M19 hf => ?_)
  refine g_aload_n (pc := 41) C 0 dX4_init_41 rfl rfl ?_
  refine g_bipush (pc := 42) (v := (8 : Int32)) C dX4_init_42 (by decide) ?_
  refine g_newq (pc := 44) (n := (a0 + 6)) (ai := 4) C hf hL hs rfl tw_117 tn_118 rfl (fun M2 h => cell_a4 h) ⟨by decide, by decide⟩ (by decide) ⟨Nat.le_of_ble_eq_true rfl, Nat.le_of_ble_eq_true rfl⟩ dX4_init_44 (fun M20 hk20 hf => ?_)
  refine g_pFR (pc := 47) (n := (a0 + 7)) C hf hin fpX4_34 (by decide) ⟨by omega, hk0⟩ stX4_5 (Nat.le_of_ble_eq_true rfl) rfl rfl dX4_init_47 (fun M21 hf => ?_)
  refine g_iconst (pc := 50) (v := (0 : Int32)) C dX4_init_50 (by decide) ?_
  refine g_istore_n (pc := 51) (lv2 := [(1, .int (0 : Int32)), (0, .ref (Λ a0))]) C dX4_init_51 rfl (by decide) rfl ?_
  refine g_iload_n (pc := 52) C 0 dX4_init_52 rfl rfl ?_
  refine g_bipush (pc := 53) (v := (8 : Int32)) C dX4_init_53 (by decide) ?_
  refine g_ic_ge (pc := 55) (tgt := 77) (X := none) (Y := some ()) (r := ()) C (by decide) dX4_init_55 (by decide) (fun h9 => by cases h9) (fun h9 => ?_)
  refine g_aload_n (pc := 58) C 1 dX4_init_58 rfl rfl ?_
  refine g_getRn (pc := 59) (n := (a0 + 7)) (T := 14) C hf fgX4_34 (by decide) ⟨by omega, hk0⟩ rfl dX4_init_59 (fun a22 hk22 hf => ?_)
  refine g_iload_n (pc := 62) C 0 dX4_init_62 rfl rfl ?_
  refine g_new (pc := 63) (n := (a0 + 7)) (ci := 3) C hf hL hs rfl nwX4_32 (by decide) dfX3 ⟨Nat.le_of_ble_eq_true rfl, Nat.le_of_ble_eq_true rfl⟩ dX4_init_63 (fun M23 hk23 hf => ?_)
  refine g_dup (pc := 66) C dX4_init_66 rfl ?_
  obtain ⟨M24, h24, hf⟩ := ob hf
  refine g_ctorN (pc := 67) (n := (a0 + 8)) C hL hs rfl (c_X3_init C.2.2.2.2.2.1 hL hk23 h24) linX4_38 (Nat.le_of_ble_eq_true rfl) ⟨⟨rfl, rfl⟩, Nat.le_of_ble_eq_true rfl, Nat.le_of_ble_eq_true rfl⟩ ⟨Nat.le_of_ble_eq_true rfl, Nat.le_of_ble_eq_true rfl⟩ dX4_init_67 ?_
  refine g_aast (pc := 70) (n := (a0 + 13)) (ai := 4) (T := 14) (ci := 3) C hf ⟨Nat.lt_of_lt_of_le hk22.1 (by omega), hk22.2⟩ ⟨by omega, hk23⟩ (by decide) rfl rfl (fun M2 h => cell_a4 h) dX4_init_70 (fun M25 hf => ?_)
  refine g_iinc (pc := 71) (v := (1 : Int32)) (lv2 := [(1, .int (1 : Int32)), (0, .ref (Λ a0))]) C 0 dX4_init_71 rfl (by decide) (by decide) rfl ?_
  refine g_goto (pc := 74) (tgt := 52) C dX4_init_74 (by decide) ?_
  refine g_iload_n (pc := 52) C 0 dX4_init_52 rfl rfl ?_
  refine g_bipush (pc := 53) (v := (8 : Int32)) C dX4_init_53 (by decide) ?_
  refine g_ic_ge (pc := 55) (tgt := 77) (X := none) (Y := some ()) (r := ()) C (by decide) dX4_init_55 (by decide) (fun h9 => by cases h9) (fun h9 => ?_)
  refine g_aload_n (pc := 58) C 1 dX4_init_58 rfl rfl ?_
  refine g_getRn (pc := 59) (n := (a0 + 13)) (T := 14) C hf fgX4_34 (by decide) ⟨by omega, hk0⟩ rfl dX4_init_59 (fun a26 hk26 hf => ?_)
  refine g_iload_n (pc := 62) C 0 dX4_init_62 rfl rfl ?_
  refine g_new (pc := 63) (n := (a0 + 13)) (ci := 3) C hf hL hs rfl nwX4_32 (by decide) dfX3 ⟨Nat.le_of_ble_eq_true rfl, Nat.le_of_ble_eq_true rfl⟩ dX4_init_63 (fun M27 hk27 hf => ?_)
  refine g_dup (pc := 66) C dX4_init_66 rfl ?_
  obtain ⟨M28, h28, hf⟩ := ob hf
  refine g_ctorN (pc := 67) (n := (a0 + 14)) C hL hs rfl (c_X3_init C.2.2.2.2.2.1 hL hk27 h28) linX4_38 (Nat.le_of_ble_eq_true rfl) ⟨⟨rfl, rfl⟩, Nat.le_of_ble_eq_true rfl, Nat.le_of_ble_eq_true rfl⟩ ⟨Nat.le_of_ble_eq_true rfl, Nat.le_of_ble_eq_true rfl⟩ dX4_init_67 ?_
  refine g_aast (pc := 70) (n := (a0 + 19)) (ai := 4) (T := 14) (ci := 3) C hf ⟨Nat.lt_of_lt_of_le hk26.1 (by omega), hk26.2⟩ ⟨by omega, hk27⟩ (by decide) rfl rfl (fun M2 h => cell_a4 h) dX4_init_70 (fun M29 hf => ?_)
  refine g_iinc (pc := 71) (v := (2 : Int32)) (lv2 := [(1, .int (2 : Int32)), (0, .ref (Λ a0))]) C 0 dX4_init_71 rfl (by decide) (by decide) rfl ?_
  refine g_goto (pc := 74) (tgt := 52) C dX4_init_74 (by decide) ?_
  refine g_iload_n (pc := 52) C 0 dX4_init_52 rfl rfl ?_
  refine g_bipush (pc := 53) (v := (8 : Int32)) C dX4_init_53 (by decide) ?_
  refine g_ic_ge (pc := 55) (tgt := 77) (X := none) (Y := some ()) (r := ()) C (by decide) dX4_init_55 (by decide) (fun h9 => by cases h9) (fun h9 => ?_)
  refine g_aload_n (pc := 58) C 1 dX4_init_58 rfl rfl ?_
  refine g_getRn (pc := 59) (n := (a0 + 19)) (T := 14) C hf fgX4_34 (by decide) ⟨by omega, hk0⟩ rfl dX4_init_59 (fun a30 hk30 hf => ?_)
  refine g_iload_n (pc := 62) C 0 dX4_init_62 rfl rfl ?_
  refine g_new (pc := 63) (n := (a0 + 19)) (ci := 3) C hf hL hs rfl nwX4_32 (by decide) dfX3 ⟨Nat.le_of_ble_eq_true rfl, Nat.le_of_ble_eq_true rfl⟩ dX4_init_63 (fun M31 hk31 hf => ?_)
  refine g_dup (pc := 66) C dX4_init_66 rfl ?_
  obtain ⟨M32, h32, hf⟩ := ob hf
  refine g_ctorN (pc := 67) (n := (a0 + 20)) C hL hs rfl (c_X3_init C.2.2.2.2.2.1 hL hk31 h32) linX4_38 (Nat.le_of_ble_eq_true rfl) ⟨⟨rfl, rfl⟩, Nat.le_of_ble_eq_true rfl, Nat.le_of_ble_eq_true rfl⟩ ⟨Nat.le_of_ble_eq_true rfl, Nat.le_of_ble_eq_true rfl⟩ dX4_init_67 ?_
  refine g_aast (pc := 70) (n := (a0 + 25)) (ai := 4) (T := 14) (ci := 3) C hf ⟨Nat.lt_of_lt_of_le hk30.1 (by omega), hk30.2⟩ ⟨by omega, hk31⟩ (by decide) rfl rfl (fun M2 h => cell_a4 h) dX4_init_70 (fun M33 hf => ?_)
  refine g_iinc (pc := 71) (v := (3 : Int32)) (lv2 := [(1, .int (3 : Int32)), (0, .ref (Λ a0))]) C 0 dX4_init_71 rfl (by decide) (by decide) rfl ?_
  refine g_goto (pc := 74) (tgt := 52) C dX4_init_74 (by decide) ?_
  refine g_iload_n (pc := 52) C 0 dX4_init_52 rfl rfl ?_
  refine g_bipush (pc := 53) (v := (8 : Int32)) C dX4_init_53 (by decide) ?_
  refine g_ic_ge (pc := 55) (tgt := 77) (X := none) (Y := some ()) (r := ()) C (by decide) dX4_init_55 (by decide) (fun h9 => by cases h9) (fun h9 => ?_)
  refine g_aload_n (pc := 58) C 1 dX4_init_58 rfl rfl ?_
  refine g_getRn (pc := 59) (n := (a0 + 25)) (T := 14) C hf fgX4_34 (by decide) ⟨by omega, hk0⟩ rfl dX4_init_59 (fun a34 hk34 hf => ?_)
  refine g_iload_n (pc := 62) C 0 dX4_init_62 rfl rfl ?_
  refine g_new (pc := 63) (n := (a0 + 25)) (ci := 3) C hf hL hs rfl nwX4_32 (by decide) dfX3 ⟨Nat.le_of_ble_eq_true rfl, Nat.le_of_ble_eq_true rfl⟩ dX4_init_63 (fun M35 hk35 hf => ?_)
  refine g_dup (pc := 66) C dX4_init_66 rfl ?_
  obtain ⟨M36, h36, hf⟩ := ob hf
  refine g_ctorN (pc := 67) (n := (a0 + 26)) C hL hs rfl (c_X3_init C.2.2.2.2.2.1 hL hk35 h36) linX4_38 (Nat.le_of_ble_eq_true rfl) ⟨⟨rfl, rfl⟩, Nat.le_of_ble_eq_true rfl, Nat.le_of_ble_eq_true rfl⟩ ⟨Nat.le_of_ble_eq_true rfl, Nat.le_of_ble_eq_true rfl⟩ dX4_init_67 ?_
  refine g_aast (pc := 70) (n := (a0 + 31)) (ai := 4) (T := 14) (ci := 3) C hf ⟨Nat.lt_of_lt_of_le hk34.1 (by omega), hk34.2⟩ ⟨by omega, hk35⟩ (by decide) rfl rfl (fun M2 h => cell_a4 h) dX4_init_70 (fun M37 hf => ?_)
  refine g_iinc (pc := 71) (v := (4 : Int32)) (lv2 := [(1, .int (4 : Int32)), (0, .ref (Λ a0))]) C 0 dX4_init_71 rfl (by decide) (by decide) rfl ?_
  refine g_goto (pc := 74) (tgt := 52) C dX4_init_74 (by decide) ?_
  refine g_iload_n (pc := 52) C 0 dX4_init_52 rfl rfl ?_
  refine g_bipush (pc := 53) (v := (8 : Int32)) C dX4_init_53 (by decide) ?_
  refine g_ic_ge (pc := 55) (tgt := 77) (X := none) (Y := some ()) (r := ()) C (by decide) dX4_init_55 (by decide) (fun h9 => by cases h9) (fun h9 => ?_)
  refine g_aload_n (pc := 58) C 1 dX4_init_58 rfl rfl ?_
  refine g_getRn (pc := 59) (n := (a0 + 31)) (T := 14) C hf fgX4_34 (by decide) ⟨by omega, hk0⟩ rfl dX4_init_59 (fun a38 hk38 hf => ?_)
  refine g_iload_n (pc := 62) C 0 dX4_init_62 rfl rfl ?_
  refine g_new (pc := 63) (n := (a0 + 31)) (ci := 3) C hf hL hs rfl nwX4_32 (by decide) dfX3 ⟨Nat.le_of_ble_eq_true rfl, Nat.le_of_ble_eq_true rfl⟩ dX4_init_63 (fun M39 hk39 hf => ?_)
  refine g_dup (pc := 66) C dX4_init_66 rfl ?_
  obtain ⟨M40, h40, hf⟩ := ob hf
  refine g_ctorN (pc := 67) (n := (a0 + 32)) C hL hs rfl (c_X3_init C.2.2.2.2.2.1 hL hk39 h40) linX4_38 (Nat.le_of_ble_eq_true rfl) ⟨⟨rfl, rfl⟩, Nat.le_of_ble_eq_true rfl, Nat.le_of_ble_eq_true rfl⟩ ⟨Nat.le_of_ble_eq_true rfl, Nat.le_of_ble_eq_true rfl⟩ dX4_init_67 ?_
  refine g_aast (pc := 70) (n := (a0 + 37)) (ai := 4) (T := 14) (ci := 3) C hf ⟨Nat.lt_of_lt_of_le hk38.1 (by omega), hk38.2⟩ ⟨by omega, hk39⟩ (by decide) rfl rfl (fun M2 h => cell_a4 h) dX4_init_70 (fun M41 hf => ?_)
  refine g_iinc (pc := 71) (v := (5 : Int32)) (lv2 := [(1, .int (5 : Int32)), (0, .ref (Λ a0))]) C 0 dX4_init_71 rfl (by decide) (by decide) rfl ?_
  refine g_goto (pc := 74) (tgt := 52) C dX4_init_74 (by decide) ?_
  refine g_iload_n (pc := 52) C 0 dX4_init_52 rfl rfl ?_
  refine g_bipush (pc := 53) (v := (8 : Int32)) C dX4_init_53 (by decide) ?_
  refine g_ic_ge (pc := 55) (tgt := 77) (X := none) (Y := some ()) (r := ()) C (by decide) dX4_init_55 (by decide) (fun h9 => by cases h9) (fun h9 => ?_)
  refine g_aload_n (pc := 58) C 1 dX4_init_58 rfl rfl ?_
  refine g_getRn (pc := 59) (n := (a0 + 37)) (T := 14) C hf fgX4_34 (by decide) ⟨by omega, hk0⟩ rfl dX4_init_59 (fun a42 hk42 hf => ?_)
  refine g_iload_n (pc := 62) C 0 dX4_init_62 rfl rfl ?_
  refine g_new (pc := 63) (n := (a0 + 37)) (ci := 3) C hf hL hs rfl nwX4_32 (by decide) dfX3 ⟨Nat.le_of_ble_eq_true rfl, Nat.le_of_ble_eq_true rfl⟩ dX4_init_63 (fun M43 hk43 hf => ?_)
  refine g_dup (pc := 66) C dX4_init_66 rfl ?_
  obtain ⟨M44, h44, hf⟩ := ob hf
  refine g_ctorN (pc := 67) (n := (a0 + 38)) C hL hs rfl (c_X3_init C.2.2.2.2.2.1 hL hk43 h44) linX4_38 (Nat.le_of_ble_eq_true rfl) ⟨⟨rfl, rfl⟩, Nat.le_of_ble_eq_true rfl, Nat.le_of_ble_eq_true rfl⟩ ⟨Nat.le_of_ble_eq_true rfl, Nat.le_of_ble_eq_true rfl⟩ dX4_init_67 ?_
  refine g_aast (pc := 70) (n := (a0 + 43)) (ai := 4) (T := 14) (ci := 3) C hf ⟨Nat.lt_of_lt_of_le hk42.1 (by omega), hk42.2⟩ ⟨by omega, hk43⟩ (by decide) rfl rfl (fun M2 h => cell_a4 h) dX4_init_70 (fun M45 hf => ?_)
  refine g_iinc (pc := 71) (v := (6 : Int32)) (lv2 := [(1, .int (6 : Int32)), (0, .ref (Λ a0))]) C 0 dX4_init_71 rfl (by decide) (by decide) rfl ?_
  refine g_goto (pc := 74) (tgt := 52) C dX4_init_74 (by decide) ?_
  refine g_iload_n (pc := 52) C 0 dX4_init_52 rfl rfl ?_
  refine g_bipush (pc := 53) (v := (8 : Int32)) C dX4_init_53 (by decide) ?_
  refine g_ic_ge (pc := 55) (tgt := 77) (X := none) (Y := some ()) (r := ()) C (by decide) dX4_init_55 (by decide) (fun h9 => by cases h9) (fun h9 => ?_)
  refine g_aload_n (pc := 58) C 1 dX4_init_58 rfl rfl ?_
  refine g_getRn (pc := 59) (n := (a0 + 43)) (T := 14) C hf fgX4_34 (by decide) ⟨by omega, hk0⟩ rfl dX4_init_59 (fun a46 hk46 hf => ?_)
  refine g_iload_n (pc := 62) C 0 dX4_init_62 rfl rfl ?_
  refine g_new (pc := 63) (n := (a0 + 43)) (ci := 3) C hf hL hs rfl nwX4_32 (by decide) dfX3 ⟨Nat.le_of_ble_eq_true rfl, Nat.le_of_ble_eq_true rfl⟩ dX4_init_63 (fun M47 hk47 hf => ?_)
  refine g_dup (pc := 66) C dX4_init_66 rfl ?_
  obtain ⟨M48, h48, hf⟩ := ob hf
  refine g_ctorN (pc := 67) (n := (a0 + 44)) C hL hs rfl (c_X3_init C.2.2.2.2.2.1 hL hk47 h48) linX4_38 (Nat.le_of_ble_eq_true rfl) ⟨⟨rfl, rfl⟩, Nat.le_of_ble_eq_true rfl, Nat.le_of_ble_eq_true rfl⟩ ⟨Nat.le_of_ble_eq_true rfl, Nat.le_of_ble_eq_true rfl⟩ dX4_init_67 ?_
  refine g_aast (pc := 70) (n := (a0 + 49)) (ai := 4) (T := 14) (ci := 3) C hf ⟨Nat.lt_of_lt_of_le hk46.1 (by omega), hk46.2⟩ ⟨by omega, hk47⟩ (by decide) rfl rfl (fun M2 h => cell_a4 h) dX4_init_70 (fun M49 hf => ?_)
  refine g_iinc (pc := 71) (v := (7 : Int32)) (lv2 := [(1, .int (7 : Int32)), (0, .ref (Λ a0))]) C 0 dX4_init_71 rfl (by decide) (by decide) rfl ?_
  refine g_goto (pc := 74) (tgt := 52) C dX4_init_74 (by decide) ?_
  refine g_iload_n (pc := 52) C 0 dX4_init_52 rfl rfl ?_
  refine g_bipush (pc := 53) (v := (8 : Int32)) C dX4_init_53 (by decide) ?_
  refine g_ic_ge (pc := 55) (tgt := 77) (X := none) (Y := some ()) (r := ()) C (by decide) dX4_init_55 (by decide) (fun h9 => by cases h9) (fun h9 => ?_)
  refine g_aload_n (pc := 58) C 1 dX4_init_58 rfl rfl ?_
  refine g_getRn (pc := 59) (n := (a0 + 49)) (T := 14) C hf fgX4_34 (by decide) ⟨by omega, hk0⟩ rfl dX4_init_59 (fun a50 hk50 hf => ?_)
  refine g_iload_n (pc := 62) C 0 dX4_init_62 rfl rfl ?_
  refine g_new (pc := 63) (n := (a0 + 49)) (ci := 3) C hf hL hs rfl nwX4_32 (by decide) dfX3 ⟨Nat.le_of_ble_eq_true rfl, Nat.le_of_ble_eq_true rfl⟩ dX4_init_63 (fun M51 hk51 hf => ?_)
  refine g_dup (pc := 66) C dX4_init_66 rfl ?_
  obtain ⟨M52, h52, hf⟩ := ob hf
  refine g_ctorN (pc := 67) (n := (a0 + 50)) C hL hs rfl (c_X3_init C.2.2.2.2.2.1 hL hk51 h52) linX4_38 (Nat.le_of_ble_eq_true rfl) ⟨⟨rfl, rfl⟩, Nat.le_of_ble_eq_true rfl, Nat.le_of_ble_eq_true rfl⟩ ⟨Nat.le_of_ble_eq_true rfl, Nat.le_of_ble_eq_true rfl⟩ dX4_init_67 ?_
  refine g_aast (pc := 70) (n := (a0 + 55)) (ai := 4) (T := 14) (ci := 3) C hf ⟨Nat.lt_of_lt_of_le hk50.1 (by omega), hk50.2⟩ ⟨by omega, hk51⟩ (by decide) rfl rfl (fun M2 h => cell_a4 h) dX4_init_70 (fun M53 hf => ?_)
  refine g_iinc (pc := 71) (v := (8 : Int32)) (lv2 := [(1, .int (8 : Int32)), (0, .ref (Λ a0))]) C 0 dX4_init_71 rfl (by decide) (by decide) rfl ?_
  refine g_goto (pc := 74) (tgt := 52) C dX4_init_74 (by decide) ?_
  refine g_iload_n (pc := 52) C 0 dX4_init_52 rfl rfl ?_
  refine g_bipush (pc := 53) (v := (8 : Int32)) C dX4_init_53 (by decide) ?_
  refine g_ic_ge (pc := 55) (tgt := 77) (X := some ()) (Y := none) (r := ()) C (by decide) dX4_init_55 (by decide) (fun h9 => ?_) (fun h9 => by cases h9)
  exact g_vret C hf dX4_init_77

theorem c_X4_init {l : Launch} {D : va_G} {cy : Nat → ClassId} {Λ : Nat → Nat} (hi : ∀ i j : Nat, Λ i = Λ j → i = j) (hL : ∀ k : Nat, Λ (k + 1) = Λ k + 1) {a0 : Nat} {M M9 : Mem} (hk0 : kd a0 = 5) (hf : m_X4_init M a0 = some M9) : CtC l yX4_init cX4_init 2 none { frames := 2, cells := 54, slots := 263, locals := 40 } D cy Λ [.ref (Λ a0)] (a0 + 1) M 54 263 (QcV D cy Λ (a0 + 1 + 54) M9) := entC (by decide) hi (Nat.le_of_ble_eq_true rfl) (fun p e s m args below meth c hs hin C => w_X4_init C hL hs hin hk0 hf)
def m_X2_init (M : Mem) (a0 : Nat) : Option Mem :=
  (nwa 11 0 M (a0 + 1)).bind fun M11 =>
  (pR M11 a0 0 (a0 + 1)).bind fun M12 =>
  (pI M12 a0 1 (0 : Int32)).bind fun M13 =>
  (pI M13 a0 2 (0 : Int32)).bind fun M14 =>
  (pI M14 a0 3 (0 : Int32)).bind fun M15 =>
  (pI M15 a0 4 (-1 : Int32)).bind fun M16 =>
  (nw 5 M16 (a0 + 2)).bind fun M17 =>
  (m_X4_init M17 (a0 + 2)).bind fun M18 =>
  (pR M18 a0 5 (a0 + 2)).bind fun M19 =>
  some M19

theorem w_X2_init {p : Program} {l : Launch} {e : Env} {s : State} {m : MethodId} {args : Array Value} {below : List Frame} {meth : Method} {c : Code} {D : va_G} {cy : Nat → ClassId} {Λ : Nat → Nat} (C : Cx p s m args meth c cX2_init 1 RX2 none D cy Λ (AA Λ s.heap.size)) {a0 : Nat} {M M9 : Mem} (hL : ∀ k : Nat, Λ (k + 1) = Λ k + 1) (hs : s.heap.size = Λ (a0 + 1)) (hin : meth.name = "<init>") (hk0 : kd a0 = 3) (hf : m_X2_init M a0 = some M9) : GG p l e { frames := 3, cells := 56, slots := 269, locals := 61 } s m args below meth c D cy Λ (AA Λ s.heap.size) 1 0 0 (MQ below (QcV D cy Λ (a0 + 1 + 56) M9 s.heap.size) args s 56 269 (AA Λ s.heap.size)) (a0 + 1) M 0 [(0, .ref (Λ a0))] [] := by
  unfold m_X2_init at hf
  refine g_aload_n (pc := 0) C 0 dX2_init_0 rfl rfl ?_
  refine g_obj (pc := 1) C tw_86 tw_79 tw_80 ⟨Nat.le_of_ble_eq_true rfl, Nat.le_of_ble_eq_true rfl⟩ dX2_init_1 ?_
  refine g_aload_n (pc := 4) C 0 dX2_init_4 rfl rfl ?_
  refine g_iconst (pc := 5) (v := (0 : Int32)) C dX2_init_5 (by decide) ?_
  refine g_newa (pc := 6) (n := (a0 + 1)) (ai := 1) (ty := .char) C hf hL hs rfl rfl tw_115 (fun U cA h => h) rfl rfl (fun M2 h => cell_a1 h) ⟨by decide, by decide⟩ (by decide) ⟨Nat.le_of_ble_eq_true rfl, Nat.le_of_ble_eq_true rfl⟩ dX2_init_6 (fun M11 hk11 hf => ?_)
  refine g_pR (pc := 8) (n := (a0 + 2)) C hf fpX2_9 (by decide) ⟨by omega, hk0⟩ stX2_0 (Nat.le_of_ble_eq_true rfl) rfl rfl dX2_init_8 (fun M12 hf => ?_)
  refine g_aload_n (pc := 11) C 0 dX2_init_11 rfl rfl ?_
  refine g_iconst (pc := 12) (v := (0 : Int32)) C dX2_init_12 (by decide) ?_
  refine g_pI (pc := 13) (n := (a0 + 2)) C hf fpX2_15 (by decide) ⟨by omega, hk0⟩ stX2_1 (Nat.le_of_ble_eq_true rfl) rfl rfl dX2_init_13 (fun M13 hf => ?_)
  refine g_aload_n (pc := 16) C 0 dX2_init_16 rfl rfl ?_
  refine g_iconst (pc := 17) (v := (0 : Int32)) C dX2_init_17 (by decide) ?_
  refine g_pI (pc := 18) (n := (a0 + 2)) C hf fpX2_19 (by decide) ⟨by omega, hk0⟩ stX2_2 (Nat.le_of_ble_eq_true rfl) rfl rfl dX2_init_18 (fun M14 hf => ?_)
  refine g_aload_n (pc := 21) C 0 dX2_init_21 rfl rfl ?_
  refine g_iconst (pc := 22) (v := (0 : Int32)) C dX2_init_22 (by decide) ?_
  refine g_pI (pc := 23) (n := (a0 + 2)) C hf fpX2_22 (by decide) ⟨by omega, hk0⟩ stX2_3 (Nat.le_of_ble_eq_true rfl) rfl rfl dX2_init_23 (fun M15 hf => ?_)
  refine g_aload_n (pc := 26) C 0 dX2_init_26 rfl rfl ?_
  refine g_iconst (pc := 27) (v := (-1 : Int32)) C dX2_init_27 (by decide) ?_
  refine g_pI (pc := 28) (n := (a0 + 2)) C hf fpX2_25 (by decide) ⟨by omega, hk0⟩ stX2_4 (Nat.le_of_ble_eq_true rfl) rfl rfl dX2_init_28 (fun M16 hf => ?_)
  refine g_aload_n (pc := 31) C 0 dX2_init_31 rfl rfl ?_
  refine g_new (pc := 32) (n := (a0 + 2)) (ci := 4) C hf hL hs rfl nwX2_28 (by decide) dfX4 ⟨Nat.le_of_ble_eq_true rfl, Nat.le_of_ble_eq_true rfl⟩ dX2_init_32 (fun M17 hk17 hf => ?_)
  refine g_dup (pc := 35) C dX2_init_35 rfl ?_
  obtain ⟨M18, h18, hf⟩ := ob hf
  refine g_ctor (pc := 36) (n := (a0 + 3)) C hL hs rfl (c_X4_init C.2.2.2.2.2.1 hL hk17 h18) liX2_30 (Nat.le_of_ble_eq_true rfl) ⟨⟨rfl, rfl⟩, Nat.le_of_ble_eq_true rfl, Nat.le_of_ble_eq_true rfl⟩ ⟨Nat.le_of_ble_eq_true rfl, Nat.le_of_ble_eq_true rfl⟩ dX2_init_36 ?_
  refine g_pR (pc := 39) (n := (a0 + 57)) C hf fpX2_31 (by decide) ⟨by omega, hk0⟩ stX2_5 (Nat.le_of_ble_eq_true rfl) rfl rfl dX2_init_39 (fun M19 hf => ?_)
  exact g_vret C hf dX2_init_42

theorem c_X2_init {l : Launch} {D : va_G} {cy : Nat → ClassId} {Λ : Nat → Nat} (hi : ∀ i j : Nat, Λ i = Λ j → i = j) (hL : ∀ k : Nat, Λ (k + 1) = Λ k + 1) {a0 : Nat} {M M9 : Mem} (hk0 : kd a0 = 3) (hf : m_X2_init M a0 = some M9) : CtC l yX2_init cX2_init 1 none { frames := 3, cells := 56, slots := 269, locals := 61 } D cy Λ [.ref (Λ a0)] (a0 + 1) M 56 269 (QcV D cy Λ (a0 + 1 + 56) M9) := entC (by decide) hi (Nat.le_of_ble_eq_true rfl) (fun p e s m args below meth c hs hin C => w_X2_init C hL hs hin hk0 hf)
def m_X6_init (M : Mem) (a0 : Nat) : Option Mem :=
  (pI M a0 0 (0 : Int32)).bind fun M11 =>
  (nwa 10 8 M11 (a0 + 1)).bind fun M12 =>
  (pR M12 a0 1 (a0 + 1)).bind fun M13 =>
  (nwa 10 9 M13 (a0 + 2)).bind fun M14 =>
  (pR M14 a0 2 (a0 + 2)).bind fun M15 =>
  (nwa 10 36 M15 (a0 + 3)).bind fun M16 =>
  (pR M16 a0 3 (a0 + 3)).bind fun M17 =>
  (nwa 10 36 M17 (a0 + 4)).bind fun M18 =>
  (pR M18 a0 4 (a0 + 4)).bind fun M19 =>
  some M19

theorem w_X6_init {p : Program} {l : Launch} {e : Env} {s : State} {m : MethodId} {args : Array Value} {below : List Frame} {meth : Method} {c : Code} {D : va_G} {cy : Nat → ClassId} {Λ : Nat → Nat} (C : Cx p s m args meth c cX6_init 1 RX6 none D cy Λ (AA Λ s.heap.size)) {a0 : Nat} {M M9 : Mem} (hL : ∀ k : Nat, Λ (k + 1) = Λ k + 1) (hs : s.heap.size = Λ (a0 + 1)) (hin : meth.name = "<init>") (hk0 : kd a0 = 7) (hf : m_X6_init M a0 = some M9) : GG p l e { frames := 1, cells := 4, slots := 89, locals := 20 } s m args below meth c D cy Λ (AA Λ s.heap.size) 1 0 0 (MQ below (QcV D cy Λ (a0 + 1 + 4) M9 s.heap.size) args s 4 89 (AA Λ s.heap.size)) (a0 + 1) M 0 [(0, .ref (Λ a0))] [] := by
  unfold m_X6_init at hf
  refine g_aload_n (pc := 0) C 0 dX6_init_0 rfl rfl ?_
  refine g_obj (pc := 1) C tw_227 tw_79 tw_80 ⟨Nat.le_of_ble_eq_true rfl, Nat.le_of_ble_eq_true rfl⟩ dX6_init_1 ?_
  refine g_aload_n (pc := 4) C 0 dX6_init_4 rfl rfl ?_
  refine g_iconst (pc := 5) (v := (0 : Int32)) C dX6_init_5 (by decide) ?_
  refine g_pI (pc := 6) (n := (a0 + 1)) C hf fpX6_9 (by decide) ⟨by omega, hk0⟩ stX6_0 (Nat.le_of_ble_eq_true rfl) rfl rfl dX6_init_6 (fun M11 hf => ?_)
  refine g_aload_n (pc := 9) C 0 dX6_init_9 rfl rfl ?_
  refine g_bipush (pc := 10) (v := (8 : Int32)) C dX6_init_10 (by decide) ?_
  refine g_newa (pc := 12) (n := (a0 + 1)) (ai := 0) (ty := .int) C hf hL hs rfl rfl tw_116 (fun U cA h => h) rfl rfl (fun M2 h => cell_a0 h) ⟨by decide, by decide⟩ (by decide) ⟨Nat.le_of_ble_eq_true rfl, Nat.le_of_ble_eq_true rfl⟩ dX6_init_12 (fun M12 hk12 hf => ?_)
  refine g_pFR (pc := 14) (n := (a0 + 2)) C hf hin fpX6_15 (by decide) ⟨by omega, hk0⟩ stX6_1 (Nat.le_of_ble_eq_true rfl) rfl rfl dX6_init_14 (fun M13 hf => ?_)
  refine g_aload_n (pc := 17) C 0 dX6_init_17 rfl rfl ?_
  refine g_bipush (pc := 18) (v := (9 : Int32)) C dX6_init_18 (by decide) ?_
  refine g_newa (pc := 20) (n := (a0 + 2)) (ai := 0) (ty := .int) C hf hL hs rfl rfl tw_116 (fun U cA h => h) rfl rfl (fun M2 h => cell_a0 h) ⟨by decide, by decide⟩ (by decide) ⟨Nat.le_of_ble_eq_true rfl, Nat.le_of_ble_eq_true rfl⟩ dX6_init_20 (fun M14 hk14 hf => ?_)
  refine g_pFR (pc := 22) (n := (a0 + 3)) C hf hin fpX6_19 (by decide) ⟨by omega, hk0⟩ stX6_2 (Nat.le_of_ble_eq_true rfl) rfl rfl dX6_init_22 (fun M15 hf => ?_)
  refine g_aload_n (pc := 25) C 0 dX6_init_25 rfl rfl ?_
  refine g_bipush (pc := 26) (v := (36 : Int32)) C dX6_init_26 (by decide) ?_
  refine g_newa (pc := 28) (n := (a0 + 3)) (ai := 0) (ty := .int) C hf hL hs rfl rfl tw_116 (fun U cA h => h) rfl rfl (fun M2 h => cell_a0 h) ⟨by decide, by decide⟩ (by decide) ⟨Nat.le_of_ble_eq_true rfl, Nat.le_of_ble_eq_true rfl⟩ dX6_init_28 (fun M16 hk16 hf => ?_)
  refine g_pFR (pc := 30) (n := (a0 + 4)) C hf hin fpX6_22 (by decide) ⟨by omega, hk0⟩ stX6_3 (Nat.le_of_ble_eq_true rfl) rfl rfl dX6_init_30 (fun M17 hf => ?_)
  refine g_aload_n (pc := 33) C 0 dX6_init_33 rfl rfl ?_
  refine g_bipush (pc := 34) (v := (36 : Int32)) C dX6_init_34 (by decide) ?_
  refine g_newa (pc := 36) (n := (a0 + 4)) (ai := 0) (ty := .int) C hf hL hs rfl rfl tw_116 (fun U cA h => h) rfl rfl (fun M2 h => cell_a0 h) ⟨by decide, by decide⟩ (by decide) ⟨Nat.le_of_ble_eq_true rfl, Nat.le_of_ble_eq_true rfl⟩ dX6_init_36 (fun M18 hk18 hf => ?_)
  refine g_pFR (pc := 38) (n := (a0 + 5)) C hf hin fpX6_25 (by decide) ⟨by omega, hk0⟩ stX6_4 (Nat.le_of_ble_eq_true rfl) rfl rfl dX6_init_38 (fun M19 hf => ?_)
  exact g_vret C hf dX6_init_41

theorem c_X6_init {l : Launch} {D : va_G} {cy : Nat → ClassId} {Λ : Nat → Nat} (hi : ∀ i j : Nat, Λ i = Λ j → i = j) (hL : ∀ k : Nat, Λ (k + 1) = Λ k + 1) {a0 : Nat} {M M9 : Mem} (hk0 : kd a0 = 7) (hf : m_X6_init M a0 = some M9) : CtC l yX6_init cX6_init 1 none { frames := 1, cells := 4, slots := 89, locals := 20 } D cy Λ [.ref (Λ a0)] (a0 + 1) M 4 89 (QcV D cy Λ (a0 + 1 + 4) M9) := entC (by decide) hi (Nat.le_of_ble_eq_true rfl) (fun p e s m args below meth c hs hin C => w_X6_init C hL hs hin hk0 hf)
def m_X0_init (M : Mem) (a0 : Nat) : Option Mem :=
  (nwa 10 10 M (a0 + 1)).bind fun M11 =>
  (pR M11 a0 0 (a0 + 1)).bind fun M12 =>
  (pI M12 a0 1 (0 : Int32)).bind fun M13 =>
  some M13

theorem w_X0_init {p : Program} {l : Launch} {e : Env} {s : State} {m : MethodId} {args : Array Value} {below : List Frame} {meth : Method} {c : Code} {D : va_G} {cy : Nat → ClassId} {Λ : Nat → Nat} (C : Cx p s m args meth c cX0_init 1 RX0 none D cy Λ (AA Λ s.heap.size)) {a0 : Nat} {M M9 : Mem} (hL : ∀ k : Nat, Λ (k + 1) = Λ k + 1) (hs : s.heap.size = Λ (a0 + 1)) (hin : meth.name = "<init>") (hk0 : kd a0 = 1) (hf : m_X0_init M a0 = some M9) : GG p l e { frames := 1, cells := 1, slots := 10, locals := 20 } s m args below meth c D cy Λ (AA Λ s.heap.size) 1 0 0 (MQ below (QcV D cy Λ (a0 + 1 + 1) M9 s.heap.size) args s 1 10 (AA Λ s.heap.size)) (a0 + 1) M 0 [(0, .ref (Λ a0))] [] := by
  unfold m_X0_init at hf
  refine g_aload_n (pc := 0) C 0 dX0_init_0 rfl rfl ?_
  refine g_obj (pc := 1) C tw_249 tw_79 tw_80 ⟨Nat.le_of_ble_eq_true rfl, Nat.le_of_ble_eq_true rfl⟩ dX0_init_1 ?_
  refine g_aload_n (pc := 4) C 0 dX0_init_4 rfl rfl ?_
  refine g_bipush (pc := 5) (v := (10 : Int32)) C dX0_init_5 (by decide) ?_
  refine g_newa (pc := 7) (n := (a0 + 1)) (ai := 0) (ty := .int) C hf hL hs rfl rfl tw_116 (fun U cA h => h) rfl rfl (fun M2 h => cell_a0 h) ⟨by decide, by decide⟩ (by decide) ⟨Nat.le_of_ble_eq_true rfl, Nat.le_of_ble_eq_true rfl⟩ dX0_init_7 (fun M11 hk11 hf => ?_)
  refine g_pFR (pc := 9) (n := (a0 + 2)) C hf hin fpX0_9 (by decide) ⟨by omega, hk0⟩ stX0_0 (Nat.le_of_ble_eq_true rfl) rfl rfl dX0_init_9 (fun M12 hf => ?_)
  refine g_aload_n (pc := 12) C 0 dX0_init_12 rfl rfl ?_
  refine g_iconst (pc := 13) (v := (0 : Int32)) C dX0_init_13 (by decide) ?_
  refine g_pI (pc := 14) (n := (a0 + 2)) C hf fpX0_15 (by decide) ⟨by omega, hk0⟩ stX0_1 (Nat.le_of_ble_eq_true rfl) rfl rfl dX0_init_14 (fun M13 hf => ?_)
  exact g_vret C hf dX0_init_17

theorem c_X0_init {l : Launch} {D : va_G} {cy : Nat → ClassId} {Λ : Nat → Nat} (hi : ∀ i j : Nat, Λ i = Λ j → i = j) (hL : ∀ k : Nat, Λ (k + 1) = Λ k + 1) {a0 : Nat} {M M9 : Mem} (hk0 : kd a0 = 1) (hf : m_X0_init M a0 = some M9) : CtC l yX0_init cX0_init 1 none { frames := 1, cells := 1, slots := 10, locals := 20 } D cy Λ [.ref (Λ a0)] (a0 + 1) M 1 10 (QcV D cy Λ (a0 + 1 + 1) M9) := entC (by decide) hi (Nat.le_of_ble_eq_true rfl) (fun p e s m args below meth c hs hin C => w_X0_init C hL hs hin hk0 hf)
def m_X5_init (M : Mem) (a0 : Nat) : Option Mem :=
  (nwa 10 6 M (a0 + 1)).bind fun M11 =>
  (pR M11 a0 0 (a0 + 1)).bind fun M12 =>
  (nwa 10 6 M12 (a0 + 2)).bind fun M13 =>
  (pR M13 a0 1 (a0 + 2)).bind fun M14 =>
  (nwa 10 6 M14 (a0 + 3)).bind fun M15 =>
  (pR M15 a0 2 (a0 + 3)).bind fun M16 =>
  (pI M16 a0 3 (0 : Int32)).bind fun M17 =>
  some M17

theorem w_X5_init {p : Program} {l : Launch} {e : Env} {s : State} {m : MethodId} {args : Array Value} {below : List Frame} {meth : Method} {c : Code} {D : va_G} {cy : Nat → ClassId} {Λ : Nat → Nat} (C : Cx p s m args meth c cX5_init 1 RX5 none D cy Λ (AA Λ s.heap.size)) {a0 : Nat} {M M9 : Mem} (hL : ∀ k : Nat, Λ (k + 1) = Λ k + 1) (hs : s.heap.size = Λ (a0 + 1)) (hin : meth.name = "<init>") (hk0 : kd a0 = 6) (hf : m_X5_init M a0 = some M9) : GG p l e { frames := 1, cells := 3, slots := 18, locals := 20 } s m args below meth c D cy Λ (AA Λ s.heap.size) 1 0 0 (MQ below (QcV D cy Λ (a0 + 1 + 3) M9 s.heap.size) args s 3 18 (AA Λ s.heap.size)) (a0 + 1) M 0 [(0, .ref (Λ a0))] [] := by
  unfold m_X5_init at hf
  refine g_aload_n (pc := 0) C 0 dX5_init_0 rfl rfl ?_
  refine g_obj (pc := 1) C tw_263 tw_79 tw_80 ⟨Nat.le_of_ble_eq_true rfl, Nat.le_of_ble_eq_true rfl⟩ dX5_init_1 ?_
  refine g_aload_n (pc := 4) C 0 dX5_init_4 rfl rfl ?_
  refine g_bipush (pc := 5) (v := (6 : Int32)) C dX5_init_5 (by decide) ?_
  refine g_newa (pc := 7) (n := (a0 + 1)) (ai := 0) (ty := .int) C hf hL hs rfl rfl tw_116 (fun U cA h => h) rfl rfl (fun M2 h => cell_a0 h) ⟨by decide, by decide⟩ (by decide) ⟨Nat.le_of_ble_eq_true rfl, Nat.le_of_ble_eq_true rfl⟩ dX5_init_7 (fun M11 hk11 hf => ?_)
  refine g_pFR (pc := 9) (n := (a0 + 2)) C hf hin fpX5_9 (by decide) ⟨by omega, hk0⟩ stX5_0 (Nat.le_of_ble_eq_true rfl) rfl rfl dX5_init_9 (fun M12 hf => ?_)
  refine g_aload_n (pc := 12) C 0 dX5_init_12 rfl rfl ?_
  refine g_bipush (pc := 13) (v := (6 : Int32)) C dX5_init_13 (by decide) ?_
  refine g_newa (pc := 15) (n := (a0 + 2)) (ai := 0) (ty := .int) C hf hL hs rfl rfl tw_116 (fun U cA h => h) rfl rfl (fun M2 h => cell_a0 h) ⟨by decide, by decide⟩ (by decide) ⟨Nat.le_of_ble_eq_true rfl, Nat.le_of_ble_eq_true rfl⟩ dX5_init_15 (fun M13 hk13 hf => ?_)
  refine g_pFR (pc := 17) (n := (a0 + 3)) C hf hin fpX5_15 (by decide) ⟨by omega, hk0⟩ stX5_1 (Nat.le_of_ble_eq_true rfl) rfl rfl dX5_init_17 (fun M14 hf => ?_)
  refine g_aload_n (pc := 20) C 0 dX5_init_20 rfl rfl ?_
  refine g_bipush (pc := 21) (v := (6 : Int32)) C dX5_init_21 (by decide) ?_
  refine g_newa (pc := 23) (n := (a0 + 3)) (ai := 0) (ty := .int) C hf hL hs rfl rfl tw_116 (fun U cA h => h) rfl rfl (fun M2 h => cell_a0 h) ⟨by decide, by decide⟩ (by decide) ⟨Nat.le_of_ble_eq_true rfl, Nat.le_of_ble_eq_true rfl⟩ dX5_init_23 (fun M15 hk15 hf => ?_)
  refine g_pFR (pc := 25) (n := (a0 + 4)) C hf hin fpX5_18 (by decide) ⟨by omega, hk0⟩ stX5_2 (Nat.le_of_ble_eq_true rfl) rfl rfl dX5_init_25 (fun M16 hf => ?_)
  refine g_aload_n (pc := 28) C 0 dX5_init_28 rfl rfl ?_
  refine g_iconst (pc := 29) (v := (0 : Int32)) C dX5_init_29 (by decide) ?_
  refine g_pI (pc := 30) (n := (a0 + 4)) C hf fpX5_21 (by decide) ⟨by omega, hk0⟩ stX5_3 (Nat.le_of_ble_eq_true rfl) rfl rfl dX5_init_30 (fun M17 hf => ?_)
  exact g_vret C hf dX5_init_33

theorem c_X5_init {l : Launch} {D : va_G} {cy : Nat → ClassId} {Λ : Nat → Nat} (hi : ∀ i j : Nat, Λ i = Λ j → i = j) (hL : ∀ k : Nat, Λ (k + 1) = Λ k + 1) {a0 : Nat} {M M9 : Mem} (hk0 : kd a0 = 6) (hf : m_X5_init M a0 = some M9) : CtC l yX5_init cX5_init 1 none { frames := 1, cells := 3, slots := 18, locals := 20 } D cy Λ [.ref (Λ a0)] (a0 + 1) M 3 18 (QcV D cy Λ (a0 + 1 + 3) M9) := entC (by decide) hi (Nat.le_of_ble_eq_true rfl) (fun p e s m args below meth c hs hin C => w_X5_init C hL hs hin hk0 hf)
def m_X7_init (M : Mem) (a0 : Nat) : Option Mem :=
  (nwa 11 120 M (a0 + 1)).bind fun M11 =>
  (pR M11 a0 0 (a0 + 1)).bind fun M12 =>
  (pI M12 a0 1 (0 : Int32)).bind fun M13 =>
  (nw 3 M13 (a0 + 2)).bind fun M14 =>
  (m_X2_init M14 (a0 + 2)).bind fun M15 =>
  (pR M15 a0 2 (a0 + 2)).bind fun M16 =>
  (nw 5 M16 (a0 + 59)).bind fun M17 =>
  (m_X4_init M17 (a0 + 59)).bind fun M18 =>
  (pR M18 a0 3 (a0 + 59)).bind fun M19 =>
  (nw 2 M19 (a0 + 114)).bind fun M20 =>
  (m_X1_init M20 (a0 + 114)).bind fun M21 =>
  (pR M21 a0 4 (a0 + 114)).bind fun M22 =>
  (nw 2 M22 (a0 + 117)).bind fun M23 =>
  (m_X1_init M23 (a0 + 117)).bind fun M24 =>
  (pR M24 a0 5 (a0 + 117)).bind fun M25 =>
  (nw 7 M25 (a0 + 120)).bind fun M26 =>
  (m_X6_init M26 (a0 + 120)).bind fun M27 =>
  (pR M27 a0 6 (a0 + 120)).bind fun M28 =>
  (nw 7 M28 (a0 + 125)).bind fun M29 =>
  (m_X6_init M29 (a0 + 125)).bind fun M30 =>
  (pR M30 a0 7 (a0 + 125)).bind fun M31 =>
  (nw 1 M31 (a0 + 130)).bind fun M32 =>
  (m_X0_init M32 (a0 + 130)).bind fun M33 =>
  (pR M33 a0 8 (a0 + 130)).bind fun M34 =>
  (nw 6 M34 (a0 + 132)).bind fun M35 =>
  (m_X5_init M35 (a0 + 132)).bind fun M36 =>
  (pR M36 a0 9 (a0 + 132)).bind fun M37 =>
  (nwa 13 2 M37 (a0 + 136)).bind fun M38 =>
  (pR M38 a0 10 (a0 + 136)).bind fun M39 =>
  (pI M39 a0 11 (0 : Int32)).bind fun M40 =>
  (nwa 10 36 M40 (a0 + 137)).bind fun M41 =>
  (pR M41 a0 12 (a0 + 137)).bind fun M42 =>
  (rfn (a0 + 138) 13 M42 a0 10).bind fun a43 =>
  (nw 2 M42 (a0 + 138)).bind fun M44 =>
  (m_X1_init M44 (a0 + 138)).bind fun M45 =>
  (wr M45 a43 (0 : Int32) (a0 + 138)).bind fun M46 =>
  (rfn (a0 + 141) 13 M46 a0 10).bind fun a47 =>
  (nw 2 M46 (a0 + 141)).bind fun M48 =>
  (m_X1_init M48 (a0 + 141)).bind fun M49 =>
  (wr M49 a47 (1 : Int32) (a0 + 141)).bind fun M50 =>
  some M50

theorem w_X7_init {p : Program} {l : Launch} {e : Env} {s : State} {m : MethodId} {args : Array Value} {below : List Frame} {meth : Method} {c : Code} {D : va_G} {cy : Nat → ClassId} {Λ : Nat → Nat} (C : Cx p s m args meth c cX7_init 2 RX7 none D cy Λ (AA Λ s.heap.size)) {a0 : Nat} {M M9 : Mem} (hL : ∀ k : Nat, Λ (k + 1) = Λ k + 1) (hs : s.heap.size = Λ (a0 + 1)) (hin : meth.name = "<init>") (hk0 : kd a0 = 8) (hf : m_X7_init M a0 = some M9) : GG p l e { frames := 4, cells := 143, slots := 1008, locals := 81 } s m args below meth c D cy Λ (AA Λ s.heap.size) 2 0 0 (MQ below (QcV D cy Λ (a0 + 1 + 143) M9 s.heap.size) args s 143 1008 (AA Λ s.heap.size)) (a0 + 1) M 0 [(0, .ref (Λ a0))] [] := by
  unfold m_X7_init at hf
  refine g_aload_n (pc := 0) C 0 dX7_init_0 rfl rfl ?_
  refine g_obj (pc := 1) C tw_78 tw_79 tw_80 ⟨Nat.le_of_ble_eq_true rfl, Nat.le_of_ble_eq_true rfl⟩ dX7_init_1 ?_
  refine g_aload_n (pc := 4) C 0 dX7_init_4 rfl rfl ?_
  refine g_bipush (pc := 5) (v := (120 : Int32)) C dX7_init_5 (by decide) ?_
  refine g_newa (pc := 7) (n := (a0 + 1)) (ai := 1) (ty := .char) C hf hL hs rfl rfl tw_115 (fun U cA h => h) rfl rfl (fun M2 h => cell_a1 h) ⟨by decide, by decide⟩ (by decide) ⟨Nat.le_of_ble_eq_true rfl, Nat.le_of_ble_eq_true rfl⟩ dX7_init_7 (fun M11 hk11 hf => ?_)
  refine g_pFR (pc := 9) (n := (a0 + 2)) C hf hin fpX7_9 (by decide) ⟨by omega, hk0⟩ stX7_0 (Nat.le_of_ble_eq_true rfl) rfl rfl dX7_init_9 (fun M12 hf => ?_)
  refine g_aload_n (pc := 12) C 0 dX7_init_12 rfl rfl ?_
  refine g_iconst (pc := 13) (v := (0 : Int32)) C dX7_init_13 (by decide) ?_
  refine g_pI (pc := 14) (n := (a0 + 2)) C hf fpX7_13 (by decide) ⟨by omega, hk0⟩ stX7_1 (Nat.le_of_ble_eq_true rfl) rfl rfl dX7_init_14 (fun M13 hf => ?_)
  refine g_aload_n (pc := 17) C 0 dX7_init_17 rfl rfl ?_
  refine g_new (pc := 18) (n := (a0 + 2)) (ci := 2) C hf hL hs rfl nwX7_17 (by decide) dfX2 ⟨Nat.le_of_ble_eq_true rfl, Nat.le_of_ble_eq_true rfl⟩ dX7_init_18 (fun M14 hk14 hf => ?_)
  refine g_dup (pc := 21) C dX7_init_21 rfl ?_
  obtain ⟨M15, h15, hf⟩ := ob hf
  refine g_ctorN (pc := 22) (n := (a0 + 3)) C hL hs rfl (c_X2_init C.2.2.2.2.2.1 hL hk14 h15) linX7_19 (Nat.le_of_ble_eq_true rfl) ⟨⟨rfl, rfl⟩, Nat.le_of_ble_eq_true rfl, Nat.le_of_ble_eq_true rfl⟩ ⟨Nat.le_of_ble_eq_true rfl, Nat.le_of_ble_eq_true rfl⟩ dX7_init_22 ?_
  refine g_pFR (pc := 25) (n := (a0 + 59)) C hf hin fpX7_20 (by decide) ⟨by omega, hk0⟩ stX7_2 (Nat.le_of_ble_eq_true rfl) rfl rfl dX7_init_25 (fun M16 hf => ?_)
  refine g_aload_n (pc := 28) C 0 dX7_init_28 rfl rfl ?_
  refine g_new (pc := 29) (n := (a0 + 59)) (ci := 4) C hf hL hs rfl nwX7_24 (by decide) dfX4 ⟨Nat.le_of_ble_eq_true rfl, Nat.le_of_ble_eq_true rfl⟩ dX7_init_29 (fun M17 hk17 hf => ?_)
  refine g_dup (pc := 32) C dX7_init_32 rfl ?_
  obtain ⟨M18, h18, hf⟩ := ob hf
  refine g_ctor (pc := 33) (n := (a0 + 60)) C hL hs rfl (c_X4_init C.2.2.2.2.2.1 hL hk17 h18) liX7_26 (Nat.le_of_ble_eq_true rfl) ⟨⟨rfl, rfl⟩, Nat.le_of_ble_eq_true rfl, Nat.le_of_ble_eq_true rfl⟩ ⟨Nat.le_of_ble_eq_true rfl, Nat.le_of_ble_eq_true rfl⟩ dX7_init_33 ?_
  refine g_pR (pc := 36) (n := (a0 + 114)) C hf fpX7_27 (by decide) ⟨by omega, hk0⟩ stX7_3 (Nat.le_of_ble_eq_true rfl) rfl rfl dX7_init_36 (fun M19 hf => ?_)
  refine g_aload_n (pc := 39) C 0 dX7_init_39 rfl rfl ?_
  refine g_new (pc := 40) (n := (a0 + 114)) (ci := 1) C hf hL hs rfl nwX7_31 (by decide) dfX1 ⟨Nat.le_of_ble_eq_true rfl, Nat.le_of_ble_eq_true rfl⟩ dX7_init_40 (fun M20 hk20 hf => ?_)
  refine g_dup (pc := 43) C dX7_init_43 rfl ?_
  obtain ⟨M21, h21, hf⟩ := ob hf
  refine g_ctorN (pc := 44) (n := (a0 + 115)) C hL hs rfl (c_X1_init C.2.2.2.2.2.1 hL hk20 h21) linX7_33 (Nat.le_of_ble_eq_true rfl) ⟨⟨rfl, rfl⟩, Nat.le_of_ble_eq_true rfl, Nat.le_of_ble_eq_true rfl⟩ ⟨Nat.le_of_ble_eq_true rfl, Nat.le_of_ble_eq_true rfl⟩ dX7_init_44 ?_
  refine g_pFR (pc := 47) (n := (a0 + 117)) C hf hin fpX7_34 (by decide) ⟨by omega, hk0⟩ stX7_4 (Nat.le_of_ble_eq_true rfl) rfl rfl dX7_init_47 (fun M22 hf => ?_)
  refine g_aload_n (pc := 50) C 0 dX7_init_50 rfl rfl ?_
  refine g_new (pc := 51) (n := (a0 + 117)) (ci := 1) C hf hL hs rfl nwX7_31 (by decide) dfX1 ⟨Nat.le_of_ble_eq_true rfl, Nat.le_of_ble_eq_true rfl⟩ dX7_init_51 (fun M23 hk23 hf => ?_)
  refine g_dup (pc := 54) C dX7_init_54 rfl ?_
  obtain ⟨M24, h24, hf⟩ := ob hf
  refine g_ctorN (pc := 55) (n := (a0 + 118)) C hL hs rfl (c_X1_init C.2.2.2.2.2.1 hL hk23 h24) linX7_33 (Nat.le_of_ble_eq_true rfl) ⟨⟨rfl, rfl⟩, Nat.le_of_ble_eq_true rfl, Nat.le_of_ble_eq_true rfl⟩ ⟨Nat.le_of_ble_eq_true rfl, Nat.le_of_ble_eq_true rfl⟩ dX7_init_55 ?_
  refine g_pFR (pc := 58) (n := (a0 + 120)) C hf hin fpX7_38 (by decide) ⟨by omega, hk0⟩ stX7_5 (Nat.le_of_ble_eq_true rfl) rfl rfl dX7_init_58 (fun M25 hf => ?_)
  refine g_aload_n (pc := 61) C 0 dX7_init_61 rfl rfl ?_
  refine g_new (pc := 62) (n := (a0 + 120)) (ci := 6) C hf hL hs rfl nwX7_41 (by decide) dfX6 ⟨Nat.le_of_ble_eq_true rfl, Nat.le_of_ble_eq_true rfl⟩ dX7_init_62 (fun M26 hk26 hf => ?_)
  refine g_dup (pc := 65) C dX7_init_65 rfl ?_
  obtain ⟨M27, h27, hf⟩ := ob hf
  refine g_ctorN (pc := 66) (n := (a0 + 121)) C hL hs rfl (c_X6_init C.2.2.2.2.2.1 hL hk26 h27) linX7_43 (Nat.le_of_ble_eq_true rfl) ⟨⟨rfl, rfl⟩, Nat.le_of_ble_eq_true rfl, Nat.le_of_ble_eq_true rfl⟩ ⟨Nat.le_of_ble_eq_true rfl, Nat.le_of_ble_eq_true rfl⟩ dX7_init_66 ?_
  refine g_pFR (pc := 69) (n := (a0 + 125)) C hf hin fpX7_44 (by decide) ⟨by omega, hk0⟩ stX7_6 (Nat.le_of_ble_eq_true rfl) rfl rfl dX7_init_69 (fun M28 hf => ?_)
  refine g_aload_n (pc := 72) C 0 dX7_init_72 rfl rfl ?_
  refine g_new (pc := 73) (n := (a0 + 125)) (ci := 6) C hf hL hs rfl nwX7_41 (by decide) dfX6 ⟨Nat.le_of_ble_eq_true rfl, Nat.le_of_ble_eq_true rfl⟩ dX7_init_73 (fun M29 hk29 hf => ?_)
  refine g_dup (pc := 76) C dX7_init_76 rfl ?_
  obtain ⟨M30, h30, hf⟩ := ob hf
  refine g_ctorN (pc := 77) (n := (a0 + 126)) C hL hs rfl (c_X6_init C.2.2.2.2.2.1 hL hk29 h30) linX7_43 (Nat.le_of_ble_eq_true rfl) ⟨⟨rfl, rfl⟩, Nat.le_of_ble_eq_true rfl, Nat.le_of_ble_eq_true rfl⟩ ⟨Nat.le_of_ble_eq_true rfl, Nat.le_of_ble_eq_true rfl⟩ dX7_init_77 ?_
  refine g_pFR (pc := 80) (n := (a0 + 130)) C hf hin fpX7_48 (by decide) ⟨by omega, hk0⟩ stX7_7 (Nat.le_of_ble_eq_true rfl) rfl rfl dX7_init_80 (fun M31 hf => ?_)
  refine g_aload_n (pc := 83) C 0 dX7_init_83 rfl rfl ?_
  refine g_new (pc := 84) (n := (a0 + 130)) (ci := 0) C hf hL hs rfl nwX7_51 (by decide) dfX0 ⟨Nat.le_of_ble_eq_true rfl, Nat.le_of_ble_eq_true rfl⟩ dX7_init_84 (fun M32 hk32 hf => ?_)
  refine g_dup (pc := 87) C dX7_init_87 rfl ?_
  obtain ⟨M33, h33, hf⟩ := ob hf
  refine g_ctorN (pc := 88) (n := (a0 + 131)) C hL hs rfl (c_X0_init C.2.2.2.2.2.1 hL hk32 h33) linX7_53 (Nat.le_of_ble_eq_true rfl) ⟨⟨rfl, rfl⟩, Nat.le_of_ble_eq_true rfl, Nat.le_of_ble_eq_true rfl⟩ ⟨Nat.le_of_ble_eq_true rfl, Nat.le_of_ble_eq_true rfl⟩ dX7_init_88 ?_
  refine g_pFR (pc := 91) (n := (a0 + 132)) C hf hin fpX7_54 (by decide) ⟨by omega, hk0⟩ stX7_8 (Nat.le_of_ble_eq_true rfl) rfl rfl dX7_init_91 (fun M34 hf => ?_)
  refine g_aload_n (pc := 94) C 0 dX7_init_94 rfl rfl ?_
  refine g_new (pc := 95) (n := (a0 + 132)) (ci := 5) C hf hL hs rfl nwX7_58 (by decide) dfX5 ⟨Nat.le_of_ble_eq_true rfl, Nat.le_of_ble_eq_true rfl⟩ dX7_init_95 (fun M35 hk35 hf => ?_)
  refine g_dup (pc := 98) C dX7_init_98 rfl ?_
  obtain ⟨M36, h36, hf⟩ := ob hf
  refine g_ctorN (pc := 99) (n := (a0 + 133)) C hL hs rfl (c_X5_init C.2.2.2.2.2.1 hL hk35 h36) linX7_60 (Nat.le_of_ble_eq_true rfl) ⟨⟨rfl, rfl⟩, Nat.le_of_ble_eq_true rfl, Nat.le_of_ble_eq_true rfl⟩ ⟨Nat.le_of_ble_eq_true rfl, Nat.le_of_ble_eq_true rfl⟩ dX7_init_99 ?_
  refine g_pFR (pc := 102) (n := (a0 + 136)) C hf hin fpX7_61 (by decide) ⟨by omega, hk0⟩ stX7_9 (Nat.le_of_ble_eq_true rfl) rfl rfl dX7_init_102 (fun M37 hf => ?_)
  refine g_aload_n (pc := 105) C 0 dX7_init_105 rfl rfl ?_
  refine g_iconst (pc := 106) (v := (2 : Int32)) C dX7_init_106 (by decide) ?_
  refine g_newq (pc := 107) (n := (a0 + 136)) (ai := 3) C hf hL hs rfl tw_220 tn_278 rfl (fun M2 h => cell_a3 h) ⟨by decide, by decide⟩ (by decide) ⟨Nat.le_of_ble_eq_true rfl, Nat.le_of_ble_eq_true rfl⟩ dX7_init_107 (fun M38 hk38 hf => ?_)
  refine g_pFR (pc := 110) (n := (a0 + 137)) C hf hin fpX7_65 (by decide) ⟨by omega, hk0⟩ stX7_10 (Nat.le_of_ble_eq_true rfl) rfl rfl dX7_init_110 (fun M39 hf => ?_)
  refine g_aload_n (pc := 113) C 0 dX7_init_113 rfl rfl ?_
  refine g_iconst (pc := 114) (v := (0 : Int32)) C dX7_init_114 (by decide) ?_
  refine g_pI (pc := 115) (n := (a0 + 137)) C hf fpX7_69 (by decide) ⟨by omega, hk0⟩ stX7_11 (Nat.le_of_ble_eq_true rfl) rfl rfl dX7_init_115 (fun M40 hf => ?_)
  refine g_aload_n (pc := 118) C 0 dX7_init_118 rfl rfl ?_
  refine g_bipush (pc := 119) (v := (36 : Int32)) C dX7_init_119 (by decide) ?_
  refine g_newa (pc := 121) (n := (a0 + 137)) (ai := 0) (ty := .int) C hf hL hs rfl rfl tw_116 (fun U cA h => h) rfl rfl (fun M2 h => cell_a0 h) ⟨by decide, by decide⟩ (by decide) ⟨Nat.le_of_ble_eq_true rfl, Nat.le_of_ble_eq_true rfl⟩ dX7_init_121 (fun M41 hk41 hf => ?_)
  refine g_pFR (pc := 123) (n := (a0 + 138)) C hf hin fpX7_72 (by decide) ⟨by omega, hk0⟩ stX7_12 (Nat.le_of_ble_eq_true rfl) rfl rfl dX7_init_123 (fun M42 hf => ?_)
  refine g_iconst (pc := 126) (v := (0 : Int32)) C dX7_init_126 (by decide) ?_
  refine g_istore_n (pc := 127) (lv2 := [(1, .int (0 : Int32)), (0, .ref (Λ a0))]) C dX7_init_127 rfl (by decide) rfl ?_
  refine g_iload_n (pc := 128) C 0 dX7_init_128 rfl rfl ?_
  refine g_iconst (pc := 129) (v := (2 : Int32)) C dX7_init_129 (by decide) ?_
  refine g_ic_ge (pc := 130) (tgt := 152) (X := none) (Y := some ()) (r := ()) C (by decide) dX7_init_130 (by decide) (fun h9 => by cases h9) (fun h9 => ?_)
  refine g_aload_n (pc := 133) C 1 dX7_init_133 rfl rfl ?_
  refine g_getRn (pc := 134) (n := (a0 + 138)) (T := 13) C hf fgX7_65 (by decide) ⟨by omega, hk0⟩ rfl dX7_init_134 (fun a43 hk43 hf => ?_)
  refine g_iload_n (pc := 137) C 0 dX7_init_137 rfl rfl ?_
  refine g_new (pc := 138) (n := (a0 + 138)) (ci := 1) C hf hL hs rfl nwX7_31 (by decide) dfX1 ⟨Nat.le_of_ble_eq_true rfl, Nat.le_of_ble_eq_true rfl⟩ dX7_init_138 (fun M44 hk44 hf => ?_)
  refine g_dup (pc := 141) C dX7_init_141 rfl ?_
  obtain ⟨M45, h45, hf⟩ := ob hf
  refine g_ctorN (pc := 142) (n := (a0 + 139)) C hL hs rfl (c_X1_init C.2.2.2.2.2.1 hL hk44 h45) linX7_33 (Nat.le_of_ble_eq_true rfl) ⟨⟨rfl, rfl⟩, Nat.le_of_ble_eq_true rfl, Nat.le_of_ble_eq_true rfl⟩ ⟨Nat.le_of_ble_eq_true rfl, Nat.le_of_ble_eq_true rfl⟩ dX7_init_142 ?_
  refine g_aast (pc := 145) (n := (a0 + 141)) (ai := 3) (T := 13) (ci := 1) C hf ⟨Nat.lt_of_lt_of_le hk43.1 (by omega), hk43.2⟩ ⟨by omega, hk44⟩ (by decide) rfl rfl (fun M2 h => cell_a3 h) dX7_init_145 (fun M46 hf => ?_)
  refine g_iinc (pc := 146) (v := (1 : Int32)) (lv2 := [(1, .int (1 : Int32)), (0, .ref (Λ a0))]) C 0 dX7_init_146 rfl (by decide) (by decide) rfl ?_
  refine g_goto (pc := 149) (tgt := 128) C dX7_init_149 (by decide) ?_
  refine g_iload_n (pc := 128) C 0 dX7_init_128 rfl rfl ?_
  refine g_iconst (pc := 129) (v := (2 : Int32)) C dX7_init_129 (by decide) ?_
  refine g_ic_ge (pc := 130) (tgt := 152) (X := none) (Y := some ()) (r := ()) C (by decide) dX7_init_130 (by decide) (fun h9 => by cases h9) (fun h9 => ?_)
  refine g_aload_n (pc := 133) C 1 dX7_init_133 rfl rfl ?_
  refine g_getRn (pc := 134) (n := (a0 + 141)) (T := 13) C hf fgX7_65 (by decide) ⟨by omega, hk0⟩ rfl dX7_init_134 (fun a47 hk47 hf => ?_)
  refine g_iload_n (pc := 137) C 0 dX7_init_137 rfl rfl ?_
  refine g_new (pc := 138) (n := (a0 + 141)) (ci := 1) C hf hL hs rfl nwX7_31 (by decide) dfX1 ⟨Nat.le_of_ble_eq_true rfl, Nat.le_of_ble_eq_true rfl⟩ dX7_init_138 (fun M48 hk48 hf => ?_)
  refine g_dup (pc := 141) C dX7_init_141 rfl ?_
  obtain ⟨M49, h49, hf⟩ := ob hf
  refine g_ctorN (pc := 142) (n := (a0 + 142)) C hL hs rfl (c_X1_init C.2.2.2.2.2.1 hL hk48 h49) linX7_33 (Nat.le_of_ble_eq_true rfl) ⟨⟨rfl, rfl⟩, Nat.le_of_ble_eq_true rfl, Nat.le_of_ble_eq_true rfl⟩ ⟨Nat.le_of_ble_eq_true rfl, Nat.le_of_ble_eq_true rfl⟩ dX7_init_142 ?_
  refine g_aast (pc := 145) (n := (a0 + 144)) (ai := 3) (T := 13) (ci := 1) C hf ⟨Nat.lt_of_lt_of_le hk47.1 (by omega), hk47.2⟩ ⟨by omega, hk48⟩ (by decide) rfl rfl (fun M2 h => cell_a3 h) dX7_init_145 (fun M50 hf => ?_)
  refine g_iinc (pc := 146) (v := (2 : Int32)) (lv2 := [(1, .int (2 : Int32)), (0, .ref (Λ a0))]) C 0 dX7_init_146 rfl (by decide) (by decide) rfl ?_
  refine g_goto (pc := 149) (tgt := 128) C dX7_init_149 (by decide) ?_
  refine g_iload_n (pc := 128) C 0 dX7_init_128 rfl rfl ?_
  refine g_iconst (pc := 129) (v := (2 : Int32)) C dX7_init_129 (by decide) ?_
  refine g_ic_ge (pc := 130) (tgt := 152) (X := some ()) (Y := none) (r := ()) C (by decide) dX7_init_130 (by decide) (fun h9 => ?_) (fun h9 => by cases h9)
  exact g_vret C hf dX7_init_152

theorem c_X7_init {l : Launch} {D : va_G} {cy : Nat → ClassId} {Λ : Nat → Nat} (hi : ∀ i j : Nat, Λ i = Λ j → i = j) (hL : ∀ k : Nat, Λ (k + 1) = Λ k + 1) {a0 : Nat} {M M9 : Mem} (hk0 : kd a0 = 8) (hf : m_X7_init M a0 = some M9) : CtC l yX7_init cX7_init 2 none { frames := 4, cells := 143, slots := 1008, locals := 81 } D cy Λ [.ref (Λ a0)] (a0 + 1) M 143 1008 (QcV D cy Λ (a0 + 1 + 143) M9) := entC (by decide) hi (Nat.le_of_ble_eq_true rfl) (fun p e s m args below meth c hs hin C => w_X7_init C hL hs hin hk0 hf)
def m_X8_init (M : Mem) (_ : Nat) : Option Mem :=
  (nwa 10 120 M 145).bind fun M11 =>
  (pR M11 144 1 145).bind fun M12 =>
  (nwa 10 140 M12 146).bind fun M13 =>
  (pR M13 144 8 146).bind fun M14 =>
  (nwa 10 140 M14 147).bind fun M15 =>
  (pR M15 144 9 147).bind fun M16 =>
  (nwa 10 19 M16 148).bind fun M17 =>
  (pR M17 144 10 148).bind fun M18 =>
  (nwa 10 19 M18 149).bind fun M19 =>
  (pR M19 144 11 149).bind fun M20 =>
  (nwa 10 190 M20 150).bind fun M21 =>
  (pR M21 144 12 150).bind fun M22 =>
  (nwa 10 38 M22 151).bind fun M23 =>
  (pR M23 144 14 151).bind fun M24 =>
  (nwa 12 2 M24 152).bind fun M25 =>
  (pR M25 144 15 152).bind fun M26 =>
  (nwa 10 6 M26 153).bind fun M27 =>
  (pR M27 144 16 153).bind fun M28 =>
  (nwa 10 6 M28 154).bind fun M29 =>
  (pR M29 144 17 154).bind fun M30 =>
  (nwa 10 6 M30 155).bind fun M31 =>
  (pR M31 144 18 155).bind fun M32 =>
  (nwa 10 36 M32 156).bind fun M33 =>
  (pR M33 144 20 156).bind fun M34 =>
  (nwa 10 8 M34 157).bind fun M35 =>
  (pR M35 144 21 157).bind fun M36 =>
  (m_X8_begins M36 144).bind fun M37 =>
  (m_X8_settles M37 144).bind fun M38 =>
  some M38

theorem w_X8_init {p : Program} {l : Launch} {e : Env} {s : State} {m : MethodId} {args : Array Value} {below : List Frame} {meth : Method} {c : Code} {D : va_G} {cy : Nat → ClassId} {Λ : Nat → Nat} (C : Cx p s m args meth c cX8_init 1 RX8 none D cy Λ (AA Λ s.heap.size)) {M M9 : Mem} (hL : ∀ k : Nat, Λ (k + 1) = Λ k + 1) (hs : s.heap.size = Λ 145) (hin : meth.name = "<init>") (hk0 : kd 144 = 9) (hf : m_X8_init M 144 = some M9) : GG p l e { frames := 1, cells := 13, slots := 730, locals := 21 } s m args below meth c D cy Λ (AA Λ s.heap.size) 1 0 0 (MQ below (QcV D cy Λ 158 M9 s.heap.size) args s 13 730 (AA Λ s.heap.size)) 145 M 0 [(0, .ref (Λ 144))] [] := by
  unfold m_X8_init at hf
  refine g_aload_n (pc := 0) C 0 dX8_init_0 rfl rfl ?_
  refine g_obj (pc := 1) C tw_688 tw_79 tw_80 ⟨Nat.le_of_ble_eq_true rfl, Nat.le_of_ble_eq_true rfl⟩ dX8_init_1 ?_
  refine g_aload_n (pc := 4) C 0 dX8_init_4 rfl rfl ?_
  refine g_bipush (pc := 5) (v := (120 : Int32)) C dX8_init_5 (by decide) ?_
  refine g_newa (pc := 7) (n := 145) (ai := 0) (ty := .int) C hf hL hs rfl rfl tw_116 (fun U cA h => h) rfl rfl (fun M2 h => cell_a0 h) ⟨by decide, by decide⟩ (by decide) ⟨Nat.le_of_ble_eq_true rfl, Nat.le_of_ble_eq_true rfl⟩ dX8_init_7 (fun M11 hk11 hf => ?_)
  refine g_pFR (pc := 9) (n := 146) C hf hin fpX8_7 (by decide) ⟨by decide, hk0⟩ stX8_1 (Nat.le_of_ble_eq_true rfl) rfl rfl dX8_init_9 (fun M12 hf => ?_)
  refine g_aload_n (pc := 12) C 0 dX8_init_12 rfl rfl ?_
  refine g_sipush (pc := 13) (v := (140 : Int32)) C dX8_init_13 (by decide) ?_
  refine g_newa (pc := 16) (n := 146) (ai := 0) (ty := .int) C hf hL hs rfl rfl tw_116 (fun U cA h => h) rfl rfl (fun M2 h => cell_a0 h) ⟨by decide, by decide⟩ (by decide) ⟨Nat.le_of_ble_eq_true rfl, Nat.le_of_ble_eq_true rfl⟩ dX8_init_16 (fun M13 hk13 hf => ?_)
  refine g_pFR (pc := 18) (n := 147) C hf hin fpX8_13 (by decide) ⟨by decide, hk0⟩ stX8_8 (Nat.le_of_ble_eq_true rfl) rfl rfl dX8_init_18 (fun M14 hf => ?_)
  refine g_aload_n (pc := 21) C 0 dX8_init_21 rfl rfl ?_
  refine g_sipush (pc := 22) (v := (140 : Int32)) C dX8_init_22 (by decide) ?_
  refine g_newa (pc := 25) (n := 147) (ai := 0) (ty := .int) C hf hL hs rfl rfl tw_116 (fun U cA h => h) rfl rfl (fun M2 h => cell_a0 h) ⟨by decide, by decide⟩ (by decide) ⟨Nat.le_of_ble_eq_true rfl, Nat.le_of_ble_eq_true rfl⟩ dX8_init_25 (fun M15 hk15 hf => ?_)
  refine g_pFR (pc := 27) (n := 148) C hf hin fpX8_16 (by decide) ⟨by decide, hk0⟩ stX8_9 (Nat.le_of_ble_eq_true rfl) rfl rfl dX8_init_27 (fun M16 hf => ?_)
  refine g_aload_n (pc := 30) C 0 dX8_init_30 rfl rfl ?_
  refine g_bipush (pc := 31) (v := (19 : Int32)) C dX8_init_31 (by decide) ?_
  refine g_newa (pc := 33) (n := 148) (ai := 0) (ty := .int) C hf hL hs rfl rfl tw_116 (fun U cA h => h) rfl rfl (fun M2 h => cell_a0 h) ⟨by decide, by decide⟩ (by decide) ⟨Nat.le_of_ble_eq_true rfl, Nat.le_of_ble_eq_true rfl⟩ dX8_init_33 (fun M17 hk17 hf => ?_)
  refine g_pFR (pc := 35) (n := 149) C hf hin fpX8_19 (by decide) ⟨by decide, hk0⟩ stX8_10 (Nat.le_of_ble_eq_true rfl) rfl rfl dX8_init_35 (fun M18 hf => ?_)
  refine g_aload_n (pc := 38) C 0 dX8_init_38 rfl rfl ?_
  refine g_bipush (pc := 39) (v := (19 : Int32)) C dX8_init_39 (by decide) ?_
  refine g_newa (pc := 41) (n := 149) (ai := 0) (ty := .int) C hf hL hs rfl rfl tw_116 (fun U cA h => h) rfl rfl (fun M2 h => cell_a0 h) ⟨by decide, by decide⟩ (by decide) ⟨Nat.le_of_ble_eq_true rfl, Nat.le_of_ble_eq_true rfl⟩ dX8_init_41 (fun M19 hk19 hf => ?_)
  refine g_pFR (pc := 43) (n := 150) C hf hin fpX8_22 (by decide) ⟨by decide, hk0⟩ stX8_11 (Nat.le_of_ble_eq_true rfl) rfl rfl dX8_init_43 (fun M20 hf => ?_)
  refine g_aload_n (pc := 46) C 0 dX8_init_46 rfl rfl ?_
  refine g_sipush (pc := 47) (v := (190 : Int32)) C dX8_init_47 (by decide) ?_
  refine g_newa (pc := 50) (n := 150) (ai := 0) (ty := .int) C hf hL hs rfl rfl tw_116 (fun U cA h => h) rfl rfl (fun M2 h => cell_a0 h) ⟨by decide, by decide⟩ (by decide) ⟨Nat.le_of_ble_eq_true rfl, Nat.le_of_ble_eq_true rfl⟩ dX8_init_50 (fun M21 hk21 hf => ?_)
  refine g_pFR (pc := 52) (n := 151) C hf hin fpX8_25 (by decide) ⟨by decide, hk0⟩ stX8_12 (Nat.le_of_ble_eq_true rfl) rfl rfl dX8_init_52 (fun M22 hf => ?_)
  refine g_aload_n (pc := 55) C 0 dX8_init_55 rfl rfl ?_
  refine g_bipush (pc := 56) (v := (38 : Int32)) C dX8_init_56 (by decide) ?_
  refine g_newa (pc := 58) (n := 151) (ai := 0) (ty := .int) C hf hL hs rfl rfl tw_116 (fun U cA h => h) rfl rfl (fun M2 h => cell_a0 h) ⟨by decide, by decide⟩ (by decide) ⟨Nat.le_of_ble_eq_true rfl, Nat.le_of_ble_eq_true rfl⟩ dX8_init_58 (fun M23 hk23 hf => ?_)
  refine g_pFR (pc := 60) (n := 152) C hf hin fpX8_28 (by decide) ⟨by decide, hk0⟩ stX8_14 (Nat.le_of_ble_eq_true rfl) rfl rfl dX8_init_60 (fun M24 hf => ?_)
  refine g_aload_n (pc := 63) C 0 dX8_init_63 rfl rfl ?_
  refine g_iconst (pc := 64) (v := (2 : Int32)) C dX8_init_64 (by decide) ?_
  refine g_newa (pc := 65) (n := 152) (ai := 2) (ty := .boolean) C hf hL hs rfl rfl tw_167 (fun U cA h => h) rfl rfl (fun M2 h => cell_a2 h) ⟨by decide, by decide⟩ (by decide) ⟨Nat.le_of_ble_eq_true rfl, Nat.le_of_ble_eq_true rfl⟩ dX8_init_65 (fun M25 hk25 hf => ?_)
  refine g_pFR (pc := 67) (n := 153) C hf hin fpX8_31 (by decide) ⟨by decide, hk0⟩ stX8_15 (Nat.le_of_ble_eq_true rfl) rfl rfl dX8_init_67 (fun M26 hf => ?_)
  refine g_aload_n (pc := 70) C 0 dX8_init_70 rfl rfl ?_
  refine g_bipush (pc := 71) (v := (6 : Int32)) C dX8_init_71 (by decide) ?_
  refine g_newa (pc := 73) (n := 153) (ai := 0) (ty := .int) C hf hL hs rfl rfl tw_116 (fun U cA h => h) rfl rfl (fun M2 h => cell_a0 h) ⟨by decide, by decide⟩ (by decide) ⟨Nat.le_of_ble_eq_true rfl, Nat.le_of_ble_eq_true rfl⟩ dX8_init_73 (fun M27 hk27 hf => ?_)
  refine g_pFR (pc := 75) (n := 154) C hf hin fpX8_35 (by decide) ⟨by decide, hk0⟩ stX8_16 (Nat.le_of_ble_eq_true rfl) rfl rfl dX8_init_75 (fun M28 hf => ?_)
  refine g_aload_n (pc := 78) C 0 dX8_init_78 rfl rfl ?_
  refine g_bipush (pc := 79) (v := (6 : Int32)) C dX8_init_79 (by decide) ?_
  refine g_newa (pc := 81) (n := 154) (ai := 0) (ty := .int) C hf hL hs rfl rfl tw_116 (fun U cA h => h) rfl rfl (fun M2 h => cell_a0 h) ⟨by decide, by decide⟩ (by decide) ⟨Nat.le_of_ble_eq_true rfl, Nat.le_of_ble_eq_true rfl⟩ dX8_init_81 (fun M29 hk29 hf => ?_)
  refine g_pFR (pc := 83) (n := 155) C hf hin fpX8_38 (by decide) ⟨by decide, hk0⟩ stX8_17 (Nat.le_of_ble_eq_true rfl) rfl rfl dX8_init_83 (fun M30 hf => ?_)
  refine g_aload_n (pc := 86) C 0 dX8_init_86 rfl rfl ?_
  refine g_bipush (pc := 87) (v := (6 : Int32)) C dX8_init_87 (by decide) ?_
  refine g_newa (pc := 89) (n := 155) (ai := 0) (ty := .int) C hf hL hs rfl rfl tw_116 (fun U cA h => h) rfl rfl (fun M2 h => cell_a0 h) ⟨by decide, by decide⟩ (by decide) ⟨Nat.le_of_ble_eq_true rfl, Nat.le_of_ble_eq_true rfl⟩ dX8_init_89 (fun M31 hk31 hf => ?_)
  refine g_pFR (pc := 91) (n := 156) C hf hin fpX8_41 (by decide) ⟨by decide, hk0⟩ stX8_18 (Nat.le_of_ble_eq_true rfl) rfl rfl dX8_init_91 (fun M32 hf => ?_)
  refine g_aload_n (pc := 94) C 0 dX8_init_94 rfl rfl ?_
  refine g_bipush (pc := 95) (v := (36 : Int32)) C dX8_init_95 (by decide) ?_
  refine g_newa (pc := 97) (n := 156) (ai := 0) (ty := .int) C hf hL hs rfl rfl tw_116 (fun U cA h => h) rfl rfl (fun M2 h => cell_a0 h) ⟨by decide, by decide⟩ (by decide) ⟨Nat.le_of_ble_eq_true rfl, Nat.le_of_ble_eq_true rfl⟩ dX8_init_97 (fun M33 hk33 hf => ?_)
  refine g_pFR (pc := 99) (n := 157) C hf hin fpX8_44 (by decide) ⟨by decide, hk0⟩ stX8_20 (Nat.le_of_ble_eq_true rfl) rfl rfl dX8_init_99 (fun M34 hf => ?_)
  refine g_aload_n (pc := 102) C 0 dX8_init_102 rfl rfl ?_
  refine g_bipush (pc := 103) (v := (8 : Int32)) C dX8_init_103 (by decide) ?_
  refine g_newa (pc := 105) (n := 157) (ai := 0) (ty := .int) C hf hL hs rfl rfl tw_116 (fun U cA h => h) rfl rfl (fun M2 h => cell_a0 h) ⟨by decide, by decide⟩ (by decide) ⟨Nat.le_of_ble_eq_true rfl, Nat.le_of_ble_eq_true rfl⟩ dX8_init_105 (fun M35 hk35 hf => ?_)
  refine g_pFR (pc := 107) (n := 158) C hf hin fpX8_47 (by decide) ⟨by decide, hk0⟩ stX8_21 (Nat.le_of_ble_eq_true rfl) rfl rfl dX8_init_107 (fun M36 hf => ?_)
  refine g_aload_n (pc := 110) C 0 dX8_init_110 rfl rfl ?_
  obtain ⟨M37, h37, hf⟩ := ob hf
  refine g_resV (pc := 111) (n := NN) C (rnV (As := []) (st := []) C (c_X8_begins C.2.2.2.2.2.1 ⟨by decide, hk0⟩ h37) lkX8_50 rfl (by decide) ⟨by decide, hk0⟩ rfl rfl (Nat.le_of_ble_eq_true rfl) ⟨⟨rfl, rfl⟩, Nat.le_of_ble_eq_true rfl, Nat.le_of_ble_eq_true rfl⟩ ⟨Nat.le_of_ble_eq_true rfl, Nat.le_of_ble_eq_true rfl⟩ dX8_init_111) ?_
  refine g_aload_n (pc := 114) C 0 dX8_init_114 rfl rfl ?_
  obtain ⟨M38, h38, hf⟩ := ob hf
  refine g_resV (pc := 115) (n := NN) C (rnV (As := []) (st := []) C (c_X8_settles C.2.2.2.2.2.1 ⟨by decide, hk0⟩ h38) lkX8_53 rfl (by decide) ⟨by decide, hk0⟩ rfl rfl (Nat.le_of_ble_eq_true rfl) ⟨⟨rfl, rfl⟩, Nat.le_of_ble_eq_true rfl, Nat.le_of_ble_eq_true rfl⟩ ⟨Nat.le_of_ble_eq_true rfl, Nat.le_of_ble_eq_true rfl⟩ dX8_init_115) ?_
  exact g_vret C hf dX8_init_118

theorem c_X8_init {l : Launch} {D : va_G} {cy : Nat → ClassId} {Λ : Nat → Nat} (hi : ∀ i j : Nat, Λ i = Λ j → i = j) (hL : ∀ k : Nat, Λ (k + 1) = Λ k + 1) {M M9 : Mem} (hk0 : kd 144 = 9) (hf : m_X8_init M 144 = some M9) : CtC l yX8_init cX8_init 1 none { frames := 1, cells := 13, slots := 730, locals := 21 } D cy Λ [.ref (Λ 144)] 145 M 13 730 (QcV D cy Λ 158 M9) := entC (by decide) hi (Nat.le_of_ble_eq_true rfl) (fun p e s m args below meth c hs hin C => w_X8_init C hL hs hin hk0 hf)
