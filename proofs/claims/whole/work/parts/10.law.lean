def R_law : String := "StyleTreeLaw"
def lw_P (b : Addr) (xs : List Int32) (args : Array Value) (s : State) : Prop := args = #[.ref b] ∧ s.IntsAt b xs ∧ xs.length ≤ 2048 ∧ (Jvm.Cond.and given_1 narrow_1).before args s = true
def lw_Q (_ : Array Value) (s : State) (o : Outcome) (t : State) : Prop := o = .returned (some (.int 1)) ∧ Framed s o t [] 600000 7302250
def lw_Z (below : List Frame) (a : Array Value) (s : State) : State → Prop := fun t => ∃ o, t.status = .running ∧ Ended t below o ∧ lw_Q a s o t
/-- the law's own end, with 1 on the stack, nothing written that was there before, its room as the claim has it -/
theorem lw_ret {p : Program} {l : Launch} {e : Env} {s : State} {m : MethodId} {below : List Frame} {meth : Method} {c : Code} {b : Nat} (hx : p.tables.exec = Jvm.exec) (hb : c.code = code) (hr : meth.sig.returnType = ret) (hlocks : meth.locks = false) {pc : Nat} {H : Heap} {ls : Array Slot} (hdg : decode code pc = .ok (.ireturn, 1)) : W p l e room_1 s m #[Value.ref b] below meth c H [] 600000 7302250 (lw_Z below #[Value.ref b] s) (F0 m pc ls [.int 1]) := by
  intro T hT X
  obtain ⟨fs, hret, hrun, hended, hW, hframe⟩ := X.leave (v := some (.int 1)) (hlocks := hlocks) (fun h => by rw [hr] at h; cases h)
  have hmeth' : T.vm.method? m = some meth := X.method'
  refine ⟨T.setFrames fs, ?_, .returned (some (.int 1)), hrun, hended, rfl, ⟨_, rfl⟩, hW, hframe⟩
  jvm_step X.here [X.here.top, hx, hb, hdg, hmeth', hr, ret, narrow_b1]
  (try refine ⟨rfl, ?_⟩); (try refine ⟨rfl, ?_⟩)
  first | (intro acts; rw [hret _ acts rfl rfl rfl]) | rw [hret _ _ rfl rfl rfl]
  exact Steps.refl _
/-- what holds at the law's entry: the machine, the code, the tables' words (any of lw_tbl by 'hts w (by decide +kernel)'), the script of L ints xs at the cell b, what the Statement gives of the start (any of its parts by flat_of_before) -/
def lw_At (p : Program) (s : State) (m : MethodId) (meth : Method) (c : Code) (b L : Nat) (xs : Nat → Int32) : Prop :=
  p.tables.exec = Jvm.exec ∧ c.code = code ∧ meth.sig.returnType = ret ∧ c.maxLocals = 4 ∧ s.vm.findClass R_law = some m.cls ∧ (∀ w ∈ lw_tbl, w.before #[Value.ref b] s = true) ∧ va_X b L xs s s.heap ∧ b < s.heap.size ∧ meth.locks = false ∧ (Jvm.Cond.and given_1 narrow_1).before #[Value.ref b] s = true

def sx (L : Nat) (xs : Nat → Int32) (i : Int32) : Option Int32 := if ¬ (i < 0 ∨ L ≤ i.toNatClampNeg) then some (xs i.toNatClampNeg) else none
theorem isC : Is NN 0 8 := ⟨by decide, by decide⟩
theorem isM : Is NN 144 9 := ⟨by decide, by decide⟩
section LAW
variable {p : Program} {l : Launch} {e : Env} {R : Room} {s : State} {m : MethodId} {args : Array Value} {below : List Frame} {meth : Method} {c : Code} {D : va_G} {cy : Nat → ClassId} {Λ : Nat → Nat} {A : Nat → Prop} {nL cells slots n : Nat} {Q : State → Prop} {M : Mem} {pc : Nat} {lv : List (Nat × Value)} {st : List Value} {cc : ByteArray} {own : String} {ret0 : Option FieldType} {x : Int32} {α : Type} {r : α} {b L : Nat} {xs : Nat → Int32}
theorem g_sld {f : Int32 → Option α} (C : Cx p s m args meth c cc nL own ret0 D cy Λ A) (hf : (sx L xs x).bind f = some r) (hX : va_X b L xs s s.heap) (hbl : b < s.heap.size) (hbA : ¬ A b) (d : decode cc pc = .ok (.iaload, 1)) (kk : ∀ z : Int32, f z = some r → GG p l e R s m args below meth c D cy Λ A nL cells slots Q n M (pc + 1) lv (.int z :: st)) : GG p l e R s m args below meth c D cy Λ A nL cells slots Q n M pc lv (.int x :: .ref b :: st) := fun H locs ls hP hS hl => by
  obtain ⟨z, h1, h2⟩ := ob hf
  unfold sx at h1
  split at h1
  · rename_i q
    cases h1
    exact va_sld C.1.1 C.1.2.1 hX hbl hbA hS q d (kk _ h2 H locs ls hP hS hl)
  · cases h1
theorem g_slen (C : Cx p s m args meth c cc nL own ret0 D cy Λ A) (hX : va_X b L xs s s.heap) (hbl : b < s.heap.size) (hbA : ¬ A b) (d : decode cc pc = .ok (.arraylength, 1)) (kk : GG p l e R s m args below meth c D cy Λ A nL cells slots Q n M (pc + 1) lv (.int (nI L) :: st)) : GG p l e R s m args below meth c D cy Λ A nL cells slots Q n M pc lv (.ref b :: st) := fun H locs ls hP hS hl =>
  va_slen C.1.1 C.1.2.1 hX hbl hbA hS d (kk H locs ls hP hS hl)
theorem g_lret (C : Cx p s m #[Value.ref b] meth c code nL own ret D cy Λ (AA Λ s.heap.size)) (hge : ∀ k : Nat, s.heap.size ≤ Λ k) (d : decode code pc = .ok (.ireturn, 1)) : GG p l e room_1 s m #[Value.ref b] below meth c D cy Λ (AA Λ s.heap.size) nL 158 1773 (lw_Z below #[Value.ref b] s) n M pc lv [.int 1] := fun H locs ls hP hS hl => by
  refine va_forget (fun q hq => ?_) ?_
  · rcases hS.2.2 q hq with ⟨k, h⟩ | h
    · rw [← h]; exact hge k
    · exact h
  · refine W.widen (k := 600000) (n := 7302250) (Nat.le_of_ble_eq_true rfl) (Nat.le_of_ble_eq_true rfl) ?_
    exact lw_ret C.1.1 C.1.2.1 C.2.1 C.2.2.1 d
end LAW
theorem lkL_13 : LkV RL 13 yX7_type cX7_type 2 (some .int) 1 := ⟨⟨tw_319, tw_320, tw_321, tw_61, tw_322⟩, by decide +kernel⟩
theorem lkL_17 : LkV RL 17 yX8_type cX8_type 2 (some .int) 1 := ⟨⟨tw_764, tw_765, tw_766, tw_69, tw_767⟩, by decide +kernel⟩
theorem lkL_18 : LkV RL 18 yX7_clear cX7_clear 2 (some .int) 0 := ⟨⟨tw_326, tw_327, tw_328, tw_61, tw_329⟩, by decide +kernel⟩
theorem lkL_22 : LkV RL 22 yX8_clear cX8_clear 2 (some .int) 0 := ⟨⟨tw_771, tw_772, tw_773, tw_69, tw_774⟩, by decide +kernel⟩
theorem lkL_23 : LkV RL 23 yX7_page cX7_page 2 (some .int) 0 := ⟨⟨tw_330, tw_331, tw_332, tw_61, tw_333⟩, by decide +kernel⟩
theorem lkL_26 : LkV RL 26 yX8_page cX8_page 3 (some .int) 0 := ⟨⟨tw_775, tw_776, tw_777, tw_69, tw_778⟩, by decide +kernel⟩
theorem lkL_27 : LkV RL 27 yX7_node cX7_node 3 (some .int) 2 := ⟨⟨tw_504, tw_505, tw_506, tw_61, tw_507⟩, by decide +kernel⟩
theorem lkL_31 : LkV RL 31 yX8_node cX8_node 3 (some .int) 2 := ⟨⟨tw_825, tw_826, tw_827, tw_69, tw_828⟩, by decide +kernel⟩
theorem lkL_32 : LkV RL 32 yX7_rule cX7_rule 4 (some .int) 2 := ⟨⟨tw_528, tw_529, tw_530, tw_61, tw_531⟩, by decide +kernel⟩
theorem lkL_35 : LkV RL 35 yX8_rule cX8_rule 3 (some .int) 2 := ⟨⟨tw_884, tw_885, tw_886, tw_69, tw_887⟩, by decide +kernel⟩
theorem lkL_36 : LkV RL 36 yX7_toggles cX7_toggles 4 (some .int) 2 := ⟨⟨tw_537, tw_538, tw_539, tw_61, tw_540⟩, by decide +kernel⟩
theorem lkL_39 : LkV RL 39 yX8_toggles cX8_toggles 3 (some .int) 2 := ⟨⟨tw_892, tw_893, tw_894, tw_69, tw_895⟩, by decide +kernel⟩
theorem lkL_40 : LkV RL 40 yX7_tags cX7_tags 5 (some .int) 2 := ⟨⟨tw_564, tw_565, tw_566, tw_61, tw_567⟩, by decide +kernel⟩
theorem lkL_43 : LkV RL 43 yX8_tags cX8_tags 4 (some .int) 2 := ⟨⟨tw_903, tw_904, tw_905, tw_69, tw_906⟩, by decide +kernel⟩
theorem lkL_44 : LkV RL 44 yX7_switches cX7_switches 3 (some .int) 1 := ⟨⟨tw_568, tw_569, tw_570, tw_61, tw_571⟩, by decide +kernel⟩
theorem lkL_47 : LkV RL 47 yX8_switches cX8_switches 2 (some .int) 1 := ⟨⟨tw_907, tw_908, tw_909, tw_69, tw_910⟩, by decide +kernel⟩
theorem lkL_48 : LkV RL 48 yX7_undo cX7_undo 2 (some .int) 0 := ⟨⟨tw_572, tw_573, tw_574, tw_61, tw_575⟩, by decide +kernel⟩
theorem lkL_51 : LkV RL 51 yX8_undo cX8_undo 2 (some .int) 0 := ⟨⟨tw_911, tw_912, tw_913, tw_69, tw_914⟩, by decide +kernel⟩
theorem lkL_52 : LkV RL 52 yX7_value cX7_value 3 (some .int) 2 := ⟨⟨tw_580, tw_581, tw_582, tw_61, tw_583⟩, by decide +kernel⟩
theorem lkL_55 : LkV RL 55 yX8_value cX8_value 3 (some .int) 2 := ⟨⟨tw_915, tw_916, tw_917, tw_69, tw_918⟩, by decide +kernel⟩
theorem lkL_56 : LkV RL 56 yX7_winner cX7_winner 7 (some .int) 3 := ⟨⟨tw_589, tw_590, tw_591, tw_61, tw_592⟩, by decide +kernel⟩
theorem lkL_60 : LkV RL 60 yX8_winner cX8_winner 4 (some .int) 3 := ⟨⟨tw_919, tw_920, tw_921, tw_69, tw_922⟩, by decide +kernel⟩
theorem lkL_61 : LkV RL 61 yX7_source cX7_source 3 (some .int) 2 := ⟨⟨tw_595, tw_596, tw_597, tw_61, tw_598⟩, by decide +kernel⟩
theorem lkL_64 : LkV RL 64 yX8_source cX8_source 3 (some .int) 2 := ⟨⟨tw_923, tw_924, tw_925, tw_69, tw_926⟩, by decide +kernel⟩
theorem lkL_65 : LkV RL 65 yX7_change cX7_change 4 (some .int) 3 := ⟨⟨tw_603, tw_604, tw_605, tw_61, tw_606⟩, by decide +kernel⟩
theorem lkL_68 : LkV RL 68 yX8_change cX8_change 4 (some .int) 3 := ⟨⟨tw_927, tw_928, tw_929, tw_69, tw_930⟩, by decide +kernel⟩
theorem lkL_69 : LkV RL 69 yX7_wanted cX7_wanted 5 (some .int) 3 := ⟨⟨tw_625, tw_626, tw_627, tw_61, tw_628⟩, by decide +kernel⟩
theorem lkL_72 : LkV RL 72 yX8_wanted cX8_wanted 6 (some .int) 3 := ⟨⟨tw_939, tw_940, tw_941, tw_69, tw_942⟩, by decide +kernel⟩
theorem lkL_73 : LkV RL 73 yX7_sees cX7_sees 4 (some .int) 3 := ⟨⟨tw_629, tw_630, tw_631, tw_61, tw_632⟩, by decide +kernel⟩
theorem lkL_76 : LkV RL 76 yX8_sees cX8_sees 4 (some .int) 3 := ⟨⟨tw_947, tw_948, tw_949, tw_69, tw_950⟩, by decide +kernel⟩
theorem lkL_77 : LkV RL 77 yX7_forget cX7_forget 2 (some .int) 0 := ⟨⟨tw_638, tw_639, tw_640, tw_61, tw_641⟩, by decide +kernel⟩
theorem lkL_80 : LkV RL 80 yX8_forget cX8_forget 2 (some .int) 0 := ⟨⟨tw_951, tw_952, tw_953, tw_69, tw_954⟩, by decide +kernel⟩
theorem lkL_81 : LkV RL 81 yX7_unseen cX7_unseen 3 (some .int) 0 := ⟨⟨tw_642, tw_643, tw_644, tw_61, tw_645⟩, by decide +kernel⟩
theorem lkL_84 : LkV RL 84 yX8_unseen cX8_unseen 1 (some .int) 0 := ⟨⟨tw_955, tw_956, tw_957, tw_69, tw_958⟩, by decide +kernel⟩
theorem lkL_85 : LkV RL 85 yX7_ask cX7_ask 6 (some .int) 0 := ⟨⟨tw_651, tw_652, tw_653, tw_61, tw_654⟩, by decide +kernel⟩
theorem lkL_88 : LkV RL 88 yX8_ask cX8_ask 7 (some .int) 0 := ⟨⟨tw_963, tw_964, tw_965, tw_69, tw_966⟩, by decide +kernel⟩
theorem lkL_89 : LkV RL 89 yX7_keep cX7_keep 2 (some .int) 1 := ⟨⟨tw_666, tw_667, tw_668, tw_61, tw_669⟩, by decide +kernel⟩
theorem lkL_92 : LkV RL 92 yX8_keep cX8_keep 3 (some .int) 1 := ⟨⟨tw_967, tw_968, tw_969, tw_69, tw_970⟩, by decide +kernel⟩
theorem lkL_93 : LkV RL 93 yX7_back cX7_back 2 (some .int) 1 := ⟨⟨tw_670, tw_671, tw_672, tw_61, tw_673⟩, by decide +kernel⟩
theorem lkL_96 : LkV RL 96 yX8_back cX8_back 3 (some .int) 1 := ⟨⟨tw_971, tw_972, tw_973, tw_69, tw_974⟩, by decide +kernel⟩
theorem lkL_97 : LkV RL 97 yX7_count cX7_count 2 (some .int) 1 := ⟨⟨tw_674, tw_675, tw_676, tw_61, tw_677⟩, by decide +kernel⟩
theorem lkL_100 : LkV RL 100 yX8_count cX8_count 2 (some .int) 1 := ⟨⟨tw_975, tw_976, tw_977, tw_69, tw_978⟩, by decide +kernel⟩
def m_L_law_L18 (L : Nat) (xs : Nat → Int32) : Nat → Mem → Int32 → Option Int32
  | 0, _, _ => none
  | fu + 1, M, x3 =>
    if ((nI L) - (4 : Int32)) < x3 then
      some 1
    else
    (sx L xs x3).bind fun v11 =>
    if (v11 &&& (31 : Int32)) = (0 : Int32) then
      (sx L xs (x3 + (1 : Int32))).bind fun v12 =>
      b2 (m_X7_type M 0 v12) fun r13 M13 =>
      (sx L xs (x3 + (1 : Int32))).bind fun v14 =>
      b2 (m_X8_type M13 144 v14) fun r15 M15 =>
      if r13 = r15 then
        m_L_law_L18 L xs fu M15 (x3 + (4 : Int32))
      else
      some 0
    else
    if (v11 &&& (31 : Int32)) = (1 : Int32) then
      b2 (m_X7_clear M 0) fun r16 M16 =>
      b2 (m_X8_clear M16 144) fun r17 M17 =>
      if r16 = r17 then
        m_L_law_L18 L xs fu M17 (x3 + (4 : Int32))
      else
      some 0
    else
    if (v11 &&& (31 : Int32)) = (2 : Int32) then
      b2 (m_X7_page M 0) fun r18 M18 =>
      b2 (m_X8_page M18 144) fun r19 M19 =>
      if r18 = r19 then
        m_L_law_L18 L xs fu M19 (x3 + (4 : Int32))
      else
      some 0
    else
    if (v11 &&& (31 : Int32)) = (3 : Int32) then
      (sx L xs (x3 + (1 : Int32))).bind fun v20 =>
      (sx L xs (x3 + (2 : Int32))).bind fun v21 =>
      (m_X7_node M 0 v20 v21).bind fun r22 =>
      (sx L xs (x3 + (1 : Int32))).bind fun v23 =>
      (sx L xs (x3 + (2 : Int32))).bind fun v24 =>
      b2 (m_X8_node M 144 v23 v24) fun r25 M25 =>
      if r22 = r25 then
        m_L_law_L18 L xs fu M25 (x3 + (4 : Int32))
      else
      some 0
    else
    if (v11 &&& (31 : Int32)) = (4 : Int32) then
      (sx L xs (x3 + (1 : Int32))).bind fun v26 =>
      (sx L xs (x3 + (2 : Int32))).bind fun v27 =>
      (m_X7_rule M 0 v26 v27).bind fun r28 =>
      (sx L xs (x3 + (1 : Int32))).bind fun v29 =>
      (sx L xs (x3 + (2 : Int32))).bind fun v30 =>
      b2 (m_X8_rule M 144 v29 v30) fun r31 M31 =>
      if r28 = r31 then
        m_L_law_L18 L xs fu M31 (x3 + (4 : Int32))
      else
      some 0
    else
    if (v11 &&& (31 : Int32)) = (5 : Int32) then
      (sx L xs (x3 + (1 : Int32))).bind fun v32 =>
      (sx L xs (x3 + (2 : Int32))).bind fun v33 =>
      b2 (m_X7_toggles M 0 v32 v33) fun r34 M34 =>
      (sx L xs (x3 + (1 : Int32))).bind fun v35 =>
      (sx L xs (x3 + (2 : Int32))).bind fun v36 =>
      b2 (m_X8_toggles M34 144 v35 v36) fun r37 M37 =>
      if r34 = r37 then
        m_L_law_L18 L xs fu M37 (x3 + (4 : Int32))
      else
      some 0
    else
    if (v11 &&& (31 : Int32)) = (6 : Int32) then
      (sx L xs (x3 + (1 : Int32))).bind fun v38 =>
      (sx L xs (x3 + (2 : Int32))).bind fun v39 =>
      b2 (m_X7_tags M 0 v38 v39) fun r40 M40 =>
      (sx L xs (x3 + (1 : Int32))).bind fun v41 =>
      (sx L xs (x3 + (2 : Int32))).bind fun v42 =>
      b2 (m_X8_tags M40 144 v41 v42) fun r43 M43 =>
      if r40 = r43 then
        m_L_law_L18 L xs fu M43 (x3 + (4 : Int32))
      else
      some 0
    else
    if (v11 &&& (31 : Int32)) = (7 : Int32) then
      (sx L xs (x3 + (1 : Int32))).bind fun v44 =>
      b2 (m_X7_switches M 0 v44) fun r45 M45 =>
      (sx L xs (x3 + (1 : Int32))).bind fun v46 =>
      b2 (m_X8_switches M45 144 v46) fun r47 M47 =>
      if r45 = r47 then
        m_L_law_L18 L xs fu M47 (x3 + (4 : Int32))
      else
      some 0
    else
    if (v11 &&& (31 : Int32)) = (8 : Int32) then
      b2 (m_X7_undo M 0) fun r48 M48 =>
      b2 (m_X8_undo M48 144) fun r49 M49 =>
      if r48 = r49 then
        m_L_law_L18 L xs fu M49 (x3 + (4 : Int32))
      else
      some 0
    else
    if (v11 &&& (31 : Int32)) = (9 : Int32) then
      (sx L xs (x3 + (1 : Int32))).bind fun v50 =>
      (sx L xs (x3 + (2 : Int32))).bind fun v51 =>
      (m_X7_value M 0 v50 v51).bind fun r52 =>
      (sx L xs (x3 + (1 : Int32))).bind fun v53 =>
      (sx L xs (x3 + (2 : Int32))).bind fun v54 =>
      b2 (m_X8_value M 144 v53 v54) fun r55 M55 =>
      if r52 = r55 then
        m_L_law_L18 L xs fu M55 (x3 + (4 : Int32))
      else
      some 0
    else
    if (v11 &&& (31 : Int32)) = (10 : Int32) then
      (sx L xs (x3 + (1 : Int32))).bind fun v56 =>
      (sx L xs (x3 + (2 : Int32))).bind fun v57 =>
      (sx L xs (x3 + (3 : Int32))).bind fun v58 =>
      (m_X7_winner M 0 v56 v57 v58).bind fun r59 =>
      (sx L xs (x3 + (1 : Int32))).bind fun v60 =>
      (sx L xs (x3 + (2 : Int32))).bind fun v61 =>
      (sx L xs (x3 + (3 : Int32))).bind fun v62 =>
      b2 (m_X8_winner M 144 v60 v61 v62) fun r63 M63 =>
      if r59 = r63 then
        m_L_law_L18 L xs fu M63 (x3 + (4 : Int32))
      else
      some 0
    else
    if (v11 &&& (31 : Int32)) = (11 : Int32) then
      (sx L xs (x3 + (1 : Int32))).bind fun v64 =>
      (sx L xs (x3 + (2 : Int32))).bind fun v65 =>
      (m_X7_source M 0 v64 v65).bind fun r66 =>
      (sx L xs (x3 + (1 : Int32))).bind fun v67 =>
      (sx L xs (x3 + (2 : Int32))).bind fun v68 =>
      b2 (m_X8_source M 144 v67 v68) fun r69 M69 =>
      if r66 = r69 then
        m_L_law_L18 L xs fu M69 (x3 + (4 : Int32))
      else
      some 0
    else
    if (v11 &&& (31 : Int32)) = (12 : Int32) then
      (sx L xs (x3 + (1 : Int32))).bind fun v70 =>
      (sx L xs (x3 + (2 : Int32))).bind fun v71 =>
      (sx L xs (x3 + (3 : Int32))).bind fun v72 =>
      b2 (m_X7_change M 0 v70 v71 v72) fun r73 M73 =>
      (sx L xs (x3 + (1 : Int32))).bind fun v74 =>
      (sx L xs (x3 + (2 : Int32))).bind fun v75 =>
      (sx L xs (x3 + (3 : Int32))).bind fun v76 =>
      b2 (m_X8_change M73 144 v74 v75 v76) fun r77 M77 =>
      if r73 = r77 then
        m_L_law_L18 L xs fu M77 (x3 + (4 : Int32))
      else
      some 0
    else
    if (v11 &&& (31 : Int32)) = (13 : Int32) then
      (sx L xs (x3 + (1 : Int32))).bind fun v78 =>
      (sx L xs (x3 + (2 : Int32))).bind fun v79 =>
      (sx L xs (x3 + (3 : Int32))).bind fun v80 =>
      b2 (m_X7_wanted M 0 v78 v79 v80) fun r81 M81 =>
      (sx L xs (x3 + (1 : Int32))).bind fun v82 =>
      (sx L xs (x3 + (2 : Int32))).bind fun v83 =>
      (sx L xs (x3 + (3 : Int32))).bind fun v84 =>
      b2 (m_X8_wanted M81 144 v82 v83 v84) fun r85 M85 =>
      if r81 = r85 then
        m_L_law_L18 L xs fu M85 (x3 + (4 : Int32))
      else
      some 0
    else
    if (v11 &&& (31 : Int32)) = (14 : Int32) then
      (sx L xs (x3 + (1 : Int32))).bind fun v86 =>
      (sx L xs (x3 + (2 : Int32))).bind fun v87 =>
      (sx L xs (x3 + (3 : Int32))).bind fun v88 =>
      b2 (m_X7_sees M 0 v86 v87 v88) fun r89 M89 =>
      (sx L xs (x3 + (1 : Int32))).bind fun v90 =>
      (sx L xs (x3 + (2 : Int32))).bind fun v91 =>
      (sx L xs (x3 + (3 : Int32))).bind fun v92 =>
      b2 (m_X8_sees M89 144 v90 v91 v92) fun r93 M93 =>
      if r89 = r93 then
        m_L_law_L18 L xs fu M93 (x3 + (4 : Int32))
      else
      some 0
    else
    if (v11 &&& (31 : Int32)) = (15 : Int32) then
      b2 (m_X7_forget M 0) fun r94 M94 =>
      b2 (m_X8_forget M94 144) fun r95 M95 =>
      if r94 = r95 then
        m_L_law_L18 L xs fu M95 (x3 + (4 : Int32))
      else
      some 0
    else
    if (v11 &&& (31 : Int32)) = (16 : Int32) then
      b2 (m_X7_unseen M 0) fun r96 M96 =>
      b2 (m_X8_unseen M96 144) fun r97 M97 =>
      if r96 = r97 then
        m_L_law_L18 L xs fu M97 (x3 + (4 : Int32))
      else
      some 0
    else
    if (v11 &&& (31 : Int32)) = (17 : Int32) then
      b2 (m_X7_ask M 0) fun r98 M98 =>
      b2 (m_X8_ask M98 144) fun r99 M99 =>
      if r98 = r99 then
        m_L_law_L18 L xs fu M99 (x3 + (4 : Int32))
      else
      some 0
    else
    if (v11 &&& (31 : Int32)) = (18 : Int32) then
      (sx L xs (x3 + (1 : Int32))).bind fun v100 =>
      b2 (m_X7_keep M 0 v100) fun r101 M101 =>
      (sx L xs (x3 + (1 : Int32))).bind fun v102 =>
      b2 (m_X8_keep M101 144 v102) fun r103 M103 =>
      if r101 = r103 then
        m_L_law_L18 L xs fu M103 (x3 + (4 : Int32))
      else
      some 0
    else
    if (v11 &&& (31 : Int32)) = (19 : Int32) then
      (sx L xs (x3 + (1 : Int32))).bind fun v104 =>
      b2 (m_X7_back M 0 v104) fun r105 M105 =>
      (sx L xs (x3 + (1 : Int32))).bind fun v106 =>
      b2 (m_X8_back M105 144 v106) fun r107 M107 =>
      if r105 = r107 then
        m_L_law_L18 L xs fu M107 (x3 + (4 : Int32))
      else
      some 0
    else
    if (v11 &&& (31 : Int32)) = (20 : Int32) then
      (sx L xs (x3 + (1 : Int32))).bind fun v108 =>
      (m_X7_count M 0 v108).bind fun r109 =>
      (sx L xs (x3 + (1 : Int32))).bind fun v110 =>
      b2 (m_X8_count M 144 v110) fun r111 M111 =>
      if r109 = r111 then
        m_L_law_L18 L xs fu M111 (x3 + (4 : Int32))
      else
      some 0
    else
    m_L_law_L18 L xs fu M (x3 + (4 : Int32))

set_option maxHeartbeats 4000000 in
theorem w_L_law_L18 {p : Program} {l : Launch} {e : Env} {s : State} {m : MethodId} {below : List Frame} {meth : Method} {c : Code} {D : va_G} {cy : Nat → ClassId} {Λ : Nat → Nat} {b L : Nat} {xs : Nat → Int32} (C : Cx p s m #[Value.ref b] meth c code 4 RL ret D cy Λ (AA Λ s.heap.size)) (hX : va_X b L xs s s.heap) (hbl : b < s.heap.size) (hbA : ¬ AA Λ s.heap.size b) (hge : ∀ k : Nat, s.heap.size ≤ Λ k) : ∀ (fu : Nat) (M : Mem) (x3 : Int32), m_L_law_L18 L xs fu M x3 = some 1 → GG p l e room_1 s m #[Value.ref b] below meth c D cy Λ (AA Λ s.heap.size) 4 158 1773 (lw_Z below #[Value.ref b] s) NN M 18 [(0, .ref b), (1, .ref (Λ 0)), (2, .ref (Λ 144)), (3, .int x3)] [] := by
  intro fu
  induction fu with
  | zero =>
    intro M x3 hf
    cases hf
  | succ fu ih =>
    intro M x3 hf
    unfold m_L_law_L18 at hf
    refine g_iload_n (pc := 18) C 3 dL_law_18 rfl rfl ?_
    refine g_aload_n (pc := 19) C 0 dL_law_19 rfl rfl ?_
    refine g_slen (pc := 20) C hX hbl hbA dL_law_20 ?_
    refine g_iconst (pc := 21) (v := (4 : Int32)) C dL_law_21 (by decide) ?_
    refine g_isub (pc := 22) C dL_law_22 ?_
    refine g_ic_gt (pc := 23) (tgt := 701) C hf dL_law_23 (by decide) (fun hf => ?_) (fun hf => ?_)
    · refine g_iconst (pc := 701) (v := (1 : Int32)) C dL_law_701 (by decide) ?_
      exact g_lret C hge dL_law_702
    refine g_aload_n (pc := 26) C 0 dL_law_26 rfl rfl ?_
    refine g_iload_n (pc := 27) C 3 dL_law_27 rfl rfl ?_
    refine g_sld (pc := 28) C hf hX hbl hbA dL_law_28 (fun v11 hf => ?_)
    refine g_bipush (pc := 29) (v := (31 : Int32)) C dL_law_29 (by decide) ?_
    refine g_iand (pc := 31) C dL_law_31 ?_
    refine g_case hf (fun hx hf => ?_) (fun hx0 hf => ?_)
    · refine g_tin (pc := 32) (tgt := 132) (v := (0 : Int32)) (i := 0) C dL_law_32 hx (by decide) (by decide) rfl (by decide) ?_
      refine g_aload_n (pc := 132) C 1 dL_law_132 rfl rfl ?_
      refine g_aload_n (pc := 133) C 0 dL_law_133 rfl rfl ?_
      refine g_iload_n (pc := 134) C 3 dL_law_134 rfl rfl ?_
      refine g_iconst (pc := 135) (v := (1 : Int32)) C dL_law_135 (by decide) ?_
      refine g_iadd (pc := 136) C dL_law_136 ?_
      refine g_sld (pc := 137) C hf hX hbl hbA dL_law_137 (fun v12 hf => ?_)
      obtain ⟨r13, M13, h13, hf⟩ := ob2 hf
      refine g_resI (pc := 138) C (rnV (As := [.int v12]) (st := []) C (c_X7_type C.2.2.2.2.2.1 isC h13) lkL_13 rfl (by decide) isC rfl rfl (Nat.le_of_ble_eq_true rfl) ⟨⟨rfl, rfl⟩, Nat.le_of_ble_eq_true rfl, Nat.le_of_ble_eq_true rfl⟩ ⟨Nat.le_of_ble_eq_true rfl, Nat.le_of_ble_eq_true rfl⟩ dL_law_138) ?_
      refine g_aload_n (pc := 141) C 2 dL_law_141 rfl rfl ?_
      refine g_aload_n (pc := 142) C 0 dL_law_142 rfl rfl ?_
      refine g_iload_n (pc := 143) C 3 dL_law_143 rfl rfl ?_
      refine g_iconst (pc := 144) (v := (1 : Int32)) C dL_law_144 (by decide) ?_
      refine g_iadd (pc := 145) C dL_law_145 ?_
      refine g_sld (pc := 146) C hf hX hbl hbA dL_law_146 (fun v14 hf => ?_)
      obtain ⟨r15, M15, h15, hf⟩ := ob2 hf
      refine g_resI (pc := 147) C (rnV (As := [.int v14]) (st := [.int r13]) C (c_X8_type C.2.2.2.2.2.1 isM h15) lkL_17 rfl (by decide) isM rfl rfl (Nat.le_of_ble_eq_true rfl) ⟨⟨rfl, rfl⟩, Nat.le_of_ble_eq_true rfl, Nat.le_of_ble_eq_true rfl⟩ ⟨Nat.le_of_ble_eq_true rfl, Nat.le_of_ble_eq_true rfl⟩ dL_law_147) ?_
      refine g_ic_eq (pc := 150) (tgt := 695) C hf dL_law_150 (by decide) (fun hf => ?_) (fun hf => ?_)
      · refine g_iinc (pc := 695) (v := (x3 + (4 : Int32))) (lv2 := [(3, .int (x3 + (4 : Int32))), (0, .ref b), (1, .ref (Λ 0)), (2, .ref (Λ 144))]) C 3 dL_law_695 rfl rfl (by decide) rfl ?_
        refine g_goto (pc := 698) (tgt := 18) C dL_law_698 (by decide) ?_
        refine g_sub [1, 2, 3, 0] rfl ?_
        exact ih M15 (x3 + (4 : Int32))  hf
      refine g_iconst (pc := 153) (v := (0 : Int32)) C dL_law_153 (by decide) ?_
      exact absurd hf (by decide)
    refine g_case hf (fun hx hf => ?_) (fun hx1 hf => ?_)
    · refine g_tin (pc := 32) (tgt := 155) (v := (1 : Int32)) (i := 0) C dL_law_32 hx (by decide) (by decide) rfl (by decide) ?_
      refine g_aload_n (pc := 155) C 1 dL_law_155 rfl rfl ?_
      obtain ⟨r16, M16, h16, hf⟩ := ob2 hf
      refine g_resI (pc := 156) C (rnV (As := []) (st := []) C (c_X7_clear C.2.2.2.2.2.1 isC h16) lkL_18 rfl (by decide) isC rfl rfl (Nat.le_of_ble_eq_true rfl) ⟨⟨rfl, rfl⟩, Nat.le_of_ble_eq_true rfl, Nat.le_of_ble_eq_true rfl⟩ ⟨Nat.le_of_ble_eq_true rfl, Nat.le_of_ble_eq_true rfl⟩ dL_law_156) ?_
      refine g_aload_n (pc := 159) C 2 dL_law_159 rfl rfl ?_
      obtain ⟨r17, M17, h17, hf⟩ := ob2 hf
      refine g_resI (pc := 160) C (rnV (As := []) (st := [.int r16]) C (c_X8_clear C.2.2.2.2.2.1 isM h17) lkL_22 rfl (by decide) isM rfl rfl (Nat.le_of_ble_eq_true rfl) ⟨⟨rfl, rfl⟩, Nat.le_of_ble_eq_true rfl, Nat.le_of_ble_eq_true rfl⟩ ⟨Nat.le_of_ble_eq_true rfl, Nat.le_of_ble_eq_true rfl⟩ dL_law_160) ?_
      refine g_ic_eq (pc := 163) (tgt := 695) C hf dL_law_163 (by decide) (fun hf => ?_) (fun hf => ?_)
      · refine g_iinc (pc := 695) (v := (x3 + (4 : Int32))) (lv2 := [(3, .int (x3 + (4 : Int32))), (0, .ref b), (1, .ref (Λ 0)), (2, .ref (Λ 144))]) C 3 dL_law_695 rfl rfl (by decide) rfl ?_
        refine g_goto (pc := 698) (tgt := 18) C dL_law_698 (by decide) ?_
        refine g_sub [1, 2, 3, 0] rfl ?_
        exact ih M17 (x3 + (4 : Int32))  hf
      refine g_iconst (pc := 166) (v := (0 : Int32)) C dL_law_166 (by decide) ?_
      exact absurd hf (by decide)
    refine g_case hf (fun hx hf => ?_) (fun hx2 hf => ?_)
    · refine g_tin (pc := 32) (tgt := 168) (v := (2 : Int32)) (i := 0) C dL_law_32 hx (by decide) (by decide) rfl (by decide) ?_
      refine g_aload_n (pc := 168) C 1 dL_law_168 rfl rfl ?_
      obtain ⟨r18, M18, h18, hf⟩ := ob2 hf
      refine g_resI (pc := 169) C (rnV (As := []) (st := []) C (c_X7_page C.2.2.2.2.2.1 isC h18) lkL_23 rfl (by decide) isC rfl rfl (Nat.le_of_ble_eq_true rfl) ⟨⟨rfl, rfl⟩, Nat.le_of_ble_eq_true rfl, Nat.le_of_ble_eq_true rfl⟩ ⟨Nat.le_of_ble_eq_true rfl, Nat.le_of_ble_eq_true rfl⟩ dL_law_169) ?_
      refine g_aload_n (pc := 172) C 2 dL_law_172 rfl rfl ?_
      obtain ⟨r19, M19, h19, hf⟩ := ob2 hf
      refine g_resI (pc := 173) C (rnV (As := []) (st := [.int r18]) C (c_X8_page C.2.2.2.2.2.1 isM h19) lkL_26 rfl (by decide) isM rfl rfl (Nat.le_of_ble_eq_true rfl) ⟨⟨rfl, rfl⟩, Nat.le_of_ble_eq_true rfl, Nat.le_of_ble_eq_true rfl⟩ ⟨Nat.le_of_ble_eq_true rfl, Nat.le_of_ble_eq_true rfl⟩ dL_law_173) ?_
      refine g_ic_eq (pc := 176) (tgt := 695) C hf dL_law_176 (by decide) (fun hf => ?_) (fun hf => ?_)
      · refine g_iinc (pc := 695) (v := (x3 + (4 : Int32))) (lv2 := [(3, .int (x3 + (4 : Int32))), (0, .ref b), (1, .ref (Λ 0)), (2, .ref (Λ 144))]) C 3 dL_law_695 rfl rfl (by decide) rfl ?_
        refine g_goto (pc := 698) (tgt := 18) C dL_law_698 (by decide) ?_
        refine g_sub [1, 2, 3, 0] rfl ?_
        exact ih M19 (x3 + (4 : Int32))  hf
      refine g_iconst (pc := 179) (v := (0 : Int32)) C dL_law_179 (by decide) ?_
      exact absurd hf (by decide)
    refine g_case hf (fun hx hf => ?_) (fun hx3 hf => ?_)
    · refine g_tin (pc := 32) (tgt := 181) (v := (3 : Int32)) (i := 0) C dL_law_32 hx (by decide) (by decide) rfl (by decide) ?_
      refine g_aload_n (pc := 181) C 1 dL_law_181 rfl rfl ?_
      refine g_aload_n (pc := 182) C 0 dL_law_182 rfl rfl ?_
      refine g_iload_n (pc := 183) C 3 dL_law_183 rfl rfl ?_
      refine g_iconst (pc := 184) (v := (1 : Int32)) C dL_law_184 (by decide) ?_
      refine g_iadd (pc := 185) C dL_law_185 ?_
      refine g_sld (pc := 186) C hf hX hbl hbA dL_law_186 (fun v20 hf => ?_)
      refine g_aload_n (pc := 187) C 0 dL_law_187 rfl rfl ?_
      refine g_iload_n (pc := 188) C 3 dL_law_188 rfl rfl ?_
      refine g_iconst (pc := 189) (v := (2 : Int32)) C dL_law_189 (by decide) ?_
      refine g_iadd (pc := 190) C dL_law_190 ?_
      refine g_sld (pc := 191) C hf hX hbl hbA dL_law_191 (fun v21 hf => ?_)
      obtain ⟨r22, h22, hf⟩ := ob hf
      refine g_resI (pc := 192) C (rnV (As := [.int v20, .int v21]) (st := []) C (c_X7_node C.2.2.2.2.2.1 isC h22) lkL_27 rfl (by decide) isC rfl rfl (Nat.le_of_ble_eq_true rfl) ⟨⟨rfl, rfl⟩, Nat.le_of_ble_eq_true rfl, Nat.le_of_ble_eq_true rfl⟩ ⟨Nat.le_of_ble_eq_true rfl, Nat.le_of_ble_eq_true rfl⟩ dL_law_192) ?_
      refine g_aload_n (pc := 195) C 2 dL_law_195 rfl rfl ?_
      refine g_aload_n (pc := 196) C 0 dL_law_196 rfl rfl ?_
      refine g_iload_n (pc := 197) C 3 dL_law_197 rfl rfl ?_
      refine g_iconst (pc := 198) (v := (1 : Int32)) C dL_law_198 (by decide) ?_
      refine g_iadd (pc := 199) C dL_law_199 ?_
      refine g_sld (pc := 200) C hf hX hbl hbA dL_law_200 (fun v23 hf => ?_)
      refine g_aload_n (pc := 201) C 0 dL_law_201 rfl rfl ?_
      refine g_iload_n (pc := 202) C 3 dL_law_202 rfl rfl ?_
      refine g_iconst (pc := 203) (v := (2 : Int32)) C dL_law_203 (by decide) ?_
      refine g_iadd (pc := 204) C dL_law_204 ?_
      refine g_sld (pc := 205) C hf hX hbl hbA dL_law_205 (fun v24 hf => ?_)
      obtain ⟨r25, M25, h25, hf⟩ := ob2 hf
      refine g_resI (pc := 206) C (rnV (As := [.int v23, .int v24]) (st := [.int r22]) C (c_X8_node C.2.2.2.2.2.1 isM h25) lkL_31 rfl (by decide) isM rfl rfl (Nat.le_of_ble_eq_true rfl) ⟨⟨rfl, rfl⟩, Nat.le_of_ble_eq_true rfl, Nat.le_of_ble_eq_true rfl⟩ ⟨Nat.le_of_ble_eq_true rfl, Nat.le_of_ble_eq_true rfl⟩ dL_law_206) ?_
      refine g_ic_eq (pc := 209) (tgt := 695) C hf dL_law_209 (by decide) (fun hf => ?_) (fun hf => ?_)
      · refine g_iinc (pc := 695) (v := (x3 + (4 : Int32))) (lv2 := [(3, .int (x3 + (4 : Int32))), (0, .ref b), (1, .ref (Λ 0)), (2, .ref (Λ 144))]) C 3 dL_law_695 rfl rfl (by decide) rfl ?_
        refine g_goto (pc := 698) (tgt := 18) C dL_law_698 (by decide) ?_
        refine g_sub [1, 2, 3, 0] rfl ?_
        exact ih M25 (x3 + (4 : Int32))  hf
      refine g_iconst (pc := 212) (v := (0 : Int32)) C dL_law_212 (by decide) ?_
      exact absurd hf (by decide)
    refine g_case hf (fun hx hf => ?_) (fun hx4 hf => ?_)
    · refine g_tin (pc := 32) (tgt := 214) (v := (4 : Int32)) (i := 0) C dL_law_32 hx (by decide) (by decide) rfl (by decide) ?_
      refine g_aload_n (pc := 214) C 1 dL_law_214 rfl rfl ?_
      refine g_aload_n (pc := 215) C 0 dL_law_215 rfl rfl ?_
      refine g_iload_n (pc := 216) C 3 dL_law_216 rfl rfl ?_
      refine g_iconst (pc := 217) (v := (1 : Int32)) C dL_law_217 (by decide) ?_
      refine g_iadd (pc := 218) C dL_law_218 ?_
      refine g_sld (pc := 219) C hf hX hbl hbA dL_law_219 (fun v26 hf => ?_)
      refine g_aload_n (pc := 220) C 0 dL_law_220 rfl rfl ?_
      refine g_iload_n (pc := 221) C 3 dL_law_221 rfl rfl ?_
      refine g_iconst (pc := 222) (v := (2 : Int32)) C dL_law_222 (by decide) ?_
      refine g_iadd (pc := 223) C dL_law_223 ?_
      refine g_sld (pc := 224) C hf hX hbl hbA dL_law_224 (fun v27 hf => ?_)
      obtain ⟨r28, h28, hf⟩ := ob hf
      refine g_resI (pc := 225) C (rnV (As := [.int v26, .int v27]) (st := []) C (c_X7_rule C.2.2.2.2.2.1 isC h28) lkL_32 rfl (by decide) isC rfl rfl (Nat.le_of_ble_eq_true rfl) ⟨⟨rfl, rfl⟩, Nat.le_of_ble_eq_true rfl, Nat.le_of_ble_eq_true rfl⟩ ⟨Nat.le_of_ble_eq_true rfl, Nat.le_of_ble_eq_true rfl⟩ dL_law_225) ?_
      refine g_aload_n (pc := 228) C 2 dL_law_228 rfl rfl ?_
      refine g_aload_n (pc := 229) C 0 dL_law_229 rfl rfl ?_
      refine g_iload_n (pc := 230) C 3 dL_law_230 rfl rfl ?_
      refine g_iconst (pc := 231) (v := (1 : Int32)) C dL_law_231 (by decide) ?_
      refine g_iadd (pc := 232) C dL_law_232 ?_
      refine g_sld (pc := 233) C hf hX hbl hbA dL_law_233 (fun v29 hf => ?_)
      refine g_aload_n (pc := 234) C 0 dL_law_234 rfl rfl ?_
      refine g_iload_n (pc := 235) C 3 dL_law_235 rfl rfl ?_
      refine g_iconst (pc := 236) (v := (2 : Int32)) C dL_law_236 (by decide) ?_
      refine g_iadd (pc := 237) C dL_law_237 ?_
      refine g_sld (pc := 238) C hf hX hbl hbA dL_law_238 (fun v30 hf => ?_)
      obtain ⟨r31, M31, h31, hf⟩ := ob2 hf
      refine g_resI (pc := 239) C (rnV (As := [.int v29, .int v30]) (st := [.int r28]) C (c_X8_rule C.2.2.2.2.2.1 isM h31) lkL_35 rfl (by decide) isM rfl rfl (Nat.le_of_ble_eq_true rfl) ⟨⟨rfl, rfl⟩, Nat.le_of_ble_eq_true rfl, Nat.le_of_ble_eq_true rfl⟩ ⟨Nat.le_of_ble_eq_true rfl, Nat.le_of_ble_eq_true rfl⟩ dL_law_239) ?_
      refine g_ic_eq (pc := 242) (tgt := 695) C hf dL_law_242 (by decide) (fun hf => ?_) (fun hf => ?_)
      · refine g_iinc (pc := 695) (v := (x3 + (4 : Int32))) (lv2 := [(3, .int (x3 + (4 : Int32))), (0, .ref b), (1, .ref (Λ 0)), (2, .ref (Λ 144))]) C 3 dL_law_695 rfl rfl (by decide) rfl ?_
        refine g_goto (pc := 698) (tgt := 18) C dL_law_698 (by decide) ?_
        refine g_sub [1, 2, 3, 0] rfl ?_
        exact ih M31 (x3 + (4 : Int32))  hf
      refine g_iconst (pc := 245) (v := (0 : Int32)) C dL_law_245 (by decide) ?_
      exact absurd hf (by decide)
    refine g_case hf (fun hx hf => ?_) (fun hx5 hf => ?_)
    · refine g_tin (pc := 32) (tgt := 247) (v := (5 : Int32)) (i := 0) C dL_law_32 hx (by decide) (by decide) rfl (by decide) ?_
      refine g_aload_n (pc := 247) C 1 dL_law_247 rfl rfl ?_
      refine g_aload_n (pc := 248) C 0 dL_law_248 rfl rfl ?_
      refine g_iload_n (pc := 249) C 3 dL_law_249 rfl rfl ?_
      refine g_iconst (pc := 250) (v := (1 : Int32)) C dL_law_250 (by decide) ?_
      refine g_iadd (pc := 251) C dL_law_251 ?_
      refine g_sld (pc := 252) C hf hX hbl hbA dL_law_252 (fun v32 hf => ?_)
      refine g_aload_n (pc := 253) C 0 dL_law_253 rfl rfl ?_
      refine g_iload_n (pc := 254) C 3 dL_law_254 rfl rfl ?_
      refine g_iconst (pc := 255) (v := (2 : Int32)) C dL_law_255 (by decide) ?_
      refine g_iadd (pc := 256) C dL_law_256 ?_
      refine g_sld (pc := 257) C hf hX hbl hbA dL_law_257 (fun v33 hf => ?_)
      obtain ⟨r34, M34, h34, hf⟩ := ob2 hf
      refine g_resI (pc := 258) C (rnV (As := [.int v32, .int v33]) (st := []) C (c_X7_toggles C.2.2.2.2.2.1 isC h34) lkL_36 rfl (by decide) isC rfl rfl (Nat.le_of_ble_eq_true rfl) ⟨⟨rfl, rfl⟩, Nat.le_of_ble_eq_true rfl, Nat.le_of_ble_eq_true rfl⟩ ⟨Nat.le_of_ble_eq_true rfl, Nat.le_of_ble_eq_true rfl⟩ dL_law_258) ?_
      refine g_aload_n (pc := 261) C 2 dL_law_261 rfl rfl ?_
      refine g_aload_n (pc := 262) C 0 dL_law_262 rfl rfl ?_
      refine g_iload_n (pc := 263) C 3 dL_law_263 rfl rfl ?_
      refine g_iconst (pc := 264) (v := (1 : Int32)) C dL_law_264 (by decide) ?_
      refine g_iadd (pc := 265) C dL_law_265 ?_
      refine g_sld (pc := 266) C hf hX hbl hbA dL_law_266 (fun v35 hf => ?_)
      refine g_aload_n (pc := 267) C 0 dL_law_267 rfl rfl ?_
      refine g_iload_n (pc := 268) C 3 dL_law_268 rfl rfl ?_
      refine g_iconst (pc := 269) (v := (2 : Int32)) C dL_law_269 (by decide) ?_
      refine g_iadd (pc := 270) C dL_law_270 ?_
      refine g_sld (pc := 271) C hf hX hbl hbA dL_law_271 (fun v36 hf => ?_)
      obtain ⟨r37, M37, h37, hf⟩ := ob2 hf
      refine g_resI (pc := 272) C (rnV (As := [.int v35, .int v36]) (st := [.int r34]) C (c_X8_toggles C.2.2.2.2.2.1 isM h37) lkL_39 rfl (by decide) isM rfl rfl (Nat.le_of_ble_eq_true rfl) ⟨⟨rfl, rfl⟩, Nat.le_of_ble_eq_true rfl, Nat.le_of_ble_eq_true rfl⟩ ⟨Nat.le_of_ble_eq_true rfl, Nat.le_of_ble_eq_true rfl⟩ dL_law_272) ?_
      refine g_ic_eq (pc := 275) (tgt := 695) C hf dL_law_275 (by decide) (fun hf => ?_) (fun hf => ?_)
      · refine g_iinc (pc := 695) (v := (x3 + (4 : Int32))) (lv2 := [(3, .int (x3 + (4 : Int32))), (0, .ref b), (1, .ref (Λ 0)), (2, .ref (Λ 144))]) C 3 dL_law_695 rfl rfl (by decide) rfl ?_
        refine g_goto (pc := 698) (tgt := 18) C dL_law_698 (by decide) ?_
        refine g_sub [1, 2, 3, 0] rfl ?_
        exact ih M37 (x3 + (4 : Int32))  hf
      refine g_iconst (pc := 278) (v := (0 : Int32)) C dL_law_278 (by decide) ?_
      exact absurd hf (by decide)
    refine g_case hf (fun hx hf => ?_) (fun hx6 hf => ?_)
    · refine g_tin (pc := 32) (tgt := 280) (v := (6 : Int32)) (i := 0) C dL_law_32 hx (by decide) (by decide) rfl (by decide) ?_
      refine g_aload_n (pc := 280) C 1 dL_law_280 rfl rfl ?_
      refine g_aload_n (pc := 281) C 0 dL_law_281 rfl rfl ?_
      refine g_iload_n (pc := 282) C 3 dL_law_282 rfl rfl ?_
      refine g_iconst (pc := 283) (v := (1 : Int32)) C dL_law_283 (by decide) ?_
      refine g_iadd (pc := 284) C dL_law_284 ?_
      refine g_sld (pc := 285) C hf hX hbl hbA dL_law_285 (fun v38 hf => ?_)
      refine g_aload_n (pc := 286) C 0 dL_law_286 rfl rfl ?_
      refine g_iload_n (pc := 287) C 3 dL_law_287 rfl rfl ?_
      refine g_iconst (pc := 288) (v := (2 : Int32)) C dL_law_288 (by decide) ?_
      refine g_iadd (pc := 289) C dL_law_289 ?_
      refine g_sld (pc := 290) C hf hX hbl hbA dL_law_290 (fun v39 hf => ?_)
      obtain ⟨r40, M40, h40, hf⟩ := ob2 hf
      refine g_resI (pc := 291) C (rnV (As := [.int v38, .int v39]) (st := []) C (c_X7_tags C.2.2.2.2.2.1 isC h40) lkL_40 rfl (by decide) isC rfl rfl (Nat.le_of_ble_eq_true rfl) ⟨⟨rfl, rfl⟩, Nat.le_of_ble_eq_true rfl, Nat.le_of_ble_eq_true rfl⟩ ⟨Nat.le_of_ble_eq_true rfl, Nat.le_of_ble_eq_true rfl⟩ dL_law_291) ?_
      refine g_aload_n (pc := 294) C 2 dL_law_294 rfl rfl ?_
      refine g_aload_n (pc := 295) C 0 dL_law_295 rfl rfl ?_
      refine g_iload_n (pc := 296) C 3 dL_law_296 rfl rfl ?_
      refine g_iconst (pc := 297) (v := (1 : Int32)) C dL_law_297 (by decide) ?_
      refine g_iadd (pc := 298) C dL_law_298 ?_
      refine g_sld (pc := 299) C hf hX hbl hbA dL_law_299 (fun v41 hf => ?_)
      refine g_aload_n (pc := 300) C 0 dL_law_300 rfl rfl ?_
      refine g_iload_n (pc := 301) C 3 dL_law_301 rfl rfl ?_
      refine g_iconst (pc := 302) (v := (2 : Int32)) C dL_law_302 (by decide) ?_
      refine g_iadd (pc := 303) C dL_law_303 ?_
      refine g_sld (pc := 304) C hf hX hbl hbA dL_law_304 (fun v42 hf => ?_)
      obtain ⟨r43, M43, h43, hf⟩ := ob2 hf
      refine g_resI (pc := 305) C (rnV (As := [.int v41, .int v42]) (st := [.int r40]) C (c_X8_tags C.2.2.2.2.2.1 isM h43) lkL_43 rfl (by decide) isM rfl rfl (Nat.le_of_ble_eq_true rfl) ⟨⟨rfl, rfl⟩, Nat.le_of_ble_eq_true rfl, Nat.le_of_ble_eq_true rfl⟩ ⟨Nat.le_of_ble_eq_true rfl, Nat.le_of_ble_eq_true rfl⟩ dL_law_305) ?_
      refine g_ic_eq (pc := 308) (tgt := 695) C hf dL_law_308 (by decide) (fun hf => ?_) (fun hf => ?_)
      · refine g_iinc (pc := 695) (v := (x3 + (4 : Int32))) (lv2 := [(3, .int (x3 + (4 : Int32))), (0, .ref b), (1, .ref (Λ 0)), (2, .ref (Λ 144))]) C 3 dL_law_695 rfl rfl (by decide) rfl ?_
        refine g_goto (pc := 698) (tgt := 18) C dL_law_698 (by decide) ?_
        refine g_sub [1, 2, 3, 0] rfl ?_
        exact ih M43 (x3 + (4 : Int32))  hf
      refine g_iconst (pc := 311) (v := (0 : Int32)) C dL_law_311 (by decide) ?_
      exact absurd hf (by decide)
    refine g_case hf (fun hx hf => ?_) (fun hx7 hf => ?_)
    · refine g_tin (pc := 32) (tgt := 313) (v := (7 : Int32)) (i := 0) C dL_law_32 hx (by decide) (by decide) rfl (by decide) ?_
      refine g_aload_n (pc := 313) C 1 dL_law_313 rfl rfl ?_
      refine g_aload_n (pc := 314) C 0 dL_law_314 rfl rfl ?_
      refine g_iload_n (pc := 315) C 3 dL_law_315 rfl rfl ?_
      refine g_iconst (pc := 316) (v := (1 : Int32)) C dL_law_316 (by decide) ?_
      refine g_iadd (pc := 317) C dL_law_317 ?_
      refine g_sld (pc := 318) C hf hX hbl hbA dL_law_318 (fun v44 hf => ?_)
      obtain ⟨r45, M45, h45, hf⟩ := ob2 hf
      refine g_resI (pc := 319) C (rnV (As := [.int v44]) (st := []) C (c_X7_switches C.2.2.2.2.2.1 isC h45) lkL_44 rfl (by decide) isC rfl rfl (Nat.le_of_ble_eq_true rfl) ⟨⟨rfl, rfl⟩, Nat.le_of_ble_eq_true rfl, Nat.le_of_ble_eq_true rfl⟩ ⟨Nat.le_of_ble_eq_true rfl, Nat.le_of_ble_eq_true rfl⟩ dL_law_319) ?_
      refine g_aload_n (pc := 322) C 2 dL_law_322 rfl rfl ?_
      refine g_aload_n (pc := 323) C 0 dL_law_323 rfl rfl ?_
      refine g_iload_n (pc := 324) C 3 dL_law_324 rfl rfl ?_
      refine g_iconst (pc := 325) (v := (1 : Int32)) C dL_law_325 (by decide) ?_
      refine g_iadd (pc := 326) C dL_law_326 ?_
      refine g_sld (pc := 327) C hf hX hbl hbA dL_law_327 (fun v46 hf => ?_)
      obtain ⟨r47, M47, h47, hf⟩ := ob2 hf
      refine g_resI (pc := 328) C (rnV (As := [.int v46]) (st := [.int r45]) C (c_X8_switches C.2.2.2.2.2.1 isM h47) lkL_47 rfl (by decide) isM rfl rfl (Nat.le_of_ble_eq_true rfl) ⟨⟨rfl, rfl⟩, Nat.le_of_ble_eq_true rfl, Nat.le_of_ble_eq_true rfl⟩ ⟨Nat.le_of_ble_eq_true rfl, Nat.le_of_ble_eq_true rfl⟩ dL_law_328) ?_
      refine g_ic_eq (pc := 331) (tgt := 695) C hf dL_law_331 (by decide) (fun hf => ?_) (fun hf => ?_)
      · refine g_iinc (pc := 695) (v := (x3 + (4 : Int32))) (lv2 := [(3, .int (x3 + (4 : Int32))), (0, .ref b), (1, .ref (Λ 0)), (2, .ref (Λ 144))]) C 3 dL_law_695 rfl rfl (by decide) rfl ?_
        refine g_goto (pc := 698) (tgt := 18) C dL_law_698 (by decide) ?_
        refine g_sub [1, 2, 3, 0] rfl ?_
        exact ih M47 (x3 + (4 : Int32))  hf
      refine g_iconst (pc := 334) (v := (0 : Int32)) C dL_law_334 (by decide) ?_
      exact absurd hf (by decide)
    refine g_case hf (fun hx hf => ?_) (fun hx8 hf => ?_)
    · refine g_tin (pc := 32) (tgt := 336) (v := (8 : Int32)) (i := 0) C dL_law_32 hx (by decide) (by decide) rfl (by decide) ?_
      refine g_aload_n (pc := 336) C 1 dL_law_336 rfl rfl ?_
      obtain ⟨r48, M48, h48, hf⟩ := ob2 hf
      refine g_resI (pc := 337) C (rnV (As := []) (st := []) C (c_X7_undo C.2.2.2.2.2.1 isC h48) lkL_48 rfl (by decide) isC rfl rfl (Nat.le_of_ble_eq_true rfl) ⟨⟨rfl, rfl⟩, Nat.le_of_ble_eq_true rfl, Nat.le_of_ble_eq_true rfl⟩ ⟨Nat.le_of_ble_eq_true rfl, Nat.le_of_ble_eq_true rfl⟩ dL_law_337) ?_
      refine g_aload_n (pc := 340) C 2 dL_law_340 rfl rfl ?_
      obtain ⟨r49, M49, h49, hf⟩ := ob2 hf
      refine g_resI (pc := 341) C (rnV (As := []) (st := [.int r48]) C (c_X8_undo C.2.2.2.2.2.1 isM h49) lkL_51 rfl (by decide) isM rfl rfl (Nat.le_of_ble_eq_true rfl) ⟨⟨rfl, rfl⟩, Nat.le_of_ble_eq_true rfl, Nat.le_of_ble_eq_true rfl⟩ ⟨Nat.le_of_ble_eq_true rfl, Nat.le_of_ble_eq_true rfl⟩ dL_law_341) ?_
      refine g_ic_eq (pc := 344) (tgt := 695) C hf dL_law_344 (by decide) (fun hf => ?_) (fun hf => ?_)
      · refine g_iinc (pc := 695) (v := (x3 + (4 : Int32))) (lv2 := [(3, .int (x3 + (4 : Int32))), (0, .ref b), (1, .ref (Λ 0)), (2, .ref (Λ 144))]) C 3 dL_law_695 rfl rfl (by decide) rfl ?_
        refine g_goto (pc := 698) (tgt := 18) C dL_law_698 (by decide) ?_
        refine g_sub [1, 2, 3, 0] rfl ?_
        exact ih M49 (x3 + (4 : Int32))  hf
      refine g_iconst (pc := 347) (v := (0 : Int32)) C dL_law_347 (by decide) ?_
      exact absurd hf (by decide)
    refine g_case hf (fun hx hf => ?_) (fun hx9 hf => ?_)
    · refine g_tin (pc := 32) (tgt := 349) (v := (9 : Int32)) (i := 0) C dL_law_32 hx (by decide) (by decide) rfl (by decide) ?_
      refine g_aload_n (pc := 349) C 1 dL_law_349 rfl rfl ?_
      refine g_aload_n (pc := 350) C 0 dL_law_350 rfl rfl ?_
      refine g_iload_n (pc := 351) C 3 dL_law_351 rfl rfl ?_
      refine g_iconst (pc := 352) (v := (1 : Int32)) C dL_law_352 (by decide) ?_
      refine g_iadd (pc := 353) C dL_law_353 ?_
      refine g_sld (pc := 354) C hf hX hbl hbA dL_law_354 (fun v50 hf => ?_)
      refine g_aload_n (pc := 355) C 0 dL_law_355 rfl rfl ?_
      refine g_iload_n (pc := 356) C 3 dL_law_356 rfl rfl ?_
      refine g_iconst (pc := 357) (v := (2 : Int32)) C dL_law_357 (by decide) ?_
      refine g_iadd (pc := 358) C dL_law_358 ?_
      refine g_sld (pc := 359) C hf hX hbl hbA dL_law_359 (fun v51 hf => ?_)
      obtain ⟨r52, h52, hf⟩ := ob hf
      refine g_resI (pc := 360) C (rnV (As := [.int v50, .int v51]) (st := []) C (c_X7_value C.2.2.2.2.2.1 isC h52) lkL_52 rfl (by decide) isC rfl rfl (Nat.le_of_ble_eq_true rfl) ⟨⟨rfl, rfl⟩, Nat.le_of_ble_eq_true rfl, Nat.le_of_ble_eq_true rfl⟩ ⟨Nat.le_of_ble_eq_true rfl, Nat.le_of_ble_eq_true rfl⟩ dL_law_360) ?_
      refine g_aload_n (pc := 363) C 2 dL_law_363 rfl rfl ?_
      refine g_aload_n (pc := 364) C 0 dL_law_364 rfl rfl ?_
      refine g_iload_n (pc := 365) C 3 dL_law_365 rfl rfl ?_
      refine g_iconst (pc := 366) (v := (1 : Int32)) C dL_law_366 (by decide) ?_
      refine g_iadd (pc := 367) C dL_law_367 ?_
      refine g_sld (pc := 368) C hf hX hbl hbA dL_law_368 (fun v53 hf => ?_)
      refine g_aload_n (pc := 369) C 0 dL_law_369 rfl rfl ?_
      refine g_iload_n (pc := 370) C 3 dL_law_370 rfl rfl ?_
      refine g_iconst (pc := 371) (v := (2 : Int32)) C dL_law_371 (by decide) ?_
      refine g_iadd (pc := 372) C dL_law_372 ?_
      refine g_sld (pc := 373) C hf hX hbl hbA dL_law_373 (fun v54 hf => ?_)
      obtain ⟨r55, M55, h55, hf⟩ := ob2 hf
      refine g_resI (pc := 374) C (rnV (As := [.int v53, .int v54]) (st := [.int r52]) C (c_X8_value C.2.2.2.2.2.1 isM h55) lkL_55 rfl (by decide) isM rfl rfl (Nat.le_of_ble_eq_true rfl) ⟨⟨rfl, rfl⟩, Nat.le_of_ble_eq_true rfl, Nat.le_of_ble_eq_true rfl⟩ ⟨Nat.le_of_ble_eq_true rfl, Nat.le_of_ble_eq_true rfl⟩ dL_law_374) ?_
      refine g_ic_eq (pc := 377) (tgt := 695) C hf dL_law_377 (by decide) (fun hf => ?_) (fun hf => ?_)
      · refine g_iinc (pc := 695) (v := (x3 + (4 : Int32))) (lv2 := [(3, .int (x3 + (4 : Int32))), (0, .ref b), (1, .ref (Λ 0)), (2, .ref (Λ 144))]) C 3 dL_law_695 rfl rfl (by decide) rfl ?_
        refine g_goto (pc := 698) (tgt := 18) C dL_law_698 (by decide) ?_
        refine g_sub [1, 2, 3, 0] rfl ?_
        exact ih M55 (x3 + (4 : Int32))  hf
      refine g_iconst (pc := 380) (v := (0 : Int32)) C dL_law_380 (by decide) ?_
      exact absurd hf (by decide)
    refine g_case hf (fun hx hf => ?_) (fun hx10 hf => ?_)
    · refine g_tin (pc := 32) (tgt := 382) (v := (10 : Int32)) (i := 0) C dL_law_32 hx (by decide) (by decide) rfl (by decide) ?_
      refine g_aload_n (pc := 382) C 1 dL_law_382 rfl rfl ?_
      refine g_aload_n (pc := 383) C 0 dL_law_383 rfl rfl ?_
      refine g_iload_n (pc := 384) C 3 dL_law_384 rfl rfl ?_
      refine g_iconst (pc := 385) (v := (1 : Int32)) C dL_law_385 (by decide) ?_
      refine g_iadd (pc := 386) C dL_law_386 ?_
      refine g_sld (pc := 387) C hf hX hbl hbA dL_law_387 (fun v56 hf => ?_)
      refine g_aload_n (pc := 388) C 0 dL_law_388 rfl rfl ?_
      refine g_iload_n (pc := 389) C 3 dL_law_389 rfl rfl ?_
      refine g_iconst (pc := 390) (v := (2 : Int32)) C dL_law_390 (by decide) ?_
      refine g_iadd (pc := 391) C dL_law_391 ?_
      refine g_sld (pc := 392) C hf hX hbl hbA dL_law_392 (fun v57 hf => ?_)
      refine g_aload_n (pc := 393) C 0 dL_law_393 rfl rfl ?_
      refine g_iload_n (pc := 394) C 3 dL_law_394 rfl rfl ?_
      refine g_iconst (pc := 395) (v := (3 : Int32)) C dL_law_395 (by decide) ?_
      refine g_iadd (pc := 396) C dL_law_396 ?_
      refine g_sld (pc := 397) C hf hX hbl hbA dL_law_397 (fun v58 hf => ?_)
      obtain ⟨r59, h59, hf⟩ := ob hf
      refine g_resI (pc := 398) C (rnV (As := [.int v56, .int v57, .int v58]) (st := []) C (c_X7_winner C.2.2.2.2.2.1 isC h59) lkL_56 rfl (by decide) isC rfl rfl (Nat.le_of_ble_eq_true rfl) ⟨⟨rfl, rfl⟩, Nat.le_of_ble_eq_true rfl, Nat.le_of_ble_eq_true rfl⟩ ⟨Nat.le_of_ble_eq_true rfl, Nat.le_of_ble_eq_true rfl⟩ dL_law_398) ?_
      refine g_aload_n (pc := 401) C 2 dL_law_401 rfl rfl ?_
      refine g_aload_n (pc := 402) C 0 dL_law_402 rfl rfl ?_
      refine g_iload_n (pc := 403) C 3 dL_law_403 rfl rfl ?_
      refine g_iconst (pc := 404) (v := (1 : Int32)) C dL_law_404 (by decide) ?_
      refine g_iadd (pc := 405) C dL_law_405 ?_
      refine g_sld (pc := 406) C hf hX hbl hbA dL_law_406 (fun v60 hf => ?_)
      refine g_aload_n (pc := 407) C 0 dL_law_407 rfl rfl ?_
      refine g_iload_n (pc := 408) C 3 dL_law_408 rfl rfl ?_
      refine g_iconst (pc := 409) (v := (2 : Int32)) C dL_law_409 (by decide) ?_
      refine g_iadd (pc := 410) C dL_law_410 ?_
      refine g_sld (pc := 411) C hf hX hbl hbA dL_law_411 (fun v61 hf => ?_)
      refine g_aload_n (pc := 412) C 0 dL_law_412 rfl rfl ?_
      refine g_iload_n (pc := 413) C 3 dL_law_413 rfl rfl ?_
      refine g_iconst (pc := 414) (v := (3 : Int32)) C dL_law_414 (by decide) ?_
      refine g_iadd (pc := 415) C dL_law_415 ?_
      refine g_sld (pc := 416) C hf hX hbl hbA dL_law_416 (fun v62 hf => ?_)
      obtain ⟨r63, M63, h63, hf⟩ := ob2 hf
      refine g_resI (pc := 417) C (rnV (As := [.int v60, .int v61, .int v62]) (st := [.int r59]) C (c_X8_winner C.2.2.2.2.2.1 isM h63) lkL_60 rfl (by decide) isM rfl rfl (Nat.le_of_ble_eq_true rfl) ⟨⟨rfl, rfl⟩, Nat.le_of_ble_eq_true rfl, Nat.le_of_ble_eq_true rfl⟩ ⟨Nat.le_of_ble_eq_true rfl, Nat.le_of_ble_eq_true rfl⟩ dL_law_417) ?_
      refine g_ic_eq (pc := 420) (tgt := 695) C hf dL_law_420 (by decide) (fun hf => ?_) (fun hf => ?_)
      · refine g_iinc (pc := 695) (v := (x3 + (4 : Int32))) (lv2 := [(3, .int (x3 + (4 : Int32))), (0, .ref b), (1, .ref (Λ 0)), (2, .ref (Λ 144))]) C 3 dL_law_695 rfl rfl (by decide) rfl ?_
        refine g_goto (pc := 698) (tgt := 18) C dL_law_698 (by decide) ?_
        refine g_sub [1, 2, 3, 0] rfl ?_
        exact ih M63 (x3 + (4 : Int32))  hf
      refine g_iconst (pc := 423) (v := (0 : Int32)) C dL_law_423 (by decide) ?_
      exact absurd hf (by decide)
    refine g_case hf (fun hx hf => ?_) (fun hx11 hf => ?_)
    · refine g_tin (pc := 32) (tgt := 425) (v := (11 : Int32)) (i := 0) C dL_law_32 hx (by decide) (by decide) rfl (by decide) ?_
      refine g_aload_n (pc := 425) C 1 dL_law_425 rfl rfl ?_
      refine g_aload_n (pc := 426) C 0 dL_law_426 rfl rfl ?_
      refine g_iload_n (pc := 427) C 3 dL_law_427 rfl rfl ?_
      refine g_iconst (pc := 428) (v := (1 : Int32)) C dL_law_428 (by decide) ?_
      refine g_iadd (pc := 429) C dL_law_429 ?_
      refine g_sld (pc := 430) C hf hX hbl hbA dL_law_430 (fun v64 hf => ?_)
      refine g_aload_n (pc := 431) C 0 dL_law_431 rfl rfl ?_
      refine g_iload_n (pc := 432) C 3 dL_law_432 rfl rfl ?_
      refine g_iconst (pc := 433) (v := (2 : Int32)) C dL_law_433 (by decide) ?_
      refine g_iadd (pc := 434) C dL_law_434 ?_
      refine g_sld (pc := 435) C hf hX hbl hbA dL_law_435 (fun v65 hf => ?_)
      obtain ⟨r66, h66, hf⟩ := ob hf
      refine g_resI (pc := 436) C (rnV (As := [.int v64, .int v65]) (st := []) C (c_X7_source C.2.2.2.2.2.1 isC h66) lkL_61 rfl (by decide) isC rfl rfl (Nat.le_of_ble_eq_true rfl) ⟨⟨rfl, rfl⟩, Nat.le_of_ble_eq_true rfl, Nat.le_of_ble_eq_true rfl⟩ ⟨Nat.le_of_ble_eq_true rfl, Nat.le_of_ble_eq_true rfl⟩ dL_law_436) ?_
      refine g_aload_n (pc := 439) C 2 dL_law_439 rfl rfl ?_
      refine g_aload_n (pc := 440) C 0 dL_law_440 rfl rfl ?_
      refine g_iload_n (pc := 441) C 3 dL_law_441 rfl rfl ?_
      refine g_iconst (pc := 442) (v := (1 : Int32)) C dL_law_442 (by decide) ?_
      refine g_iadd (pc := 443) C dL_law_443 ?_
      refine g_sld (pc := 444) C hf hX hbl hbA dL_law_444 (fun v67 hf => ?_)
      refine g_aload_n (pc := 445) C 0 dL_law_445 rfl rfl ?_
      refine g_iload_n (pc := 446) C 3 dL_law_446 rfl rfl ?_
      refine g_iconst (pc := 447) (v := (2 : Int32)) C dL_law_447 (by decide) ?_
      refine g_iadd (pc := 448) C dL_law_448 ?_
      refine g_sld (pc := 449) C hf hX hbl hbA dL_law_449 (fun v68 hf => ?_)
      obtain ⟨r69, M69, h69, hf⟩ := ob2 hf
      refine g_resI (pc := 450) C (rnV (As := [.int v67, .int v68]) (st := [.int r66]) C (c_X8_source C.2.2.2.2.2.1 isM h69) lkL_64 rfl (by decide) isM rfl rfl (Nat.le_of_ble_eq_true rfl) ⟨⟨rfl, rfl⟩, Nat.le_of_ble_eq_true rfl, Nat.le_of_ble_eq_true rfl⟩ ⟨Nat.le_of_ble_eq_true rfl, Nat.le_of_ble_eq_true rfl⟩ dL_law_450) ?_
      refine g_ic_eq (pc := 453) (tgt := 695) C hf dL_law_453 (by decide) (fun hf => ?_) (fun hf => ?_)
      · refine g_iinc (pc := 695) (v := (x3 + (4 : Int32))) (lv2 := [(3, .int (x3 + (4 : Int32))), (0, .ref b), (1, .ref (Λ 0)), (2, .ref (Λ 144))]) C 3 dL_law_695 rfl rfl (by decide) rfl ?_
        refine g_goto (pc := 698) (tgt := 18) C dL_law_698 (by decide) ?_
        refine g_sub [1, 2, 3, 0] rfl ?_
        exact ih M69 (x3 + (4 : Int32))  hf
      refine g_iconst (pc := 456) (v := (0 : Int32)) C dL_law_456 (by decide) ?_
      exact absurd hf (by decide)
    refine g_case hf (fun hx hf => ?_) (fun hx12 hf => ?_)
    · refine g_tin (pc := 32) (tgt := 458) (v := (12 : Int32)) (i := 0) C dL_law_32 hx (by decide) (by decide) rfl (by decide) ?_
      refine g_aload_n (pc := 458) C 1 dL_law_458 rfl rfl ?_
      refine g_aload_n (pc := 459) C 0 dL_law_459 rfl rfl ?_
      refine g_iload_n (pc := 460) C 3 dL_law_460 rfl rfl ?_
      refine g_iconst (pc := 461) (v := (1 : Int32)) C dL_law_461 (by decide) ?_
      refine g_iadd (pc := 462) C dL_law_462 ?_
      refine g_sld (pc := 463) C hf hX hbl hbA dL_law_463 (fun v70 hf => ?_)
      refine g_aload_n (pc := 464) C 0 dL_law_464 rfl rfl ?_
      refine g_iload_n (pc := 465) C 3 dL_law_465 rfl rfl ?_
      refine g_iconst (pc := 466) (v := (2 : Int32)) C dL_law_466 (by decide) ?_
      refine g_iadd (pc := 467) C dL_law_467 ?_
      refine g_sld (pc := 468) C hf hX hbl hbA dL_law_468 (fun v71 hf => ?_)
      refine g_aload_n (pc := 469) C 0 dL_law_469 rfl rfl ?_
      refine g_iload_n (pc := 470) C 3 dL_law_470 rfl rfl ?_
      refine g_iconst (pc := 471) (v := (3 : Int32)) C dL_law_471 (by decide) ?_
      refine g_iadd (pc := 472) C dL_law_472 ?_
      refine g_sld (pc := 473) C hf hX hbl hbA dL_law_473 (fun v72 hf => ?_)
      obtain ⟨r73, M73, h73, hf⟩ := ob2 hf
      refine g_resI (pc := 474) C (rnV (As := [.int v70, .int v71, .int v72]) (st := []) C (c_X7_change C.2.2.2.2.2.1 isC h73) lkL_65 rfl (by decide) isC rfl rfl (Nat.le_of_ble_eq_true rfl) ⟨⟨rfl, rfl⟩, Nat.le_of_ble_eq_true rfl, Nat.le_of_ble_eq_true rfl⟩ ⟨Nat.le_of_ble_eq_true rfl, Nat.le_of_ble_eq_true rfl⟩ dL_law_474) ?_
      refine g_aload_n (pc := 477) C 2 dL_law_477 rfl rfl ?_
      refine g_aload_n (pc := 478) C 0 dL_law_478 rfl rfl ?_
      refine g_iload_n (pc := 479) C 3 dL_law_479 rfl rfl ?_
      refine g_iconst (pc := 480) (v := (1 : Int32)) C dL_law_480 (by decide) ?_
      refine g_iadd (pc := 481) C dL_law_481 ?_
      refine g_sld (pc := 482) C hf hX hbl hbA dL_law_482 (fun v74 hf => ?_)
      refine g_aload_n (pc := 483) C 0 dL_law_483 rfl rfl ?_
      refine g_iload_n (pc := 484) C 3 dL_law_484 rfl rfl ?_
      refine g_iconst (pc := 485) (v := (2 : Int32)) C dL_law_485 (by decide) ?_
      refine g_iadd (pc := 486) C dL_law_486 ?_
      refine g_sld (pc := 487) C hf hX hbl hbA dL_law_487 (fun v75 hf => ?_)
      refine g_aload_n (pc := 488) C 0 dL_law_488 rfl rfl ?_
      refine g_iload_n (pc := 489) C 3 dL_law_489 rfl rfl ?_
      refine g_iconst (pc := 490) (v := (3 : Int32)) C dL_law_490 (by decide) ?_
      refine g_iadd (pc := 491) C dL_law_491 ?_
      refine g_sld (pc := 492) C hf hX hbl hbA dL_law_492 (fun v76 hf => ?_)
      obtain ⟨r77, M77, h77, hf⟩ := ob2 hf
      refine g_resI (pc := 493) C (rnV (As := [.int v74, .int v75, .int v76]) (st := [.int r73]) C (c_X8_change C.2.2.2.2.2.1 isM h77) lkL_68 rfl (by decide) isM rfl rfl (Nat.le_of_ble_eq_true rfl) ⟨⟨rfl, rfl⟩, Nat.le_of_ble_eq_true rfl, Nat.le_of_ble_eq_true rfl⟩ ⟨Nat.le_of_ble_eq_true rfl, Nat.le_of_ble_eq_true rfl⟩ dL_law_493) ?_
      refine g_ic_eq (pc := 496) (tgt := 695) C hf dL_law_496 (by decide) (fun hf => ?_) (fun hf => ?_)
      · refine g_iinc (pc := 695) (v := (x3 + (4 : Int32))) (lv2 := [(3, .int (x3 + (4 : Int32))), (0, .ref b), (1, .ref (Λ 0)), (2, .ref (Λ 144))]) C 3 dL_law_695 rfl rfl (by decide) rfl ?_
        refine g_goto (pc := 698) (tgt := 18) C dL_law_698 (by decide) ?_
        refine g_sub [1, 2, 3, 0] rfl ?_
        exact ih M77 (x3 + (4 : Int32))  hf
      refine g_iconst (pc := 499) (v := (0 : Int32)) C dL_law_499 (by decide) ?_
      exact absurd hf (by decide)
    refine g_case hf (fun hx hf => ?_) (fun hx13 hf => ?_)
    · refine g_tin (pc := 32) (tgt := 501) (v := (13 : Int32)) (i := 0) C dL_law_32 hx (by decide) (by decide) rfl (by decide) ?_
      refine g_aload_n (pc := 501) C 1 dL_law_501 rfl rfl ?_
      refine g_aload_n (pc := 502) C 0 dL_law_502 rfl rfl ?_
      refine g_iload_n (pc := 503) C 3 dL_law_503 rfl rfl ?_
      refine g_iconst (pc := 504) (v := (1 : Int32)) C dL_law_504 (by decide) ?_
      refine g_iadd (pc := 505) C dL_law_505 ?_
      refine g_sld (pc := 506) C hf hX hbl hbA dL_law_506 (fun v78 hf => ?_)
      refine g_aload_n (pc := 507) C 0 dL_law_507 rfl rfl ?_
      refine g_iload_n (pc := 508) C 3 dL_law_508 rfl rfl ?_
      refine g_iconst (pc := 509) (v := (2 : Int32)) C dL_law_509 (by decide) ?_
      refine g_iadd (pc := 510) C dL_law_510 ?_
      refine g_sld (pc := 511) C hf hX hbl hbA dL_law_511 (fun v79 hf => ?_)
      refine g_aload_n (pc := 512) C 0 dL_law_512 rfl rfl ?_
      refine g_iload_n (pc := 513) C 3 dL_law_513 rfl rfl ?_
      refine g_iconst (pc := 514) (v := (3 : Int32)) C dL_law_514 (by decide) ?_
      refine g_iadd (pc := 515) C dL_law_515 ?_
      refine g_sld (pc := 516) C hf hX hbl hbA dL_law_516 (fun v80 hf => ?_)
      obtain ⟨r81, M81, h81, hf⟩ := ob2 hf
      refine g_resI (pc := 517) C (rnV (As := [.int v78, .int v79, .int v80]) (st := []) C (c_X7_wanted C.2.2.2.2.2.1 isC h81) lkL_69 rfl (by decide) isC rfl rfl (Nat.le_of_ble_eq_true rfl) ⟨⟨rfl, rfl⟩, Nat.le_of_ble_eq_true rfl, Nat.le_of_ble_eq_true rfl⟩ ⟨Nat.le_of_ble_eq_true rfl, Nat.le_of_ble_eq_true rfl⟩ dL_law_517) ?_
      refine g_aload_n (pc := 520) C 2 dL_law_520 rfl rfl ?_
      refine g_aload_n (pc := 521) C 0 dL_law_521 rfl rfl ?_
      refine g_iload_n (pc := 522) C 3 dL_law_522 rfl rfl ?_
      refine g_iconst (pc := 523) (v := (1 : Int32)) C dL_law_523 (by decide) ?_
      refine g_iadd (pc := 524) C dL_law_524 ?_
      refine g_sld (pc := 525) C hf hX hbl hbA dL_law_525 (fun v82 hf => ?_)
      refine g_aload_n (pc := 526) C 0 dL_law_526 rfl rfl ?_
      refine g_iload_n (pc := 527) C 3 dL_law_527 rfl rfl ?_
      refine g_iconst (pc := 528) (v := (2 : Int32)) C dL_law_528 (by decide) ?_
      refine g_iadd (pc := 529) C dL_law_529 ?_
      refine g_sld (pc := 530) C hf hX hbl hbA dL_law_530 (fun v83 hf => ?_)
      refine g_aload_n (pc := 531) C 0 dL_law_531 rfl rfl ?_
      refine g_iload_n (pc := 532) C 3 dL_law_532 rfl rfl ?_
      refine g_iconst (pc := 533) (v := (3 : Int32)) C dL_law_533 (by decide) ?_
      refine g_iadd (pc := 534) C dL_law_534 ?_
      refine g_sld (pc := 535) C hf hX hbl hbA dL_law_535 (fun v84 hf => ?_)
      obtain ⟨r85, M85, h85, hf⟩ := ob2 hf
      refine g_resI (pc := 536) C (rnV (As := [.int v82, .int v83, .int v84]) (st := [.int r81]) C (c_X8_wanted C.2.2.2.2.2.1 isM h85) lkL_72 rfl (by decide) isM rfl rfl (Nat.le_of_ble_eq_true rfl) ⟨⟨rfl, rfl⟩, Nat.le_of_ble_eq_true rfl, Nat.le_of_ble_eq_true rfl⟩ ⟨Nat.le_of_ble_eq_true rfl, Nat.le_of_ble_eq_true rfl⟩ dL_law_536) ?_
      refine g_ic_eq (pc := 539) (tgt := 695) C hf dL_law_539 (by decide) (fun hf => ?_) (fun hf => ?_)
      · refine g_iinc (pc := 695) (v := (x3 + (4 : Int32))) (lv2 := [(3, .int (x3 + (4 : Int32))), (0, .ref b), (1, .ref (Λ 0)), (2, .ref (Λ 144))]) C 3 dL_law_695 rfl rfl (by decide) rfl ?_
        refine g_goto (pc := 698) (tgt := 18) C dL_law_698 (by decide) ?_
        refine g_sub [1, 2, 3, 0] rfl ?_
        exact ih M85 (x3 + (4 : Int32))  hf
      refine g_iconst (pc := 542) (v := (0 : Int32)) C dL_law_542 (by decide) ?_
      exact absurd hf (by decide)
    refine g_case hf (fun hx hf => ?_) (fun hx14 hf => ?_)
    · refine g_tin (pc := 32) (tgt := 544) (v := (14 : Int32)) (i := 0) C dL_law_32 hx (by decide) (by decide) rfl (by decide) ?_
      refine g_aload_n (pc := 544) C 1 dL_law_544 rfl rfl ?_
      refine g_aload_n (pc := 545) C 0 dL_law_545 rfl rfl ?_
      refine g_iload_n (pc := 546) C 3 dL_law_546 rfl rfl ?_
      refine g_iconst (pc := 547) (v := (1 : Int32)) C dL_law_547 (by decide) ?_
      refine g_iadd (pc := 548) C dL_law_548 ?_
      refine g_sld (pc := 549) C hf hX hbl hbA dL_law_549 (fun v86 hf => ?_)
      refine g_aload_n (pc := 550) C 0 dL_law_550 rfl rfl ?_
      refine g_iload_n (pc := 551) C 3 dL_law_551 rfl rfl ?_
      refine g_iconst (pc := 552) (v := (2 : Int32)) C dL_law_552 (by decide) ?_
      refine g_iadd (pc := 553) C dL_law_553 ?_
      refine g_sld (pc := 554) C hf hX hbl hbA dL_law_554 (fun v87 hf => ?_)
      refine g_aload_n (pc := 555) C 0 dL_law_555 rfl rfl ?_
      refine g_iload_n (pc := 556) C 3 dL_law_556 rfl rfl ?_
      refine g_iconst (pc := 557) (v := (3 : Int32)) C dL_law_557 (by decide) ?_
      refine g_iadd (pc := 558) C dL_law_558 ?_
      refine g_sld (pc := 559) C hf hX hbl hbA dL_law_559 (fun v88 hf => ?_)
      obtain ⟨r89, M89, h89, hf⟩ := ob2 hf
      refine g_resI (pc := 560) C (rnV (As := [.int v86, .int v87, .int v88]) (st := []) C (c_X7_sees C.2.2.2.2.2.1 isC h89) lkL_73 rfl (by decide) isC rfl rfl (Nat.le_of_ble_eq_true rfl) ⟨⟨rfl, rfl⟩, Nat.le_of_ble_eq_true rfl, Nat.le_of_ble_eq_true rfl⟩ ⟨Nat.le_of_ble_eq_true rfl, Nat.le_of_ble_eq_true rfl⟩ dL_law_560) ?_
      refine g_aload_n (pc := 563) C 2 dL_law_563 rfl rfl ?_
      refine g_aload_n (pc := 564) C 0 dL_law_564 rfl rfl ?_
      refine g_iload_n (pc := 565) C 3 dL_law_565 rfl rfl ?_
      refine g_iconst (pc := 566) (v := (1 : Int32)) C dL_law_566 (by decide) ?_
      refine g_iadd (pc := 567) C dL_law_567 ?_
      refine g_sld (pc := 568) C hf hX hbl hbA dL_law_568 (fun v90 hf => ?_)
      refine g_aload_n (pc := 569) C 0 dL_law_569 rfl rfl ?_
      refine g_iload_n (pc := 570) C 3 dL_law_570 rfl rfl ?_
      refine g_iconst (pc := 571) (v := (2 : Int32)) C dL_law_571 (by decide) ?_
      refine g_iadd (pc := 572) C dL_law_572 ?_
      refine g_sld (pc := 573) C hf hX hbl hbA dL_law_573 (fun v91 hf => ?_)
      refine g_aload_n (pc := 574) C 0 dL_law_574 rfl rfl ?_
      refine g_iload_n (pc := 575) C 3 dL_law_575 rfl rfl ?_
      refine g_iconst (pc := 576) (v := (3 : Int32)) C dL_law_576 (by decide) ?_
      refine g_iadd (pc := 577) C dL_law_577 ?_
      refine g_sld (pc := 578) C hf hX hbl hbA dL_law_578 (fun v92 hf => ?_)
      obtain ⟨r93, M93, h93, hf⟩ := ob2 hf
      refine g_resI (pc := 579) C (rnV (As := [.int v90, .int v91, .int v92]) (st := [.int r89]) C (c_X8_sees C.2.2.2.2.2.1 isM h93) lkL_76 rfl (by decide) isM rfl rfl (Nat.le_of_ble_eq_true rfl) ⟨⟨rfl, rfl⟩, Nat.le_of_ble_eq_true rfl, Nat.le_of_ble_eq_true rfl⟩ ⟨Nat.le_of_ble_eq_true rfl, Nat.le_of_ble_eq_true rfl⟩ dL_law_579) ?_
      refine g_ic_eq (pc := 582) (tgt := 695) C hf dL_law_582 (by decide) (fun hf => ?_) (fun hf => ?_)
      · refine g_iinc (pc := 695) (v := (x3 + (4 : Int32))) (lv2 := [(3, .int (x3 + (4 : Int32))), (0, .ref b), (1, .ref (Λ 0)), (2, .ref (Λ 144))]) C 3 dL_law_695 rfl rfl (by decide) rfl ?_
        refine g_goto (pc := 698) (tgt := 18) C dL_law_698 (by decide) ?_
        refine g_sub [1, 2, 3, 0] rfl ?_
        exact ih M93 (x3 + (4 : Int32))  hf
      refine g_iconst (pc := 585) (v := (0 : Int32)) C dL_law_585 (by decide) ?_
      exact absurd hf (by decide)
    refine g_case hf (fun hx hf => ?_) (fun hx15 hf => ?_)
    · refine g_tin (pc := 32) (tgt := 587) (v := (15 : Int32)) (i := 0) C dL_law_32 hx (by decide) (by decide) rfl (by decide) ?_
      refine g_aload_n (pc := 587) C 1 dL_law_587 rfl rfl ?_
      obtain ⟨r94, M94, h94, hf⟩ := ob2 hf
      refine g_resI (pc := 588) C (rnV (As := []) (st := []) C (c_X7_forget C.2.2.2.2.2.1 isC h94) lkL_77 rfl (by decide) isC rfl rfl (Nat.le_of_ble_eq_true rfl) ⟨⟨rfl, rfl⟩, Nat.le_of_ble_eq_true rfl, Nat.le_of_ble_eq_true rfl⟩ ⟨Nat.le_of_ble_eq_true rfl, Nat.le_of_ble_eq_true rfl⟩ dL_law_588) ?_
      refine g_aload_n (pc := 591) C 2 dL_law_591 rfl rfl ?_
      obtain ⟨r95, M95, h95, hf⟩ := ob2 hf
      refine g_resI (pc := 592) C (rnV (As := []) (st := [.int r94]) C (c_X8_forget C.2.2.2.2.2.1 isM h95) lkL_80 rfl (by decide) isM rfl rfl (Nat.le_of_ble_eq_true rfl) ⟨⟨rfl, rfl⟩, Nat.le_of_ble_eq_true rfl, Nat.le_of_ble_eq_true rfl⟩ ⟨Nat.le_of_ble_eq_true rfl, Nat.le_of_ble_eq_true rfl⟩ dL_law_592) ?_
      refine g_ic_eq (pc := 595) (tgt := 695) C hf dL_law_595 (by decide) (fun hf => ?_) (fun hf => ?_)
      · refine g_iinc (pc := 695) (v := (x3 + (4 : Int32))) (lv2 := [(3, .int (x3 + (4 : Int32))), (0, .ref b), (1, .ref (Λ 0)), (2, .ref (Λ 144))]) C 3 dL_law_695 rfl rfl (by decide) rfl ?_
        refine g_goto (pc := 698) (tgt := 18) C dL_law_698 (by decide) ?_
        refine g_sub [1, 2, 3, 0] rfl ?_
        exact ih M95 (x3 + (4 : Int32))  hf
      refine g_iconst (pc := 598) (v := (0 : Int32)) C dL_law_598 (by decide) ?_
      exact absurd hf (by decide)
    refine g_case hf (fun hx hf => ?_) (fun hx16 hf => ?_)
    · refine g_tin (pc := 32) (tgt := 600) (v := (16 : Int32)) (i := 0) C dL_law_32 hx (by decide) (by decide) rfl (by decide) ?_
      refine g_aload_n (pc := 600) C 1 dL_law_600 rfl rfl ?_
      obtain ⟨r96, M96, h96, hf⟩ := ob2 hf
      refine g_resI (pc := 601) C (rnV (As := []) (st := []) C (c_X7_unseen C.2.2.2.2.2.1 isC h96) lkL_81 rfl (by decide) isC rfl rfl (Nat.le_of_ble_eq_true rfl) ⟨⟨rfl, rfl⟩, Nat.le_of_ble_eq_true rfl, Nat.le_of_ble_eq_true rfl⟩ ⟨Nat.le_of_ble_eq_true rfl, Nat.le_of_ble_eq_true rfl⟩ dL_law_601) ?_
      refine g_aload_n (pc := 604) C 2 dL_law_604 rfl rfl ?_
      obtain ⟨r97, M97, h97, hf⟩ := ob2 hf
      refine g_resI (pc := 605) C (rnV (As := []) (st := [.int r96]) C (c_X8_unseen C.2.2.2.2.2.1 isM h97) lkL_84 rfl (by decide) isM rfl rfl (Nat.le_of_ble_eq_true rfl) ⟨⟨rfl, rfl⟩, Nat.le_of_ble_eq_true rfl, Nat.le_of_ble_eq_true rfl⟩ ⟨Nat.le_of_ble_eq_true rfl, Nat.le_of_ble_eq_true rfl⟩ dL_law_605) ?_
      refine g_ic_eq (pc := 608) (tgt := 695) C hf dL_law_608 (by decide) (fun hf => ?_) (fun hf => ?_)
      · refine g_iinc (pc := 695) (v := (x3 + (4 : Int32))) (lv2 := [(3, .int (x3 + (4 : Int32))), (0, .ref b), (1, .ref (Λ 0)), (2, .ref (Λ 144))]) C 3 dL_law_695 rfl rfl (by decide) rfl ?_
        refine g_goto (pc := 698) (tgt := 18) C dL_law_698 (by decide) ?_
        refine g_sub [1, 2, 3, 0] rfl ?_
        exact ih M97 (x3 + (4 : Int32))  hf
      refine g_iconst (pc := 611) (v := (0 : Int32)) C dL_law_611 (by decide) ?_
      exact absurd hf (by decide)
    refine g_case hf (fun hx hf => ?_) (fun hx17 hf => ?_)
    · refine g_tin (pc := 32) (tgt := 613) (v := (17 : Int32)) (i := 0) C dL_law_32 hx (by decide) (by decide) rfl (by decide) ?_
      refine g_aload_n (pc := 613) C 1 dL_law_613 rfl rfl ?_
      obtain ⟨r98, M98, h98, hf⟩ := ob2 hf
      refine g_resI (pc := 614) C (rnV (As := []) (st := []) C (c_X7_ask C.2.2.2.2.2.1 isC h98) lkL_85 rfl (by decide) isC rfl rfl (Nat.le_of_ble_eq_true rfl) ⟨⟨rfl, rfl⟩, Nat.le_of_ble_eq_true rfl, Nat.le_of_ble_eq_true rfl⟩ ⟨Nat.le_of_ble_eq_true rfl, Nat.le_of_ble_eq_true rfl⟩ dL_law_614) ?_
      refine g_aload_n (pc := 617) C 2 dL_law_617 rfl rfl ?_
      obtain ⟨r99, M99, h99, hf⟩ := ob2 hf
      refine g_resI (pc := 618) C (rnV (As := []) (st := [.int r98]) C (c_X8_ask C.2.2.2.2.2.1 isM h99) lkL_88 rfl (by decide) isM rfl rfl (Nat.le_of_ble_eq_true rfl) ⟨⟨rfl, rfl⟩, Nat.le_of_ble_eq_true rfl, Nat.le_of_ble_eq_true rfl⟩ ⟨Nat.le_of_ble_eq_true rfl, Nat.le_of_ble_eq_true rfl⟩ dL_law_618) ?_
      refine g_ic_eq (pc := 621) (tgt := 695) C hf dL_law_621 (by decide) (fun hf => ?_) (fun hf => ?_)
      · refine g_iinc (pc := 695) (v := (x3 + (4 : Int32))) (lv2 := [(3, .int (x3 + (4 : Int32))), (0, .ref b), (1, .ref (Λ 0)), (2, .ref (Λ 144))]) C 3 dL_law_695 rfl rfl (by decide) rfl ?_
        refine g_goto (pc := 698) (tgt := 18) C dL_law_698 (by decide) ?_
        refine g_sub [1, 2, 3, 0] rfl ?_
        exact ih M99 (x3 + (4 : Int32))  hf
      refine g_iconst (pc := 624) (v := (0 : Int32)) C dL_law_624 (by decide) ?_
      exact absurd hf (by decide)
    refine g_case hf (fun hx hf => ?_) (fun hx18 hf => ?_)
    · refine g_tin (pc := 32) (tgt := 626) (v := (18 : Int32)) (i := 0) C dL_law_32 hx (by decide) (by decide) rfl (by decide) ?_
      refine g_aload_n (pc := 626) C 1 dL_law_626 rfl rfl ?_
      refine g_aload_n (pc := 627) C 0 dL_law_627 rfl rfl ?_
      refine g_iload_n (pc := 628) C 3 dL_law_628 rfl rfl ?_
      refine g_iconst (pc := 629) (v := (1 : Int32)) C dL_law_629 (by decide) ?_
      refine g_iadd (pc := 630) C dL_law_630 ?_
      refine g_sld (pc := 631) C hf hX hbl hbA dL_law_631 (fun v100 hf => ?_)
      obtain ⟨r101, M101, h101, hf⟩ := ob2 hf
      refine g_resI (pc := 632) C (rnV (As := [.int v100]) (st := []) C (c_X7_keep C.2.2.2.2.2.1 isC h101) lkL_89 rfl (by decide) isC rfl rfl (Nat.le_of_ble_eq_true rfl) ⟨⟨rfl, rfl⟩, Nat.le_of_ble_eq_true rfl, Nat.le_of_ble_eq_true rfl⟩ ⟨Nat.le_of_ble_eq_true rfl, Nat.le_of_ble_eq_true rfl⟩ dL_law_632) ?_
      refine g_aload_n (pc := 635) C 2 dL_law_635 rfl rfl ?_
      refine g_aload_n (pc := 636) C 0 dL_law_636 rfl rfl ?_
      refine g_iload_n (pc := 637) C 3 dL_law_637 rfl rfl ?_
      refine g_iconst (pc := 638) (v := (1 : Int32)) C dL_law_638 (by decide) ?_
      refine g_iadd (pc := 639) C dL_law_639 ?_
      refine g_sld (pc := 640) C hf hX hbl hbA dL_law_640 (fun v102 hf => ?_)
      obtain ⟨r103, M103, h103, hf⟩ := ob2 hf
      refine g_resI (pc := 641) C (rnV (As := [.int v102]) (st := [.int r101]) C (c_X8_keep C.2.2.2.2.2.1 isM h103) lkL_92 rfl (by decide) isM rfl rfl (Nat.le_of_ble_eq_true rfl) ⟨⟨rfl, rfl⟩, Nat.le_of_ble_eq_true rfl, Nat.le_of_ble_eq_true rfl⟩ ⟨Nat.le_of_ble_eq_true rfl, Nat.le_of_ble_eq_true rfl⟩ dL_law_641) ?_
      refine g_ic_eq (pc := 644) (tgt := 695) C hf dL_law_644 (by decide) (fun hf => ?_) (fun hf => ?_)
      · refine g_iinc (pc := 695) (v := (x3 + (4 : Int32))) (lv2 := [(3, .int (x3 + (4 : Int32))), (0, .ref b), (1, .ref (Λ 0)), (2, .ref (Λ 144))]) C 3 dL_law_695 rfl rfl (by decide) rfl ?_
        refine g_goto (pc := 698) (tgt := 18) C dL_law_698 (by decide) ?_
        refine g_sub [1, 2, 3, 0] rfl ?_
        exact ih M103 (x3 + (4 : Int32))  hf
      refine g_iconst (pc := 647) (v := (0 : Int32)) C dL_law_647 (by decide) ?_
      exact absurd hf (by decide)
    refine g_case hf (fun hx hf => ?_) (fun hx19 hf => ?_)
    · refine g_tin (pc := 32) (tgt := 649) (v := (19 : Int32)) (i := 0) C dL_law_32 hx (by decide) (by decide) rfl (by decide) ?_
      refine g_aload_n (pc := 649) C 1 dL_law_649 rfl rfl ?_
      refine g_aload_n (pc := 650) C 0 dL_law_650 rfl rfl ?_
      refine g_iload_n (pc := 651) C 3 dL_law_651 rfl rfl ?_
      refine g_iconst (pc := 652) (v := (1 : Int32)) C dL_law_652 (by decide) ?_
      refine g_iadd (pc := 653) C dL_law_653 ?_
      refine g_sld (pc := 654) C hf hX hbl hbA dL_law_654 (fun v104 hf => ?_)
      obtain ⟨r105, M105, h105, hf⟩ := ob2 hf
      refine g_resI (pc := 655) C (rnV (As := [.int v104]) (st := []) C (c_X7_back C.2.2.2.2.2.1 isC h105) lkL_93 rfl (by decide) isC rfl rfl (Nat.le_of_ble_eq_true rfl) ⟨⟨rfl, rfl⟩, Nat.le_of_ble_eq_true rfl, Nat.le_of_ble_eq_true rfl⟩ ⟨Nat.le_of_ble_eq_true rfl, Nat.le_of_ble_eq_true rfl⟩ dL_law_655) ?_
      refine g_aload_n (pc := 658) C 2 dL_law_658 rfl rfl ?_
      refine g_aload_n (pc := 659) C 0 dL_law_659 rfl rfl ?_
      refine g_iload_n (pc := 660) C 3 dL_law_660 rfl rfl ?_
      refine g_iconst (pc := 661) (v := (1 : Int32)) C dL_law_661 (by decide) ?_
      refine g_iadd (pc := 662) C dL_law_662 ?_
      refine g_sld (pc := 663) C hf hX hbl hbA dL_law_663 (fun v106 hf => ?_)
      obtain ⟨r107, M107, h107, hf⟩ := ob2 hf
      refine g_resI (pc := 664) C (rnV (As := [.int v106]) (st := [.int r105]) C (c_X8_back C.2.2.2.2.2.1 isM h107) lkL_96 rfl (by decide) isM rfl rfl (Nat.le_of_ble_eq_true rfl) ⟨⟨rfl, rfl⟩, Nat.le_of_ble_eq_true rfl, Nat.le_of_ble_eq_true rfl⟩ ⟨Nat.le_of_ble_eq_true rfl, Nat.le_of_ble_eq_true rfl⟩ dL_law_664) ?_
      refine g_ic_eq (pc := 667) (tgt := 695) C hf dL_law_667 (by decide) (fun hf => ?_) (fun hf => ?_)
      · refine g_iinc (pc := 695) (v := (x3 + (4 : Int32))) (lv2 := [(3, .int (x3 + (4 : Int32))), (0, .ref b), (1, .ref (Λ 0)), (2, .ref (Λ 144))]) C 3 dL_law_695 rfl rfl (by decide) rfl ?_
        refine g_goto (pc := 698) (tgt := 18) C dL_law_698 (by decide) ?_
        refine g_sub [1, 2, 3, 0] rfl ?_
        exact ih M107 (x3 + (4 : Int32))  hf
      refine g_iconst (pc := 670) (v := (0 : Int32)) C dL_law_670 (by decide) ?_
      exact absurd hf (by decide)
    refine g_case hf (fun hx hf => ?_) (fun hx20 hf => ?_)
    · refine g_tin (pc := 32) (tgt := 672) (v := (20 : Int32)) (i := 0) C dL_law_32 hx (by decide) (by decide) rfl (by decide) ?_
      refine g_aload_n (pc := 672) C 1 dL_law_672 rfl rfl ?_
      refine g_aload_n (pc := 673) C 0 dL_law_673 rfl rfl ?_
      refine g_iload_n (pc := 674) C 3 dL_law_674 rfl rfl ?_
      refine g_iconst (pc := 675) (v := (1 : Int32)) C dL_law_675 (by decide) ?_
      refine g_iadd (pc := 676) C dL_law_676 ?_
      refine g_sld (pc := 677) C hf hX hbl hbA dL_law_677 (fun v108 hf => ?_)
      obtain ⟨r109, h109, hf⟩ := ob hf
      refine g_resI (pc := 678) C (rnV (As := [.int v108]) (st := []) C (c_X7_count C.2.2.2.2.2.1 isC h109) lkL_97 rfl (by decide) isC rfl rfl (Nat.le_of_ble_eq_true rfl) ⟨⟨rfl, rfl⟩, Nat.le_of_ble_eq_true rfl, Nat.le_of_ble_eq_true rfl⟩ ⟨Nat.le_of_ble_eq_true rfl, Nat.le_of_ble_eq_true rfl⟩ dL_law_678) ?_
      refine g_aload_n (pc := 681) C 2 dL_law_681 rfl rfl ?_
      refine g_aload_n (pc := 682) C 0 dL_law_682 rfl rfl ?_
      refine g_iload_n (pc := 683) C 3 dL_law_683 rfl rfl ?_
      refine g_iconst (pc := 684) (v := (1 : Int32)) C dL_law_684 (by decide) ?_
      refine g_iadd (pc := 685) C dL_law_685 ?_
      refine g_sld (pc := 686) C hf hX hbl hbA dL_law_686 (fun v110 hf => ?_)
      obtain ⟨r111, M111, h111, hf⟩ := ob2 hf
      refine g_resI (pc := 687) C (rnV (As := [.int v110]) (st := [.int r109]) C (c_X8_count C.2.2.2.2.2.1 isM h111) lkL_100 rfl (by decide) isM rfl rfl (Nat.le_of_ble_eq_true rfl) ⟨⟨rfl, rfl⟩, Nat.le_of_ble_eq_true rfl, Nat.le_of_ble_eq_true rfl⟩ ⟨Nat.le_of_ble_eq_true rfl, Nat.le_of_ble_eq_true rfl⟩ dL_law_687) ?_
      refine g_ic_eq (pc := 690) (tgt := 695) C hf dL_law_690 (by decide) (fun hf => ?_) (fun hf => ?_)
      · refine g_iinc (pc := 695) (v := (x3 + (4 : Int32))) (lv2 := [(3, .int (x3 + (4 : Int32))), (0, .ref b), (1, .ref (Λ 0)), (2, .ref (Λ 144))]) C 3 dL_law_695 rfl rfl (by decide) rfl ?_
        refine g_goto (pc := 698) (tgt := 18) C dL_law_698 (by decide) ?_
        refine g_sub [1, 2, 3, 0] rfl ?_
        exact ih M111 (x3 + (4 : Int32))  hf
      refine g_iconst (pc := 693) (v := (0 : Int32)) C dL_law_693 (by decide) ?_
      exact absurd hf (by decide)
    refine g_tout (pc := 32) (tgt := 695) C 20 dL_law_32 rfl (by decide) (fun i hi => ?_) (by decide) ?_
    · rcases (show i = 0 ∨ i = 1 ∨ i = 2 ∨ i = 3 ∨ i = 4 ∨ i = 5 ∨ i = 6 ∨ i = 7 ∨ i = 8 ∨ i = 9 ∨ i = 10 ∨ i = 11 ∨ i = 12 ∨ i = 13 ∨ i = 14 ∨ i = 15 ∨ i = 16 ∨ i = 17 ∨ i = 18 ∨ i = 19 ∨ i = 20 by omega) with rfl | rfl | rfl | rfl | rfl | rfl | rfl | rfl | rfl | rfl | rfl | rfl | rfl | rfl | rfl | rfl | rfl | rfl | rfl | rfl | rfl
      · exact hx0
      · exact hx1
      · exact hx2
      · exact hx3
      · exact hx4
      · exact hx5
      · exact hx6
      · exact hx7
      · exact hx8
      · exact hx9
      · exact hx10
      · exact hx11
      · exact hx12
      · exact hx13
      · exact hx14
      · exact hx15
      · exact hx16
      · exact hx17
      · exact hx18
      · exact hx19
      · exact hx20
    refine g_iinc (pc := 695) (v := (x3 + (4 : Int32))) (lv2 := [(3, .int (x3 + (4 : Int32))), (0, .ref b), (1, .ref (Λ 0)), (2, .ref (Λ 144))]) C 3 dL_law_695 rfl rfl (by decide) rfl ?_
    refine g_goto (pc := 698) (tgt := 18) C dL_law_698 (by decide) ?_
    refine g_sub [1, 2, 3, 0] rfl ?_
    exact ih M (x3 + (4 : Int32))  hf

def M0 : Mem := (fun _ _ => none, fun _ _ => 0)
def m_start : Option Mem :=
  (nw 8 M0 0).bind fun M1 => (m_X7_init M1 0).bind fun M2 => (nw 9 M2 144).bind fun M3 => m_X8_init M3 144
def m_law (L : Nat) (xs : Nat → Int32) : Option Int32 := m_start.bind fun M => m_L_law_L18 L xs FU M 0
theorem nwL_7 : NW RL 7 7 13 tyX7 := ⟨RX7, TX7, rfl, hinX7, tyX7_ok, tw_73, tw_74, tw_61⟩
theorem liL_9 : LkI RL 9 yX7_init cX7_init 2 0 := ⟨⟨tw_75, tw_76, tw_61, tw_77⟩, rfl, by decide +kernel⟩
theorem nwL_10 : NW RL 10 8 22 tyX8 := ⟨RX8, TX8, rfl, hinX8, tyX8_ok, tw_683, tw_684, tw_69⟩
theorem liL_12 : LkI RL 12 yX8_init cX8_init 1 0 := ⟨⟨tw_685, tw_686, tw_69, tw_687⟩, rfl, by decide +kernel⟩
set_option maxHeartbeats 4000000 in
theorem w_law {p : Program} {l : Launch} {e : Env} {s : State} {m : MethodId} {below : List Frame} {meth : Method} {c : Code} {D : va_G} {cy : Nat → ClassId} {Λ : Nat → Nat} {b L : Nat} {xs : Nat → Int32} (C : Cx p s m #[Value.ref b] meth c code 4 RL ret D cy Λ (AA Λ s.heap.size)) (hX : va_X b L xs s s.heap) (hbl : b < s.heap.size) (hbA : ¬ AA Λ s.heap.size b) (hge : ∀ k : Nat, s.heap.size ≤ Λ k) (hL : ∀ k : Nat, Λ (k + 1) = Λ k + 1) (hs : s.heap.size = Λ 0) (hf : m_law L xs = some 1) : GG p l e room_1 s m #[Value.ref b] below meth c D cy Λ (AA Λ s.heap.size) 4 0 0 (lw_Z below #[Value.ref b] s) 0 M0 0 [(0, .ref b)] [] := by
  obtain ⟨M4, hf0, hf⟩ := ob hf
  unfold m_start at hf0
  refine g_new (pc := 0) (n := 0) (ci := 7) (N := 13) C hf0 hL hs rfl nwL_7 (by decide) dfX7 ⟨Nat.le_of_ble_eq_true rfl, Nat.le_of_ble_eq_true rfl⟩ dL_law_0 (fun M1 hk1 hf0 => ?_)
  refine g_dup (pc := 3) C dL_law_3 rfl ?_
  obtain ⟨M2, h2, hf0⟩ := ob hf0
  refine g_ctor (pc := 4) (n := 1) C hL hs rfl (c_X7_init C.2.2.2.2.2.1 hL hk1 h2) liL_9 (Nat.le_of_ble_eq_true rfl) ⟨⟨rfl, rfl⟩, Nat.le_of_ble_eq_true rfl, Nat.le_of_ble_eq_true rfl⟩ ⟨Nat.le_of_ble_eq_true rfl, Nat.le_of_ble_eq_true rfl⟩ dL_law_4 ?_
  refine g_astore_n (pc := 7) (lv2 := [(1, .ref (Λ 0)), (0, .ref b)]) C dL_law_7 rfl (by decide) rfl ?_
  refine g_new (pc := 8) (n := 144) (ci := 8) (N := 22) C hf0 hL hs rfl nwL_10 (by decide) dfX8 ⟨Nat.le_of_ble_eq_true rfl, Nat.le_of_ble_eq_true rfl⟩ dL_law_8 (fun M3 hk3 hf0 => ?_)
  refine g_dup (pc := 11) C dL_law_11 rfl ?_
  refine g_ctor (pc := 12) (n := 145) C hL hs rfl (c_X8_init C.2.2.2.2.2.1 hL hk3 hf0) liL_12 (Nat.le_of_ble_eq_true rfl) ⟨⟨rfl, rfl⟩, Nat.le_of_ble_eq_true rfl, Nat.le_of_ble_eq_true rfl⟩ ⟨Nat.le_of_ble_eq_true rfl, Nat.le_of_ble_eq_true rfl⟩ dL_law_12 ?_
  refine g_astore_n (pc := 15) (lv2 := [(2, .ref (Λ 144)), (1, .ref (Λ 0)), (0, .ref b)]) C dL_law_15 rfl (by decide) rfl ?_
  refine g_iconst (pc := 16) (v := (0 : Int32)) C dL_law_16 (by decide) ?_
  refine g_istore_n (pc := 17) (lv2 := [(3, .int (0 : Int32)), (2, .ref (Λ 144)), (1, .ref (Λ 0)), (0, .ref b)]) C dL_law_17 rfl (by decide) rfl ?_
  refine g_sub [3, 2, 1, 0] rfl ?_
  exact w_L_law_L18 C hX hbl hbA hge FU M4 0 hf
