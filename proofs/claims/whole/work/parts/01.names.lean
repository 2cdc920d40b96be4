-- ===== PART A: goes FIRST, ahead of the names: the tables' words, and 'selects' of the private methods out of them =====
/-- a private method of a class that the tables say can be made, by its rows of tables_1 -/
def lw_okq (q : MethodName × Nat) : Prop := (q.1.cls ≠ "java/lang/invoke/MethodHandle" ∧ q.1.cls ≠ "java/lang/invoke/VarHandle") ∧ Cond.instantiable q.1.cls q.2 ∈ tables_1 ∧ Cond.privateMethod q.1 ∈ tables_1 ∧ Cond.instanceMethod q.1 ∈ tables_1
theorem lw_p0 : lw_okq (⟨"StyleTree$Reader", "advance", "()V"⟩, 6) := ⟨⟨by decide +kernel, by decide +kernel⟩, List.mem_of_getElem? (i := 22) (by decide +kernel), List.mem_of_getElem? (i := 286) (by decide +kernel), List.mem_of_getElem? (i := 287) (by decide +kernel)⟩
theorem lw_p1 : lw_okq (⟨"StyleTree$Reader", "isDigitAt", "(I)Z"⟩, 6) := ⟨⟨by decide +kernel, by decide +kernel⟩, List.mem_of_getElem? (i := 22) (by decide +kernel), List.mem_of_getElem? (i := 290) (by decide +kernel), List.mem_of_getElem? (i := 291) (by decide +kernel)⟩
theorem lw_p2 : lw_okq (⟨"StyleTree$Reader", "readNode", "()Z"⟩, 6) := ⟨⟨by decide +kernel, by decide +kernel⟩, List.mem_of_getElem? (i := 22) (by decide +kernel), List.mem_of_getElem? (i := 294) (by decide +kernel), List.mem_of_getElem? (i := 295) (by decide +kernel)⟩
theorem lw_p3 : lw_okq (⟨"StyleTree$Reader", "isDigit", "()Z"⟩, 6) := ⟨⟨by decide +kernel, by decide +kernel⟩, List.mem_of_getElem? (i := 22) (by decide +kernel), List.mem_of_getElem? (i := 298) (by decide +kernel), List.mem_of_getElem? (i := 299) (by decide +kernel)⟩
theorem lw_p4 : lw_okq (⟨"StyleTree$Reader", "isTag", "()Z"⟩, 6) := ⟨⟨by decide +kernel, by decide +kernel⟩, List.mem_of_getElem? (i := 22) (by decide +kernel), List.mem_of_getElem? (i := 302) (by decide +kernel), List.mem_of_getElem? (i := 303) (by decide +kernel)⟩
theorem lw_p5 : lw_okq (⟨"StyleTree$Reader", "isClass", "()Z"⟩, 6) := ⟨⟨by decide +kernel, by decide +kernel⟩, List.mem_of_getElem? (i := 22) (by decide +kernel), List.mem_of_getElem? (i := 306) (by decide +kernel), List.mem_of_getElem? (i := 307) (by decide +kernel)⟩
theorem lw_p6 : lw_okq (⟨"StyleTree$Reader", "take", "(I)Z"⟩, 6) := ⟨⟨by decide +kernel, by decide +kernel⟩, List.mem_of_getElem? (i := 22) (by decide +kernel), List.mem_of_getElem? (i := 310) (by decide +kernel), List.mem_of_getElem? (i := 311) (by decide +kernel)⟩
theorem lw_p7 : lw_okq (⟨"StyleTree$Reader", "readRule", "()Z"⟩, 6) := ⟨⟨by decide +kernel, by decide +kernel⟩, List.mem_of_getElem? (i := 22) (by decide +kernel), List.mem_of_getElem? (i := 319) (by decide +kernel), List.mem_of_getElem? (i := 320) (by decide +kernel)⟩
theorem lw_p8 : lw_okq (⟨"StyleTree$Reader", "readSelector", "(LStyleTree$Rule;)Z"⟩, 6) := ⟨⟨by decide +kernel, by decide +kernel⟩, List.mem_of_getElem? (i := 22) (by decide +kernel), List.mem_of_getElem? (i := 328) (by decide +kernel), List.mem_of_getElem? (i := 329) (by decide +kernel)⟩
theorem lw_p9 : lw_okq (⟨"StyleTree$Reader", "readCompound", "(LStyleTree$Rule;Z)Z"⟩, 6) := ⟨⟨by decide +kernel, by decide +kernel⟩, List.mem_of_getElem? (i := 22) (by decide +kernel), List.mem_of_getElem? (i := 332) (by decide +kernel), List.mem_of_getElem? (i := 333) (by decide +kernel)⟩
theorem lw_p10 : lw_okq (⟨"StyleTree$Reader", "isJoint", "()Z"⟩, 6) := ⟨⟨by decide +kernel, by decide +kernel⟩, List.mem_of_getElem? (i := 22) (by decide +kernel), List.mem_of_getElem? (i := 347) (by decide +kernel), List.mem_of_getElem? (i := 348) (by decide +kernel)⟩
theorem lw_p11 : lw_okq (⟨"StyleTree$Reader", "readDeclarations", "(LStyleTree$Rule;)Z"⟩, 6) := ⟨⟨by decide +kernel, by decide +kernel⟩, List.mem_of_getElem? (i := 22) (by decide +kernel), List.mem_of_getElem? (i := 351) (by decide +kernel), List.mem_of_getElem? (i := 352) (by decide +kernel)⟩
theorem lw_p12 : lw_okq (⟨"StyleTree$Reader", "readDeclaration", "(LStyleTree$Rule;)Z"⟩, 6) := ⟨⟨by decide +kernel, by decide +kernel⟩, List.mem_of_getElem? (i := 22) (by decide +kernel), List.mem_of_getElem? (i := 355) (by decide +kernel), List.mem_of_getElem? (i := 356) (by decide +kernel)⟩
theorem lw_p13 : lw_okq (⟨"StyleTree$Reader", "isProperty", "()Z"⟩, 6) := ⟨⟨by decide +kernel, by decide +kernel⟩, List.mem_of_getElem? (i := 22) (by decide +kernel), List.mem_of_getElem? (i := 359) (by decide +kernel), List.mem_of_getElem? (i := 360) (by decide +kernel)⟩
theorem lw_p14 : lw_okq (⟨"StyleTree$Rule", "level", "(Z)I"⟩, 10) := ⟨⟨by decide +kernel, by decide +kernel⟩, List.mem_of_getElem? (i := 59) (by decide +kernel), List.mem_of_getElem? (i := 370) (by decide +kernel), List.mem_of_getElem? (i := 371) (by decide +kernel)⟩
theorem lw_p15 : lw_okq (⟨"StyleTree", "refresh", "()V"⟩, 13) := ⟨⟨by decide +kernel, by decide +kernel⟩, List.mem_of_getElem? (i := 14) (by decide +kernel), List.mem_of_getElem? (i := 401) (by decide +kernel), List.mem_of_getElem? (i := 402) (by decide +kernel)⟩
def lw_privs_1 : List (MethodName × Nat) := [(⟨"StyleTree$Reader", "advance", "()V"⟩, 6), (⟨"StyleTree$Reader", "isDigitAt", "(I)Z"⟩, 6), (⟨"StyleTree$Reader", "readNode", "()Z"⟩, 6), (⟨"StyleTree$Reader", "isDigit", "()Z"⟩, 6), (⟨"StyleTree$Reader", "isTag", "()Z"⟩, 6), (⟨"StyleTree$Reader", "isClass", "()Z"⟩, 6), (⟨"StyleTree$Reader", "take", "(I)Z"⟩, 6), (⟨"StyleTree$Reader", "readRule", "()Z"⟩, 6), (⟨"StyleTree$Reader", "readSelector", "(LStyleTree$Rule;)Z"⟩, 6), (⟨"StyleTree$Reader", "readCompound", "(LStyleTree$Rule;Z)Z"⟩, 6), (⟨"StyleTree$Reader", "isJoint", "()Z"⟩, 6), (⟨"StyleTree$Reader", "readDeclarations", "(LStyleTree$Rule;)Z"⟩, 6), (⟨"StyleTree$Reader", "readDeclaration", "(LStyleTree$Rule;)Z"⟩, 6), (⟨"StyleTree$Reader", "isProperty", "()Z"⟩, 6), (⟨"StyleTree$Rule", "level", "(Z)I"⟩, 10), (⟨"StyleTree", "refresh", "()V"⟩, 13)]
theorem lw_r1 : ∀ q ∈ lw_privs_1, lw_okq q := List.forall_mem_cons.mpr ⟨lw_p0, List.forall_mem_cons.mpr ⟨lw_p1, List.forall_mem_cons.mpr ⟨lw_p2, List.forall_mem_cons.mpr ⟨lw_p3, List.forall_mem_cons.mpr ⟨lw_p4, List.forall_mem_cons.mpr ⟨lw_p5, List.forall_mem_cons.mpr ⟨lw_p6, List.forall_mem_cons.mpr ⟨lw_p7, List.forall_mem_cons.mpr ⟨lw_p8, List.forall_mem_cons.mpr ⟨lw_p9, List.forall_mem_cons.mpr ⟨lw_p10, List.forall_mem_cons.mpr ⟨lw_p11, List.forall_mem_cons.mpr ⟨lw_p12, List.forall_mem_cons.mpr ⟨lw_p13, List.forall_mem_cons.mpr ⟨lw_p14, List.forall_mem_cons.mpr ⟨lw_p15, fun _ h => absurd h List.not_mem_nil⟩⟩⟩⟩⟩⟩⟩⟩⟩⟩⟩⟩⟩⟩⟩⟩
theorem lw_p16 : lw_okq (⟨"StyleTree$Sheet", "under", "(IZ)I"⟩, 6) := ⟨⟨by decide +kernel, by decide +kernel⟩, List.mem_of_getElem? (i := 28) (by decide +kernel), List.mem_of_getElem? (i := 426) (by decide +kernel), List.mem_of_getElem? (i := 427) (by decide +kernel)⟩
theorem lw_p17 : lw_okq (⟨"StyleTree$Styles", "noteRule", "(I)V"⟩, 5) := ⟨⟨by decide +kernel, by decide +kernel⟩, List.mem_of_getElem? (i := 163) (by decide +kernel), List.mem_of_getElem? (i := 430) (by decide +kernel), List.mem_of_getElem? (i := 431) (by decide +kernel)⟩
theorem lw_p18 : lw_okq (⟨"StyleTree$Styles", "settle", "(LStyleTree$Sheet;II)V"⟩, 5) := ⟨⟨by decide +kernel, by decide +kernel⟩, List.mem_of_getElem? (i := 163) (by decide +kernel), List.mem_of_getElem? (i := 435) (by decide +kernel), List.mem_of_getElem? (i := 436) (by decide +kernel)⟩
theorem lw_p19 : lw_okq (⟨"StyleTree$Styles", "styleOf", "(I)I"⟩, 5) := ⟨⟨by decide +kernel, by decide +kernel⟩, List.mem_of_getElem? (i := 163) (by decide +kernel), List.mem_of_getElem? (i := 457) (by decide +kernel), List.mem_of_getElem? (i := 458) (by decide +kernel)⟩
theorem lw_p20 : lw_okq (⟨"StyleTree", "perform", "(II)V"⟩, 13) := ⟨⟨by decide +kernel, by decide +kernel⟩, List.mem_of_getElem? (i := 14) (by decide +kernel), List.mem_of_getElem? (i := 482) (by decide +kernel), List.mem_of_getElem? (i := 483) (by decide +kernel)⟩
theorem lw_p21 : lw_okq (⟨"StyleTree$Look", "putTag", "(II)V"⟩, 3) := ⟨⟨by decide +kernel, by decide +kernel⟩, List.mem_of_getElem? (i := 34) (by decide +kernel), List.mem_of_getElem? (i := 490) (by decide +kernel), List.mem_of_getElem? (i := 491) (by decide +kernel)⟩
theorem lw_p22 : lw_okq (⟨"StyleTree$Look", "flipClass", "(II)V"⟩, 3) := ⟨⟨by decide +kernel, by decide +kernel⟩, List.mem_of_getElem? (i := 34) (by decide +kernel), List.mem_of_getElem? (i := 495) (by decide +kernel), List.mem_of_getElem? (i := 496) (by decide +kernel)⟩
theorem lw_p23 : lw_okq (⟨"StyleTree", "isPlace", "(II)Z"⟩, 13) := ⟨⟨by decide +kernel, by decide +kernel⟩, List.mem_of_getElem? (i := 14) (by decide +kernel), List.mem_of_getElem? (i := 525) (by decide +kernel), List.mem_of_getElem? (i := 526) (by decide +kernel)⟩
theorem lw_p24 : lw_okq (⟨"StyleTree$Sheet", "lookedAtBy", "(LStyleTree$Look;LStyleTree$Rule;II)I"⟩, 6) := ⟨⟨by decide +kernel, by decide +kernel⟩, List.mem_of_getElem? (i := 28) (by decide +kernel), List.mem_of_getElem? (i := 553) (by decide +kernel), List.mem_of_getElem? (i := 554) (by decide +kernel)⟩
theorem lw_p25 : lw_okq (⟨"StyleTree", "tryOut", "(I)V"⟩, 13) := ⟨⟨by decide +kernel, by decide +kernel⟩, List.mem_of_getElem? (i := 14) (by decide +kernel), List.mem_of_getElem? (i := 558) (by decide +kernel), List.mem_of_getElem? (i := 559) (by decide +kernel)⟩
theorem lw_p26 : lw_okq (⟨"StyleTree", "gatherAnswers", "(I)V"⟩, 13) := ⟨⟨by decide +kernel, by decide +kernel⟩, List.mem_of_getElem? (i := 14) (by decide +kernel), List.mem_of_getElem? (i := 598) (by decide +kernel), List.mem_of_getElem? (i := 599) (by decide +kernel)⟩
theorem lw_p27 : lw_okq (⟨"StyleTree", "addAnswers", "()V"⟩, 13) := ⟨⟨by decide +kernel, by decide +kernel⟩, List.mem_of_getElem? (i := 14) (by decide +kernel), List.mem_of_getElem? (i := 603) (by decide +kernel), List.mem_of_getElem? (i := 604) (by decide +kernel)⟩
theorem lw_p28 : lw_okq (⟨"StyleTreeModel", "begins", "()V"⟩, 22) := ⟨⟨by decide +kernel, by decide +kernel⟩, List.mem_of_getElem? (i := 624) (by decide +kernel), List.mem_of_getElem? (i := 630) (by decide +kernel), List.mem_of_getElem? (i := 631) (by decide +kernel)⟩
theorem lw_p29 : lw_okq (⟨"StyleTreeModel", "settles", "()V"⟩, 22) := ⟨⟨by decide +kernel, by decide +kernel⟩, List.mem_of_getElem? (i := 624) (by decide +kernel), List.mem_of_getElem? (i := 634) (by decide +kernel), List.mem_of_getElem? (i := 635) (by decide +kernel)⟩
theorem lw_p30 : lw_okq (⟨"StyleTreeModel", "advances", "()V"⟩, 22) := ⟨⟨by decide +kernel, by decide +kernel⟩, List.mem_of_getElem? (i := 624) (by decide +kernel), List.mem_of_getElem? (i := 720) (by decide +kernel), List.mem_of_getElem? (i := 721) (by decide +kernel)⟩
theorem lw_p31 : lw_okq (⟨"StyleTreeModel", "letterAt", "(I)I"⟩, 22) := ⟨⟨by decide +kernel, by decide +kernel⟩, List.mem_of_getElem? (i := 624) (by decide +kernel), List.mem_of_getElem? (i := 724) (by decide +kernel), List.mem_of_getElem? (i := 725) (by decide +kernel)⟩
def lw_privs_2 : List (MethodName × Nat) := [(⟨"StyleTree$Sheet", "under", "(IZ)I"⟩, 6), (⟨"StyleTree$Styles", "noteRule", "(I)V"⟩, 5), (⟨"StyleTree$Styles", "settle", "(LStyleTree$Sheet;II)V"⟩, 5), (⟨"StyleTree$Styles", "styleOf", "(I)I"⟩, 5), (⟨"StyleTree", "perform", "(II)V"⟩, 13), (⟨"StyleTree$Look", "putTag", "(II)V"⟩, 3), (⟨"StyleTree$Look", "flipClass", "(II)V"⟩, 3), (⟨"StyleTree", "isPlace", "(II)Z"⟩, 13), (⟨"StyleTree$Sheet", "lookedAtBy", "(LStyleTree$Look;LStyleTree$Rule;II)I"⟩, 6), (⟨"StyleTree", "tryOut", "(I)V"⟩, 13), (⟨"StyleTree", "gatherAnswers", "(I)V"⟩, 13), (⟨"StyleTree", "addAnswers", "()V"⟩, 13), (⟨"StyleTreeModel", "begins", "()V"⟩, 22), (⟨"StyleTreeModel", "settles", "()V"⟩, 22), (⟨"StyleTreeModel", "advances", "()V"⟩, 22), (⟨"StyleTreeModel", "letterAt", "(I)I"⟩, 22)]
theorem lw_r2 : ∀ q ∈ lw_privs_2, lw_okq q := List.forall_mem_cons.mpr ⟨lw_p16, List.forall_mem_cons.mpr ⟨lw_p17, List.forall_mem_cons.mpr ⟨lw_p18, List.forall_mem_cons.mpr ⟨lw_p19, List.forall_mem_cons.mpr ⟨lw_p20, List.forall_mem_cons.mpr ⟨lw_p21, List.forall_mem_cons.mpr ⟨lw_p22, List.forall_mem_cons.mpr ⟨lw_p23, List.forall_mem_cons.mpr ⟨lw_p24, List.forall_mem_cons.mpr ⟨lw_p25, List.forall_mem_cons.mpr ⟨lw_p26, List.forall_mem_cons.mpr ⟨lw_p27, List.forall_mem_cons.mpr ⟨lw_p28, List.forall_mem_cons.mpr ⟨lw_p29, List.forall_mem_cons.mpr ⟨lw_p30, List.forall_mem_cons.mpr ⟨lw_p31, fun _ h => absurd h List.not_mem_nil⟩⟩⟩⟩⟩⟩⟩⟩⟩⟩⟩⟩⟩⟩⟩⟩
theorem lw_p32 : lw_okq (⟨"StyleTreeModel", "isWell", "()Z"⟩, 22) := ⟨⟨by decide +kernel, by decide +kernel⟩, List.mem_of_getElem? (i := 624) (by decide +kernel), List.mem_of_getElem? (i := 731) (by decide +kernel), List.mem_of_getElem? (i := 732) (by decide +kernel)⟩
theorem lw_p33 : lw_okq (⟨"StyleTreeModel", "isThis", "(I)Z"⟩, 22) := ⟨⟨by decide +kernel, by decide +kernel⟩, List.mem_of_getElem? (i := 624) (by decide +kernel), List.mem_of_getElem? (i := 735) (by decide +kernel), List.mem_of_getElem? (i := 736) (by decide +kernel)⟩
theorem lw_p34 : lw_okq (⟨"StyleTreeModel", "takes", "(Z)I"⟩, 22) := ⟨⟨by decide +kernel, by decide +kernel⟩, List.mem_of_getElem? (i := 624) (by decide +kernel), List.mem_of_getElem? (i := 739) (by decide +kernel), List.mem_of_getElem? (i := 740) (by decide +kernel)⟩
theorem lw_p35 : lw_okq (⟨"StyleTreeModel", "readsNode", "()V"⟩, 22) := ⟨⟨by decide +kernel, by decide +kernel⟩, List.mem_of_getElem? (i := 624) (by decide +kernel), List.mem_of_getElem? (i := 743) (by decide +kernel), List.mem_of_getElem? (i := 744) (by decide +kernel)⟩
theorem lw_p36 : lw_okq (⟨"StyleTreeModel", "isFrom", "(II)Z"⟩, 22) := ⟨⟨by decide +kernel, by decide +kernel⟩, List.mem_of_getElem? (i := 624) (by decide +kernel), List.mem_of_getElem? (i := 747) (by decide +kernel), List.mem_of_getElem? (i := 748) (by decide +kernel)⟩
theorem lw_p37 : lw_okq (⟨"StyleTreeModel", "readsRule", "()V"⟩, 22) := ⟨⟨by decide +kernel, by decide +kernel⟩, List.mem_of_getElem? (i := 624) (by decide +kernel), List.mem_of_getElem? (i := 754) (by decide +kernel), List.mem_of_getElem? (i := 755) (by decide +kernel)⟩
theorem lw_p38 : lw_okq (⟨"StyleTreeModel", "readsCompound", "(I)V"⟩, 22) := ⟨⟨by decide +kernel, by decide +kernel⟩, List.mem_of_getElem? (i := 624) (by decide +kernel), List.mem_of_getElem? (i := 758) (by decide +kernel), List.mem_of_getElem? (i := 759) (by decide +kernel)⟩
theorem lw_p39 : lw_okq (⟨"StyleTreeModel", "readsDeclarations", "(I)V"⟩, 22) := ⟨⟨by decide +kernel, by decide +kernel⟩, List.mem_of_getElem? (i := 624) (by decide +kernel), List.mem_of_getElem? (i := 762) (by decide +kernel), List.mem_of_getElem? (i := 763) (by decide +kernel)⟩
theorem lw_p40 : lw_okq (⟨"StyleTreeModel", "isNode", "(I)Z"⟩, 22) := ⟨⟨by decide +kernel, by decide +kernel⟩, List.mem_of_getElem? (i := 624) (by decide +kernel), List.mem_of_getElem? (i := 770) (by decide +kernel), List.mem_of_getElem? (i := 771) (by decide +kernel)⟩
theorem lw_p41 : lw_okq (⟨"StyleTreeModel", "fills", "()V"⟩, 22) := ⟨⟨by decide +kernel, by decide +kernel⟩, List.mem_of_getElem? (i := 624) (by decide +kernel), List.mem_of_getElem? (i := 774) (by decide +kernel), List.mem_of_getElem? (i := 775) (by decide +kernel)⟩
theorem lw_p42 : lw_okq (⟨"StyleTreeModel", "matching", "(II)I"⟩, 22) := ⟨⟨by decide +kernel, by decide +kernel⟩, List.mem_of_getElem? (i := 624) (by decide +kernel), List.mem_of_getElem? (i := 778) (by decide +kernel), List.mem_of_getElem? (i := 779) (by decide +kernel)⟩
theorem lw_p43 : lw_okq (⟨"StyleTreeModel", "fits", "(II)Z"⟩, 22) := ⟨⟨by decide +kernel, by decide +kernel⟩, List.mem_of_getElem? (i := 624) (by decide +kernel), List.mem_of_getElem? (i := 782) (by decide +kernel), List.mem_of_getElem? (i := 783) (by decide +kernel)⟩
theorem lw_p44 : lw_okq (⟨"StyleTreeModel", "rulesOf", "(I)I"⟩, 22) := ⟨⟨by decide +kernel, by decide +kernel⟩, List.mem_of_getElem? (i := 624) (by decide +kernel), List.mem_of_getElem? (i := 786) (by decide +kernel), List.mem_of_getElem? (i := 787) (by decide +kernel)⟩
theorem lw_p45 : lw_okq (⟨"StyleTreeModel", "recordOf", "(I)I"⟩, 22) := ⟨⟨by decide +kernel, by decide +kernel⟩, List.mem_of_getElem? (i := 624) (by decide +kernel), List.mem_of_getElem? (i := 790) (by decide +kernel), List.mem_of_getElem? (i := 791) (by decide +kernel)⟩
theorem lw_p46 : lw_okq (⟨"StyleTreeModel", "isLike", "(II)Z"⟩, 22) := ⟨⟨by decide +kernel, by decide +kernel⟩, List.mem_of_getElem? (i := 624) (by decide +kernel), List.mem_of_getElem? (i := 794) (by decide +kernel), List.mem_of_getElem? (i := 795) (by decide +kernel)⟩
theorem lw_p47 : lw_okq (⟨"StyleTreeModel", "valueOf", "(II)I"⟩, 22) := ⟨⟨by decide +kernel, by decide +kernel⟩, List.mem_of_getElem? (i := 624) (by decide +kernel), List.mem_of_getElem? (i := 798) (by decide +kernel), List.mem_of_getElem? (i := 799) (by decide +kernel)⟩
def lw_privs_3 : List (MethodName × Nat) := [(⟨"StyleTreeModel", "isWell", "()Z"⟩, 22), (⟨"StyleTreeModel", "isThis", "(I)Z"⟩, 22), (⟨"StyleTreeModel", "takes", "(Z)I"⟩, 22), (⟨"StyleTreeModel", "readsNode", "()V"⟩, 22), (⟨"StyleTreeModel", "isFrom", "(II)Z"⟩, 22), (⟨"StyleTreeModel", "readsRule", "()V"⟩, 22), (⟨"StyleTreeModel", "readsCompound", "(I)V"⟩, 22), (⟨"StyleTreeModel", "readsDeclarations", "(I)V"⟩, 22), (⟨"StyleTreeModel", "isNode", "(I)Z"⟩, 22), (⟨"StyleTreeModel", "fills", "()V"⟩, 22), (⟨"StyleTreeModel", "matching", "(II)I"⟩, 22), (⟨"StyleTreeModel", "fits", "(II)Z"⟩, 22), (⟨"StyleTreeModel", "rulesOf", "(I)I"⟩, 22), (⟨"StyleTreeModel", "recordOf", "(I)I"⟩, 22), (⟨"StyleTreeModel", "isLike", "(II)Z"⟩, 22), (⟨"StyleTreeModel", "valueOf", "(II)I"⟩, 22)]
theorem lw_r3 : ∀ q ∈ lw_privs_3, lw_okq q := List.forall_mem_cons.mpr ⟨lw_p32, List.forall_mem_cons.mpr ⟨lw_p33, List.forall_mem_cons.mpr ⟨lw_p34, List.forall_mem_cons.mpr ⟨lw_p35, List.forall_mem_cons.mpr ⟨lw_p36, List.forall_mem_cons.mpr ⟨lw_p37, List.forall_mem_cons.mpr ⟨lw_p38, List.forall_mem_cons.mpr ⟨lw_p39, List.forall_mem_cons.mpr ⟨lw_p40, List.forall_mem_cons.mpr ⟨lw_p41, List.forall_mem_cons.mpr ⟨lw_p42, List.forall_mem_cons.mpr ⟨lw_p43, List.forall_mem_cons.mpr ⟨lw_p44, List.forall_mem_cons.mpr ⟨lw_p45, List.forall_mem_cons.mpr ⟨lw_p46, List.forall_mem_cons.mpr ⟨lw_p47, fun _ h => absurd h List.not_mem_nil⟩⟩⟩⟩⟩⟩⟩⟩⟩⟩⟩⟩⟩⟩⟩⟩
theorem lw_p48 : lw_okq (⟨"StyleTreeModel", "sourceOf", "(II)I"⟩, 22) := ⟨⟨by decide +kernel, by decide +kernel⟩, List.mem_of_getElem? (i := 624) (by decide +kernel), List.mem_of_getElem? (i := 802) (by decide +kernel), List.mem_of_getElem? (i := 803) (by decide +kernel)⟩
theorem lw_p49 : lw_okq (⟨"StyleTreeModel", "winnerOf", "(III)I"⟩, 22) := ⟨⟨by decide +kernel, by decide +kernel⟩, List.mem_of_getElem? (i := 624) (by decide +kernel), List.mem_of_getElem? (i := 806) (by decide +kernel), List.mem_of_getElem? (i := 807) (by decide +kernel)⟩
theorem lw_p50 : lw_okq (⟨"StyleTreeModel", "heightOf", "(II)I"⟩, 22) := ⟨⟨by decide +kernel, by decide +kernel⟩, List.mem_of_getElem? (i := 624) (by decide +kernel), List.mem_of_getElem? (i := 810) (by decide +kernel), List.mem_of_getElem? (i := 811) (by decide +kernel)⟩
theorem lw_p51 : lw_okq (⟨"StyleTreeModel", "specific", "(I)I"⟩, 22) := ⟨⟨by decide +kernel, by decide +kernel⟩, List.mem_of_getElem? (i := 624) (by decide +kernel), List.mem_of_getElem? (i := 814) (by decide +kernel), List.mem_of_getElem? (i := 815) (by decide +kernel)⟩
theorem lw_p52 : lw_okq (⟨"StyleTreeModel", "below", "(I)I"⟩, 22) := ⟨⟨by decide +kernel, by decide +kernel⟩, List.mem_of_getElem? (i := 624) (by decide +kernel), List.mem_of_getElem? (i := 821) (by decide +kernel), List.mem_of_getElem? (i := 822) (by decide +kernel)⟩
theorem lw_p53 : lw_okq (⟨"StyleTreeModel", "isRule", "(I)Z"⟩, 22) := ⟨⟨by decide +kernel, by decide +kernel⟩, List.mem_of_getElem? (i := 624) (by decide +kernel), List.mem_of_getElem? (i := 829) (by decide +kernel), List.mem_of_getElem? (i := 830) (by decide +kernel)⟩
theorem lw_p54 : lw_okq (⟨"StyleTreeModel", "notes", "()V"⟩, 22) := ⟨⟨by decide +kernel, by decide +kernel⟩, List.mem_of_getElem? (i := 624) (by decide +kernel), List.mem_of_getElem? (i := 840) (by decide +kernel), List.mem_of_getElem? (i := 841) (by decide +kernel)⟩
theorem lw_p55 : lw_okq (⟨"StyleTreeModel", "lookedAt", "(II)I"⟩, 22) := ⟨⟨by decide +kernel, by decide +kernel⟩, List.mem_of_getElem? (i := 624) (by decide +kernel), List.mem_of_getElem? (i := 872) (by decide +kernel), List.mem_of_getElem? (i := 873) (by decide +kernel)⟩
theorem lw_p56 : lw_okq (⟨"StyleTreeModel", "different", "(II)I"⟩, 22) := ⟨⟨by decide +kernel, by decide +kernel⟩, List.mem_of_getElem? (i := 624) (by decide +kernel), List.mem_of_getElem? (i := 876) (by decide +kernel), List.mem_of_getElem? (i := 877) (by decide +kernel)⟩
theorem lw_p57 : lw_okq (⟨"StyleTreeModel", "valueBy", "(III)I"⟩, 22) := ⟨⟨by decide +kernel, by decide +kernel⟩, List.mem_of_getElem? (i := 624) (by decide +kernel), List.mem_of_getElem? (i := 884) (by decide +kernel), List.mem_of_getElem? (i := 885) (by decide +kernel)⟩
theorem lw_p58 : lw_okq (⟨"StyleTreeModel", "unseenSet", "()I"⟩, 22) := ⟨⟨by decide +kernel, by decide +kernel⟩, List.mem_of_getElem? (i := 624) (by decide +kernel), List.mem_of_getElem? (i := 900) (by decide +kernel), List.mem_of_getElem? (i := 901) (by decide +kernel)⟩
theorem lw_p59 : lw_okq (⟨"StyleTreeModel", "styles", "()I"⟩, 22) := ⟨⟨by decide +kernel, by decide +kernel⟩, List.mem_of_getElem? (i := 624) (by decide +kernel), List.mem_of_getElem? (i := 920) (by decide +kernel), List.mem_of_getElem? (i := 921) (by decide +kernel)⟩
def lw_privs_4 : List (MethodName × Nat) := [(⟨"StyleTreeModel", "sourceOf", "(II)I"⟩, 22), (⟨"StyleTreeModel", "winnerOf", "(III)I"⟩, 22), (⟨"StyleTreeModel", "heightOf", "(II)I"⟩, 22), (⟨"StyleTreeModel", "specific", "(I)I"⟩, 22), (⟨"StyleTreeModel", "below", "(I)I"⟩, 22), (⟨"StyleTreeModel", "isRule", "(I)Z"⟩, 22), (⟨"StyleTreeModel", "notes", "()V"⟩, 22), (⟨"StyleTreeModel", "lookedAt", "(II)I"⟩, 22), (⟨"StyleTreeModel", "different", "(II)I"⟩, 22), (⟨"StyleTreeModel", "valueBy", "(III)I"⟩, 22), (⟨"StyleTreeModel", "unseenSet", "()I"⟩, 22), (⟨"StyleTreeModel", "styles", "()I"⟩, 22)]
theorem lw_r4 : ∀ q ∈ lw_privs_4, lw_okq q := List.forall_mem_cons.mpr ⟨lw_p48, List.forall_mem_cons.mpr ⟨lw_p49, List.forall_mem_cons.mpr ⟨lw_p50, List.forall_mem_cons.mpr ⟨lw_p51, List.forall_mem_cons.mpr ⟨lw_p52, List.forall_mem_cons.mpr ⟨lw_p53, List.forall_mem_cons.mpr ⟨lw_p54, List.forall_mem_cons.mpr ⟨lw_p55, List.forall_mem_cons.mpr ⟨lw_p56, List.forall_mem_cons.mpr ⟨lw_p57, List.forall_mem_cons.mpr ⟨lw_p58, List.forall_mem_cons.mpr ⟨lw_p59, fun _ h => absurd h List.not_mem_nil⟩⟩⟩⟩⟩⟩⟩⟩⟩⟩⟩⟩
def lw_privs : List (MethodName × Nat) := lw_privs_1 ++ (lw_privs_2 ++ (lw_privs_3 ++ (lw_privs_4)))
def lw_tbl : List Cond := k2_sels lw_privs ++ tables_1
theorem lw_privs_ok : ∀ q ∈ lw_privs, lw_okq q := by
  show ∀ q ∈ lw_privs_1 ++ (lw_privs_2 ++ (lw_privs_3 ++ (lw_privs_4))), lw_okq q
  exact List.forall_mem_append.mpr ⟨lw_r1, List.forall_mem_append.mpr ⟨lw_r2, List.forall_mem_append.mpr ⟨lw_r3, lw_r4⟩⟩⟩
def RX0 : String := "StyleTree$History"
def TX0 : u_T := fun k => match k with
  | 0 => ("StyleTree$History", "remedies", "[I", true)
  | _ => ("StyleTree$History", "size", "I", false)
def tyX0 : Nat → FieldType := fun k => match k with
  | 0 => .array .int
  | _ => .int
abbrev wsX00 : List Cond := u_ws RX0 TX0 2
theorem nmX0 : ∀ a, a < 2 → ∀ b, b < 2 → a ≠ b → (TX0 a).2.1 ≠ (TX0 b).2.1 := by decide +kernel
theorem tyX0_ok : ∀ k, k < 2 → parseFieldDescriptor (TX0 k).2.2.1 = some (tyX0 k) := by decide +kernel
abbrev cX0_init : ByteArray := prog_2_method_1_code
def yX0_init : MethodName := ⟨RX0, "<init>", "()V"⟩
abbrev cX0_empty : ByteArray := prog_2_method_2_code
def yX0_empty : MethodName := ⟨RX0, "empty", "()V"⟩
abbrev cX0_add : ByteArray := prog_2_method_3_code
def yX0_add : MethodName := ⟨RX0, "add", "(I)V"⟩
abbrev cX0_takeLatest : ByteArray := prog_2_method_4_code
def yX0_takeLatest : MethodName := ⟨RX0, "takeLatest", "()I"⟩
def RX1 : String := "StyleTree$Look"
def TX1 : u_T := fun k => match k with
  | 0 => ("StyleTree$Look", "tags", "[I", true)
  | 1 => ("StyleTree$Look", "classes", "[I", true)
  | _ => ("StyleTree$Look", "on", "I", false)
def tyX1 : Nat → FieldType := fun k => match k with
  | 0 => .array .int
  | 1 => .array .int
  | _ => .int
abbrev wsX10 : List Cond := u_ws RX1 TX1 3
theorem nmX1 : ∀ a, a < 3 → ∀ b, b < 3 → a ≠ b → (TX1 a).2.1 ≠ (TX1 b).2.1 := by decide +kernel
theorem tyX1_ok : ∀ k, k < 3 → parseFieldDescriptor (TX1 k).2.2.1 = some (tyX1 k) := by decide +kernel
abbrev cX1_init : ByteArray := prog_3_method_1_code
def yX1_init : MethodName := ⟨RX1, "<init>", "()V"⟩
abbrev cX1_copyFrom : ByteArray := prog_3_method_2_code
def yX1_copyFrom : MethodName := ⟨RX1, "copyFrom", "(LStyleTree$Look;)V"⟩
abbrev cX1_hasOn : ByteArray := prog_3_method_3_code
def yX1_hasOn : MethodName := ⟨RX1, "hasOn", "(I)Z"⟩
abbrev cX1_apply : ByteArray := prog_3_method_4_code
def yX1_apply : MethodName := ⟨RX1, "apply", "(I)V"⟩
abbrev cX1_putTag : ByteArray := prog_3_method_5_code
def yX1_putTag : MethodName := ⟨RX1, "putTag", "(II)V"⟩
abbrev cX1_flipClass : ByteArray := prog_3_method_6_code
def yX1_flipClass : MethodName := ⟨RX1, "flipClass", "(II)V"⟩
def RX2 : String := "StyleTree$Reader"
def TX2 : u_T := fun k => match k with
  | 0 => ("StyleTree$Reader", "letters", "[C", false)
  | 1 => ("StyleTree$Reader", "length", "I", false)
  | 2 => ("StyleTree$Reader", "next", "I", false)
  | 3 => ("StyleTree$Reader", "start", "I", false)
  | 4 => ("StyleTree$Reader", "token", "I", false)
  | _ => ("StyleTree$Reader", "sheet", "LStyleTree$Sheet;", false)
def tyX2 : Nat → FieldType := fun k => match k with
  | 0 => .array .char
  | 1 => .int
  | 2 => .int
  | 3 => .int
  | 4 => .int
  | _ => .object "StyleTree$Sheet"
abbrev wsX20 : List Cond := u_ws RX2 TX2 6
theorem nmX2 : ∀ a, a < 6 → ∀ b, b < 6 → a ≠ b → (TX2 a).2.1 ≠ (TX2 b).2.1 := by decide +kernel
theorem tyX2_ok : ∀ k, k < 6 → parseFieldDescriptor (TX2 k).2.2.1 = some (tyX2 k) := by decide +kernel
abbrev cX2_init : ByteArray := prog_4_method_1_code
def yX2_init : MethodName := ⟨RX2, "<init>", "()V"⟩
abbrev cX2_readAll : ByteArray := prog_4_method_2_code
def yX2_readAll : MethodName := ⟨RX2, "readAll", "([CI)I"⟩
abbrev cX2_exchange : ByteArray := prog_4_method_3_code
def yX2_exchange : MethodName := ⟨RX2, "exchange", "(LStyleTree$Sheet;)LStyleTree$Sheet;"⟩
abbrev cX2_fault : ByteArray := prog_4_method_4_code
def yX2_fault : MethodName := ⟨RX2, "fault", "()I"⟩
abbrev cX2_advance : ByteArray := prog_4_method_5_code
def yX2_advance : MethodName := ⟨RX2, "advance", "()V"⟩
abbrev cX2_isDigitAt : ByteArray := prog_4_method_6_code
def yX2_isDigitAt : MethodName := ⟨RX2, "isDigitAt", "(I)Z"⟩
abbrev cX2_isDigit : ByteArray := prog_4_method_7_code
def yX2_isDigit : MethodName := ⟨RX2, "isDigit", "()Z"⟩
abbrev cX2_isTag : ByteArray := prog_4_method_8_code
def yX2_isTag : MethodName := ⟨RX2, "isTag", "()Z"⟩
abbrev cX2_isClass : ByteArray := prog_4_method_9_code
def yX2_isClass : MethodName := ⟨RX2, "isClass", "()Z"⟩
abbrev cX2_isProperty : ByteArray := prog_4_method_10_code
def yX2_isProperty : MethodName := ⟨RX2, "isProperty", "()Z"⟩
abbrev cX2_isJoint : ByteArray := prog_4_method_11_code
def yX2_isJoint : MethodName := ⟨RX2, "isJoint", "()Z"⟩
abbrev cX2_take : ByteArray := prog_4_method_12_code
def yX2_take : MethodName := ⟨RX2, "take", "(I)Z"⟩
abbrev cX2_readNode : ByteArray := prog_4_method_13_code
def yX2_readNode : MethodName := ⟨RX2, "readNode", "()Z"⟩
abbrev cX2_readRule : ByteArray := prog_4_method_14_code
def yX2_readRule : MethodName := ⟨RX2, "readRule", "()Z"⟩
abbrev cX2_readSelector : ByteArray := prog_4_method_15_code
def yX2_readSelector : MethodName := ⟨RX2, "readSelector", "(LStyleTree$Rule;)Z"⟩
abbrev cX2_readCompound : ByteArray := prog_4_method_16_code
def yX2_readCompound : MethodName := ⟨RX2, "readCompound", "(LStyleTree$Rule;Z)Z"⟩
abbrev cX2_readDeclarations : ByteArray := prog_4_method_17_code
def yX2_readDeclarations : MethodName := ⟨RX2, "readDeclarations", "(LStyleTree$Rule;)Z"⟩
abbrev cX2_readDeclaration : ByteArray := prog_4_method_18_code
def yX2_readDeclaration : MethodName := ⟨RX2, "readDeclaration", "(LStyleTree$Rule;)Z"⟩
def RX3 : String := "StyleTree$Rule"
def TX3 : u_T := fun k => match k with
  | 0 => ("StyleTree$Rule", "user", "Z", false)
  | 1 => ("StyleTree$Rule", "compounds", "I", false)
  | 2 => ("StyleTree$Rule", "specific", "I", false)
  | 3 => ("StyleTree$Rule", "declared", "I", false)
  | 4 => ("StyleTree$Rule", "strong", "I", false)
  | 5 => ("StyleTree$Rule", "tags", "[I", true)
  | 6 => ("StyleTree$Rule", "classes", "[I", true)
  | 7 => ("StyleTree$Rule", "isChild", "[Z", true)
  | 8 => ("StyleTree$Rule", "values", "[I", true)
  | _ => ("StyleTree$Rule", "weights", "[I", true)
def tyX3 : Nat → FieldType := fun k => match k with
  | 0 => .boolean
  | 1 => .int
  | 2 => .int
  | 3 => .int
  | 4 => .int
  | 5 => .array .int
  | 6 => .array .int
  | 7 => .array .boolean
  | 8 => .array .int
  | _ => .array .int
abbrev wsX30 : List Cond := u_ws RX3 TX3 10
theorem nmX3 : ∀ a, a < 10 → ∀ b, b < 10 → a ≠ b → (TX3 a).2.1 ≠ (TX3 b).2.1 := by decide +kernel
theorem tyX3_ok : ∀ k, k < 10 → parseFieldDescriptor (TX3 k).2.2.1 = some (tyX3 k) := by decide +kernel
abbrev cX3_init : ByteArray := prog_5_method_1_code
def yX3_init : MethodName := ⟨RX3, "<init>", "()V"⟩
abbrev cX3_begin : ByteArray := prog_5_method_2_code
def yX3_begin : MethodName := ⟨RX3, "begin", "(Z)V"⟩
abbrev cX3_addCompound : ByteArray := prog_5_method_3_code
def yX3_addCompound : MethodName := ⟨RX3, "addCompound", "(IIZ)V"⟩
abbrev cX3_declare : ByteArray := prog_5_method_4_code
def yX3_declare : MethodName := ⟨RX3, "declare", "(IIZ)V"⟩
abbrev cX3_level : ByteArray := prog_5_method_5_code
def yX3_level : MethodName := ⟨RX3, "level", "(Z)I"⟩
abbrev cX3_fits : ByteArray := prog_5_method_6_code
def yX3_fits : MethodName := ⟨RX3, "fits", "(III)Z"⟩
def RX4 : String := "StyleTree$Sheet"
def TX4 : u_T := fun k => match k with
  | 0 => ("StyleTree$Sheet", "nodes", "I", false)
  | 1 => ("StyleTree$Sheet", "rules", "I", false)
  | 2 => ("StyleTree$Sheet", "parents", "[I", true)
  | 3 => ("StyleTree$Sheet", "above", "[I", true)
  | 4 => ("StyleTree$Sheet", "told", "LStyleTree$Look;", true)
  | _ => ("StyleTree$Sheet", "rows", "[LStyleTree$Rule;", true)
def tyX4 : Nat → FieldType := fun k => match k with
  | 0 => .int
  | 1 => .int
  | 2 => .array .int
  | 3 => .array .int
  | 4 => .object "StyleTree$Look"
  | _ => .array (.object "StyleTree$Rule")
abbrev wsX40 : List Cond := u_ws RX4 TX4 6
theorem nmX4 : ∀ a, a < 6 → ∀ b, b < 6 → a ≠ b → (TX4 a).2.1 ≠ (TX4 b).2.1 := by decide +kernel
theorem tyX4_ok : ∀ k, k < 6 → parseFieldDescriptor (TX4 k).2.2.1 = some (tyX4 k) := by decide +kernel
abbrev cX4_init : ByteArray := prog_6_method_1_code
def yX4_init : MethodName := ⟨RX4, "<init>", "()V"⟩
abbrev cX4_empty : ByteArray := prog_6_method_2_code
def yX4_empty : MethodName := ⟨RX4, "empty", "()V"⟩
abbrev cX4_addNode : ByteArray := prog_6_method_3_code
def yX4_addNode : MethodName := ⟨RX4, "addNode", "(III)V"⟩
abbrev cX4_addRule : ByteArray := prog_6_method_4_code
def yX4_addRule : MethodName := ⟨RX4, "addRule", "()V"⟩
abbrev cX4_below : ByteArray := prog_6_method_5_code
def yX4_below : MethodName := ⟨RX4, "below", "(I)I"⟩
abbrev cX4_fitted : ByteArray := prog_6_method_6_code
def yX4_fitted : MethodName := ⟨RX4, "fitted", "(LStyleTree$Look;LStyleTree$Rule;I)I"⟩
abbrev cX4_reached : ByteArray := prog_6_method_7_code
def yX4_reached : MethodName := ⟨RX4, "reached", "(LStyleTree$Look;LStyleTree$Rule;)I"⟩
abbrev cX4_under : ByteArray := prog_6_method_8_code
def yX4_under : MethodName := ⟨RX4, "under", "(IZ)I"⟩
abbrev cX4_strongest : ByteArray := prog_6_method_9_code
def yX4_strongest : MethodName := ⟨RX4, "strongest", "(II)I"⟩
abbrev cX4_lookedAt : ByteArray := prog_6_method_10_code
def yX4_lookedAt : MethodName := ⟨RX4, "lookedAt", "(LStyleTree$Look;II)I"⟩
abbrev cX4_lookedAtBy : ByteArray := prog_6_method_11_code
def yX4_lookedAtBy : MethodName := ⟨RX4, "lookedAtBy", "(LStyleTree$Look;LStyleTree$Rule;II)I"⟩
def RX5 : String := "StyleTree$Sightings"
def TX5 : u_T := fun k => match k with
  | 0 => ("StyleTree$Sightings", "nodes", "[I", true)
  | 1 => ("StyleTree$Sightings", "properties", "[I", true)
  | 2 => ("StyleTree$Sightings", "values", "[I", true)
  | _ => ("StyleTree$Sightings", "size", "I", false)
def tyX5 : Nat → FieldType := fun k => match k with
  | 0 => .array .int
  | 1 => .array .int
  | 2 => .array .int
  | _ => .int
abbrev wsX50 : List Cond := u_ws RX5 TX5 4
theorem nmX5 : ∀ a, a < 4 → ∀ b, b < 4 → a ≠ b → (TX5 a).2.1 ≠ (TX5 b).2.1 := by decide +kernel
theorem tyX5_ok : ∀ k, k < 4 → parseFieldDescriptor (TX5 k).2.2.1 = some (tyX5 k) := by decide +kernel
abbrev cX5_init : ByteArray := prog_7_method_1_code
def yX5_init : MethodName := ⟨RX5, "<init>", "()V"⟩
abbrev cX5_empty : ByteArray := prog_7_method_2_code
def yX5_empty : MethodName := ⟨RX5, "empty", "()V"⟩
abbrev cX5_add : ByteArray := prog_7_method_3_code
def yX5_add : MethodName := ⟨RX5, "add", "(III)Z"⟩
abbrev cX5_holdIn : ByteArray := prog_7_method_4_code
def yX5_holdIn : MethodName := ⟨RX5, "holdIn", "(LStyleTree$Styles;)Z"⟩
def RX6 : String := "StyleTree$Styles"
def TX6 : u_T := fun k => match k with
  | 0 => ("StyleTree$Styles", "nodes", "I", false)
  | 1 => ("StyleTree$Styles", "nodesOfRule", "[I", true)
  | 2 => ("StyleTree$Styles", "rulesOfNode", "[I", true)
  | 3 => ("StyleTree$Styles", "values", "[I", true)
  | _ => ("StyleTree$Styles", "sources", "[I", true)
def tyX6 : Nat → FieldType := fun k => match k with
  | 0 => .int
  | 1 => .array .int
  | 2 => .array .int
  | 3 => .array .int
  | _ => .array .int
abbrev wsX60 : List Cond := u_ws RX6 TX6 5
theorem nmX6 : ∀ a, a < 5 → ∀ b, b < 5 → a ≠ b → (TX6 a).2.1 ≠ (TX6 b).2.1 := by decide +kernel
theorem tyX6_ok : ∀ k, k < 5 → parseFieldDescriptor (TX6 k).2.2.1 = some (tyX6 k) := by decide +kernel
abbrev cX6_init : ByteArray := prog_8_method_1_code
def yX6_init : MethodName := ⟨RX6, "<init>", "()V"⟩
abbrev cX6_resolve : ByteArray := prog_8_method_2_code
def yX6_resolve : MethodName := ⟨RX6, "resolve", "(LStyleTree$Sheet;LStyleTree$Look;)V"⟩
abbrev cX6_noteRule : ByteArray := prog_8_method_3_code
def yX6_noteRule : MethodName := ⟨RX6, "noteRule", "(I)V"⟩
abbrev cX6_settle : ByteArray := prog_8_method_4_code
def yX6_settle : MethodName := ⟨RX6, "settle", "(LStyleTree$Sheet;II)V"⟩
abbrev cX6_nodesOf : ByteArray := prog_8_method_5_code
def yX6_nodesOf : MethodName := ⟨RX6, "nodesOf", "(I)I"⟩
abbrev cX6_rulesOf : ByteArray := prog_8_method_6_code
def yX6_rulesOf : MethodName := ⟨RX6, "rulesOf", "(I)I"⟩
abbrev cX6_valueAt : ByteArray := prog_8_method_7_code
def yX6_valueAt : MethodName := ⟨RX6, "valueAt", "(II)I"⟩
abbrev cX6_sourceAt : ByteArray := prog_8_method_8_code
def yX6_sourceAt : MethodName := ⟨RX6, "sourceAt", "(II)I"⟩
abbrev cX6_styleOf : ByteArray := prog_8_method_9_code
def yX6_styleOf : MethodName := ⟨RX6, "styleOf", "(I)I"⟩
abbrev cX6_recordOf : ByteArray := prog_8_method_10_code
def yX6_recordOf : MethodName := ⟨RX6, "recordOf", "(I)I"⟩
abbrev cX6_unlikeStyles : ByteArray := prog_8_method_11_code
def yX6_unlikeStyles : MethodName := ⟨RX6, "unlikeStyles", "()I"⟩
abbrev cX6_differences : ByteArray := prog_8_method_12_code
def yX6_differences : MethodName := ⟨RX6, "differences", "(LStyleTree$Styles;)I"⟩
def RX7 : String := "StyleTree"
def TX7 : u_T := fun k => match k with
  | 0 => ("StyleTree", "letters", "[C", true)
  | 1 => ("StyleTree", "length", "I", false)
  | 2 => ("StyleTree", "reader", "LStyleTree$Reader;", true)
  | 3 => ("StyleTree", "sheet", "LStyleTree$Sheet;", false)
  | 4 => ("StyleTree", "look", "LStyleTree$Look;", true)
  | 5 => ("StyleTree", "trial", "LStyleTree$Look;", true)
  | 6 => ("StyleTree", "now", "LStyleTree$Styles;", true)
  | 7 => ("StyleTree", "then", "LStyleTree$Styles;", true)
  | 8 => ("StyleTree", "history", "LStyleTree$History;", true)
  | 9 => ("StyleTree", "sightings", "LStyleTree$Sightings;", true)
  | 10 => ("StyleTree", "images", "[LStyleTree$Look;", true)
  | 11 => ("StyleTree", "keptImages", "I", false)
  | _ => ("StyleTree", "answers", "[I", true)
def tyX7 : Nat → FieldType := fun k => match k with
  | 0 => .array .char
  | 1 => .int
  | 2 => .object "StyleTree$Reader"
  | 3 => .object "StyleTree$Sheet"
  | 4 => .object "StyleTree$Look"
  | 5 => .object "StyleTree$Look"
  | 6 => .object "StyleTree$Styles"
  | 7 => .object "StyleTree$Styles"
  | 8 => .object "StyleTree$History"
  | 9 => .object "StyleTree$Sightings"
  | 10 => .array (.object "StyleTree$Look")
  | 11 => .int
  | _ => .array .int
abbrev wsX70 : List Cond := u_ws RX7 TX7 13
theorem nmX7 : ∀ a, a < 13 → ∀ b, b < 13 → a ≠ b → (TX7 a).2.1 ≠ (TX7 b).2.1 := by decide +kernel
theorem tyX7_ok : ∀ k, k < 13 → parseFieldDescriptor (TX7 k).2.2.1 = some (tyX7 k) := by decide +kernel
abbrev cX7_init : ByteArray := prog_1_method_1_code
def yX7_init : MethodName := ⟨RX7, "<init>", "()V"⟩
abbrev cX7_type : ByteArray := prog_1_method_2_code
def yX7_type : MethodName := ⟨RX7, "type", "(I)I"⟩
abbrev cX7_clear : ByteArray := prog_1_method_3_code
def yX7_clear : MethodName := ⟨RX7, "clear", "()I"⟩
abbrev cX7_page : ByteArray := prog_1_method_4_code
def yX7_page : MethodName := ⟨RX7, "page", "()I"⟩
abbrev cX7_node : ByteArray := prog_1_method_5_code
def yX7_node : MethodName := ⟨RX7, "node", "(II)I"⟩
abbrev cX7_rule : ByteArray := prog_1_method_6_code
def yX7_rule : MethodName := ⟨RX7, "rule", "(II)I"⟩
abbrev cX7_toggles : ByteArray := prog_1_method_7_code
def yX7_toggles : MethodName := ⟨RX7, "toggles", "(II)I"⟩
abbrev cX7_tags : ByteArray := prog_1_method_8_code
def yX7_tags : MethodName := ⟨RX7, "tags", "(II)I"⟩
abbrev cX7_switches : ByteArray := prog_1_method_9_code
def yX7_switches : MethodName := ⟨RX7, "switches", "(I)I"⟩
abbrev cX7_undo : ByteArray := prog_1_method_10_code
def yX7_undo : MethodName := ⟨RX7, "undo", "()I"⟩
abbrev cX7_value : ByteArray := prog_1_method_11_code
def yX7_value : MethodName := ⟨RX7, "value", "(II)I"⟩
abbrev cX7_winner : ByteArray := prog_1_method_12_code
def yX7_winner : MethodName := ⟨RX7, "winner", "(III)I"⟩
abbrev cX7_source : ByteArray := prog_1_method_13_code
def yX7_source : MethodName := ⟨RX7, "source", "(II)I"⟩
abbrev cX7_change : ByteArray := prog_1_method_14_code
def yX7_change : MethodName := ⟨RX7, "change", "(III)I"⟩
abbrev cX7_wanted : ByteArray := prog_1_method_15_code
def yX7_wanted : MethodName := ⟨RX7, "wanted", "(III)I"⟩
abbrev cX7_sees : ByteArray := prog_1_method_16_code
def yX7_sees : MethodName := ⟨RX7, "sees", "(III)I"⟩
abbrev cX7_forget : ByteArray := prog_1_method_17_code
def yX7_forget : MethodName := ⟨RX7, "forget", "()I"⟩
abbrev cX7_unseen : ByteArray := prog_1_method_18_code
def yX7_unseen : MethodName := ⟨RX7, "unseen", "()I"⟩
abbrev cX7_ask : ByteArray := prog_1_method_19_code
def yX7_ask : MethodName := ⟨RX7, "ask", "()I"⟩
abbrev cX7_keep : ByteArray := prog_1_method_20_code
def yX7_keep : MethodName := ⟨RX7, "keep", "(I)I"⟩
abbrev cX7_back : ByteArray := prog_1_method_21_code
def yX7_back : MethodName := ⟨RX7, "back", "(I)I"⟩
abbrev cX7_count : ByteArray := prog_1_method_22_code
def yX7_count : MethodName := ⟨RX7, "count", "(I)I"⟩
abbrev cX7_within : ByteArray := prog_1_method_23_code
def yX7_within : MethodName := ⟨RX7, "within", "(II)Z"⟩
abbrev cX7_hasBit : ByteArray := prog_1_method_24_code
def yX7_hasBit : MethodName := ⟨RX7, "hasBit", "(II)Z"⟩
abbrev cX7_isPlace : ByteArray := prog_1_method_25_code
def yX7_isPlace : MethodName := ⟨RX7, "isPlace", "(II)Z"⟩
abbrev cX7_refresh : ByteArray := prog_1_method_26_code
def yX7_refresh : MethodName := ⟨RX7, "refresh", "()V"⟩
abbrev cX7_perform : ByteArray := prog_1_method_27_code
def yX7_perform : MethodName := ⟨RX7, "perform", "(II)V"⟩
abbrev cX7_tryOut : ByteArray := prog_1_method_28_code
def yX7_tryOut : MethodName := ⟨RX7, "tryOut", "(I)V"⟩
abbrev cX7_gatherAnswers : ByteArray := prog_1_method_29_code
def yX7_gatherAnswers : MethodName := ⟨RX7, "gatherAnswers", "(I)V"⟩
abbrev cX7_addAnswers : ByteArray := prog_1_method_30_code
def yX7_addAnswers : MethodName := ⟨RX7, "addAnswers", "()V"⟩
def RX8 : String := "StyleTreeModel"
def TX8 : u_T := fun k => match k with
  | 0 => ("StyleTreeModel", "thrown", "I", false)
  | 1 => ("StyleTreeModel", "text", "[I", true)
  | 2 => ("StyleTreeModel", "typed", "I", false)
  | 3 => ("StyleTreeModel", "at", "I", false)
  | 4 => ("StyleTreeModel", "token", "I", false)
  | 5 => ("StyleTreeModel", "place", "I", false)
  | 6 => ("StyleTreeModel", "value", "I", false)
  | 7 => ("StyleTreeModel", "fault", "I", false)
  | 8 => ("StyleTreeModel", "told", "[I", true)
  | 9 => ("StyleTreeModel", "draft", "[I", true)
  | 10 => ("StyleTreeModel", "draftNow", "[I", true)
  | 11 => ("StyleTreeModel", "s", "[I", true)
  | 12 => ("StyleTreeModel", "undos", "[I", true)
  | 13 => ("StyleTreeModel", "undoMany", "I", false)
  | 14 => ("StyleTreeModel", "kept", "[I", true)
  | 15 => ("StyleTreeModel", "isKept", "[Z", true)
  | 16 => ("StyleTreeModel", "seenNode", "[I", true)
  | 17 => ("StyleTreeModel", "seenProperty", "[I", true)
  | 18 => ("StyleTreeModel", "seenValue", "[I", true)
  | 19 => ("StyleTreeModel", "seenMany", "I", false)
  | 20 => ("StyleTreeModel", "was", "[I", true)
  | _ => ("StyleTreeModel", "matched", "[I", true)
def tyX8 : Nat → FieldType := fun k => match k with
  | 0 => .int
  | 1 => .array .int
  | 2 => .int
  | 3 => .int
  | 4 => .int
  | 5 => .int
  | 6 => .int
  | 7 => .int
  | 8 => .array .int
  | 9 => .array .int
  | 10 => .array .int
  | 11 => .array .int
  | 12 => .array .int
  | 13 => .int
  | 14 => .array .int
  | 15 => .array .boolean
  | 16 => .array .int
  | 17 => .array .int
  | 18 => .array .int
  | 19 => .int
  | 20 => .array .int
  | _ => .array .int
abbrev wsX80 : List Cond := u_ws RX8 TX8 22
theorem nmX8 : ∀ a, a < 22 → ∀ b, b < 22 → a ≠ b → (TX8 a).2.1 ≠ (TX8 b).2.1 := by decide +kernel
theorem tyX8_ok : ∀ k, k < 22 → parseFieldDescriptor (TX8 k).2.2.1 = some (tyX8 k) := by decide +kernel
abbrev cX8_init : ByteArray := prog_10_method_1_code
def yX8_init : MethodName := ⟨RX8, "<init>", "()V"⟩
abbrev cX8_in : ByteArray := prog_10_method_3_code
def yX8_in : MethodName := ⟨RX8, "in", "(III)Z"⟩
abbrev cX8_has : ByteArray := prog_10_method_4_code
def yX8_has : MethodName := ⟨RX8, "has", "(II)Z"⟩
abbrev cX8_ones : ByteArray := prog_10_method_5_code
def yX8_ones : MethodName := ⟨RX8, "ones", "(I)I"⟩
abbrev cX8_type : ByteArray := prog_10_method_6_code
def yX8_type : MethodName := ⟨RX8, "type", "(I)I"⟩
abbrev cX8_clear : ByteArray := prog_10_method_7_code
def yX8_clear : MethodName := ⟨RX8, "clear", "()I"⟩
abbrev cX8_letterAt : ByteArray := prog_10_method_8_code
def yX8_letterAt : MethodName := ⟨RX8, "letterAt", "(I)I"⟩
abbrev cX8_isSign : ByteArray := prog_10_method_9_code
def yX8_isSign : MethodName := ⟨RX8, "isSign", "(I)Z"⟩
abbrev cX8_advances : ByteArray := prog_10_method_10_code
def yX8_advances : MethodName := ⟨RX8, "advances", "()V"⟩
abbrev cX8_isWell : ByteArray := prog_10_method_11_code
def yX8_isWell : MethodName := ⟨RX8, "isWell", "()Z"⟩
abbrev cX8_takes : ByteArray := prog_10_method_12_code
def yX8_takes : MethodName := ⟨RX8, "takes", "(Z)I"⟩
abbrev cX8_isThis : ByteArray := prog_10_method_13_code
def yX8_isThis : MethodName := ⟨RX8, "isThis", "(I)Z"⟩
abbrev cX8_isFrom : ByteArray := prog_10_method_14_code
def yX8_isFrom : MethodName := ⟨RX8, "isFrom", "(II)Z"⟩
abbrev cX8_begins : ByteArray := prog_10_method_15_code
def yX8_begins : MethodName := ⟨RX8, "begins", "()V"⟩
abbrev cX8_readsNode : ByteArray := prog_10_method_16_code
def yX8_readsNode : MethodName := ⟨RX8, "readsNode", "()V"⟩
abbrev cX8_readsCompound : ByteArray := prog_10_method_17_code
def yX8_readsCompound : MethodName := ⟨RX8, "readsCompound", "(I)V"⟩
abbrev cX8_readsDeclarations : ByteArray := prog_10_method_18_code
def yX8_readsDeclarations : MethodName := ⟨RX8, "readsDeclarations", "(I)V"⟩
abbrev cX8_readsRule : ByteArray := prog_10_method_19_code
def yX8_readsRule : MethodName := ⟨RX8, "readsRule", "()V"⟩
abbrev cX8_page : ByteArray := prog_10_method_20_code
def yX8_page : MethodName := ⟨RX8, "page", "()I"⟩
abbrev cX8_settles : ByteArray := prog_10_method_21_code
def yX8_settles : MethodName := ⟨RX8, "settles", "()V"⟩
abbrev cX8_isNode : ByteArray := prog_10_method_22_code
def yX8_isNode : MethodName := ⟨RX8, "isNode", "(I)Z"⟩
abbrev cX8_isRule : ByteArray := prog_10_method_23_code
def yX8_isRule : MethodName := ⟨RX8, "isRule", "(I)Z"⟩
abbrev cX8_isFour : ByteArray := prog_10_method_24_code
def yX8_isFour : MethodName := ⟨RX8, "isFour", "(I)Z"⟩
abbrev cX8_fits : ByteArray := prog_10_method_25_code
def yX8_fits : MethodName := ⟨RX8, "fits", "(II)Z"⟩
abbrev cX8_matching : ByteArray := prog_10_method_26_code
def yX8_matching : MethodName := ⟨RX8, "matching", "(II)I"⟩
abbrev cX8_fills : ByteArray := prog_10_method_27_code
def yX8_fills : MethodName := ⟨RX8, "fills", "()V"⟩
abbrev cX8_rulesOf : ByteArray := prog_10_method_28_code
def yX8_rulesOf : MethodName := ⟨RX8, "rulesOf", "(I)I"⟩
abbrev cX8_below : ByteArray := prog_10_method_29_code
def yX8_below : MethodName := ⟨RX8, "below", "(I)I"⟩
abbrev cX8_specific : ByteArray := prog_10_method_30_code
def yX8_specific : MethodName := ⟨RX8, "specific", "(I)I"⟩
abbrev cX8_heightOf : ByteArray := prog_10_method_31_code
def yX8_heightOf : MethodName := ⟨RX8, "heightOf", "(II)I"⟩
abbrev cX8_winnerOf : ByteArray := prog_10_method_32_code
def yX8_winnerOf : MethodName := ⟨RX8, "winnerOf", "(III)I"⟩
abbrev cX8_sourceOf : ByteArray := prog_10_method_33_code
def yX8_sourceOf : MethodName := ⟨RX8, "sourceOf", "(II)I"⟩
abbrev cX8_valueOf : ByteArray := prog_10_method_34_code
def yX8_valueOf : MethodName := ⟨RX8, "valueOf", "(II)I"⟩
abbrev cX8_isLike : ByteArray := prog_10_method_35_code
def yX8_isLike : MethodName := ⟨RX8, "isLike", "(II)Z"⟩
abbrev cX8_recordOf : ByteArray := prog_10_method_36_code
def yX8_recordOf : MethodName := ⟨RX8, "recordOf", "(I)I"⟩
abbrev cX8_node : ByteArray := prog_10_method_37_code
def yX8_node : MethodName := ⟨RX8, "node", "(II)I"⟩
abbrev cX8_rule : ByteArray := prog_10_method_38_code
def yX8_rule : MethodName := ⟨RX8, "rule", "(II)I"⟩
abbrev cX8_notes : ByteArray := prog_10_method_39_code
def yX8_notes : MethodName := ⟨RX8, "notes", "()V"⟩
abbrev cX8_toggles : ByteArray := prog_10_method_40_code
def yX8_toggles : MethodName := ⟨RX8, "toggles", "(II)I"⟩
abbrev cX8_tags : ByteArray := prog_10_method_41_code
def yX8_tags : MethodName := ⟨RX8, "tags", "(II)I"⟩
abbrev cX8_switches : ByteArray := prog_10_method_42_code
def yX8_switches : MethodName := ⟨RX8, "switches", "(I)I"⟩
abbrev cX8_undo : ByteArray := prog_10_method_43_code
def yX8_undo : MethodName := ⟨RX8, "undo", "()I"⟩
abbrev cX8_value : ByteArray := prog_10_method_44_code
def yX8_value : MethodName := ⟨RX8, "value", "(II)I"⟩
abbrev cX8_winner : ByteArray := prog_10_method_45_code
def yX8_winner : MethodName := ⟨RX8, "winner", "(III)I"⟩
abbrev cX8_source : ByteArray := prog_10_method_46_code
def yX8_source : MethodName := ⟨RX8, "source", "(II)I"⟩
abbrev cX8_lookedAt : ByteArray := prog_10_method_47_code
def yX8_lookedAt : MethodName := ⟨RX8, "lookedAt", "(II)I"⟩
abbrev cX8_different : ByteArray := prog_10_method_48_code
def yX8_different : MethodName := ⟨RX8, "different", "(II)I"⟩
abbrev cX8_change : ByteArray := prog_10_method_49_code
def yX8_change : MethodName := ⟨RX8, "change", "(III)I"⟩
abbrev cX8_valueBy : ByteArray := prog_10_method_50_code
def yX8_valueBy : MethodName := ⟨RX8, "valueBy", "(III)I"⟩
abbrev cX8_wanted : ByteArray := prog_10_method_51_code
def yX8_wanted : MethodName := ⟨RX8, "wanted", "(III)I"⟩
abbrev cX8_sees : ByteArray := prog_10_method_52_code
def yX8_sees : MethodName := ⟨RX8, "sees", "(III)I"⟩
abbrev cX8_forget : ByteArray := prog_10_method_53_code
def yX8_forget : MethodName := ⟨RX8, "forget", "()I"⟩
abbrev cX8_unseenSet : ByteArray := prog_10_method_54_code
def yX8_unseenSet : MethodName := ⟨RX8, "unseenSet", "()I"⟩
abbrev cX8_unseen : ByteArray := prog_10_method_55_code
def yX8_unseen : MethodName := ⟨RX8, "unseen", "()I"⟩
abbrev cX8_ask : ByteArray := prog_10_method_56_code
def yX8_ask : MethodName := ⟨RX8, "ask", "()I"⟩
abbrev cX8_keep : ByteArray := prog_10_method_57_code
def yX8_keep : MethodName := ⟨RX8, "keep", "(I)I"⟩
abbrev cX8_back : ByteArray := prog_10_method_58_code
def yX8_back : MethodName := ⟨RX8, "back", "(I)I"⟩
abbrev cX8_styles : ByteArray := prog_10_method_59_code
def yX8_styles : MethodName := ⟨RX8, "styles", "()I"⟩
abbrev cX8_count : ByteArray := prog_10_method_60_code
def yX8_count : MethodName := ⟨RX8, "count", "(I)I"⟩
def RJ6 : String := "java/lang/Integer"
def TJ6 : u_T := fun k => match k with
  | _ => ("", "", "", false)
def tyJ6 : Nat → FieldType := fun k => match k with
  | _ => .int
abbrev wsJ60 : List Cond := u_ws RJ6 TJ6 0
theorem nmJ6 : ∀ a, a < 0 → ∀ b, b < 0 → a ≠ b → (TJ6 a).2.1 ≠ (TJ6 b).2.1 := by decide +kernel
theorem tyJ6_ok : ∀ k, k < 0 → parseFieldDescriptor (TJ6 k).2.2.1 = some (tyJ6 k) := by decide +kernel
abbrev cJ6_bitCount_0f7a4 : ByteArray := prog_11_method_49_code
def yJ6_bitCount_0f7a4 : MethodName := ⟨RJ6, "bitCount", "(I)I"⟩
def RJ9 : String := "java/lang/Math"
def TJ9 : u_T := fun k => match k with
  | _ => ("", "", "", false)
def tyJ9 : Nat → FieldType := fun k => match k with
  | _ => .int
abbrev wsJ90 : List Cond := u_ws RJ9 TJ9 0
theorem nmJ9 : ∀ a, a < 0 → ∀ b, b < 0 → a ≠ b → (TJ9 a).2.1 ≠ (TJ9 b).2.1 := by decide +kernel
theorem tyJ9_ok : ∀ k, k < 0 → parseFieldDescriptor (TJ9 k).2.2.1 = some (tyJ9 k) := by decide +kernel
abbrev cJ9_min_7cf53 : ByteArray := prog_12_method_69_code
def yJ9_min_7cf53 : MethodName := ⟨RJ9, "min", "(II)I"⟩
def RJ10 : String := "java/lang/System"
def TJ10 : u_T := fun k => match k with
  | _ => ("", "", "", false)
def tyJ10 : Nat → FieldType := fun k => match k with
  | _ => .int
abbrev wsJ100 : List Cond := u_ws RJ10 TJ10 0
theorem nmJ10 : ∀ a, a < 0 → ∀ b, b < 0 → a ≠ b → (TJ10 a).2.1 ≠ (TJ10 b).2.1 := by decide +kernel
theorem tyJ10_ok : ∀ k, k < 0 → parseFieldDescriptor (TJ10 k).2.2.1 = some (tyJ10 k) := by decide +kernel
def RL : String := "StyleTreeLaw"
abbrev cL_law : ByteArray := code
def yL_law : MethodName := ⟨RL, "law", "([I)Z"⟩
abbrev vwCl : List vw_C := [(RX0, TX0, 2), (RX1, TX1, 3), (RX2, TX2, 6), (RX3, TX3, 10), (RX4, TX4, 6), (RX5, TX5, 4), (RX6, TX6, 5), (RX7, TX7, 13), (RX8, TX8, 22)]
