section
-- ===== PART A: goes FIRST, ahead of the names: the tables' words, and 'selects' of the private methods out of them =====
/-- a private method of a class that the tables say can be made, by its rows of tables_1 -/
def lw_okq (q : MethodName × Nat) : Prop := (q.1.cls ≠ "java/lang/invoke/MethodHandle" ∧ q.1.cls ≠ "java/lang/invoke/VarHandle") ∧ Cond.instantiable q.1.cls q.2 ∈ tables_1 ∧ Cond.privateMethod q.1 ∈ tables_1 ∧ Cond.instanceMethod q.1 ∈ tables_1
theorem lw_p0 : lw_okq (⟨"StyleTree$Reader", "advance", "()V"⟩, 6) := ⟨⟨by decide +kernel, by decide +kernel⟩, List.mem_of_getElem? (i := 22) (by decide +kernel), List.mem_of_getElem? (i := 286) (by decide +kernel), List.mem_of_getElem? (i := 287) (by decide +kernel)⟩
theorem lw_p1 : lw_okq (⟨"StyleTree$Reader", "isDigitAt", "(I)Z"⟩, 6) := ⟨⟨by decide +kernel, by decide +kernel⟩, List.mem_of_getElem? (i := 22) (by decide +kernel), List.mem_of_getElem? (i := 290) (by decide +kernel), List.mem_of_getElem? (i := 291) (by decide +kernel)⟩
theorem lw_p2 : lw_okq (⟨"StyleTree$Reader", "readNode", "()Z"⟩, 6) := ⟨⟨by decide +kernel, by decide +kernel⟩, List.mem_of_getElem? (i := 22) (by decide +kernel), List.mem_of_getElem? (i := 294) (by decide +kernel), List.mem_of_getElem? (i := 295) (by decide +kernel)⟩
theorem lw_p3 : lw_okq (⟨"StyleTree$Reader", "isDigit", "()Z"⟩, 6) := ⟨⟨by decide +kernel, by decide +kernel⟩, List.mem_of_getElem? (i := 22) (by decide +kernel), List.mem_of_getElem? (i := 298) (by decide +kernel), List.mem_of_getElem? (i := 299) (by decide +kernel)⟩
theorem lw_p4 : lw_okq (⟨"StyleTree$Reader", "isTag", "()Z"⟩, 6) := ⟨⟨by decide +kernel, by decide +kernel⟩, List.mem_of_getElem? (i := 22) (by decide +kernel), List.mem_of_getElem? (i := 302) (by decide +kernel), List.mem_of_getElem? (i := 303) (by decide +kernel)⟩
theorem lw_p5 : lw_okq (⟨"StyleTree$Reader", "isClass", "()Z"⟩, 6) := ⟨⟨by decide +kernel, by decide +kernel⟩, List.mem_of_getElem? (i := 22) (by decide +kernel), List.mem_of_getElem? (i := 306) (by decide +kernel), List.mem_of_getElem? (i := 307) (by decide +kernel)⟩
theorem lw_p6 : lw_okq (⟨"StyleTree$Reader", "take", "(I)Z"⟩, 6) := ⟨⟨by decide +kernel, by decide +kernel⟩, List.mem_of_getElem? (i := 22) (by decide +kernel), List.mem_of_getElem? (i := 310) (by decide +kernel), List.mem_of_getElem? (i := 311) (by decide +kernel)⟩
theorem lw_p7 : lw_okq (⟨"StyleTree$Reader", "readRule", "()Z"⟩, 6) := ⟨⟨by decide +kernel, by decide +kernel⟩, List.mem_of_getElem? (i := 22) (by decide +kernel), List.mem_of_getElem? (i := 319) (by decide +kernel), List.mem_of_getElem? (i := 320) (by decide +kernel)⟩
theorem lw_p8 : lw_okq (⟨"StyleTree$Reader", "readSelector", "(LStyleTree$Rule;)Z"⟩, 6) := ⟨⟨by decide +kernel, by decide +kernel⟩, List.mem_of_getElem? (i := 22) (by decide +kernel), List.mem_of_getElem? (i := 328) (by decide +kernel), List.mem_of_getElem? (i := 329) (by decide +kernel)⟩
theorem lw_p9 : lw_okq (⟨"StyleTree$Reader", "readCompound", "(LStyleTree$Rule;Z)Z"⟩, 6) := ⟨⟨by decide +kernel, by decide +kernel⟩, List.mem_of_getElem? (i := 22) (by decide +kernel), List.mem_of_getElem? (i := 332) (by decide +kernel), List.mem_of_getElem? (i := 333) (by decide +kernel)⟩
theorem lw_p10 : lw_okq (⟨"StyleTree$Reader", "isJoint", "()Z"⟩, 6) := ⟨⟨by decide +kernel, by decide +kernel⟩, List.mem_of_getElem? (i := 22) (by decide +kernel), List.mem_of_getElem? (i := 347) (by decide +kernel), List.mem_of_getElem? (i := 348) (by decide +kernel)⟩
theorem lw_p11 : lw_okq (⟨"StyleTree$Reader", "readDeclarations", "(LStyleTree$Rule;)Z"⟩, 6) := ⟨⟨by decide +kernel, by decide +kernel⟩, List.mem_of_getElem? (i := 22) (by decide +kernel), List.mem_of_getElem? (i := 351) (by decide +kernel), List.mem_of_getElem? (i := 352) (by decide +kernel)⟩
theorem lw_p12 : lw_okq (⟨"StyleTree$Reader", "readDeclaration", "(LStyleTree$Rule;)Z"⟩, 6) := ⟨⟨by decide +kernel, by decide +kernel⟩, List.mem_of_getElem? (i := 22) (by decide +kernel), List.mem_of_getElem? (i := 355) (by decide +kernel), List.mem_of_getElem? (i := 356) (by decide +kernel)⟩
theorem lw_p13 : lw_okq (⟨"StyleTree$Reader", "isProperty", "()Z"⟩, 6) := ⟨⟨by decide +kernel, by decide +kernel⟩, List.mem_of_getElem? (i := 22) (by decide +kernel), List.mem_of_getElem? (i := 359) (by decide +kernel), List.mem_of_getElem? (i := 360) (by decide +kernel)⟩
theorem lw_p14 : lw_okq (⟨"StyleTree$Rule", "level", "(Z)I"⟩, 10) := ⟨⟨by decide +kernel, by decide +kernel⟩, List.mem_of_getElem? (i := 59) (by decide +kernel), List.mem_of_getElem? (i := 370) (by decide +kernel), List.mem_of_getElem? (i := 371) (by decide +kernel)⟩
theorem lw_p15 : lw_okq (⟨"StyleTree", "refresh", "()V"⟩, 13) := ⟨⟨by decide +kernel, by decide +kernel⟩, List.mem_of_getElem? (i := 14) (by decide +kernel), List.mem_of_getElem? (i := 401) (by decide +kernel), List.mem_of_getElem? (i := 402) (by decide +kernel)⟩
def lw_privs_1 : List (MethodName × Nat) := [(⟨"StyleTree$Reader", "advance", "()V"⟩, 6), (⟨"StyleTree$Reader", "isDigitAt", "(I)Z"⟩, 6), (⟨"StyleTree$Reader", "readNode", "()Z"⟩, 6), (⟨"StyleTree$Reader", "isDigit", "()Z"⟩, 6), (⟨"StyleTree$Reader", "isTag", "()Z"⟩, 6), (⟨"StyleTree$Reader", "isClass", "()Z"⟩, 6), (⟨"StyleTree$Reader", "take", "(I)Z"⟩, 6), (⟨"StyleTree$Reader", "readRule", "()Z"⟩, 6), (⟨"StyleTree$Reader", "readSelector", "(LStyleTree$Rule;)Z"⟩, 6), (⟨"StyleTree$Reader", "readCompound", "(LStyleTree$Rule;Z)Z"⟩, 6), (⟨"StyleTree$Reader", "isJoint", "()Z"⟩, 6), (⟨"StyleTree$Reader", "readDeclarations", "(LStyleTree$Rule;)Z"⟩, 6), (⟨"StyleTree$Reader", "readDeclaration", "(LStyleTree$Rule;)Z"⟩, 6), (⟨"StyleTree$Reader", "isProperty", "()Z"⟩, 6), (⟨"StyleTree$Rule", "level", "(Z)I"⟩, 10), (⟨"StyleTree", "refresh", "()V"⟩, 13)]
theorem lw_r1 : ∀ q ∈ lw_privs_1, lw_okq q := List.forall_mem_cons.mpr ⟨lw_p0, List.forall_mem_cons.mpr ⟨lw_p1, List.forall_mem_cons.mpr ⟨lw_p2, List.forall_mem_cons.mpr ⟨lw_p3, List.forall_mem_cons.mpr ⟨lw_p4, List.forall_mem_cons.mpr ⟨lw_p5, List.forall_mem_cons.mpr ⟨lw_p6, List.forall_mem_cons.mpr ⟨lw_p7, List.forall_mem_cons.mpr ⟨lw_p8, List.forall_mem_cons.mpr ⟨lw_p9, List.forall_mem_cons.mpr ⟨lw_p10, List.forall_mem_cons.mpr ⟨lw_p11, List.forall_mem_cons.mpr ⟨lw_p12, List.forall_mem_cons.mpr ⟨lw_p13, List.forall_mem_cons.mpr ⟨lw_p14, List.forall_mem_cons.mpr ⟨lw_p15, fun _ h => absurd h List.not_mem_nil⟩⟩⟩⟩⟩⟩⟩⟩⟩⟩⟩⟩⟩⟩⟩⟩
theorem lw_p16 : lw_okq (⟨"StyleTree$Sheet", "under", "(IZ)I"⟩, 6) := ⟨⟨by decide +kernel, by decide +kernel⟩, List.mem_of_getElem? (i := 28) (by decide +kernel), List.mem_of_getElem? (i := 426) (by decide +kernel), List.mem_of_getElem? (i := 427) (by decide +kernel)⟩
theorem lw_p17 : lw_okq (⟨"StyleTree$Styles", "noteRule", "(I)V"⟩, 5) := ⟨⟨by decide +kernel, by decide +kernel⟩, List.mem_of_getElem? (i := 163) (by decide +kernel), List.mem_of_getElem? (i := 430) (by decide +kernel), List.mem_of_getElem? (i := 431) (by decide +kernel)⟩
theorem lw_p18 : lw_okq (⟨"StyleTree$Styles", "settle", "(LStyleTree$Sheet;II)V"⟩, 5) := ⟨⟨by decide +kernel, by decide +kernel⟩, List.mem_of_getElem? (i := 163) (by decide +kernel), List.mem_of_getElem? (i := 435) (by decide +kernel), List.mem_of_getElem? (i := 436) (by decide +kernel)⟩
theorem lw_p19 : lw_okq (⟨"StyleTree$Styles", "styleOf", "(I)I"⟩, 5) := ⟨⟨by decide +kernel, by decide +kernel⟩, List.mem_of_getElem? (i := 163) (by decide +kernel), List.mem_of_getElem? (i := 457) (by decide +kernel), List.mem_of_getElem? (i := 458) (by decide +kernel)⟩
theorem lw_p20 : lw_okq (⟨"StyleTree", "perform", "(II)V"⟩, 13) := ⟨⟨by decide +kernel, by decide +kernel⟩, List.mem_of_getElem? (i := 14) (by decide +kernel), List.mem_of_getElem? (i := 482) (by decide +kernel), List.mem_of_getElem? (i := 483) (by decide +kernel)⟩
theorem lw_p21 : lw_okq (⟨"StyleTree$Look", "putTag", "(II)V"⟩, 3) := ⟨⟨by decide +kernel, by decide +kernel⟩, List.mem_of_getElem? (i := 34) (by decide +kernel), List.mem_of_getElem? (i := 490) (by decide +kernel), List.mem_of_getElem? (i := 491) (by decide +kernel)⟩
theorem lw_p22 : lw_okq (⟨"StyleTree$Look", "flipClass", "(II)V"⟩, 3) := ⟨⟨by decide +kernel, by decide +kernel⟩, List.mem_of_getElem? (i := 34) (by decide +kernel), List.mem_of_getElem? (i := 495) (by decide +kernel), List.mem_of_getElem? (i := 496) (by decide +kernel)⟩
theorem lw_p23 : lw_okq (⟨"StyleTree", "isPlace", "(II)Z"⟩, 13) := ⟨⟨by decide +kernel, by decide +kernel⟩, List.mem_of_getElem? (i := 14) (by decide +kernel), List.mem_of_getElem? (i := 525) (by decide +kernel), List.mem_of_getElem? (i := 526) (by decide +kernel)⟩
theorem lw_p24 : lw_okq (⟨"StyleTree$Sheet", "lookedAtBy", "(LStyleTree$Look;LStyleTree$Rule;II)I"⟩, 6) := ⟨⟨by decide +kernel, by decide +kernel⟩, List.mem_of_getElem? (i := 28) (by decide +kernel), List.mem_of_getElem? (i := 553) (by decide +kernel), List.mem_of_getElem? (i := 554) (by decide +kernel)⟩
theorem lw_p25 : lw_okq (⟨"StyleTree", "tryOut", "(I)V"⟩, 13) := ⟨⟨by decide +kernel, by decide +kernel⟩, List.mem_of_getElem? (i := 14) (by decide +kernel), List.mem_of_getElem? (i := 558) (by decide +kernel), List.mem_of_getElem? (i := 559) (by decide +kernel)⟩
theorem lw_p26 : lw_okq (⟨"StyleTree", "gatherAnswers", "(I)V"⟩, 13) := ⟨⟨by decide +kernel, by decide +kernel⟩, List.mem_of_getElem? (i := 14) (by decide +kernel), List.mem_of_getElem? (i := 597) (by decide +kernel), List.mem_of_getElem? (i := 598) (by decide +kernel)⟩
theorem lw_p27 : lw_okq (⟨"StyleTree", "addAnswers", "()V"⟩, 13) := ⟨⟨by decide +kernel, by decide +kernel⟩, List.mem_of_getElem? (i := 14) (by decide +kernel), List.mem_of_getElem? (i := 602) (by decide +kernel), List.mem_of_getElem? (i := 603) (by decide +kernel)⟩
theorem lw_p28 : lw_okq (⟨"StyleTreeModel", "begins", "()V"⟩, 22) := ⟨⟨by decide +kernel, by decide +kernel⟩, List.mem_of_getElem? (i := 624) (by decide +kernel), List.mem_of_getElem? (i := 630) (by decide +kernel), List.mem_of_getElem? (i := 631) (by decide +kernel)⟩
theorem lw_p29 : lw_okq (⟨"StyleTreeModel", "settles", "()V"⟩, 22) := ⟨⟨by decide +kernel, by decide +kernel⟩, List.mem_of_getElem? (i := 624) (by decide +kernel), List.mem_of_getElem? (i := 634) (by decide +kernel), List.mem_of_getElem? (i := 635) (by decide +kernel)⟩
theorem lw_p30 : lw_okq (⟨"StyleTreeModel", "advances", "()V"⟩, 22) := ⟨⟨by decide +kernel, by decide +kernel⟩, List.mem_of_getElem? (i := 624) (by decide +kernel), List.mem_of_getElem? (i := 720) (by decide +kernel), List.mem_of_getElem? (i := 721) (by decide +kernel)⟩
theorem lw_p31 : lw_okq (⟨"StyleTreeModel", "letterAt", "(I)I"⟩, 22) := ⟨⟨by decide +kernel, by decide +kernel⟩, List.mem_of_getElem? (i := 624) (by decide +kernel), List.mem_of_getElem? (i := 724) (by decide +kernel), List.mem_of_getElem? (i := 725) (by decide +kernel)⟩
def lw_privs_2 : List (MethodName × Nat) := [(⟨"StyleTree$Sheet", "under", "(IZ)I"⟩, 6), (⟨"StyleTree$Styles", "noteRule", "(I)V"⟩, 5), (⟨"StyleTree$Styles", "settle", "(LStyleTree$Sheet;II)V"⟩, 5), (⟨"StyleTree$Styles", "styleOf", "(I)I"⟩, 5), (⟨"StyleTree", "perform", "(II)V"⟩, 13), (⟨"StyleTree$Look", "putTag", "(II)V"⟩, 3), (⟨"StyleTree$Look", "flipClass", "(II)V"⟩, 3), (⟨"StyleTree", "isPlace", "(II)Z"⟩, 13), (⟨"StyleTree$Sheet", "lookedAtBy", "(LStyleTree$Look;LStyleTree$Rule;II)I"⟩, 6), (⟨"StyleTree", "tryOut", "(I)V"⟩, 13), (⟨"StyleTree", "gatherAnswers", "(I)V"⟩, 13), (⟨"StyleTree", "addAnswers", "()V"⟩, 13), (⟨"StyleTreeModel", "begins", "()V"⟩, 22), (⟨"StyleTreeModel", "settles", "()V"⟩, 22), (⟨"StyleTreeModel", "advances", "()V"⟩, 22), (⟨"StyleTreeModel", "letterAt", "(I)I"⟩, 22)]
theorem lw_r2 : ∀ q ∈ lw_privs_2, lw_okq q := List.forall_mem_cons.mpr ⟨lw_p16, List.forall_mem_cons.mpr ⟨lw_p17, List.forall_mem_cons.mpr ⟨lw_p18, List.forall_mem_cons.mpr ⟨lw_p19, List.forall_mem_cons.mpr ⟨lw_p20, List.forall_mem_cons.mpr ⟨lw_p21, List.forall_mem_cons.mpr ⟨lw_p22, List.forall_mem_cons.mpr ⟨lw_p23, List.forall_mem_cons.mpr ⟨lw_p24, List.forall_mem_cons.mpr ⟨lw_p25, List.forall_mem_cons.mpr ⟨lw_p26, List.forall_mem_cons.mpr ⟨lw_p27, List.forall_mem_cons.mpr ⟨lw_p28, List.forall_mem_cons.mpr ⟨lw_p29, List.forall_mem_cons.mpr ⟨lw_p30, List.forall_mem_cons.mpr ⟨lw_p31, fun _ h => absurd h List.not_mem_nil⟩⟩⟩⟩⟩⟩⟩⟩⟩⟩⟩⟩⟩⟩⟩⟩
theorem lw_p32 : lw_okq (⟨"StyleTreeModel", "isWell", "()Z"⟩, 22) := ⟨⟨by decide +kernel, by decide +kernel⟩, List.mem_of_getElem? (i := 624) (by decide +kernel), List.mem_of_getElem? (i := 731) (by decide +kernel), List.mem_of_getElem? (i := 732) (by decide +kernel)⟩
theorem lw_p33 : lw_okq (⟨"StyleTreeModel", "isThis", "(I)Z"⟩, 22) := ⟨⟨by decide +kernel, by decide +kernel⟩, List.mem_of_getElem? (i := 624) (by decide +kernel), List.mem_of_getElem? (i := 735) (by decide +kernel), List.mem_of_getElem? (i := 736) (by decide +kernel)⟩
theorem lw_p34 : lw_okq (⟨"StyleTreeModel", "takes", "(Z)I"⟩, 22) := ⟨⟨by decide +kernel, by decide +kernel⟩, List.mem_of_getElem? (i := 624) (by decide +kernel), List.mem_of_getElem? (i := 739) (by decide +kernel), List.mem_of_getElem? (i := 740) (by decide +kernel)⟩
theorem lw_p35 : lw_okq (⟨"StyleTreeModel", "readsNode", "()V"⟩, 22) := ⟨⟨by decide +kernel, by decide +kernel⟩, List.mem_of_getElem? (i := 624) (by decide +kernel), List.mem_of_getElem? (i := 743) (by decide +kernel), List.mem_of_getElem? (i := 744) (by decide +kernel)⟩
theorem lw_p36 : lw_okq (⟨"StyleTreeModel", "isFrom", "(II)Z"⟩, 22) := ⟨⟨by decide +kernel, by decide +kernel⟩, List.mem_of_getElem? (i := 624) (by decide +kernel), List.mem_of_getElem? (i := 747) (by decide +kernel), List.mem_of_getElem? (i := 748) (by decide +kernel)⟩
theorem lw_p37 : lw_okq (⟨"StyleTreeModel", "readsRule", "()V"⟩, 22) := ⟨⟨by decide +kernel, by decide +kernel⟩, List.mem_of_getElem? (i := 624) (by decide +kernel), List.mem_of_getElem? (i := 754) (by decide +kernel), List.mem_of_getElem? (i := 755) (by decide +kernel)⟩
theorem lw_p38 : lw_okq (⟨"StyleTreeModel", "readsCompound", "(I)V"⟩, 22) := ⟨⟨by decide +kernel, by decide +kernel⟩, List.mem_of_getElem? (i := 624) (by decide +kernel), List.mem_of_getElem? (i := 758) (by decide +kernel), List.mem_of_getElem? (i := 759) (by decide +kernel)⟩
theorem lw_p39 : lw_okq (⟨"StyleTreeModel", "readsDeclarations", "(I)V"⟩, 22) := ⟨⟨by decide +kernel, by decide +kernel⟩, List.mem_of_getElem? (i := 624) (by decide +kernel), List.mem_of_getElem? (i := 762) (by decide +kernel), List.mem_of_getElem? (i := 763) (by decide +kernel)⟩
theorem lw_p40 : lw_okq (⟨"StyleTreeModel", "isNode", "(I)Z"⟩, 22) := ⟨⟨by decide +kernel, by decide +kernel⟩, List.mem_of_getElem? (i := 624) (by decide +kernel), List.mem_of_getElem? (i := 770) (by decide +kernel), List.mem_of_getElem? (i := 771) (by decide +kernel)⟩
theorem lw_p41 : lw_okq (⟨"StyleTreeModel", "fills", "()V"⟩, 22) := ⟨⟨by decide +kernel, by decide +kernel⟩, List.mem_of_getElem? (i := 624) (by decide +kernel), List.mem_of_getElem? (i := 774) (by decide +kernel), List.mem_of_getElem? (i := 775) (by decide +kernel)⟩
theorem lw_p42 : lw_okq (⟨"StyleTreeModel", "matching", "(II)I"⟩, 22) := ⟨⟨by decide +kernel, by decide +kernel⟩, List.mem_of_getElem? (i := 624) (by decide +kernel), List.mem_of_getElem? (i := 778) (by decide +kernel), List.mem_of_getElem? (i := 779) (by decide +kernel)⟩
theorem lw_p43 : lw_okq (⟨"StyleTreeModel", "fits", "(II)Z"⟩, 22) := ⟨⟨by decide +kernel, by decide +kernel⟩, List.mem_of_getElem? (i := 624) (by decide +kernel), List.mem_of_getElem? (i := 782) (by decide +kernel), List.mem_of_getElem? (i := 783) (by decide +kernel)⟩
theorem lw_p44 : lw_okq (⟨"StyleTreeModel", "rulesOf", "(I)I"⟩, 22) := ⟨⟨by decide +kernel, by decide +kernel⟩, List.mem_of_getElem? (i := 624) (by decide +kernel), List.mem_of_getElem? (i := 786) (by decide +kernel), List.mem_of_getElem? (i := 787) (by decide +kernel)⟩
theorem lw_p45 : lw_okq (⟨"StyleTreeModel", "recordOf", "(I)I"⟩, 22) := ⟨⟨by decide +kernel, by decide +kernel⟩, List.mem_of_getElem? (i := 624) (by decide +kernel), List.mem_of_getElem? (i := 790) (by decide +kernel), List.mem_of_getElem? (i := 791) (by decide +kernel)⟩
theorem lw_p46 : lw_okq (⟨"StyleTreeModel", "isLike", "(II)Z"⟩, 22) := ⟨⟨by decide +kernel, by decide +kernel⟩, List.mem_of_getElem? (i := 624) (by decide +kernel), List.mem_of_getElem? (i := 794) (by decide +kernel), List.mem_of_getElem? (i := 795) (by decide +kernel)⟩
theorem lw_p47 : lw_okq (⟨"StyleTreeModel", "valueOf", "(II)I"⟩, 22) := ⟨⟨by decide +kernel, by decide +kernel⟩, List.mem_of_getElem? (i := 624) (by decide +kernel), List.mem_of_getElem? (i := 798) (by decide +kernel), List.mem_of_getElem? (i := 799) (by decide +kernel)⟩
def lw_privs_3 : List (MethodName × Nat) := [(⟨"StyleTreeModel", "isWell", "()Z"⟩, 22), (⟨"StyleTreeModel", "isThis", "(I)Z"⟩, 22), (⟨"StyleTreeModel", "takes", "(Z)I"⟩, 22), (⟨"StyleTreeModel", "readsNode", "()V"⟩, 22), (⟨"StyleTreeModel", "isFrom", "(II)Z"⟩, 22), (⟨"StyleTreeModel", "readsRule", "()V"⟩, 22), (⟨"StyleTreeModel", "readsCompound", "(I)V"⟩, 22), (⟨"StyleTreeModel", "readsDeclarations", "(I)V"⟩, 22), (⟨"StyleTreeModel", "isNode", "(I)Z"⟩, 22), (⟨"StyleTreeModel", "fills", "()V"⟩, 22), (⟨"StyleTreeModel", "matching", "(II)I"⟩, 22), (⟨"StyleTreeModel", "fits", "(II)Z"⟩, 22), (⟨"StyleTreeModel", "rulesOf", "(I)I"⟩, 22), (⟨"StyleTreeModel", "recordOf", "(I)I"⟩, 22), (⟨"StyleTreeModel", "isLike", "(II)Z"⟩, 22), (⟨"StyleTreeModel", "valueOf", "(II)I"⟩, 22)]
theorem lw_r3 : ∀ q ∈ lw_privs_3, lw_okq q := List.forall_mem_cons.mpr ⟨lw_p32, List.forall_mem_cons.mpr ⟨lw_p33, List.forall_mem_cons.mpr ⟨lw_p34, List.forall_mem_cons.mpr ⟨lw_p35, List.forall_mem_cons.mpr ⟨lw_p36, List.forall_mem_cons.mpr ⟨lw_p37, List.forall_mem_cons.mpr ⟨lw_p38, List.forall_mem_cons.mpr ⟨lw_p39, List.forall_mem_cons.mpr ⟨lw_p40, List.forall_mem_cons.mpr ⟨lw_p41, List.forall_mem_cons.mpr ⟨lw_p42, List.forall_mem_cons.mpr ⟨lw_p43, List.forall_mem_cons.mpr ⟨lw_p44, List.forall_mem_cons.mpr ⟨lw_p45, List.forall_mem_cons.mpr ⟨lw_p46, List.forall_mem_cons.mpr ⟨lw_p47, fun _ h => absurd h List.not_mem_nil⟩⟩⟩⟩⟩⟩⟩⟩⟩⟩⟩⟩⟩⟩⟩⟩
theorem lw_p48 : lw_okq (⟨"StyleTreeModel", "sourceOf", "(II)I"⟩, 22) := ⟨⟨by decide +kernel, by decide +kernel⟩, List.mem_of_getElem? (i := 624) (by decide +kernel), List.mem_of_getElem? (i := 802) (by decide +kernel), List.mem_of_getElem? (i := 803) (by decide +kernel)⟩
theorem lw_p49 : lw_okq (⟨"StyleTreeModel", "winnerOf", "(III)I"⟩, 22) := ⟨⟨by decide +kernel, by decide +kernel⟩, List.mem_of_getElem? (i := 624) (by decide +kernel), List.mem_of_getElem? (i := 806) (by decide +kernel), List.mem_of_getElem? (i := 807) (by decide +kernel)⟩
theorem lw_p50 : lw_okq (⟨"StyleTreeModel", "heightOf", "(II)I"⟩, 22) := ⟨⟨by decide +kernel, by decide +kernel⟩, List.mem_of_getElem? (i := 624) (by decide +kernel), List.mem_of_getElem? (i := 810) (by decide +kernel), List.mem_of_getElem? (i := 811) (by decide +kernel)⟩
theorem lw_p51 : lw_okq (⟨"StyleTreeModel", "specific", "(I)I"⟩, 22) := ⟨⟨by decide +kernel, by decide +kernel⟩, List.mem_of_getElem? (i := 624) (by decide +kernel), List.mem_of_getElem? (i := 814) (by decide +kernel), List.mem_of_getElem? (i := 815) (by decide +kernel)⟩
theorem lw_p52 : lw_okq (⟨"StyleTreeModel", "below", "(I)I"⟩, 22) := ⟨⟨by decide +kernel, by decide +kernel⟩, List.mem_of_getElem? (i := 624) (by decide +kernel), List.mem_of_getElem? (i := 821) (by decide +kernel), List.mem_of_getElem? (i := 822) (by decide +kernel)⟩
theorem lw_p53 : lw_okq (⟨"StyleTreeModel", "isRule", "(I)Z"⟩, 22) := ⟨⟨by decide +kernel, by decide +kernel⟩, List.mem_of_getElem? (i := 624) (by decide +kernel), List.mem_of_getElem? (i := 829) (by decide +kernel), List.mem_of_getElem? (i := 830) (by decide +kernel)⟩
theorem lw_p54 : lw_okq (⟨"StyleTreeModel", "notes", "()V"⟩, 22) := ⟨⟨by decide +kernel, by decide +kernel⟩, List.mem_of_getElem? (i := 624) (by decide +kernel), List.mem_of_getElem? (i := 840) (by decide +kernel), List.mem_of_getElem? (i := 841) (by decide +kernel)⟩
theorem lw_p55 : lw_okq (⟨"StyleTreeModel", "lookedAt", "(II)I"⟩, 22) := ⟨⟨by decide +kernel, by decide +kernel⟩, List.mem_of_getElem? (i := 624) (by decide +kernel), List.mem_of_getElem? (i := 872) (by decide +kernel), List.mem_of_getElem? (i := 873) (by decide +kernel)⟩
theorem lw_p56 : lw_okq (⟨"StyleTreeModel", "different", "(II)I"⟩, 22) := ⟨⟨by decide +kernel, by decide +kernel⟩, List.mem_of_getElem? (i := 624) (by decide +kernel), List.mem_of_getElem? (i := 876) (by decide +kernel), List.mem_of_getElem? (i := 877) (by decide +kernel)⟩
theorem lw_p57 : lw_okq (⟨"StyleTreeModel", "valueBy", "(III)I"⟩, 22) := ⟨⟨by decide +kernel, by decide +kernel⟩, List.mem_of_getElem? (i := 624) (by decide +kernel), List.mem_of_getElem? (i := 884) (by decide +kernel), List.mem_of_getElem? (i := 885) (by decide +kernel)⟩
theorem lw_p58 : lw_okq (⟨"StyleTreeModel", "unseenSet", "()I"⟩, 22) := ⟨⟨by decide +kernel, by decide +kernel⟩, List.mem_of_getElem? (i := 624) (by decide +kernel), List.mem_of_getElem? (i := 900) (by decide +kernel), List.mem_of_getElem? (i := 901) (by decide +kernel)⟩
theorem lw_p59 : lw_okq (⟨"StyleTreeModel", "styles", "()I"⟩, 22) := ⟨⟨by decide +kernel, by decide +kernel⟩, List.mem_of_getElem? (i := 624) (by decide +kernel), List.mem_of_getElem? (i := 920) (by decide +kernel), List.mem_of_getElem? (i := 921) (by decide +kernel)⟩
def lw_privs_4 : List (MethodName × Nat) := [(⟨"StyleTreeModel", "sourceOf", "(II)I"⟩, 22), (⟨"StyleTreeModel", "winnerOf", "(III)I"⟩, 22), (⟨"StyleTreeModel", "heightOf", "(II)I"⟩, 22), (⟨"StyleTreeModel", "specific", "(I)I"⟩, 22), (⟨"StyleTreeModel", "below", "(I)I"⟩, 22), (⟨"StyleTreeModel", "isRule", "(I)Z"⟩, 22), (⟨"StyleTreeModel", "notes", "()V"⟩, 22), (⟨"StyleTreeModel", "lookedAt", "(II)I"⟩, 22), (⟨"StyleTreeModel", "different", "(II)I"⟩, 22), (⟨"StyleTreeModel", "valueBy", "(III)I"⟩, 22), (⟨"StyleTreeModel", "unseenSet", "()I"⟩, 22), (⟨"StyleTreeModel", "styles", "()I"⟩, 22)]
theorem lw_r4 : ∀ q ∈ lw_privs_4, lw_okq q := List.forall_mem_cons.mpr ⟨lw_p48, List.forall_mem_cons.mpr ⟨lw_p49, List.forall_mem_cons.mpr ⟨lw_p50, List.forall_mem_cons.mpr ⟨lw_p51, List.forall_mem_cons.mpr ⟨lw_p52, List.forall_mem_cons.mpr ⟨lw_p53, List.forall_mem_cons.mpr ⟨lw_p54, List.forall_mem_cons.mpr ⟨lw_p55, List.forall_mem_cons.mpr ⟨lw_p56, List.forall_mem_cons.mpr ⟨lw_p57, List.forall_mem_cons.mpr ⟨lw_p58, List.forall_mem_cons.mpr ⟨lw_p59, fun _ h => absurd h List.not_mem_nil⟩⟩⟩⟩⟩⟩⟩⟩⟩⟩⟩⟩
def lw_privs : List (MethodName × Nat) := lw_privs_1 ++ (lw_privs_2 ++ (lw_privs_3 ++ (lw_privs_4)))
def lw_tbl : List Cond := k2_sels lw_privs ++ tables_1
theorem lw_privs_ok : ∀ q ∈ lw_privs, lw_okq q := by
  show ∀ q ∈ lw_privs_1 ++ (lw_privs_2 ++ (lw_privs_3 ++ (lw_privs_4))), lw_okq q
  exact List.forall_mem_append.mpr ⟨lw_r1, List.forall_mem_append.mpr ⟨lw_r2, List.forall_mem_append.mpr ⟨lw_r3, lw_r4⟩⟩⟩
def RX0 : String := "StyleTree$History"
def TX0 : u_T := fun k => match k with
  | 0 => ("StyleTree$History", "remedies", "[I", true)
  | _ => ("StyleTree$History", "size", "I", false)
def tyX0 : Nat → FieldType := fun k => match k with
  | 0 => .array .int
  | _ => .int
abbrev wsX00 : List Cond := u_ws RX0 TX0 2
theorem nmX0 : ∀ a, a < 2 → ∀ b, b < 2 → a ≠ b → (TX0 a).2.1 ≠ (TX0 b).2.1 := by decide +kernel
theorem tyX0_ok : ∀ k, k < 2 → parseFieldDescriptor (TX0 k).2.2.1 = some (tyX0 k) := by decide +kernel
abbrev cX0_init : ByteArray := prog_2_method_1_code
def yX0_init : MethodName := ⟨RX0, "<init>", "()V"⟩
abbrev cX0_empty : ByteArray := prog_2_method_2_code
def yX0_empty : MethodName := ⟨RX0, "empty", "()V"⟩
abbrev cX0_add : ByteArray := prog_2_method_3_code
def yX0_add : MethodName := ⟨RX0, "add", "(I)V"⟩
abbrev cX0_takeLatest : ByteArray := prog_2_method_4_code
def yX0_takeLatest : MethodName := ⟨RX0, "takeLatest", "()I"⟩
def RX1 : String := "StyleTree$Look"
def TX1 : u_T := fun k => match k with
  | 0 => ("StyleTree$Look", "tags", "[I", true)
  | 1 => ("StyleTree$Look", "classes", "[I", true)
  | _ => ("StyleTree$Look", "on", "I", false)
def tyX1 : Nat → FieldType := fun k => match k with
  | 0 => .array .int
  | 1 => .array .int
  | _ => .int
abbrev wsX10 : List Cond := u_ws RX1 TX1 3
theorem nmX1 : ∀ a, a < 3 → ∀ b, b < 3 → a ≠ b → (TX1 a).2.1 ≠ (TX1 b).2.1 := by decide +kernel
theorem tyX1_ok : ∀ k, k < 3 → parseFieldDescriptor (TX1 k).2.2.1 = some (tyX1 k) := by decide +kernel
abbrev cX1_init : ByteArray := prog_3_method_1_code
def yX1_init : MethodName := ⟨RX1, "<init>", "()V"⟩
abbrev cX1_copyFrom : ByteArray := prog_3_method_2_code
def yX1_copyFrom : MethodName := ⟨RX1, "copyFrom", "(LStyleTree$Look;)V"⟩
abbrev cX1_hasOn : ByteArray := prog_3_method_3_code
def yX1_hasOn : MethodName := ⟨RX1, "hasOn", "(I)Z"⟩
abbrev cX1_apply : ByteArray := prog_3_method_4_code
def yX1_apply : MethodName := ⟨RX1, "apply", "(I)V"⟩
abbrev cX1_putTag : ByteArray := prog_3_method_5_code
def yX1_putTag : MethodName := ⟨RX1, "putTag", "(II)V"⟩
abbrev cX1_flipClass : ByteArray := prog_3_method_6_code
def yX1_flipClass : MethodName := ⟨RX1, "flipClass", "(II)V"⟩
def RX2 : String := "StyleTree$Reader"
def TX2 : u_T := fun k => match k with
  | 0 => ("StyleTree$Reader", "letters", "[C", false)
  | 1 => ("StyleTree$Reader", "length", "I", false)
  | 2 => ("StyleTree$Reader", "next", "I", false)
  | 3 => ("StyleTree$Reader", "start", "I", false)
  | 4 => ("StyleTree$Reader", "token", "I", false)
  | _ => ("StyleTree$Reader", "sheet", "LStyleTree$Sheet;", false)
def tyX2 : Nat → FieldType := fun k => match k with
  | 0 => .array .char
  | 1 => .int
  | 2 => .int
  | 3 => .int
  | 4 => .int
  | _ => .object "StyleTree$Sheet"
abbrev wsX20 : List Cond := u_ws RX2 TX2 6
theorem nmX2 : ∀ a, a < 6 → ∀ b, b < 6 → a ≠ b → (TX2 a).2.1 ≠ (TX2 b).2.1 := by decide +kernel
theorem tyX2_ok : ∀ k, k < 6 → parseFieldDescriptor (TX2 k).2.2.1 = some (tyX2 k) := by decide +kernel
abbrev cX2_init : ByteArray := prog_4_method_1_code
def yX2_init : MethodName := ⟨RX2, "<init>", "()V"⟩
abbrev cX2_readAll : ByteArray := prog_4_method_2_code
def yX2_readAll : MethodName := ⟨RX2, "readAll", "([CI)I"⟩
abbrev cX2_exchange : ByteArray := prog_4_method_3_code
def yX2_exchange : MethodName := ⟨RX2, "exchange", "(LStyleTree$Sheet;)LStyleTree$Sheet;"⟩
abbrev cX2_fault : ByteArray := prog_4_method_4_code
def yX2_fault : MethodName := ⟨RX2, "fault", "()I"⟩
abbrev cX2_advance : ByteArray := prog_4_method_5_code
def yX2_advance : MethodName := ⟨RX2, "advance", "()V"⟩
abbrev cX2_isDigitAt : ByteArray := prog_4_method_6_code
def yX2_isDigitAt : MethodName := ⟨RX2, "isDigitAt", "(I)Z"⟩
abbrev cX2_isDigit : ByteArray := prog_4_method_7_code
def yX2_isDigit : MethodName := ⟨RX2, "isDigit", "()Z"⟩
abbrev cX2_isTag : ByteArray := prog_4_method_8_code
def yX2_isTag : MethodName := ⟨RX2, "isTag", "()Z"⟩
abbrev cX2_isClass : ByteArray := prog_4_method_9_code
def yX2_isClass : MethodName := ⟨RX2, "isClass", "()Z"⟩
abbrev cX2_isProperty : ByteArray := prog_4_method_10_code
def yX2_isProperty : MethodName := ⟨RX2, "isProperty", "()Z"⟩
abbrev cX2_isJoint : ByteArray := prog_4_method_11_code
def yX2_isJoint : MethodName := ⟨RX2, "isJoint", "()Z"⟩
abbrev cX2_take : ByteArray := prog_4_method_12_code
def yX2_take : MethodName := ⟨RX2, "take", "(I)Z"⟩
abbrev cX2_readNode : ByteArray := prog_4_method_13_code
def yX2_readNode : MethodName := ⟨RX2, "readNode", "()Z"⟩
abbrev cX2_readRule : ByteArray := prog_4_method_14_code
def yX2_readRule : MethodName := ⟨RX2, "readRule", "()Z"⟩
abbrev cX2_readSelector : ByteArray := prog_4_method_15_code
def yX2_readSelector : MethodName := ⟨RX2, "readSelector", "(LStyleTree$Rule;)Z"⟩
abbrev cX2_readCompound : ByteArray := prog_4_method_16_code
def yX2_readCompound : MethodName := ⟨RX2, "readCompound", "(LStyleTree$Rule;Z)Z"⟩
abbrev cX2_readDeclarations : ByteArray := prog_4_method_17_code
def yX2_readDeclarations : MethodName := ⟨RX2, "readDeclarations", "(LStyleTree$Rule;)Z"⟩
abbrev cX2_readDeclaration : ByteArray := prog_4_method_18_code
def yX2_readDeclaration : MethodName := ⟨RX2, "readDeclaration", "(LStyleTree$Rule;)Z"⟩
def RX3 : String := "StyleTree$Rule"
def TX3 : u_T := fun k => match k with
  | 0 => ("StyleTree$Rule", "user", "Z", false)
  | 1 => ("StyleTree$Rule", "compounds", "I", false)
  | 2 => ("StyleTree$Rule", "specific", "I", false)
  | 3 => ("StyleTree$Rule", "declared", "I", false)
  | 4 => ("StyleTree$Rule", "strong", "I", false)
  | 5 => ("StyleTree$Rule", "tags", "[I", true)
  | 6 => ("StyleTree$Rule", "classes", "[I", true)
  | 7 => ("StyleTree$Rule", "isChild", "[Z", true)
  | 8 => ("StyleTree$Rule", "values", "[I", true)
  | _ => ("StyleTree$Rule", "weights", "[I", true)
def tyX3 : Nat → FieldType := fun k => match k with
  | 0 => .boolean
  | 1 => .int
  | 2 => .int
  | 3 => .int
  | 4 => .int
  | 5 => .array .int
  | 6 => .array .int
  | 7 => .array .boolean
  | 8 => .array .int
  | _ => .array .int
abbrev wsX30 : List Cond := u_ws RX3 TX3 10
theorem nmX3 : ∀ a, a < 10 → ∀ b, b < 10 → a ≠ b → (TX3 a).2.1 ≠ (TX3 b).2.1 := by decide +kernel
theorem tyX3_ok : ∀ k, k < 10 → parseFieldDescriptor (TX3 k).2.2.1 = some (tyX3 k) := by decide +kernel
abbrev cX3_init : ByteArray := prog_5_method_1_code
def yX3_init : MethodName := ⟨RX3, "<init>", "()V"⟩
abbrev cX3_begin : ByteArray := prog_5_method_2_code
def yX3_begin : MethodName := ⟨RX3, "begin", "(Z)V"⟩
abbrev cX3_addCompound : ByteArray := prog_5_method_3_code
def yX3_addCompound : MethodName := ⟨RX3, "addCompound", "(IIZ)V"⟩
abbrev cX3_declare : ByteArray := prog_5_method_4_code
def yX3_declare : MethodName := ⟨RX3, "declare", "(IIZ)V"⟩
abbrev cX3_level : ByteArray := prog_5_method_5_code
def yX3_level : MethodName := ⟨RX3, "level", "(Z)I"⟩
abbrev cX3_fits : ByteArray := prog_5_method_6_code
def yX3_fits : MethodName := ⟨RX3, "fits", "(III)Z"⟩
def RX4 : String := "StyleTree$Sheet"
def TX4 : u_T := fun k => match k with
  | 0 => ("StyleTree$Sheet", "nodes", "I", false)
  | 1 => ("StyleTree$Sheet", "rules", "I", false)
  | 2 => ("StyleTree$Sheet", "parents", "[I", true)
  | 3 => ("StyleTree$Sheet", "above", "[I", true)
  | 4 => ("StyleTree$Sheet", "told", "LStyleTree$Look;", true)
  | _ => ("StyleTree$Sheet", "rows", "[LStyleTree$Rule;", true)
def tyX4 : Nat → FieldType := fun k => match k with
  | 0 => .int
  | 1 => .int
  | 2 => .array .int
  | 3 => .array .int
  | 4 => .object "StyleTree$Look"
  | _ => .array (.object "StyleTree$Rule")
abbrev wsX40 : List Cond := u_ws RX4 TX4 6
theorem nmX4 : ∀ a, a < 6 → ∀ b, b < 6 → a ≠ b → (TX4 a).2.1 ≠ (TX4 b).2.1 := by decide +kernel
theorem tyX4_ok : ∀ k, k < 6 → parseFieldDescriptor (TX4 k).2.2.1 = some (tyX4 k) := by decide +kernel
abbrev cX4_init : ByteArray := prog_6_method_1_code
def yX4_init : MethodName := ⟨RX4, "<init>", "()V"⟩
abbrev cX4_empty : ByteArray := prog_6_method_2_code
def yX4_empty : MethodName := ⟨RX4, "empty", "()V"⟩
abbrev cX4_addNode : ByteArray := prog_6_method_3_code
def yX4_addNode : MethodName := ⟨RX4, "addNode", "(III)V"⟩
abbrev cX4_addRule : ByteArray := prog_6_method_4_code
def yX4_addRule : MethodName := ⟨RX4, "addRule", "()V"⟩
abbrev cX4_below : ByteArray := prog_6_method_5_code
def yX4_below : MethodName := ⟨RX4, "below", "(I)I"⟩
abbrev cX4_fitted : ByteArray := prog_6_method_6_code
def yX4_fitted : MethodName := ⟨RX4, "fitted", "(LStyleTree$Look;LStyleTree$Rule;I)I"⟩
abbrev cX4_reached : ByteArray := prog_6_method_7_code
def yX4_reached : MethodName := ⟨RX4, "reached", "(LStyleTree$Look;LStyleTree$Rule;)I"⟩
abbrev cX4_under : ByteArray := prog_6_method_8_code
def yX4_under : MethodName := ⟨RX4, "under", "(IZ)I"⟩
abbrev cX4_strongest : ByteArray := prog_6_method_9_code
def yX4_strongest : MethodName := ⟨RX4, "strongest", "(II)I"⟩
abbrev cX4_lookedAt : ByteArray := prog_6_method_10_code
def yX4_lookedAt : MethodName := ⟨RX4, "lookedAt", "(LStyleTree$Look;II)I"⟩
abbrev cX4_lookedAtBy : ByteArray := prog_6_method_11_code
def yX4_lookedAtBy : MethodName := ⟨RX4, "lookedAtBy", "(LStyleTree$Look;LStyleTree$Rule;II)I"⟩
def RX5 : String := "StyleTree$Sightings"
def TX5 : u_T := fun k => match k with
  | 0 => ("StyleTree$Sightings", "nodes", "[I", true)
  | 1 => ("StyleTree$Sightings", "properties", "[I", true)
  | 2 => ("StyleTree$Sightings", "values", "[I", true)
  | _ => ("StyleTree$Sightings", "size", "I", false)
def tyX5 : Nat → FieldType := fun k => match k with
  | 0 => .array .int
  | 1 => .array .int
  | 2 => .array .int
  | _ => .int
abbrev wsX50 : List Cond := u_ws RX5 TX5 4
theorem nmX5 : ∀ a, a < 4 → ∀ b, b < 4 → a ≠ b → (TX5 a).2.1 ≠ (TX5 b).2.1 := by decide +kernel
theorem tyX5_ok : ∀ k, k < 4 → parseFieldDescriptor (TX5 k).2.2.1 = some (tyX5 k) := by decide +kernel
abbrev cX5_init : ByteArray := prog_7_method_1_code
def yX5_init : MethodName := ⟨RX5, "<init>", "()V"⟩
abbrev cX5_empty : ByteArray := prog_7_method_2_code
def yX5_empty : MethodName := ⟨RX5, "empty", "()V"⟩
abbrev cX5_add : ByteArray := prog_7_method_3_code
def yX5_add : MethodName := ⟨RX5, "add", "(III)Z"⟩
abbrev cX5_holdIn : ByteArray := prog_7_method_4_code
def yX5_holdIn : MethodName := ⟨RX5, "holdIn", "(LStyleTree$Styles;)Z"⟩
def RX6 : String := "StyleTree$Styles"
def TX6 : u_T := fun k => match k with
  | 0 => ("StyleTree$Styles", "nodes", "I", false)
  | 1 => ("StyleTree$Styles", "nodesOfRule", "[I", true)
  | 2 => ("StyleTree$Styles", "rulesOfNode", "[I", true)
  | 3 => ("StyleTree$Styles", "values", "[I", true)
  | _ => ("StyleTree$Styles", "sources", "[I", true)
def tyX6 : Nat → FieldType := fun k => match k with
  | 0 => .int
  | 1 => .array .int
  | 2 => .array .int
  | 3 => .array .int
  | _ => .array .int
abbrev wsX60 : List Cond := u_ws RX6 TX6 5
theorem nmX6 : ∀ a, a < 5 → ∀ b, b < 5 → a ≠ b → (TX6 a).2.1 ≠ (TX6 b).2.1 := by decide +kernel
theorem tyX6_ok : ∀ k, k < 5 → parseFieldDescriptor (TX6 k).2.2.1 = some (tyX6 k) := by decide +kernel
abbrev cX6_init : ByteArray := prog_8_method_1_code
def yX6_init : MethodName := ⟨RX6, "<init>", "()V"⟩
abbrev cX6_resolve : ByteArray := prog_8_method_2_code
def yX6_resolve : MethodName := ⟨RX6, "resolve", "(LStyleTree$Sheet;LStyleTree$Look;)V"⟩
abbrev cX6_noteRule : ByteArray := prog_8_method_3_code
def yX6_noteRule : MethodName := ⟨RX6, "noteRule", "(I)V"⟩
abbrev cX6_settle : ByteArray := prog_8_method_4_code
def yX6_settle : MethodName := ⟨RX6, "settle", "(LStyleTree$Sheet;II)V"⟩
abbrev cX6_nodesOf : ByteArray := prog_8_method_5_code
def yX6_nodesOf : MethodName := ⟨RX6, "nodesOf", "(I)I"⟩
abbrev cX6_rulesOf : ByteArray := prog_8_method_6_code
def yX6_rulesOf : MethodName := ⟨RX6, "rulesOf", "(I)I"⟩
abbrev cX6_valueAt : ByteArray := prog_8_method_7_code
def yX6_valueAt : MethodName := ⟨RX6, "valueAt", "(II)I"⟩
abbrev cX6_sourceAt : ByteArray := prog_8_method_8_code
def yX6_sourceAt : MethodName := ⟨RX6, "sourceAt", "(II)I"⟩
abbrev cX6_styleOf : ByteArray := prog_8_method_9_code
def yX6_styleOf : MethodName := ⟨RX6, "styleOf", "(I)I"⟩
abbrev cX6_recordOf : ByteArray := prog_8_method_10_code
def yX6_recordOf : MethodName := ⟨RX6, "recordOf", "(I)I"⟩
abbrev cX6_unlikeStyles : ByteArray := prog_8_method_11_code
def yX6_unlikeStyles : MethodName := ⟨RX6, "unlikeStyles", "()I"⟩
abbrev cX6_differences : ByteArray := prog_8_method_12_code
def yX6_differences : MethodName := ⟨RX6, "differences", "(LStyleTree$Styles;)I"⟩
def RX7 : String := "StyleTree"
def TX7 : u_T := fun k => match k with
  | 0 => ("StyleTree", "letters", "[C", true)
  | 1 => ("StyleTree", "length", "I", false)
  | 2 => ("StyleTree", "reader", "LStyleTree$Reader;", true)
  | 3 => ("StyleTree", "sheet", "LStyleTree$Sheet;", false)
  | 4 => ("StyleTree", "look", "LStyleTree$Look;", true)
  | 5 => ("StyleTree", "trial", "LStyleTree$Look;", true)
  | 6 => ("StyleTree", "now", "LStyleTree$Styles;", true)
  | 7 => ("StyleTree", "then", "LStyleTree$Styles;", true)
  | 8 => ("StyleTree", "history", "LStyleTree$History;", true)
  | 9 => ("StyleTree", "sightings", "LStyleTree$Sightings;", true)
  | 10 => ("StyleTree", "images", "[LStyleTree$Look;", true)
  | 11 => ("StyleTree", "keptImages", "I", false)
  | _ => ("StyleTree", "answers", "[I", true)
def tyX7 : Nat → FieldType := fun k => match k with
  | 0 => .array .char
  | 1 => .int
  | 2 => .object "StyleTree$Reader"
  | 3 => .object "StyleTree$Sheet"
  | 4 => .object "StyleTree$Look"
  | 5 => .object "StyleTree$Look"
  | 6 => .object "StyleTree$Styles"
  | 7 => .object "StyleTree$Styles"
  | 8 => .object "StyleTree$History"
  | 9 => .object "StyleTree$Sightings"
  | 10 => .array (.object "StyleTree$Look")
  | 11 => .int
  | _ => .array .int
abbrev wsX70 : List Cond := u_ws RX7 TX7 13
theorem nmX7 : ∀ a, a < 13 → ∀ b, b < 13 → a ≠ b → (TX7 a).2.1 ≠ (TX7 b).2.1 := by decide +kernel
theorem tyX7_ok : ∀ k, k < 13 → parseFieldDescriptor (TX7 k).2.2.1 = some (tyX7 k) := by decide +kernel
abbrev cX7_init : ByteArray := prog_1_method_1_code
def yX7_init : MethodName := ⟨RX7, "<init>", "()V"⟩
abbrev cX7_type : ByteArray := prog_1_method_2_code
def yX7_type : MethodName := ⟨RX7, "type", "(I)I"⟩
abbrev cX7_clear : ByteArray := prog_1_method_3_code
def yX7_clear : MethodName := ⟨RX7, "clear", "()I"⟩
abbrev cX7_page : ByteArray := prog_1_method_4_code
def yX7_page : MethodName := ⟨RX7, "page", "()I"⟩
abbrev cX7_node : ByteArray := prog_1_method_5_code
def yX7_node : MethodName := ⟨RX7, "node", "(II)I"⟩
abbrev cX7_rule : ByteArray := prog_1_method_6_code
def yX7_rule : MethodName := ⟨RX7, "rule", "(II)I"⟩
abbrev cX7_toggles : ByteArray := prog_1_method_7_code
def yX7_toggles : MethodName := ⟨RX7, "toggles", "(II)I"⟩
abbrev cX7_tags : ByteArray := prog_1_method_8_code
def yX7_tags : MethodName := ⟨RX7, "tags", "(II)I"⟩
abbrev cX7_switches : ByteArray := prog_1_method_9_code
def yX7_switches : MethodName := ⟨RX7, "switches", "(I)I"⟩
abbrev cX7_undo : ByteArray := prog_1_method_10_code
def yX7_undo : MethodName := ⟨RX7, "undo", "()I"⟩
abbrev cX7_value : ByteArray := prog_1_method_11_code
def yX7_value : MethodName := ⟨RX7, "value", "(II)I"⟩
abbrev cX7_winner : ByteArray := prog_1_method_12_code
def yX7_winner : MethodName := ⟨RX7, "winner", "(III)I"⟩
abbrev cX7_source : ByteArray := prog_1_method_13_code
def yX7_source : MethodName := ⟨RX7, "source", "(II)I"⟩
abbrev cX7_change : ByteArray := prog_1_method_14_code
def yX7_change : MethodName := ⟨RX7, "change", "(III)I"⟩
abbrev cX7_wanted : ByteArray := prog_1_method_15_code
def yX7_wanted : MethodName := ⟨RX7, "wanted", "(III)I"⟩
abbrev cX7_sees : ByteArray := prog_1_method_16_code
def yX7_sees : MethodName := ⟨RX7, "sees", "(III)I"⟩
abbrev cX7_forget : ByteArray := prog_1_method_17_code
def yX7_forget : MethodName := ⟨RX7, "forget", "()I"⟩
abbrev cX7_unseen : ByteArray := prog_1_method_18_code
def yX7_unseen : MethodName := ⟨RX7, "unseen", "()I"⟩
abbrev cX7_ask : ByteArray := prog_1_method_19_code
def yX7_ask : MethodName := ⟨RX7, "ask", "()I"⟩
abbrev cX7_keep : ByteArray := prog_1_method_20_code
def yX7_keep : MethodName := ⟨RX7, "keep", "(I)I"⟩
abbrev cX7_back : ByteArray := prog_1_method_21_code
def yX7_back : MethodName := ⟨RX7, "back", "(I)I"⟩
abbrev cX7_count : ByteArray := prog_1_method_22_code
def yX7_count : MethodName := ⟨RX7, "count", "(I)I"⟩
abbrev cX7_within : ByteArray := prog_1_method_23_code
def yX7_within : MethodName := ⟨RX7, "within", "(II)Z"⟩
abbrev cX7_hasBit : ByteArray := prog_1_method_24_code
def yX7_hasBit : MethodName := ⟨RX7, "hasBit", "(II)Z"⟩
abbrev cX7_isPlace : ByteArray := prog_1_method_25_code
def yX7_isPlace : MethodName := ⟨RX7, "isPlace", "(II)Z"⟩
abbrev cX7_refresh : ByteArray := prog_1_method_26_code
def yX7_refresh : MethodName := ⟨RX7, "refresh", "()V"⟩
abbrev cX7_perform : ByteArray := prog_1_method_27_code
def yX7_perform : MethodName := ⟨RX7, "perform", "(II)V"⟩
abbrev cX7_tryOut : ByteArray := prog_1_method_28_code
def yX7_tryOut : MethodName := ⟨RX7, "tryOut", "(I)V"⟩
abbrev cX7_gatherAnswers : ByteArray := prog_1_method_29_code
def yX7_gatherAnswers : MethodName := ⟨RX7, "gatherAnswers", "(I)V"⟩
abbrev cX7_addAnswers : ByteArray := prog_1_method_30_code
def yX7_addAnswers : MethodName := ⟨RX7, "addAnswers", "()V"⟩
def RX8 : String := "StyleTreeModel"
def TX8 : u_T := fun k => match k with
  | 0 => ("StyleTreeModel", "thrown", "I", false)
  | 1 => ("StyleTreeModel", "text", "[I", true)
  | 2 => ("StyleTreeModel", "typed", "I", false)
  | 3 => ("StyleTreeModel", "at", "I", false)
  | 4 => ("StyleTreeModel", "token", "I", false)
  | 5 => ("StyleTreeModel", "place", "I", false)
  | 6 => ("StyleTreeModel", "value", "I", false)
  | 7 => ("StyleTreeModel", "fault", "I", false)
  | 8 => ("StyleTreeModel", "told", "[I", true)
  | 9 => ("StyleTreeModel", "draft", "[I", true)
  | 10 => ("StyleTreeModel", "draftNow", "[I", true)
  | 11 => ("StyleTreeModel", "s", "[I", true)
  | 12 => ("StyleTreeModel", "undos", "[I", true)
  | 13 => ("StyleTreeModel", "undoMany", "I", false)
  | 14 => ("StyleTreeModel", "kept", "[I", true)
  | 15 => ("StyleTreeModel", "isKept", "[Z", true)
  | 16 => ("StyleTreeModel", "seenNode", "[I", true)
  | 17 => ("StyleTreeModel", "seenProperty", "[I", true)
  | 18 => ("StyleTreeModel", "seenValue", "[I", true)
  | 19 => ("StyleTreeModel", "seenMany", "I", false)
  | 20 => ("StyleTreeModel", "was", "[I", true)
  | _ => ("StyleTreeModel", "matched", "[I", true)
def tyX8 : Nat → FieldType := fun k => match k with
  | 0 => .int
  | 1 => .array .int
  | 2 => .int
  | 3 => .int
  | 4 => .int
  | 5 => .int
  | 6 => .int
  | 7 => .int
  | 8 => .array .int
  | 9 => .array .int
  | 10 => .array .int
  | 11 => .array .int
  | 12 => .array .int
  | 13 => .int
  | 14 => .array .int
  | 15 => .array .boolean
  | 16 => .array .int
  | 17 => .array .int
  | 18 => .array .int
  | 19 => .int
  | 20 => .array .int
  | _ => .array .int
abbrev wsX80 : List Cond := u_ws RX8 TX8 22
theorem nmX8 : ∀ a, a < 22 → ∀ b, b < 22 → a ≠ b → (TX8 a).2.1 ≠ (TX8 b).2.1 := by decide +kernel
theorem tyX8_ok : ∀ k, k < 22 → parseFieldDescriptor (TX8 k).2.2.1 = some (tyX8 k) := by decide +kernel
abbrev cX8_init : ByteArray := prog_10_method_1_code
def yX8_init : MethodName := ⟨RX8, "<init>", "()V"⟩
abbrev cX8_in : ByteArray := prog_10_method_3_code
def yX8_in : MethodName := ⟨RX8, "in", "(III)Z"⟩
abbrev cX8_has : ByteArray := prog_10_method_4_code
def yX8_has : MethodName := ⟨RX8, "has", "(II)Z"⟩
abbrev cX8_ones : ByteArray := prog_10_method_5_code
def yX8_ones : MethodName := ⟨RX8, "ones", "(I)I"⟩
abbrev cX8_type : ByteArray := prog_10_method_6_code
def yX8_type : MethodName := ⟨RX8, "type", "(I)I"⟩
abbrev cX8_clear : ByteArray := prog_10_method_7_code
def yX8_clear : MethodName := ⟨RX8, "clear", "()I"⟩
abbrev cX8_letterAt : ByteArray := prog_10_method_8_code
def yX8_letterAt : MethodName := ⟨RX8, "letterAt", "(I)I"⟩
abbrev cX8_isSign : ByteArray := prog_10_method_9_code
def yX8_isSign : MethodName := ⟨RX8, "isSign", "(I)Z"⟩
abbrev cX8_advances : ByteArray := prog_10_method_10_code
def yX8_advances : MethodName := ⟨RX8, "advances", "()V"⟩
abbrev cX8_isWell : ByteArray := prog_10_method_11_code
def yX8_isWell : MethodName := ⟨RX8, "isWell", "()Z"⟩
abbrev cX8_takes : ByteArray := prog_10_method_12_code
def yX8_takes : MethodName := ⟨RX8, "takes", "(Z)I"⟩
abbrev cX8_isThis : ByteArray := prog_10_method_13_code
def yX8_isThis : MethodName := ⟨RX8, "isThis", "(I)Z"⟩
abbrev cX8_isFrom : ByteArray := prog_10_method_14_code
def yX8_isFrom : MethodName := ⟨RX8, "isFrom", "(II)Z"⟩
abbrev cX8_begins : ByteArray := prog_10_method_15_code
def yX8_begins : MethodName := ⟨RX8, "begins", "()V"⟩
abbrev cX8_readsNode : ByteArray := prog_10_method_16_code
def yX8_readsNode : MethodName := ⟨RX8, "readsNode", "()V"⟩
abbrev cX8_readsCompound : ByteArray := prog_10_method_17_code
def yX8_readsCompound : MethodName := ⟨RX8, "readsCompound", "(I)V"⟩
abbrev cX8_readsDeclarations : ByteArray := prog_10_method_18_code
def yX8_readsDeclarations : MethodName := ⟨RX8, "readsDeclarations", "(I)V"⟩
abbrev cX8_readsRule : ByteArray := prog_10_method_19_code
def yX8_readsRule : MethodName := ⟨RX8, "readsRule", "()V"⟩
abbrev cX8_page : ByteArray := prog_10_method_20_code
def yX8_page : MethodName := ⟨RX8, "page", "()I"⟩
abbrev cX8_settles : ByteArray := prog_10_method_21_code
def yX8_settles : MethodName := ⟨RX8, "settles", "()V"⟩
abbrev cX8_isNode : ByteArray := prog_10_method_22_code
def yX8_isNode : MethodName := ⟨RX8, "isNode", "(I)Z"⟩
abbrev cX8_isRule : ByteArray := prog_10_method_23_code
def yX8_isRule : MethodName := ⟨RX8, "isRule", "(I)Z"⟩
abbrev cX8_isFour : ByteArray := prog_10_method_24_code
def yX8_isFour : MethodName := ⟨RX8, "isFour", "(I)Z"⟩
abbrev cX8_fits : ByteArray := prog_10_method_25_code
def yX8_fits : MethodName := ⟨RX8, "fits", "(II)Z"⟩
abbrev cX8_matching : ByteArray := prog_10_method_26_code
def yX8_matching : MethodName := ⟨RX8, "matching", "(II)I"⟩
abbrev cX8_fills : ByteArray := prog_10_method_27_code
def yX8_fills : MethodName := ⟨RX8, "fills", "()V"⟩
abbrev cX8_rulesOf : ByteArray := prog_10_method_28_code
def yX8_rulesOf : MethodName := ⟨RX8, "rulesOf", "(I)I"⟩
abbrev cX8_below : ByteArray := prog_10_method_29_code
def yX8_below : MethodName := ⟨RX8, "below", "(I)I"⟩
abbrev cX8_specific : ByteArray := prog_10_method_30_code
def yX8_specific : MethodName := ⟨RX8, "specific", "(I)I"⟩
abbrev cX8_heightOf : ByteArray := prog_10_method_31_code
def yX8_heightOf : MethodName := ⟨RX8, "heightOf", "(II)I"⟩
abbrev cX8_winnerOf : ByteArray := prog_10_method_32_code
def yX8_winnerOf : MethodName := ⟨RX8, "winnerOf", "(III)I"⟩
abbrev cX8_sourceOf : ByteArray := prog_10_method_33_code
def yX8_sourceOf : MethodName := ⟨RX8, "sourceOf", "(II)I"⟩
abbrev cX8_valueOf : ByteArray := prog_10_method_34_code
def yX8_valueOf : MethodName := ⟨RX8, "valueOf", "(II)I"⟩
abbrev cX8_isLike : ByteArray := prog_10_method_35_code
def yX8_isLike : MethodName := ⟨RX8, "isLike", "(II)Z"⟩
abbrev cX8_recordOf : ByteArray := prog_10_method_36_code
def yX8_recordOf : MethodName := ⟨RX8, "recordOf", "(I)I"⟩
abbrev cX8_node : ByteArray := prog_10_method_37_code
def yX8_node : MethodName := ⟨RX8, "node", "(II)I"⟩
abbrev cX8_rule : ByteArray := prog_10_method_38_code
def yX8_rule : MethodName := ⟨RX8, "rule", "(II)I"⟩
abbrev cX8_notes : ByteArray := prog_10_method_39_code
def yX8_notes : MethodName := ⟨RX8, "notes", "()V"⟩
abbrev cX8_toggles : ByteArray := prog_10_method_40_code
def yX8_toggles : MethodName := ⟨RX8, "toggles", "(II)I"⟩
abbrev cX8_tags : ByteArray := prog_10_method_41_code
def yX8_tags : MethodName := ⟨RX8, "tags", "(II)I"⟩
abbrev cX8_switches : ByteArray := prog_10_method_42_code
def yX8_switches : MethodName := ⟨RX8, "switches", "(I)I"⟩
abbrev cX8_undo : ByteArray := prog_10_method_43_code
def yX8_undo : MethodName := ⟨RX8, "undo", "()I"⟩
abbrev cX8_value : ByteArray := prog_10_method_44_code
def yX8_value : MethodName := ⟨RX8, "value", "(II)I"⟩
abbrev cX8_winner : ByteArray := prog_10_method_45_code
def yX8_winner : MethodName := ⟨RX8, "winner", "(III)I"⟩
abbrev cX8_source : ByteArray := prog_10_method_46_code
def yX8_source : MethodName := ⟨RX8, "source", "(II)I"⟩
abbrev cX8_lookedAt : ByteArray := prog_10_method_47_code
def yX8_lookedAt : MethodName := ⟨RX8, "lookedAt", "(II)I"⟩
abbrev cX8_different : ByteArray := prog_10_method_48_code
def yX8_different : MethodName := ⟨RX8, "different", "(II)I"⟩
abbrev cX8_change : ByteArray := prog_10_method_49_code
def yX8_change : MethodName := ⟨RX8, "change", "(III)I"⟩
abbrev cX8_valueBy : ByteArray := prog_10_method_50_code
def yX8_valueBy : MethodName := ⟨RX8, "valueBy", "(III)I"⟩
abbrev cX8_wanted : ByteArray := prog_10_method_51_code
def yX8_wanted : MethodName := ⟨RX8, "wanted", "(III)I"⟩
abbrev cX8_sees : ByteArray := prog_10_method_52_code
def yX8_sees : MethodName := ⟨RX8, "sees", "(III)I"⟩
abbrev cX8_forget : ByteArray := prog_10_method_53_code
def yX8_forget : MethodName := ⟨RX8, "forget", "()I"⟩
abbrev cX8_unseenSet : ByteArray := prog_10_method_54_code
def yX8_unseenSet : MethodName := ⟨RX8, "unseenSet", "()I"⟩
abbrev cX8_unseen : ByteArray := prog_10_method_55_code
def yX8_unseen : MethodName := ⟨RX8, "unseen", "()I"⟩
abbrev cX8_ask : ByteArray := prog_10_method_56_code
def yX8_ask : MethodName := ⟨RX8, "ask", "()I"⟩
abbrev cX8_keep : ByteArray := prog_10_method_57_code
def yX8_keep : MethodName := ⟨RX8, "keep", "(I)I"⟩
abbrev cX8_back : ByteArray := prog_10_method_58_code
def yX8_back : MethodName := ⟨RX8, "back", "(I)I"⟩
abbrev cX8_styles : ByteArray := prog_10_method_59_code
def yX8_styles : MethodName := ⟨RX8, "styles", "()I"⟩
abbrev cX8_count : ByteArray := prog_10_method_60_code
def yX8_count : MethodName := ⟨RX8, "count", "(I)I"⟩
def RJ6 : String := "java/lang/Integer"
def TJ6 : u_T := fun k => match k with
  | _ => ("", "", "", false)
def tyJ6 : Nat → FieldType := fun k => match k with
  | _ => .int
abbrev wsJ60 : List Cond := u_ws RJ6 TJ6 0
theorem nmJ6 : ∀ a, a < 0 → ∀ b, b < 0 → a ≠ b → (TJ6 a).2.1 ≠ (TJ6 b).2.1 := by decide +kernel
theorem tyJ6_ok : ∀ k, k < 0 → parseFieldDescriptor (TJ6 k).2.2.1 = some (tyJ6 k) := by decide +kernel
abbrev cJ6_bitCount_0f7a4 : ByteArray := prog_11_method_49_code
def yJ6_bitCount_0f7a4 : MethodName := ⟨RJ6, "bitCount", "(I)I"⟩
def RJ9 : String := "java/lang/Math"
def TJ9 : u_T := fun k => match k with
  | _ => ("", "", "", false)
def tyJ9 : Nat → FieldType := fun k => match k with
  | _ => .int
abbrev wsJ90 : List Cond := u_ws RJ9 TJ9 0
theorem nmJ9 : ∀ a, a < 0 → ∀ b, b < 0 → a ≠ b → (TJ9 a).2.1 ≠ (TJ9 b).2.1 := by decide +kernel
theorem tyJ9_ok : ∀ k, k < 0 → parseFieldDescriptor (TJ9 k).2.2.1 = some (tyJ9 k) := by decide +kernel
abbrev cJ9_min_7cf53 : ByteArray := prog_12_method_69_code
def yJ9_min_7cf53 : MethodName := ⟨RJ9, "min", "(II)I"⟩
def RJ10 : String := "java/lang/System"
def TJ10 : u_T := fun k => match k with
  | _ => ("", "", "", false)
def tyJ10 : Nat → FieldType := fun k => match k with
  | _ => .int
abbrev wsJ100 : List Cond := u_ws RJ10 TJ10 0
theorem nmJ10 : ∀ a, a < 0 → ∀ b, b < 0 → a ≠ b → (TJ10 a).2.1 ≠ (TJ10 b).2.1 := by decide +kernel
theorem tyJ10_ok : ∀ k, k < 0 → parseFieldDescriptor (TJ10 k).2.2.1 = some (tyJ10 k) := by decide +kernel
def RL : String := "StyleTreeLaw"
abbrev cL_law : ByteArray := code
def yL_law : MethodName := ⟨RL, "law", "([I)Z"⟩
abbrev vwCl : List vw_C := [(RX0, TX0, 2), (RX1, TX1, 3), (RX2, TX2, 6), (RX3, TX3, 10), (RX4, TX4, 6), (RX5, TX5, 4), (RX6, TX6, 5), (RX7, TX7, 13), (RX8, TX8, 22)]
end
section
theorem dX0_init_0 : decode cX0_init 0 = .ok (.aload_n 0, 1) := by decide +kernel
theorem dX0_init_1 : decode cX0_init 1 = .ok (.invokespecial 3, 3) := by decide +kernel
theorem dX0_init_4 : decode cX0_init 4 = .ok (.aload_n 0, 1) := by decide +kernel
theorem dX0_init_5 : decode cX0_init 5 = .ok (.bipush 10, 2) := by decide +kernel
theorem dX0_init_7 : decode cX0_init 7 = .ok (.newarray .int, 2) := by decide +kernel
theorem dX0_init_9 : decode cX0_init 9 = .ok (.putfield 9, 3) := by decide +kernel
theorem dX0_init_12 : decode cX0_init 12 = .ok (.aload_n 0, 1) := by decide +kernel
theorem dX0_init_13 : decode cX0_init 13 = .ok (.iconst 0, 1) := by decide +kernel
theorem dX0_init_14 : decode cX0_init 14 = .ok (.putfield 15, 3) := by decide +kernel
theorem dX0_init_17 : decode cX0_init 17 = .ok (.return_, 1) := by decide +kernel
theorem dX0_empty_0 : decode cX0_empty 0 = .ok (.aload_n 0, 1) := by decide +kernel
theorem dX0_empty_1 : decode cX0_empty 1 = .ok (.iconst 0, 1) := by decide +kernel
theorem dX0_empty_2 : decode cX0_empty 2 = .ok (.putfield 15, 3) := by decide +kernel
theorem dX0_empty_5 : decode cX0_empty 5 = .ok (.return_, 1) := by decide +kernel
theorem dX0_add_0 : decode cX0_add 0 = .ok (.aload_n 0, 1) := by decide +kernel
theorem dX0_add_1 : decode cX0_add 1 = .ok (.getfield 15, 3) := by decide +kernel
theorem dX0_add_4 : decode cX0_add 4 = .ok (.bipush 10, 2) := by decide +kernel
theorem dX0_add_6 : decode cX0_add 6 = .ok (.if_icmp .ne 28, 3) := by decide +kernel
theorem dX0_add_9 : decode cX0_add 9 = .ok (.aload_n 0, 1) := by decide +kernel
theorem dX0_add_10 : decode cX0_add 10 = .ok (.getfield 9, 3) := by decide +kernel
theorem dX0_add_13 : decode cX0_add 13 = .ok (.iconst 1, 1) := by decide +kernel
theorem dX0_add_14 : decode cX0_add 14 = .ok (.aload_n 0, 1) := by decide +kernel
theorem dX0_add_15 : decode cX0_add 15 = .ok (.getfield 9, 3) := by decide +kernel
theorem dX0_add_18 : decode cX0_add 18 = .ok (.iconst 0, 1) := by decide +kernel
theorem dX0_add_19 : decode cX0_add 19 = .ok (.bipush 9, 2) := by decide +kernel
theorem dX0_add_21 : decode cX0_add 21 = .ok (.invokestatic 19, 3) := by decide +kernel
theorem dX0_add_24 : decode cX0_add 24 = .ok (.aload_n 0, 1) := by decide +kernel
theorem dX0_add_25 : decode cX0_add 25 = .ok (.dup, 1) := by decide +kernel
theorem dX0_add_26 : decode cX0_add 26 = .ok (.getfield 15, 3) := by decide +kernel
theorem dX0_add_29 : decode cX0_add 29 = .ok (.iconst 1, 1) := by decide +kernel
theorem dX0_add_30 : decode cX0_add 30 = .ok (.isub, 1) := by decide +kernel
theorem dX0_add_31 : decode cX0_add 31 = .ok (.putfield 15, 3) := by decide +kernel
theorem dX0_add_34 : decode cX0_add 34 = .ok (.aload_n 0, 1) := by decide +kernel
theorem dX0_add_35 : decode cX0_add 35 = .ok (.getfield 15, 3) := by decide +kernel
theorem dX0_add_38 : decode cX0_add 38 = .ok (.bipush 10, 2) := by decide +kernel
theorem dX0_add_40 : decode cX0_add 40 = .ok (.invokestatic 25, 3) := by decide +kernel
theorem dX0_add_43 : decode cX0_add 43 = .ok (.ifCond .eq 23, 3) := by decide +kernel
theorem dX0_add_46 : decode cX0_add 46 = .ok (.aload_n 0, 1) := by decide +kernel
theorem dX0_add_47 : decode cX0_add 47 = .ok (.getfield 9, 3) := by decide +kernel
theorem dX0_add_50 : decode cX0_add 50 = .ok (.aload_n 0, 1) := by decide +kernel
theorem dX0_add_51 : decode cX0_add 51 = .ok (.getfield 15, 3) := by decide +kernel
theorem dX0_add_54 : decode cX0_add 54 = .ok (.iload_n 1, 1) := by decide +kernel
theorem dX0_add_55 : decode cX0_add 55 = .ok (.iastore, 1) := by decide +kernel
theorem dX0_add_56 : decode cX0_add 56 = .ok (.aload_n 0, 1) := by decide +kernel
theorem dX0_add_57 : decode cX0_add 57 = .ok (.dup, 1) := by decide +kernel
theorem dX0_add_58 : decode cX0_add 58 = .ok (.getfield 15, 3) := by decide +kernel
theorem dX0_add_61 : decode cX0_add 61 = .ok (.iconst 1, 1) := by decide +kernel
theorem dX0_add_62 : decode cX0_add 62 = .ok (.iadd, 1) := by decide +kernel
theorem dX0_add_63 : decode cX0_add 63 = .ok (.putfield 15, 3) := by decide +kernel
theorem dX0_add_66 : decode cX0_add 66 = .ok (.return_, 1) := by decide +kernel
theorem dX0_takeLatest_0 : decode cX0_takeLatest 0 = .ok (.aload_n 0, 1) := by decide +kernel
theorem dX0_takeLatest_1 : decode cX0_takeLatest 1 = .ok (.getfield 15, 3) := by decide +kernel
theorem dX0_takeLatest_4 : decode cX0_takeLatest 4 = .ok (.iconst 1, 1) := by decide +kernel
theorem dX0_takeLatest_5 : decode cX0_takeLatest 5 = .ok (.isub, 1) := by decide +kernel
theorem dX0_takeLatest_6 : decode cX0_takeLatest 6 = .ok (.bipush 10, 2) := by decide +kernel
theorem dX0_takeLatest_8 : decode cX0_takeLatest 8 = .ok (.invokestatic 25, 3) := by decide +kernel
theorem dX0_takeLatest_11 : decode cX0_takeLatest 11 = .ok (.ifCond .ne 6, 3) := by decide +kernel
theorem dX0_takeLatest_14 : decode cX0_takeLatest 14 = .ok (.bipush (-9), 2) := by decide +kernel
theorem dX0_takeLatest_16 : decode cX0_takeLatest 16 = .ok (.ireturn, 1) := by decide +kernel
theorem dX0_takeLatest_17 : decode cX0_takeLatest 17 = .ok (.aload_n 0, 1) := by decide +kernel
theorem dX0_takeLatest_18 : decode cX0_takeLatest 18 = .ok (.dup, 1) := by decide +kernel
theorem dX0_takeLatest_19 : decode cX0_takeLatest 19 = .ok (.getfield 15, 3) := by decide +kernel
theorem dX0_takeLatest_22 : decode cX0_takeLatest 22 = .ok (.iconst 1, 1) := by decide +kernel
theorem dX0_takeLatest_23 : decode cX0_takeLatest 23 = .ok (.isub, 1) := by decide +kernel
theorem dX0_takeLatest_24 : decode cX0_takeLatest 24 = .ok (.putfield 15, 3) := by decide +kernel
theorem dX0_takeLatest_27 : decode cX0_takeLatest 27 = .ok (.aload_n 0, 1) := by decide +kernel
theorem dX0_takeLatest_28 : decode cX0_takeLatest 28 = .ok (.getfield 9, 3) := by decide +kernel
theorem dX0_takeLatest_31 : decode cX0_takeLatest 31 = .ok (.aload_n 0, 1) := by decide +kernel
theorem dX0_takeLatest_32 : decode cX0_takeLatest 32 = .ok (.getfield 15, 3) := by decide +kernel
theorem dX0_takeLatest_35 : decode cX0_takeLatest 35 = .ok (.iaload, 1) := by decide +kernel
theorem dX0_takeLatest_36 : decode cX0_takeLatest 36 = .ok (.ireturn, 1) := by decide +kernel
theorem dX1_init_0 : decode cX1_init 0 = .ok (.aload_n 0, 1) := by decide +kernel
theorem dX1_init_1 : decode cX1_init 1 = .ok (.invokespecial 3, 3) := by decide +kernel
theorem dX1_init_4 : decode cX1_init 4 = .ok (.aload_n 0, 1) := by decide +kernel
theorem dX1_init_5 : decode cX1_init 5 = .ok (.bipush 9, 2) := by decide +kernel
theorem dX1_init_7 : decode cX1_init 7 = .ok (.newarray .int, 2) := by decide +kernel
theorem dX1_init_9 : decode cX1_init 9 = .ok (.putfield 9, 3) := by decide +kernel
theorem dX1_init_12 : decode cX1_init 12 = .ok (.aload_n 0, 1) := by decide +kernel
theorem dX1_init_13 : decode cX1_init 13 = .ok (.bipush 9, 2) := by decide +kernel
theorem dX1_init_15 : decode cX1_init 15 = .ok (.newarray .int, 2) := by decide +kernel
theorem dX1_init_17 : decode cX1_init 17 = .ok (.putfield 15, 3) := by decide +kernel
theorem dX1_init_20 : decode cX1_init 20 = .ok (.aload_n 0, 1) := by decide +kernel
theorem dX1_init_21 : decode cX1_init 21 = .ok (.iconst 0, 1) := by decide +kernel
theorem dX1_init_22 : decode cX1_init 22 = .ok (.putfield 18, 3) := by decide +kernel
theorem dX1_init_25 : decode cX1_init 25 = .ok (.return_, 1) := by decide +kernel
theorem dX1_copyFrom_0 : decode cX1_copyFrom 0 = .ok (.aload_n 1, 1) := by decide +kernel
theorem dX1_copyFrom_1 : decode cX1_copyFrom 1 = .ok (.getfield 9, 3) := by decide +kernel
theorem dX1_copyFrom_4 : decode cX1_copyFrom 4 = .ok (.iconst 0, 1) := by decide +kernel
theorem dX1_copyFrom_5 : decode cX1_copyFrom 5 = .ok (.aload_n 0, 1) := by decide +kernel
theorem dX1_copyFrom_6 : decode cX1_copyFrom 6 = .ok (.getfield 9, 3) := by decide +kernel
theorem dX1_copyFrom_9 : decode cX1_copyFrom 9 = .ok (.iconst 0, 1) := by decide +kernel
theorem dX1_copyFrom_10 : decode cX1_copyFrom 10 = .ok (.bipush 9, 2) := by decide +kernel
theorem dX1_copyFrom_12 : decode cX1_copyFrom 12 = .ok (.invokestatic 22, 3) := by decide +kernel
theorem dX1_copyFrom_15 : decode cX1_copyFrom 15 = .ok (.aload_n 1, 1) := by decide +kernel
theorem dX1_copyFrom_16 : decode cX1_copyFrom 16 = .ok (.getfield 15, 3) := by decide +kernel
theorem dX1_copyFrom_19 : decode cX1_copyFrom 19 = .ok (.iconst 0, 1) := by decide +kernel
theorem dX1_copyFrom_20 : decode cX1_copyFrom 20 = .ok (.aload_n 0, 1) := by decide +kernel
theorem dX1_copyFrom_21 : decode cX1_copyFrom 21 = .ok (.getfield 15, 3) := by decide +kernel
theorem dX1_copyFrom_24 : decode cX1_copyFrom 24 = .ok (.iconst 0, 1) := by decide +kernel
theorem dX1_copyFrom_25 : decode cX1_copyFrom 25 = .ok (.bipush 9, 2) := by decide +kernel
theorem dX1_copyFrom_27 : decode cX1_copyFrom 27 = .ok (.invokestatic 22, 3) := by decide +kernel
theorem dX1_copyFrom_30 : decode cX1_copyFrom 30 = .ok (.aload_n 0, 1) := by decide +kernel
theorem dX1_copyFrom_31 : decode cX1_copyFrom 31 = .ok (.aload_n 1, 1) := by decide +kernel
theorem dX1_copyFrom_32 : decode cX1_copyFrom 32 = .ok (.getfield 18, 3) := by decide +kernel
theorem dX1_copyFrom_35 : decode cX1_copyFrom 35 = .ok (.putfield 18, 3) := by decide +kernel
theorem dX1_copyFrom_38 : decode cX1_copyFrom 38 = .ok (.return_, 1) := by decide +kernel
theorem dX1_hasOn_0 : decode cX1_hasOn 0 = .ok (.aload_n 0, 1) := by decide +kernel
theorem dX1_hasOn_1 : decode cX1_hasOn 1 = .ok (.getfield 18, 3) := by decide +kernel
theorem dX1_hasOn_4 : decode cX1_hasOn 4 = .ok (.iload_n 1, 1) := by decide +kernel
theorem dX1_hasOn_5 : decode cX1_hasOn 5 = .ok (.invokestatic 28, 3) := by decide +kernel
theorem dX1_hasOn_8 : decode cX1_hasOn 8 = .ok (.ireturn, 1) := by decide +kernel
theorem dX1_apply_0 : decode cX1_apply 0 = .ok (.iload_n 1, 1) := by decide +kernel
theorem dX1_apply_1 : decode cX1_apply 1 = .ok (.sipush 200, 3) := by decide +kernel
theorem dX1_apply_4 : decode cX1_apply 4 = .ok (.if_icmp .lt 24, 3) := by decide +kernel
theorem dX1_apply_7 : decode cX1_apply 7 = .ok (.aload_n 0, 1) := by decide +kernel
theorem dX1_apply_8 : decode cX1_apply 8 = .ok (.iload_n 1, 1) := by decide +kernel
theorem dX1_apply_9 : decode cX1_apply 9 = .ok (.sipush 200, 3) := by decide +kernel
theorem dX1_apply_12 : decode cX1_apply 12 = .ok (.isub, 1) := by decide +kernel
theorem dX1_apply_13 : decode cX1_apply 13 = .ok (.iconst 4, 1) := by decide +kernel
theorem dX1_apply_14 : decode cX1_apply 14 = .ok (.idiv, 1) := by decide +kernel
theorem dX1_apply_15 : decode cX1_apply 15 = .ok (.iload_n 1, 1) := by decide +kernel
theorem dX1_apply_16 : decode cX1_apply 16 = .ok (.sipush 200, 3) := by decide +kernel
theorem dX1_apply_19 : decode cX1_apply 19 = .ok (.isub, 1) := by decide +kernel
theorem dX1_apply_20 : decode cX1_apply 20 = .ok (.iconst 4, 1) := by decide +kernel
theorem dX1_apply_21 : decode cX1_apply 21 = .ok (.irem, 1) := by decide +kernel
theorem dX1_apply_22 : decode cX1_apply 22 = .ok (.invokevirtual 32, 3) := by decide +kernel
theorem dX1_apply_25 : decode cX1_apply 25 = .ok (.goto 37, 3) := by decide +kernel
theorem dX1_apply_28 : decode cX1_apply 28 = .ok (.iload_n 1, 1) := by decide +kernel
theorem dX1_apply_29 : decode cX1_apply 29 = .ok (.bipush 100, 2) := by decide +kernel
theorem dX1_apply_31 : decode cX1_apply 31 = .ok (.if_icmp .lt 21, 3) := by decide +kernel
theorem dX1_apply_34 : decode cX1_apply 34 = .ok (.aload_n 0, 1) := by decide +kernel
theorem dX1_apply_35 : decode cX1_apply 35 = .ok (.dup, 1) := by decide +kernel
theorem dX1_apply_36 : decode cX1_apply 36 = .ok (.getfield 18, 3) := by decide +kernel
theorem dX1_apply_39 : decode cX1_apply 39 = .ok (.iconst 1, 1) := by decide +kernel
theorem dX1_apply_40 : decode cX1_apply 40 = .ok (.iload_n 1, 1) := by decide +kernel
theorem dX1_apply_41 : decode cX1_apply 41 = .ok (.bipush 100, 2) := by decide +kernel
theorem dX1_apply_43 : decode cX1_apply 43 = .ok (.isub, 1) := by decide +kernel
theorem dX1_apply_44 : decode cX1_apply 44 = .ok (.ishl, 1) := by decide +kernel
theorem dX1_apply_45 : decode cX1_apply 45 = .ok (.ixor, 1) := by decide +kernel
theorem dX1_apply_46 : decode cX1_apply 46 = .ok (.putfield 18, 3) := by decide +kernel
theorem dX1_apply_49 : decode cX1_apply 49 = .ok (.goto 13, 3) := by decide +kernel
theorem dX1_apply_52 : decode cX1_apply 52 = .ok (.aload_n 0, 1) := by decide +kernel
theorem dX1_apply_53 : decode cX1_apply 53 = .ok (.iload_n 1, 1) := by decide +kernel
theorem dX1_apply_54 : decode cX1_apply 54 = .ok (.iconst 4, 1) := by decide +kernel
theorem dX1_apply_55 : decode cX1_apply 55 = .ok (.idiv, 1) := by decide +kernel
theorem dX1_apply_56 : decode cX1_apply 56 = .ok (.iload_n 1, 1) := by decide +kernel
theorem dX1_apply_57 : decode cX1_apply 57 = .ok (.iconst 4, 1) := by decide +kernel
theorem dX1_apply_58 : decode cX1_apply 58 = .ok (.irem, 1) := by decide +kernel
theorem dX1_apply_59 : decode cX1_apply 59 = .ok (.invokevirtual 36, 3) := by decide +kernel
theorem dX1_apply_62 : decode cX1_apply 62 = .ok (.return_, 1) := by decide +kernel
theorem dX1_putTag_0 : decode cX1_putTag 0 = .ok (.iload_n 1, 1) := by decide +kernel
theorem dX1_putTag_1 : decode cX1_putTag 1 = .ok (.bipush 9, 2) := by decide +kernel
theorem dX1_putTag_3 : decode cX1_putTag 3 = .ok (.invokestatic 39, 3) := by decide +kernel
theorem dX1_putTag_6 : decode cX1_putTag 6 = .ok (.ifCond .eq 10, 3) := by decide +kernel
theorem dX1_putTag_9 : decode cX1_putTag 9 = .ok (.aload_n 0, 1) := by decide +kernel
theorem dX1_putTag_10 : decode cX1_putTag 10 = .ok (.getfield 9, 3) := by decide +kernel
theorem dX1_putTag_13 : decode cX1_putTag 13 = .ok (.iload_n 1, 1) := by decide +kernel
theorem dX1_putTag_14 : decode cX1_putTag 14 = .ok (.iload_n 2, 1) := by decide +kernel
theorem dX1_putTag_15 : decode cX1_putTag 15 = .ok (.iastore, 1) := by decide +kernel
theorem dX1_putTag_16 : decode cX1_putTag 16 = .ok (.return_, 1) := by decide +kernel
theorem dX1_flipClass_0 : decode cX1_flipClass 0 = .ok (.iload_n 1, 1) := by decide +kernel
theorem dX1_flipClass_1 : decode cX1_flipClass 1 = .ok (.bipush 9, 2) := by decide +kernel
theorem dX1_flipClass_3 : decode cX1_flipClass 3 = .ok (.invokestatic 39, 3) := by decide +kernel
theorem dX1_flipClass_6 : decode cX1_flipClass 6 = .ok (.ifCond .eq 15, 3) := by decide +kernel
theorem dX1_flipClass_9 : decode cX1_flipClass 9 = .ok (.aload_n 0, 1) := by decide +kernel
theorem dX1_flipClass_10 : decode cX1_flipClass 10 = .ok (.getfield 15, 3) := by decide +kernel
theorem dX1_flipClass_13 : decode cX1_flipClass 13 = .ok (.iload_n 1, 1) := by decide +kernel
theorem dX1_flipClass_14 : decode cX1_flipClass 14 = .ok (.dup2, 1) := by decide +kernel
theorem dX1_flipClass_15 : decode cX1_flipClass 15 = .ok (.iaload, 1) := by decide +kernel
theorem dX1_flipClass_16 : decode cX1_flipClass 16 = .ok (.iconst 1, 1) := by decide +kernel
theorem dX1_flipClass_17 : decode cX1_flipClass 17 = .ok (.iload_n 2, 1) := by decide +kernel
theorem dX1_flipClass_18 : decode cX1_flipClass 18 = .ok (.ishl, 1) := by decide +kernel
theorem dX1_flipClass_19 : decode cX1_flipClass 19 = .ok (.ixor, 1) := by decide +kernel
theorem dX1_flipClass_20 : decode cX1_flipClass 20 = .ok (.iastore, 1) := by decide +kernel
theorem dX1_flipClass_21 : decode cX1_flipClass 21 = .ok (.return_, 1) := by decide +kernel
theorem dX2_init_0 : decode cX2_init 0 = .ok (.aload_n 0, 1) := by decide +kernel
theorem dX2_init_1 : decode cX2_init 1 = .ok (.invokespecial 3, 3) := by decide +kernel
theorem dX2_init_4 : decode cX2_init 4 = .ok (.aload_n 0, 1) := by decide +kernel
theorem dX2_init_5 : decode cX2_init 5 = .ok (.iconst 0, 1) := by decide +kernel
theorem dX2_init_6 : decode cX2_init 6 = .ok (.newarray .char, 2) := by decide +kernel
theorem dX2_init_8 : decode cX2_init 8 = .ok (.putfield 9, 3) := by decide +kernel
theorem dX2_init_11 : decode cX2_init 11 = .ok (.aload_n 0, 1) := by decide +kernel
theorem dX2_init_12 : decode cX2_init 12 = .ok (.iconst 0, 1) := by decide +kernel
theorem dX2_init_13 : decode cX2_init 13 = .ok (.putfield 15, 3) := by decide +kernel
theorem dX2_init_16 : decode cX2_init 16 = .ok (.aload_n 0, 1) := by decide +kernel
theorem dX2_init_17 : decode cX2_init 17 = .ok (.iconst 0, 1) := by decide +kernel
theorem dX2_init_18 : decode cX2_init 18 = .ok (.putfield 19, 3) := by decide +kernel
theorem dX2_init_21 : decode cX2_init 21 = .ok (.aload_n 0, 1) := by decide +kernel
theorem dX2_init_22 : decode cX2_init 22 = .ok (.iconst 0, 1) := by decide +kernel
theorem dX2_init_23 : decode cX2_init 23 = .ok (.putfield 22, 3) := by decide +kernel
theorem dX2_init_26 : decode cX2_init 26 = .ok (.aload_n 0, 1) := by decide +kernel
theorem dX2_init_27 : decode cX2_init 27 = .ok (.iconst (-1), 1) := by decide +kernel
theorem dX2_init_28 : decode cX2_init 28 = .ok (.putfield 25, 3) := by decide +kernel
theorem dX2_init_31 : decode cX2_init 31 = .ok (.aload_n 0, 1) := by decide +kernel
theorem dX2_init_32 : decode cX2_init 32 = .ok (.new 28, 3) := by decide +kernel
theorem dX2_init_35 : decode cX2_init 35 = .ok (.dup, 1) := by decide +kernel
theorem dX2_init_36 : decode cX2_init 36 = .ok (.invokespecial 30, 3) := by decide +kernel
theorem dX2_init_39 : decode cX2_init 39 = .ok (.putfield 31, 3) := by decide +kernel
theorem dX2_init_42 : decode cX2_init 42 = .ok (.return_, 1) := by decide +kernel
theorem dX2_readAll_0 : decode cX2_readAll 0 = .ok (.aload_n 0, 1) := by decide +kernel
theorem dX2_readAll_1 : decode cX2_readAll 1 = .ok (.aload_n 1, 1) := by decide +kernel
theorem dX2_readAll_2 : decode cX2_readAll 2 = .ok (.putfield 9, 3) := by decide +kernel
theorem dX2_readAll_5 : decode cX2_readAll 5 = .ok (.aload_n 0, 1) := by decide +kernel
theorem dX2_readAll_6 : decode cX2_readAll 6 = .ok (.iload_n 2, 1) := by decide +kernel
theorem dX2_readAll_7 : decode cX2_readAll 7 = .ok (.aload_n 1, 1) := by decide +kernel
theorem dX2_readAll_8 : decode cX2_readAll 8 = .ok (.arraylength, 1) := by decide +kernel
theorem dX2_readAll_9 : decode cX2_readAll 9 = .ok (.invokestatic 35, 3) := by decide +kernel
theorem dX2_readAll_12 : decode cX2_readAll 12 = .ok (.putfield 15, 3) := by decide +kernel
theorem dX2_readAll_15 : decode cX2_readAll 15 = .ok (.aload_n 0, 1) := by decide +kernel
theorem dX2_readAll_16 : decode cX2_readAll 16 = .ok (.iconst 0, 1) := by decide +kernel
theorem dX2_readAll_17 : decode cX2_readAll 17 = .ok (.putfield 19, 3) := by decide +kernel
theorem dX2_readAll_20 : decode cX2_readAll 20 = .ok (.aload_n 0, 1) := by decide +kernel
theorem dX2_readAll_21 : decode cX2_readAll 21 = .ok (.getfield 31, 3) := by decide +kernel
theorem dX2_readAll_24 : decode cX2_readAll 24 = .ok (.invokevirtual 41, 3) := by decide +kernel
theorem dX2_readAll_27 : decode cX2_readAll 27 = .ok (.aload_n 0, 1) := by decide +kernel
theorem dX2_readAll_28 : decode cX2_readAll 28 = .ok (.invokevirtual 44, 3) := by decide +kernel
theorem dX2_readAll_31 : decode cX2_readAll 31 = .ok (.iconst 0, 1) := by decide +kernel
theorem dX2_readAll_32 : decode cX2_readAll 32 = .ok (.istore_n 3, 1) := by decide +kernel
theorem dX2_readAll_33 : decode cX2_readAll 33 = .ok (.iload_n 3, 1) := by decide +kernel
theorem dX2_readAll_34 : decode cX2_readAll 34 = .ok (.aload_n 0, 1) := by decide +kernel
theorem dX2_readAll_35 : decode cX2_readAll 35 = .ok (.getfield 15, 3) := by decide +kernel
theorem dX2_readAll_38 : decode cX2_readAll 38 = .ok (.if_icmp .gt 49, 3) := by decide +kernel
theorem dX2_readAll_41 : decode cX2_readAll 41 = .ok (.aload_n 0, 1) := by decide +kernel
theorem dX2_readAll_42 : decode cX2_readAll 42 = .ok (.getfield 25, 3) := by decide +kernel
theorem dX2_readAll_45 : decode cX2_readAll 45 = .ok (.iconst (-1), 1) := by decide +kernel
theorem dX2_readAll_46 : decode cX2_readAll 46 = .ok (.if_icmp .ne 5, 3) := by decide +kernel
theorem dX2_readAll_49 : decode cX2_readAll 49 = .ok (.iload_n 3, 1) := by decide +kernel
theorem dX2_readAll_50 : decode cX2_readAll 50 = .ok (.ireturn, 1) := by decide +kernel
theorem dX2_readAll_51 : decode cX2_readAll 51 = .ok (.aload_n 0, 1) := by decide +kernel
theorem dX2_readAll_52 : decode cX2_readAll 52 = .ok (.getfield 25, 3) := by decide +kernel
theorem dX2_readAll_55 : decode cX2_readAll 55 = .ok (.bipush 78, 2) := by decide +kernel
theorem dX2_readAll_57 : decode cX2_readAll 57 = .ok (.if_icmp .ne 10, 3) := by decide +kernel
theorem dX2_readAll_60 : decode cX2_readAll 60 = .ok (.aload_n 0, 1) := by decide +kernel
theorem dX2_readAll_61 : decode cX2_readAll 61 = .ok (.invokevirtual 47, 3) := by decide +kernel
theorem dX2_readAll_64 : decode cX2_readAll 64 = .ok (.goto 7, 3) := by decide +kernel
theorem dX2_readAll_67 : decode cX2_readAll 67 = .ok (.aload_n 0, 1) := by decide +kernel
theorem dX2_readAll_68 : decode cX2_readAll 68 = .ok (.invokevirtual 51, 3) := by decide +kernel
theorem dX2_readAll_71 : decode cX2_readAll 71 = .ok (.istore 4, 2) := by decide +kernel
theorem dX2_readAll_73 : decode cX2_readAll 73 = .ok (.iload 4, 2) := by decide +kernel
theorem dX2_readAll_75 : decode cX2_readAll 75 = .ok (.ifCond .ne 6, 3) := by decide +kernel
theorem dX2_readAll_78 : decode cX2_readAll 78 = .ok (.bipush (-9), 2) := by decide +kernel
theorem dX2_readAll_80 : decode cX2_readAll 80 = .ok (.ireturn, 1) := by decide +kernel
theorem dX2_readAll_81 : decode cX2_readAll 81 = .ok (.iinc 3 1, 3) := by decide +kernel
theorem dX2_readAll_84 : decode cX2_readAll 84 = .ok (.goto (-51), 3) := by decide +kernel
theorem dX2_readAll_87 : decode cX2_readAll 87 = .ok (.bipush (-9), 2) := by decide +kernel
theorem dX2_readAll_89 : decode cX2_readAll 89 = .ok (.ireturn, 1) := by decide +kernel
theorem dX2_exchange_0 : decode cX2_exchange 0 = .ok (.aload_n 0, 1) := by decide +kernel
theorem dX2_exchange_1 : decode cX2_exchange 1 = .ok (.getfield 31, 3) := by decide +kernel
theorem dX2_exchange_4 : decode cX2_exchange 4 = .ok (.astore_n 2, 1) := by decide +kernel
theorem dX2_exchange_5 : decode cX2_exchange 5 = .ok (.aload_n 0, 1) := by decide +kernel
theorem dX2_exchange_6 : decode cX2_exchange 6 = .ok (.aload_n 1, 1) := by decide +kernel
theorem dX2_exchange_7 : decode cX2_exchange 7 = .ok (.putfield 31, 3) := by decide +kernel
theorem dX2_exchange_10 : decode cX2_exchange 10 = .ok (.aload_n 2, 1) := by decide +kernel
theorem dX2_exchange_11 : decode cX2_exchange 11 = .ok (.areturn, 1) := by decide +kernel
theorem dX2_fault_0 : decode cX2_fault 0 = .ok (.aload_n 0, 1) := by decide +kernel
theorem dX2_fault_1 : decode cX2_fault 1 = .ok (.getfield 22, 3) := by decide +kernel
theorem dX2_fault_4 : decode cX2_fault 4 = .ok (.ireturn, 1) := by decide +kernel
theorem dX2_advance_0 : decode cX2_advance 0 = .ok (.aload_n 0, 1) := by decide +kernel
theorem dX2_advance_1 : decode cX2_advance 1 = .ok (.getfield 19, 3) := by decide +kernel
theorem dX2_advance_4 : decode cX2_advance 4 = .ok (.aload_n 0, 1) := by decide +kernel
theorem dX2_advance_5 : decode cX2_advance 5 = .ok (.getfield 15, 3) := by decide +kernel
theorem dX2_advance_8 : decode cX2_advance 8 = .ok (.if_icmp .ge 30, 3) := by decide +kernel
theorem dX2_advance_11 : decode cX2_advance 11 = .ok (.aload_n 0, 1) := by decide +kernel
theorem dX2_advance_12 : decode cX2_advance 12 = .ok (.getfield 9, 3) := by decide +kernel
theorem dX2_advance_15 : decode cX2_advance 15 = .ok (.aload_n 0, 1) := by decide +kernel
theorem dX2_advance_16 : decode cX2_advance 16 = .ok (.getfield 19, 3) := by decide +kernel
theorem dX2_advance_19 : decode cX2_advance 19 = .ok (.caload, 1) := by decide +kernel
theorem dX2_advance_20 : decode cX2_advance 20 = .ok (.bipush 32, 2) := by decide +kernel
theorem dX2_advance_22 : decode cX2_advance 22 = .ok (.if_icmp .ne 16, 3) := by decide +kernel
theorem dX2_advance_25 : decode cX2_advance 25 = .ok (.aload_n 0, 1) := by decide +kernel
theorem dX2_advance_26 : decode cX2_advance 26 = .ok (.dup, 1) := by decide +kernel
theorem dX2_advance_27 : decode cX2_advance 27 = .ok (.getfield 19, 3) := by decide +kernel
theorem dX2_advance_30 : decode cX2_advance 30 = .ok (.iconst 1, 1) := by decide +kernel
theorem dX2_advance_31 : decode cX2_advance 31 = .ok (.iadd, 1) := by decide +kernel
theorem dX2_advance_32 : decode cX2_advance 32 = .ok (.putfield 19, 3) := by decide +kernel
theorem dX2_advance_35 : decode cX2_advance 35 = .ok (.goto (-35), 3) := by decide +kernel
theorem dX2_advance_38 : decode cX2_advance 38 = .ok (.aload_n 0, 1) := by decide +kernel
theorem dX2_advance_39 : decode cX2_advance 39 = .ok (.aload_n 0, 1) := by decide +kernel
theorem dX2_advance_40 : decode cX2_advance 40 = .ok (.getfield 19, 3) := by decide +kernel
theorem dX2_advance_43 : decode cX2_advance 43 = .ok (.putfield 22, 3) := by decide +kernel
theorem dX2_advance_46 : decode cX2_advance 46 = .ok (.aload_n 0, 1) := by decide +kernel
theorem dX2_advance_47 : decode cX2_advance 47 = .ok (.getfield 19, 3) := by decide +kernel
theorem dX2_advance_50 : decode cX2_advance 50 = .ok (.aload_n 0, 1) := by decide +kernel
theorem dX2_advance_51 : decode cX2_advance 51 = .ok (.getfield 15, 3) := by decide +kernel
theorem dX2_advance_54 : decode cX2_advance 54 = .ok (.if_icmp .lt 9, 3) := by decide +kernel
theorem dX2_advance_57 : decode cX2_advance 57 = .ok (.aload_n 0, 1) := by decide +kernel
theorem dX2_advance_58 : decode cX2_advance 58 = .ok (.iconst (-1), 1) := by decide +kernel
theorem dX2_advance_59 : decode cX2_advance 59 = .ok (.putfield 25, 3) := by decide +kernel
theorem dX2_advance_62 : decode cX2_advance 62 = .ok (.return_, 1) := by decide +kernel
theorem dX2_advance_63 : decode cX2_advance 63 = .ok (.aload_n 0, 1) := by decide +kernel
theorem dX2_advance_64 : decode cX2_advance 64 = .ok (.aload_n 0, 1) := by decide +kernel
theorem dX2_advance_65 : decode cX2_advance 65 = .ok (.getfield 9, 3) := by decide +kernel
theorem dX2_advance_68 : decode cX2_advance 68 = .ok (.aload_n 0, 1) := by decide +kernel
theorem dX2_advance_69 : decode cX2_advance 69 = .ok (.getfield 19, 3) := by decide +kernel
theorem dX2_advance_72 : decode cX2_advance 72 = .ok (.caload, 1) := by decide +kernel
theorem dX2_advance_73 : decode cX2_advance 73 = .ok (.putfield 25, 3) := by decide +kernel
theorem dX2_advance_76 : decode cX2_advance 76 = .ok (.aload_n 0, 1) := by decide +kernel
theorem dX2_advance_77 : decode cX2_advance 77 = .ok (.dup, 1) := by decide +kernel
theorem dX2_advance_78 : decode cX2_advance 78 = .ok (.getfield 19, 3) := by decide +kernel
theorem dX2_advance_81 : decode cX2_advance 81 = .ok (.iconst 1, 1) := by decide +kernel
theorem dX2_advance_82 : decode cX2_advance 82 = .ok (.iadd, 1) := by decide +kernel
theorem dX2_advance_83 : decode cX2_advance 83 = .ok (.putfield 19, 3) := by decide +kernel
theorem dX2_advance_86 : decode cX2_advance 86 = .ok (.aload_n 0, 1) := by decide +kernel
theorem dX2_advance_87 : decode cX2_advance 87 = .ok (.getfield 19, 3) := by decide +kernel
theorem dX2_advance_90 : decode cX2_advance 90 = .ok (.aload_n 0, 1) := by decide +kernel
theorem dX2_advance_91 : decode cX2_advance 91 = .ok (.getfield 15, 3) := by decide +kernel
theorem dX2_advance_94 : decode cX2_advance 94 = .ok (.if_icmp .ge 44, 3) := by decide +kernel
theorem dX2_advance_97 : decode cX2_advance 97 = .ok (.aload_n 0, 1) := by decide +kernel
theorem dX2_advance_98 : decode cX2_advance 98 = .ok (.aload_n 0, 1) := by decide +kernel
theorem dX2_advance_99 : decode cX2_advance 99 = .ok (.getfield 22, 3) := by decide +kernel
theorem dX2_advance_102 : decode cX2_advance 102 = .ok (.invokevirtual 54, 3) := by decide +kernel
theorem dX2_advance_105 : decode cX2_advance 105 = .ok (.ifCond .eq 33, 3) := by decide +kernel
theorem dX2_advance_108 : decode cX2_advance 108 = .ok (.aload_n 0, 1) := by decide +kernel
theorem dX2_advance_109 : decode cX2_advance 109 = .ok (.aload_n 0, 1) := by decide +kernel
theorem dX2_advance_110 : decode cX2_advance 110 = .ok (.getfield 19, 3) := by decide +kernel
theorem dX2_advance_113 : decode cX2_advance 113 = .ok (.invokevirtual 54, 3) := by decide +kernel
theorem dX2_advance_116 : decode cX2_advance 116 = .ok (.ifCond .eq 22, 3) := by decide +kernel
theorem dX2_advance_119 : decode cX2_advance 119 = .ok (.aload_n 0, 1) := by decide +kernel
theorem dX2_advance_120 : decode cX2_advance 120 = .ok (.bipush (-2), 2) := by decide +kernel
theorem dX2_advance_122 : decode cX2_advance 122 = .ok (.putfield 25, 3) := by decide +kernel
theorem dX2_advance_125 : decode cX2_advance 125 = .ok (.aload_n 0, 1) := by decide +kernel
theorem dX2_advance_126 : decode cX2_advance 126 = .ok (.dup, 1) := by decide +kernel
theorem dX2_advance_127 : decode cX2_advance 127 = .ok (.getfield 19, 3) := by decide +kernel
theorem dX2_advance_130 : decode cX2_advance 130 = .ok (.iconst 1, 1) := by decide +kernel
theorem dX2_advance_131 : decode cX2_advance 131 = .ok (.iadd, 1) := by decide +kernel
theorem dX2_advance_132 : decode cX2_advance 132 = .ok (.putfield 19, 3) := by decide +kernel
theorem dX2_advance_135 : decode cX2_advance 135 = .ok (.goto (-49), 3) := by decide +kernel
theorem dX2_advance_138 : decode cX2_advance 138 = .ok (.return_, 1) := by decide +kernel
theorem dX2_isDigitAt_0 : decode cX2_isDigitAt 0 = .ok (.iload_n 1, 1) := by decide +kernel
theorem dX2_isDigitAt_1 : decode cX2_isDigitAt 1 = .ok (.aload_n 0, 1) := by decide +kernel
theorem dX2_isDigitAt_2 : decode cX2_isDigitAt 2 = .ok (.getfield 15, 3) := by decide +kernel
theorem dX2_isDigitAt_5 : decode cX2_isDigitAt 5 = .ok (.if_icmp .ge 29, 3) := by decide +kernel
theorem dX2_isDigitAt_8 : decode cX2_isDigitAt 8 = .ok (.aload_n 0, 1) := by decide +kernel
theorem dX2_isDigitAt_9 : decode cX2_isDigitAt 9 = .ok (.getfield 9, 3) := by decide +kernel
theorem dX2_isDigitAt_12 : decode cX2_isDigitAt 12 = .ok (.iload_n 1, 1) := by decide +kernel
theorem dX2_isDigitAt_13 : decode cX2_isDigitAt 13 = .ok (.caload, 1) := by decide +kernel
theorem dX2_isDigitAt_14 : decode cX2_isDigitAt 14 = .ok (.bipush 48, 2) := by decide +kernel
theorem dX2_isDigitAt_16 : decode cX2_isDigitAt 16 = .ok (.if_icmp .lt 18, 3) := by decide +kernel
theorem dX2_isDigitAt_19 : decode cX2_isDigitAt 19 = .ok (.aload_n 0, 1) := by decide +kernel
theorem dX2_isDigitAt_20 : decode cX2_isDigitAt 20 = .ok (.getfield 9, 3) := by decide +kernel
theorem dX2_isDigitAt_23 : decode cX2_isDigitAt 23 = .ok (.iload_n 1, 1) := by decide +kernel
theorem dX2_isDigitAt_24 : decode cX2_isDigitAt 24 = .ok (.caload, 1) := by decide +kernel
theorem dX2_isDigitAt_25 : decode cX2_isDigitAt 25 = .ok (.bipush 57, 2) := by decide +kernel
theorem dX2_isDigitAt_27 : decode cX2_isDigitAt 27 = .ok (.if_icmp .gt 7, 3) := by decide +kernel
theorem dX2_isDigitAt_30 : decode cX2_isDigitAt 30 = .ok (.iconst 1, 1) := by decide +kernel
theorem dX2_isDigitAt_31 : decode cX2_isDigitAt 31 = .ok (.goto 4, 3) := by decide +kernel
theorem dX2_isDigitAt_34 : decode cX2_isDigitAt 34 = .ok (.iconst 0, 1) := by decide +kernel
theorem dX2_isDigitAt_35 : decode cX2_isDigitAt 35 = .ok (.ireturn, 1) := by decide +kernel
theorem dX2_isDigit_0 : decode cX2_isDigit 0 = .ok (.aload_n 0, 1) := by decide +kernel
theorem dX2_isDigit_1 : decode cX2_isDigit 1 = .ok (.getfield 25, 3) := by decide +kernel
theorem dX2_isDigit_4 : decode cX2_isDigit 4 = .ok (.bipush 48, 2) := by decide +kernel
theorem dX2_isDigit_6 : decode cX2_isDigit 6 = .ok (.if_icmp .lt 16, 3) := by decide +kernel
theorem dX2_isDigit_9 : decode cX2_isDigit 9 = .ok (.aload_n 0, 1) := by decide +kernel
theorem dX2_isDigit_10 : decode cX2_isDigit 10 = .ok (.getfield 25, 3) := by decide +kernel
theorem dX2_isDigit_13 : decode cX2_isDigit 13 = .ok (.bipush 57, 2) := by decide +kernel
theorem dX2_isDigit_15 : decode cX2_isDigit 15 = .ok (.if_icmp .gt 7, 3) := by decide +kernel
theorem dX2_isDigit_18 : decode cX2_isDigit 18 = .ok (.iconst 1, 1) := by decide +kernel
theorem dX2_isDigit_19 : decode cX2_isDigit 19 = .ok (.goto 4, 3) := by decide +kernel
theorem dX2_isDigit_22 : decode cX2_isDigit 22 = .ok (.iconst 0, 1) := by decide +kernel
theorem dX2_isDigit_23 : decode cX2_isDigit 23 = .ok (.ireturn, 1) := by decide +kernel
theorem dX2_isTag_0 : decode cX2_isTag 0 = .ok (.aload_n 0, 1) := by decide +kernel
theorem dX2_isTag_1 : decode cX2_isTag 1 = .ok (.getfield 25, 3) := by decide +kernel
theorem dX2_isTag_4 : decode cX2_isTag 4 = .ok (.bipush 97, 2) := by decide +kernel
theorem dX2_isTag_6 : decode cX2_isTag 6 = .ok (.if_icmp .lt 16, 3) := by decide +kernel
theorem dX2_isTag_9 : decode cX2_isTag 9 = .ok (.aload_n 0, 1) := by decide +kernel
theorem dX2_isTag_10 : decode cX2_isTag 10 = .ok (.getfield 25, 3) := by decide +kernel
theorem dX2_isTag_13 : decode cX2_isTag 13 = .ok (.bipush 100, 2) := by decide +kernel
theorem dX2_isTag_15 : decode cX2_isTag 15 = .ok (.if_icmp .gt 7, 3) := by decide +kernel
theorem dX2_isTag_18 : decode cX2_isTag 18 = .ok (.iconst 1, 1) := by decide +kernel
theorem dX2_isTag_19 : decode cX2_isTag 19 = .ok (.goto 4, 3) := by decide +kernel
theorem dX2_isTag_22 : decode cX2_isTag 22 = .ok (.iconst 0, 1) := by decide +kernel
theorem dX2_isTag_23 : decode cX2_isTag 23 = .ok (.ireturn, 1) := by decide +kernel
theorem dX2_isClass_0 : decode cX2_isClass 0 = .ok (.aload_n 0, 1) := by decide +kernel
theorem dX2_isClass_1 : decode cX2_isClass 1 = .ok (.getfield 25, 3) := by decide +kernel
theorem dX2_isClass_4 : decode cX2_isClass 4 = .ok (.bipush 112, 2) := by decide +kernel
theorem dX2_isClass_6 : decode cX2_isClass 6 = .ok (.if_icmp .lt 16, 3) := by decide +kernel
theorem dX2_isClass_9 : decode cX2_isClass 9 = .ok (.aload_n 0, 1) := by decide +kernel
theorem dX2_isClass_10 : decode cX2_isClass 10 = .ok (.getfield 25, 3) := by decide +kernel
theorem dX2_isClass_13 : decode cX2_isClass 13 = .ok (.bipush 115, 2) := by decide +kernel
theorem dX2_isClass_15 : decode cX2_isClass 15 = .ok (.if_icmp .gt 7, 3) := by decide +kernel
theorem dX2_isClass_18 : decode cX2_isClass 18 = .ok (.iconst 1, 1) := by decide +kernel
theorem dX2_isClass_19 : decode cX2_isClass 19 = .ok (.goto 4, 3) := by decide +kernel
theorem dX2_isClass_22 : decode cX2_isClass 22 = .ok (.iconst 0, 1) := by decide +kernel
theorem dX2_isClass_23 : decode cX2_isClass 23 = .ok (.ireturn, 1) := by decide +kernel
theorem dX2_isProperty_0 : decode cX2_isProperty 0 = .ok (.aload_n 0, 1) := by decide +kernel
theorem dX2_isProperty_1 : decode cX2_isProperty 1 = .ok (.getfield 25, 3) := by decide +kernel
theorem dX2_isProperty_4 : decode cX2_isProperty 4 = .ok (.bipush 119, 2) := by decide +kernel
theorem dX2_isProperty_6 : decode cX2_isProperty 6 = .ok (.if_icmp .lt 16, 3) := by decide +kernel
theorem dX2_isProperty_9 : decode cX2_isProperty 9 = .ok (.aload_n 0, 1) := by decide +kernel
theorem dX2_isProperty_10 : decode cX2_isProperty 10 = .ok (.getfield 25, 3) := by decide +kernel
theorem dX2_isProperty_13 : decode cX2_isProperty 13 = .ok (.bipush 122, 2) := by decide +kernel
theorem dX2_isProperty_15 : decode cX2_isProperty 15 = .ok (.if_icmp .gt 7, 3) := by decide +kernel
theorem dX2_isProperty_18 : decode cX2_isProperty 18 = .ok (.iconst 1, 1) := by decide +kernel
theorem dX2_isProperty_19 : decode cX2_isProperty 19 = .ok (.goto 4, 3) := by decide +kernel
theorem dX2_isProperty_22 : decode cX2_isProperty 22 = .ok (.iconst 0, 1) := by decide +kernel
theorem dX2_isProperty_23 : decode cX2_isProperty 23 = .ok (.ireturn, 1) := by decide +kernel
theorem dX2_isJoint_0 : decode cX2_isJoint 0 = .ok (.aload_n 0, 1) := by decide +kernel
theorem dX2_isJoint_1 : decode cX2_isJoint 1 = .ok (.getfield 25, 3) := by decide +kernel
theorem dX2_isJoint_4 : decode cX2_isJoint 4 = .ok (.bipush 62, 2) := by decide +kernel
theorem dX2_isJoint_6 : decode cX2_isJoint 6 = .ok (.if_icmp .eq 12, 3) := by decide +kernel
theorem dX2_isJoint_9 : decode cX2_isJoint 9 = .ok (.aload_n 0, 1) := by decide +kernel
theorem dX2_isJoint_10 : decode cX2_isJoint 10 = .ok (.getfield 25, 3) := by decide +kernel
theorem dX2_isJoint_13 : decode cX2_isJoint 13 = .ok (.bipush 47, 2) := by decide +kernel
theorem dX2_isJoint_15 : decode cX2_isJoint 15 = .ok (.if_icmp .ne 7, 3) := by decide +kernel
theorem dX2_isJoint_18 : decode cX2_isJoint 18 = .ok (.iconst 1, 1) := by decide +kernel
theorem dX2_isJoint_19 : decode cX2_isJoint 19 = .ok (.goto 4, 3) := by decide +kernel
theorem dX2_isJoint_22 : decode cX2_isJoint 22 = .ok (.iconst 0, 1) := by decide +kernel
theorem dX2_isJoint_23 : decode cX2_isJoint 23 = .ok (.ireturn, 1) := by decide +kernel
theorem dX2_take_0 : decode cX2_take 0 = .ok (.aload_n 0, 1) := by decide +kernel
theorem dX2_take_1 : decode cX2_take 1 = .ok (.getfield 25, 3) := by decide +kernel
theorem dX2_take_4 : decode cX2_take 4 = .ok (.iload_n 1, 1) := by decide +kernel
theorem dX2_take_5 : decode cX2_take 5 = .ok (.if_icmp .eq 5, 3) := by decide +kernel
theorem dX2_take_8 : decode cX2_take 8 = .ok (.iconst 0, 1) := by decide +kernel
theorem dX2_take_9 : decode cX2_take 9 = .ok (.ireturn, 1) := by decide +kernel
theorem dX2_take_10 : decode cX2_take 10 = .ok (.aload_n 0, 1) := by decide +kernel
theorem dX2_take_11 : decode cX2_take 11 = .ok (.invokevirtual 44, 3) := by decide +kernel
theorem dX2_take_14 : decode cX2_take 14 = .ok (.iconst 1, 1) := by decide +kernel
theorem dX2_take_15 : decode cX2_take 15 = .ok (.ireturn, 1) := by decide +kernel
theorem dX2_readNode_0 : decode cX2_readNode 0 = .ok (.aload_n 0, 1) := by decide +kernel
theorem dX2_readNode_1 : decode cX2_readNode 1 = .ok (.getfield 25, 3) := by decide +kernel
theorem dX2_readNode_4 : decode cX2_readNode 4 = .ok (.bipush 78, 2) := by decide +kernel
theorem dX2_readNode_6 : decode cX2_readNode 6 = .ok (.if_icmp .ne 15, 3) := by decide +kernel
theorem dX2_readNode_9 : decode cX2_readNode 9 = .ok (.aload_n 0, 1) := by decide +kernel
theorem dX2_readNode_10 : decode cX2_readNode 10 = .ok (.getfield 31, 3) := by decide +kernel
theorem dX2_readNode_13 : decode cX2_readNode 13 = .ok (.getfield 58, 3) := by decide +kernel
theorem dX2_readNode_16 : decode cX2_readNode 16 = .ok (.bipush 9, 2) := by decide +kernel
theorem dX2_readNode_18 : decode cX2_readNode 18 = .ok (.if_icmp .lt 5, 3) := by decide +kernel
theorem dX2_readNode_21 : decode cX2_readNode 21 = .ok (.iconst 0, 1) := by decide +kernel
theorem dX2_readNode_22 : decode cX2_readNode 22 = .ok (.ireturn, 1) := by decide +kernel
theorem dX2_readNode_23 : decode cX2_readNode 23 = .ok (.aload_n 0, 1) := by decide +kernel
theorem dX2_readNode_24 : decode cX2_readNode 24 = .ok (.invokevirtual 44, 3) := by decide +kernel
theorem dX2_readNode_27 : decode cX2_readNode 27 = .ok (.bipush (-9), 2) := by decide +kernel
theorem dX2_readNode_29 : decode cX2_readNode 29 = .ok (.istore_n 1, 1) := by decide +kernel
theorem dX2_readNode_30 : decode cX2_readNode 30 = .ok (.aload_n 0, 1) := by decide +kernel
theorem dX2_readNode_31 : decode cX2_readNode 31 = .ok (.getfield 31, 3) := by decide +kernel
theorem dX2_readNode_34 : decode cX2_readNode 34 = .ok (.getfield 58, 3) := by decide +kernel
theorem dX2_readNode_37 : decode cX2_readNode 37 = .ok (.ifCond .le 35, 3) := by decide +kernel
theorem dX2_readNode_40 : decode cX2_readNode 40 = .ok (.aload_n 0, 1) := by decide +kernel
theorem dX2_readNode_41 : decode cX2_readNode 41 = .ok (.getfield 25, 3) := by decide +kernel
theorem dX2_readNode_44 : decode cX2_readNode 44 = .ok (.bipush 48, 2) := by decide +kernel
theorem dX2_readNode_46 : decode cX2_readNode 46 = .ok (.isub, 1) := by decide +kernel
theorem dX2_readNode_47 : decode cX2_readNode 47 = .ok (.istore_n 1, 1) := by decide +kernel
theorem dX2_readNode_48 : decode cX2_readNode 48 = .ok (.aload_n 0, 1) := by decide +kernel
theorem dX2_readNode_49 : decode cX2_readNode 49 = .ok (.invokevirtual 61, 3) := by decide +kernel
theorem dX2_readNode_52 : decode cX2_readNode 52 = .ok (.ifCond .eq 14, 3) := by decide +kernel
theorem dX2_readNode_55 : decode cX2_readNode 55 = .ok (.iload_n 1, 1) := by decide +kernel
theorem dX2_readNode_56 : decode cX2_readNode 56 = .ok (.aload_n 0, 1) := by decide +kernel
theorem dX2_readNode_57 : decode cX2_readNode 57 = .ok (.getfield 31, 3) := by decide +kernel
theorem dX2_readNode_60 : decode cX2_readNode 60 = .ok (.getfield 58, 3) := by decide +kernel
theorem dX2_readNode_63 : decode cX2_readNode 63 = .ok (.if_icmp .lt 5, 3) := by decide +kernel
theorem dX2_readNode_66 : decode cX2_readNode 66 = .ok (.iconst 0, 1) := by decide +kernel
theorem dX2_readNode_67 : decode cX2_readNode 67 = .ok (.ireturn, 1) := by decide +kernel
theorem dX2_readNode_68 : decode cX2_readNode 68 = .ok (.aload_n 0, 1) := by decide +kernel
theorem dX2_readNode_69 : decode cX2_readNode 69 = .ok (.invokevirtual 44, 3) := by decide +kernel
theorem dX2_readNode_72 : decode cX2_readNode 72 = .ok (.aload_n 0, 1) := by decide +kernel
theorem dX2_readNode_73 : decode cX2_readNode 73 = .ok (.invokevirtual 64, 3) := by decide +kernel
theorem dX2_readNode_76 : decode cX2_readNode 76 = .ok (.ifCond .ne 5, 3) := by decide +kernel
theorem dX2_readNode_79 : decode cX2_readNode 79 = .ok (.iconst 0, 1) := by decide +kernel
theorem dX2_readNode_80 : decode cX2_readNode 80 = .ok (.ireturn, 1) := by decide +kernel
theorem dX2_readNode_81 : decode cX2_readNode 81 = .ok (.aload_n 0, 1) := by decide +kernel
theorem dX2_readNode_82 : decode cX2_readNode 82 = .ok (.getfield 25, 3) := by decide +kernel
theorem dX2_readNode_85 : decode cX2_readNode 85 = .ok (.bipush 97, 2) := by decide +kernel
theorem dX2_readNode_87 : decode cX2_readNode 87 = .ok (.isub, 1) := by decide +kernel
theorem dX2_readNode_88 : decode cX2_readNode 88 = .ok (.istore_n 2, 1) := by decide +kernel
theorem dX2_readNode_89 : decode cX2_readNode 89 = .ok (.aload_n 0, 1) := by decide +kernel
theorem dX2_readNode_90 : decode cX2_readNode 90 = .ok (.invokevirtual 44, 3) := by decide +kernel
theorem dX2_readNode_93 : decode cX2_readNode 93 = .ok (.iconst 0, 1) := by decide +kernel
theorem dX2_readNode_94 : decode cX2_readNode 94 = .ok (.istore_n 3, 1) := by decide +kernel
theorem dX2_readNode_95 : decode cX2_readNode 95 = .ok (.iconst 0, 1) := by decide +kernel
theorem dX2_readNode_96 : decode cX2_readNode 96 = .ok (.istore 4, 2) := by decide +kernel
theorem dX2_readNode_98 : decode cX2_readNode 98 = .ok (.iload 4, 2) := by decide +kernel
theorem dX2_readNode_100 : decode cX2_readNode 100 = .ok (.iconst 4, 1) := by decide +kernel
theorem dX2_readNode_101 : decode cX2_readNode 101 = .ok (.if_icmp .ge 45, 3) := by decide +kernel
theorem dX2_readNode_104 : decode cX2_readNode 104 = .ok (.aload_n 0, 1) := by decide +kernel
theorem dX2_readNode_105 : decode cX2_readNode 105 = .ok (.invokevirtual 67, 3) := by decide +kernel
theorem dX2_readNode_108 : decode cX2_readNode 108 = .ok (.ifCond .eq 38, 3) := by decide +kernel
theorem dX2_readNode_111 : decode cX2_readNode 111 = .ok (.iconst 1, 1) := by decide +kernel
theorem dX2_readNode_112 : decode cX2_readNode 112 = .ok (.aload_n 0, 1) := by decide +kernel
theorem dX2_readNode_113 : decode cX2_readNode 113 = .ok (.getfield 25, 3) := by decide +kernel
theorem dX2_readNode_116 : decode cX2_readNode 116 = .ok (.bipush 112, 2) := by decide +kernel
theorem dX2_readNode_118 : decode cX2_readNode 118 = .ok (.isub, 1) := by decide +kernel
theorem dX2_readNode_119 : decode cX2_readNode 119 = .ok (.ishl, 1) := by decide +kernel
theorem dX2_readNode_120 : decode cX2_readNode 120 = .ok (.istore 5, 2) := by decide +kernel
theorem dX2_readNode_122 : decode cX2_readNode 122 = .ok (.iload_n 3, 1) := by decide +kernel
theorem dX2_readNode_123 : decode cX2_readNode 123 = .ok (.iload 5, 2) := by decide +kernel
theorem dX2_readNode_125 : decode cX2_readNode 125 = .ok (.iand, 1) := by decide +kernel
theorem dX2_readNode_126 : decode cX2_readNode 126 = .ok (.ifCond .eq 5, 3) := by decide +kernel
theorem dX2_readNode_129 : decode cX2_readNode 129 = .ok (.iconst 0, 1) := by decide +kernel
theorem dX2_readNode_130 : decode cX2_readNode 130 = .ok (.ireturn, 1) := by decide +kernel
theorem dX2_readNode_131 : decode cX2_readNode 131 = .ok (.iload_n 3, 1) := by decide +kernel
theorem dX2_readNode_132 : decode cX2_readNode 132 = .ok (.iload 5, 2) := by decide +kernel
theorem dX2_readNode_134 : decode cX2_readNode 134 = .ok (.ior, 1) := by decide +kernel
theorem dX2_readNode_135 : decode cX2_readNode 135 = .ok (.istore_n 3, 1) := by decide +kernel
theorem dX2_readNode_136 : decode cX2_readNode 136 = .ok (.aload_n 0, 1) := by decide +kernel
theorem dX2_readNode_137 : decode cX2_readNode 137 = .ok (.invokevirtual 44, 3) := by decide +kernel
theorem dX2_readNode_140 : decode cX2_readNode 140 = .ok (.iinc 4 1, 3) := by decide +kernel
theorem dX2_readNode_143 : decode cX2_readNode 143 = .ok (.goto (-45), 3) := by decide +kernel
theorem dX2_readNode_146 : decode cX2_readNode 146 = .ok (.aload_n 0, 1) := by decide +kernel
theorem dX2_readNode_147 : decode cX2_readNode 147 = .ok (.bipush 59, 2) := by decide +kernel
theorem dX2_readNode_149 : decode cX2_readNode 149 = .ok (.invokevirtual 70, 3) := by decide +kernel
theorem dX2_readNode_152 : decode cX2_readNode 152 = .ok (.ifCond .ne 5, 3) := by decide +kernel
theorem dX2_readNode_155 : decode cX2_readNode 155 = .ok (.iconst 0, 1) := by decide +kernel
theorem dX2_readNode_156 : decode cX2_readNode 156 = .ok (.ireturn, 1) := by decide +kernel
theorem dX2_readNode_157 : decode cX2_readNode 157 = .ok (.aload_n 0, 1) := by decide +kernel
theorem dX2_readNode_158 : decode cX2_readNode 158 = .ok (.getfield 31, 3) := by decide +kernel
theorem dX2_readNode_161 : decode cX2_readNode 161 = .ok (.iload_n 1, 1) := by decide +kernel
theorem dX2_readNode_162 : decode cX2_readNode 162 = .ok (.iload_n 2, 1) := by decide +kernel
theorem dX2_readNode_163 : decode cX2_readNode 163 = .ok (.iload_n 3, 1) := by decide +kernel
theorem dX2_readNode_164 : decode cX2_readNode 164 = .ok (.invokevirtual 73, 3) := by decide +kernel
theorem dX2_readNode_167 : decode cX2_readNode 167 = .ok (.iconst 1, 1) := by decide +kernel
theorem dX2_readNode_168 : decode cX2_readNode 168 = .ok (.ireturn, 1) := by decide +kernel
theorem dX2_readRule_0 : decode cX2_readRule 0 = .ok (.aload_n 0, 1) := by decide +kernel
theorem dX2_readRule_1 : decode cX2_readRule 1 = .ok (.getfield 25, 3) := by decide +kernel
theorem dX2_readRule_4 : decode cX2_readRule 4 = .ok (.bipush 82, 2) := by decide +kernel
theorem dX2_readRule_6 : decode cX2_readRule 6 = .ok (.if_icmp .ne 18, 3) := by decide +kernel
theorem dX2_readRule_9 : decode cX2_readRule 9 = .ok (.aload_n 0, 1) := by decide +kernel
theorem dX2_readRule_10 : decode cX2_readRule 10 = .ok (.getfield 31, 3) := by decide +kernel
theorem dX2_readRule_13 : decode cX2_readRule 13 = .ok (.getfield 77, 3) := by decide +kernel
theorem dX2_readRule_16 : decode cX2_readRule 16 = .ok (.bipush 8, 2) := by decide +kernel
theorem dX2_readRule_18 : decode cX2_readRule 18 = .ok (.invokestatic 80, 3) := by decide +kernel
theorem dX2_readRule_21 : decode cX2_readRule 21 = .ok (.ifCond .ne 5, 3) := by decide +kernel
theorem dX2_readRule_24 : decode cX2_readRule 24 = .ok (.iconst 0, 1) := by decide +kernel
theorem dX2_readRule_25 : decode cX2_readRule 25 = .ok (.ireturn, 1) := by decide +kernel
theorem dX2_readRule_26 : decode cX2_readRule 26 = .ok (.aload_n 0, 1) := by decide +kernel
theorem dX2_readRule_27 : decode cX2_readRule 27 = .ok (.getfield 31, 3) := by decide +kernel
theorem dX2_readRule_30 : decode cX2_readRule 30 = .ok (.getfield 84, 3) := by decide +kernel
theorem dX2_readRule_33 : decode cX2_readRule 33 = .ok (.aload_n 0, 1) := by decide +kernel
theorem dX2_readRule_34 : decode cX2_readRule 34 = .ok (.getfield 31, 3) := by decide +kernel
theorem dX2_readRule_37 : decode cX2_readRule 37 = .ok (.getfield 77, 3) := by decide +kernel
theorem dX2_readRule_40 : decode cX2_readRule 40 = .ok (.aaload, 1) := by decide +kernel
theorem dX2_readRule_41 : decode cX2_readRule 41 = .ok (.astore_n 1, 1) := by decide +kernel
theorem dX2_readRule_42 : decode cX2_readRule 42 = .ok (.aload_n 0, 1) := by decide +kernel
theorem dX2_readRule_43 : decode cX2_readRule 43 = .ok (.invokevirtual 44, 3) := by decide +kernel
theorem dX2_readRule_46 : decode cX2_readRule 46 = .ok (.aload_n 1, 1) := by decide +kernel
theorem dX2_readRule_47 : decode cX2_readRule 47 = .ok (.aload_n 0, 1) := by decide +kernel
theorem dX2_readRule_48 : decode cX2_readRule 48 = .ok (.bipush 85, 2) := by decide +kernel
theorem dX2_readRule_50 : decode cX2_readRule 50 = .ok (.invokevirtual 70, 3) := by decide +kernel
theorem dX2_readRule_53 : decode cX2_readRule 53 = .ok (.invokevirtual 88, 3) := by decide +kernel
theorem dX2_readRule_56 : decode cX2_readRule 56 = .ok (.aload_n 0, 1) := by decide +kernel
theorem dX2_readRule_57 : decode cX2_readRule 57 = .ok (.aload_n 1, 1) := by decide +kernel
theorem dX2_readRule_58 : decode cX2_readRule 58 = .ok (.invokevirtual 94, 3) := by decide +kernel
theorem dX2_readRule_61 : decode cX2_readRule 61 = .ok (.ifCond .eq 29, 3) := by decide +kernel
theorem dX2_readRule_64 : decode cX2_readRule 64 = .ok (.aload_n 0, 1) := by decide +kernel
theorem dX2_readRule_65 : decode cX2_readRule 65 = .ok (.bipush 58, 2) := by decide +kernel
theorem dX2_readRule_67 : decode cX2_readRule 67 = .ok (.invokevirtual 70, 3) := by decide +kernel
theorem dX2_readRule_70 : decode cX2_readRule 70 = .ok (.ifCond .eq 20, 3) := by decide +kernel
theorem dX2_readRule_73 : decode cX2_readRule 73 = .ok (.aload_n 0, 1) := by decide +kernel
theorem dX2_readRule_74 : decode cX2_readRule 74 = .ok (.aload_n 1, 1) := by decide +kernel
theorem dX2_readRule_75 : decode cX2_readRule 75 = .ok (.invokevirtual 98, 3) := by decide +kernel
theorem dX2_readRule_78 : decode cX2_readRule 78 = .ok (.ifCond .eq 12, 3) := by decide +kernel
theorem dX2_readRule_81 : decode cX2_readRule 81 = .ok (.aload_n 0, 1) := by decide +kernel
theorem dX2_readRule_82 : decode cX2_readRule 82 = .ok (.bipush 59, 2) := by decide +kernel
theorem dX2_readRule_84 : decode cX2_readRule 84 = .ok (.invokevirtual 70, 3) := by decide +kernel
theorem dX2_readRule_87 : decode cX2_readRule 87 = .ok (.ifCond .ne 5, 3) := by decide +kernel
theorem dX2_readRule_90 : decode cX2_readRule 90 = .ok (.iconst 0, 1) := by decide +kernel
theorem dX2_readRule_91 : decode cX2_readRule 91 = .ok (.ireturn, 1) := by decide +kernel
theorem dX2_readRule_92 : decode cX2_readRule 92 = .ok (.aload_n 0, 1) := by decide +kernel
theorem dX2_readRule_93 : decode cX2_readRule 93 = .ok (.getfield 31, 3) := by decide +kernel
theorem dX2_readRule_96 : decode cX2_readRule 96 = .ok (.invokevirtual 101, 3) := by decide +kernel
theorem dX2_readRule_99 : decode cX2_readRule 99 = .ok (.iconst 1, 1) := by decide +kernel
theorem dX2_readRule_100 : decode cX2_readRule 100 = .ok (.ireturn, 1) := by decide +kernel
theorem dX2_readSelector_0 : decode cX2_readSelector 0 = .ok (.aload_n 0, 1) := by decide +kernel
theorem dX2_readSelector_1 : decode cX2_readSelector 1 = .ok (.aload_n 1, 1) := by decide +kernel
theorem dX2_readSelector_2 : decode cX2_readSelector 2 = .ok (.iconst 0, 1) := by decide +kernel
theorem dX2_readSelector_3 : decode cX2_readSelector 3 = .ok (.invokevirtual 104, 3) := by decide +kernel
theorem dX2_readSelector_6 : decode cX2_readSelector 6 = .ok (.ifCond .ne 5, 3) := by decide +kernel
theorem dX2_readSelector_9 : decode cX2_readSelector 9 = .ok (.iconst 0, 1) := by decide +kernel
theorem dX2_readSelector_10 : decode cX2_readSelector 10 = .ok (.ireturn, 1) := by decide +kernel
theorem dX2_readSelector_11 : decode cX2_readSelector 11 = .ok (.iconst 1, 1) := by decide +kernel
theorem dX2_readSelector_12 : decode cX2_readSelector 12 = .ok (.istore_n 2, 1) := by decide +kernel
theorem dX2_readSelector_13 : decode cX2_readSelector 13 = .ok (.iload_n 2, 1) := by decide +kernel
theorem dX2_readSelector_14 : decode cX2_readSelector 14 = .ok (.iconst 3, 1) := by decide +kernel
theorem dX2_readSelector_15 : decode cX2_readSelector 15 = .ok (.if_icmp .ge 46, 3) := by decide +kernel
theorem dX2_readSelector_18 : decode cX2_readSelector 18 = .ok (.aload_n 0, 1) := by decide +kernel
theorem dX2_readSelector_19 : decode cX2_readSelector 19 = .ok (.invokevirtual 108, 3) := by decide +kernel
theorem dX2_readSelector_22 : decode cX2_readSelector 22 = .ok (.ifCond .eq 39, 3) := by decide +kernel
theorem dX2_readSelector_25 : decode cX2_readSelector 25 = .ok (.aload_n 0, 1) := by decide +kernel
theorem dX2_readSelector_26 : decode cX2_readSelector 26 = .ok (.getfield 25, 3) := by decide +kernel
theorem dX2_readSelector_29 : decode cX2_readSelector 29 = .ok (.bipush 62, 2) := by decide +kernel
theorem dX2_readSelector_31 : decode cX2_readSelector 31 = .ok (.if_icmp .ne 7, 3) := by decide +kernel
theorem dX2_readSelector_34 : decode cX2_readSelector 34 = .ok (.iconst 1, 1) := by decide +kernel
theorem dX2_readSelector_35 : decode cX2_readSelector 35 = .ok (.goto 4, 3) := by decide +kernel
theorem dX2_readSelector_38 : decode cX2_readSelector 38 = .ok (.iconst 0, 1) := by decide +kernel
theorem dX2_readSelector_39 : decode cX2_readSelector 39 = .ok (.istore_n 3, 1) := by decide +kernel
theorem dX2_readSelector_40 : decode cX2_readSelector 40 = .ok (.aload_n 0, 1) := by decide +kernel
theorem dX2_readSelector_41 : decode cX2_readSelector 41 = .ok (.invokevirtual 44, 3) := by decide +kernel
theorem dX2_readSelector_44 : decode cX2_readSelector 44 = .ok (.aload_n 0, 1) := by decide +kernel
theorem dX2_readSelector_45 : decode cX2_readSelector 45 = .ok (.aload_n 1, 1) := by decide +kernel
theorem dX2_readSelector_46 : decode cX2_readSelector 46 = .ok (.iload_n 3, 1) := by decide +kernel
theorem dX2_readSelector_47 : decode cX2_readSelector 47 = .ok (.invokevirtual 104, 3) := by decide +kernel
theorem dX2_readSelector_50 : decode cX2_readSelector 50 = .ok (.ifCond .ne 5, 3) := by decide +kernel
theorem dX2_readSelector_53 : decode cX2_readSelector 53 = .ok (.iconst 0, 1) := by decide +kernel
theorem dX2_readSelector_54 : decode cX2_readSelector 54 = .ok (.ireturn, 1) := by decide +kernel
theorem dX2_readSelector_55 : decode cX2_readSelector 55 = .ok (.iinc 2 1, 3) := by decide +kernel
theorem dX2_readSelector_58 : decode cX2_readSelector 58 = .ok (.goto (-45), 3) := by decide +kernel
theorem dX2_readSelector_61 : decode cX2_readSelector 61 = .ok (.iconst 1, 1) := by decide +kernel
theorem dX2_readSelector_62 : decode cX2_readSelector 62 = .ok (.ireturn, 1) := by decide +kernel
theorem dX2_readCompound_0 : decode cX2_readCompound 0 = .ok (.bipush (-9), 2) := by decide +kernel
theorem dX2_readCompound_2 : decode cX2_readCompound 2 = .ok (.istore_n 3, 1) := by decide +kernel
theorem dX2_readCompound_3 : decode cX2_readCompound 3 = .ok (.aload_n 0, 1) := by decide +kernel
theorem dX2_readCompound_4 : decode cX2_readCompound 4 = .ok (.invokevirtual 64, 3) := by decide +kernel
theorem dX2_readCompound_7 : decode cX2_readCompound 7 = .ok (.ifCond .eq 18, 3) := by decide +kernel
theorem dX2_readCompound_10 : decode cX2_readCompound 10 = .ok (.aload_n 0, 1) := by decide +kernel
theorem dX2_readCompound_11 : decode cX2_readCompound 11 = .ok (.getfield 25, 3) := by decide +kernel
theorem dX2_readCompound_14 : decode cX2_readCompound 14 = .ok (.bipush 97, 2) := by decide +kernel
theorem dX2_readCompound_16 : decode cX2_readCompound 16 = .ok (.isub, 1) := by decide +kernel
theorem dX2_readCompound_17 : decode cX2_readCompound 17 = .ok (.istore_n 3, 1) := by decide +kernel
theorem dX2_readCompound_18 : decode cX2_readCompound 18 = .ok (.aload_n 0, 1) := by decide +kernel
theorem dX2_readCompound_19 : decode cX2_readCompound 19 = .ok (.invokevirtual 44, 3) := by decide +kernel
theorem dX2_readCompound_22 : decode cX2_readCompound 22 = .ok (.goto 14, 3) := by decide +kernel
theorem dX2_readCompound_25 : decode cX2_readCompound 25 = .ok (.aload_n 0, 1) := by decide +kernel
theorem dX2_readCompound_26 : decode cX2_readCompound 26 = .ok (.getfield 25, 3) := by decide +kernel
theorem dX2_readCompound_29 : decode cX2_readCompound 29 = .ok (.bipush 46, 2) := by decide +kernel
theorem dX2_readCompound_31 : decode cX2_readCompound 31 = .ok (.if_icmp .eq 5, 3) := by decide +kernel
theorem dX2_readCompound_34 : decode cX2_readCompound 34 = .ok (.iconst 0, 1) := by decide +kernel
theorem dX2_readCompound_35 : decode cX2_readCompound 35 = .ok (.ireturn, 1) := by decide +kernel
theorem dX2_readCompound_36 : decode cX2_readCompound 36 = .ok (.iconst 0, 1) := by decide +kernel
theorem dX2_readCompound_37 : decode cX2_readCompound 37 = .ok (.istore 4, 2) := by decide +kernel
theorem dX2_readCompound_39 : decode cX2_readCompound 39 = .ok (.iconst 0, 1) := by decide +kernel
theorem dX2_readCompound_40 : decode cX2_readCompound 40 = .ok (.istore 5, 2) := by decide +kernel
theorem dX2_readCompound_42 : decode cX2_readCompound 42 = .ok (.iload 5, 2) := by decide +kernel
theorem dX2_readCompound_44 : decode cX2_readCompound 44 = .ok (.iconst 4, 1) := by decide +kernel
theorem dX2_readCompound_45 : decode cX2_readCompound 45 = .ok (.if_icmp .gt 70, 3) := by decide +kernel
theorem dX2_readCompound_48 : decode cX2_readCompound 48 = .ok (.aload_n 0, 1) := by decide +kernel
theorem dX2_readCompound_49 : decode cX2_readCompound 49 = .ok (.getfield 25, 3) := by decide +kernel
theorem dX2_readCompound_52 : decode cX2_readCompound 52 = .ok (.bipush 46, 2) := by decide +kernel
theorem dX2_readCompound_54 : decode cX2_readCompound 54 = .ok (.if_icmp .ne 61, 3) := by decide +kernel
theorem dX2_readCompound_57 : decode cX2_readCompound 57 = .ok (.aload_n 0, 1) := by decide +kernel
theorem dX2_readCompound_58 : decode cX2_readCompound 58 = .ok (.invokevirtual 44, 3) := by decide +kernel
theorem dX2_readCompound_61 : decode cX2_readCompound 61 = .ok (.aload_n 0, 1) := by decide +kernel
theorem dX2_readCompound_62 : decode cX2_readCompound 62 = .ok (.invokevirtual 67, 3) := by decide +kernel
theorem dX2_readCompound_65 : decode cX2_readCompound 65 = .ok (.ifCond .eq 15, 3) := by decide +kernel
theorem dX2_readCompound_68 : decode cX2_readCompound 68 = .ok (.iconst 1, 1) := by decide +kernel
theorem dX2_readCompound_69 : decode cX2_readCompound 69 = .ok (.aload_n 0, 1) := by decide +kernel
theorem dX2_readCompound_70 : decode cX2_readCompound 70 = .ok (.getfield 25, 3) := by decide +kernel
theorem dX2_readCompound_73 : decode cX2_readCompound 73 = .ok (.bipush 112, 2) := by decide +kernel
theorem dX2_readCompound_75 : decode cX2_readCompound 75 = .ok (.isub, 1) := by decide +kernel
theorem dX2_readCompound_76 : decode cX2_readCompound 76 = .ok (.ishl, 1) := by decide +kernel
theorem dX2_readCompound_77 : decode cX2_readCompound 77 = .ok (.goto 4, 3) := by decide +kernel
theorem dX2_readCompound_80 : decode cX2_readCompound 80 = .ok (.iconst 0, 1) := by decide +kernel
theorem dX2_readCompound_81 : decode cX2_readCompound 81 = .ok (.istore 6, 2) := by decide +kernel
theorem dX2_readCompound_83 : decode cX2_readCompound 83 = .ok (.iload 6, 2) := by decide +kernel
theorem dX2_readCompound_85 : decode cX2_readCompound 85 = .ok (.ifCond .eq 11, 3) := by decide +kernel
theorem dX2_readCompound_88 : decode cX2_readCompound 88 = .ok (.iload 4, 2) := by decide +kernel
theorem dX2_readCompound_90 : decode cX2_readCompound 90 = .ok (.iload 6, 2) := by decide +kernel
theorem dX2_readCompound_92 : decode cX2_readCompound 92 = .ok (.iand, 1) := by decide +kernel
theorem dX2_readCompound_93 : decode cX2_readCompound 93 = .ok (.ifCond .eq 5, 3) := by decide +kernel
theorem dX2_readCompound_96 : decode cX2_readCompound 96 = .ok (.iconst 0, 1) := by decide +kernel
theorem dX2_readCompound_97 : decode cX2_readCompound 97 = .ok (.ireturn, 1) := by decide +kernel
theorem dX2_readCompound_98 : decode cX2_readCompound 98 = .ok (.iload 4, 2) := by decide +kernel
theorem dX2_readCompound_100 : decode cX2_readCompound 100 = .ok (.iload 6, 2) := by decide +kernel
theorem dX2_readCompound_102 : decode cX2_readCompound 102 = .ok (.ior, 1) := by decide +kernel
theorem dX2_readCompound_103 : decode cX2_readCompound 103 = .ok (.istore 4, 2) := by decide +kernel
theorem dX2_readCompound_105 : decode cX2_readCompound 105 = .ok (.aload_n 0, 1) := by decide +kernel
theorem dX2_readCompound_106 : decode cX2_readCompound 106 = .ok (.invokevirtual 44, 3) := by decide +kernel
theorem dX2_readCompound_109 : decode cX2_readCompound 109 = .ok (.iinc 5 1, 3) := by decide +kernel
theorem dX2_readCompound_112 : decode cX2_readCompound 112 = .ok (.goto (-70), 3) := by decide +kernel
theorem dX2_readCompound_115 : decode cX2_readCompound 115 = .ok (.aload_n 1, 1) := by decide +kernel
theorem dX2_readCompound_116 : decode cX2_readCompound 116 = .ok (.iload_n 3, 1) := by decide +kernel
theorem dX2_readCompound_117 : decode cX2_readCompound 117 = .ok (.iload 4, 2) := by decide +kernel
theorem dX2_readCompound_119 : decode cX2_readCompound 119 = .ok (.iload_n 2, 1) := by decide +kernel
theorem dX2_readCompound_120 : decode cX2_readCompound 120 = .ok (.invokevirtual 111, 3) := by decide +kernel
theorem dX2_readCompound_123 : decode cX2_readCompound 123 = .ok (.iconst 1, 1) := by decide +kernel
theorem dX2_readCompound_124 : decode cX2_readCompound 124 = .ok (.ireturn, 1) := by decide +kernel
theorem dX2_readDeclarations_0 : decode cX2_readDeclarations 0 = .ok (.aload_n 0, 1) := by decide +kernel
theorem dX2_readDeclarations_1 : decode cX2_readDeclarations 1 = .ok (.aload_n 1, 1) := by decide +kernel
theorem dX2_readDeclarations_2 : decode cX2_readDeclarations 2 = .ok (.invokevirtual 115, 3) := by decide +kernel
theorem dX2_readDeclarations_5 : decode cX2_readDeclarations 5 = .ok (.ifCond .ne 5, 3) := by decide +kernel
theorem dX2_readDeclarations_8 : decode cX2_readDeclarations 8 = .ok (.iconst 0, 1) := by decide +kernel
theorem dX2_readDeclarations_9 : decode cX2_readDeclarations 9 = .ok (.ireturn, 1) := by decide +kernel
theorem dX2_readDeclarations_10 : decode cX2_readDeclarations 10 = .ok (.iconst 1, 1) := by decide +kernel
theorem dX2_readDeclarations_11 : decode cX2_readDeclarations 11 = .ok (.istore_n 2, 1) := by decide +kernel
theorem dX2_readDeclarations_12 : decode cX2_readDeclarations 12 = .ok (.iload_n 2, 1) := by decide +kernel
theorem dX2_readDeclarations_13 : decode cX2_readDeclarations 13 = .ok (.iconst 4, 1) := by decide +kernel
theorem dX2_readDeclarations_14 : decode cX2_readDeclarations 14 = .ok (.if_icmp .ge 26, 3) := by decide +kernel
theorem dX2_readDeclarations_17 : decode cX2_readDeclarations 17 = .ok (.aload_n 0, 1) := by decide +kernel
theorem dX2_readDeclarations_18 : decode cX2_readDeclarations 18 = .ok (.invokevirtual 118, 3) := by decide +kernel
theorem dX2_readDeclarations_21 : decode cX2_readDeclarations 21 = .ok (.ifCond .eq 19, 3) := by decide +kernel
theorem dX2_readDeclarations_24 : decode cX2_readDeclarations 24 = .ok (.aload_n 0, 1) := by decide +kernel
theorem dX2_readDeclarations_25 : decode cX2_readDeclarations 25 = .ok (.aload_n 1, 1) := by decide +kernel
theorem dX2_readDeclarations_26 : decode cX2_readDeclarations 26 = .ok (.invokevirtual 115, 3) := by decide +kernel
theorem dX2_readDeclarations_29 : decode cX2_readDeclarations 29 = .ok (.ifCond .ne 5, 3) := by decide +kernel
theorem dX2_readDeclarations_32 : decode cX2_readDeclarations 32 = .ok (.iconst 0, 1) := by decide +kernel
theorem dX2_readDeclarations_33 : decode cX2_readDeclarations 33 = .ok (.ireturn, 1) := by decide +kernel
theorem dX2_readDeclarations_34 : decode cX2_readDeclarations 34 = .ok (.iinc 2 1, 3) := by decide +kernel
theorem dX2_readDeclarations_37 : decode cX2_readDeclarations 37 = .ok (.goto (-25), 3) := by decide +kernel
theorem dX2_readDeclarations_40 : decode cX2_readDeclarations 40 = .ok (.iconst 1, 1) := by decide +kernel
theorem dX2_readDeclarations_41 : decode cX2_readDeclarations 41 = .ok (.ireturn, 1) := by decide +kernel
theorem dX2_readDeclaration_0 : decode cX2_readDeclaration 0 = .ok (.aload_n 0, 1) := by decide +kernel
theorem dX2_readDeclaration_1 : decode cX2_readDeclaration 1 = .ok (.getfield 25, 3) := by decide +kernel
theorem dX2_readDeclaration_4 : decode cX2_readDeclaration 4 = .ok (.bipush 119, 2) := by decide +kernel
theorem dX2_readDeclaration_6 : decode cX2_readDeclaration 6 = .ok (.isub, 1) := by decide +kernel
theorem dX2_readDeclaration_7 : decode cX2_readDeclaration 7 = .ok (.istore_n 2, 1) := by decide +kernel
theorem dX2_readDeclaration_8 : decode cX2_readDeclaration 8 = .ok (.aload_n 0, 1) := by decide +kernel
theorem dX2_readDeclaration_9 : decode cX2_readDeclaration 9 = .ok (.invokevirtual 118, 3) := by decide +kernel
theorem dX2_readDeclaration_12 : decode cX2_readDeclaration 12 = .ok (.ifCond .eq 14, 3) := by decide +kernel
theorem dX2_readDeclaration_15 : decode cX2_readDeclaration 15 = .ok (.aload_n 1, 1) := by decide +kernel
theorem dX2_readDeclaration_16 : decode cX2_readDeclaration 16 = .ok (.getfield 121, 3) := by decide +kernel
theorem dX2_readDeclaration_19 : decode cX2_readDeclaration 19 = .ok (.iload_n 2, 1) := by decide +kernel
theorem dX2_readDeclaration_20 : decode cX2_readDeclaration 20 = .ok (.invokestatic 124, 3) := by decide +kernel
theorem dX2_readDeclaration_23 : decode cX2_readDeclaration 23 = .ok (.ifCond .eq 5, 3) := by decide +kernel
theorem dX2_readDeclaration_26 : decode cX2_readDeclaration 26 = .ok (.iconst 0, 1) := by decide +kernel
theorem dX2_readDeclaration_27 : decode cX2_readDeclaration 27 = .ok (.ireturn, 1) := by decide +kernel
theorem dX2_readDeclaration_28 : decode cX2_readDeclaration 28 = .ok (.aload_n 0, 1) := by decide +kernel
theorem dX2_readDeclaration_29 : decode cX2_readDeclaration 29 = .ok (.invokevirtual 44, 3) := by decide +kernel
theorem dX2_readDeclaration_32 : decode cX2_readDeclaration 32 = .ok (.aload_n 0, 1) := by decide +kernel
theorem dX2_readDeclaration_33 : decode cX2_readDeclaration 33 = .ok (.invokevirtual 61, 3) := by decide +kernel
theorem dX2_readDeclaration_36 : decode cX2_readDeclaration 36 = .ok (.ifCond .ne 5, 3) := by decide +kernel
theorem dX2_readDeclaration_39 : decode cX2_readDeclaration 39 = .ok (.iconst 0, 1) := by decide +kernel
theorem dX2_readDeclaration_40 : decode cX2_readDeclaration 40 = .ok (.ireturn, 1) := by decide +kernel
theorem dX2_readDeclaration_41 : decode cX2_readDeclaration 41 = .ok (.aload_n 0, 1) := by decide +kernel
theorem dX2_readDeclaration_42 : decode cX2_readDeclaration 42 = .ok (.getfield 25, 3) := by decide +kernel
theorem dX2_readDeclaration_45 : decode cX2_readDeclaration 45 = .ok (.bipush 48, 2) := by decide +kernel
theorem dX2_readDeclaration_47 : decode cX2_readDeclaration 47 = .ok (.isub, 1) := by decide +kernel
theorem dX2_readDeclaration_48 : decode cX2_readDeclaration 48 = .ok (.istore_n 3, 1) := by decide +kernel
theorem dX2_readDeclaration_49 : decode cX2_readDeclaration 49 = .ok (.aload_n 0, 1) := by decide +kernel
theorem dX2_readDeclaration_50 : decode cX2_readDeclaration 50 = .ok (.invokevirtual 44, 3) := by decide +kernel
theorem dX2_readDeclaration_53 : decode cX2_readDeclaration 53 = .ok (.aload_n 1, 1) := by decide +kernel
theorem dX2_readDeclaration_54 : decode cX2_readDeclaration 54 = .ok (.iload_n 2, 1) := by decide +kernel
theorem dX2_readDeclaration_55 : decode cX2_readDeclaration 55 = .ok (.iload_n 3, 1) := by decide +kernel
theorem dX2_readDeclaration_56 : decode cX2_readDeclaration 56 = .ok (.aload_n 0, 1) := by decide +kernel
theorem dX2_readDeclaration_57 : decode cX2_readDeclaration 57 = .ok (.bipush 33, 2) := by decide +kernel
theorem dX2_readDeclaration_59 : decode cX2_readDeclaration 59 = .ok (.invokevirtual 70, 3) := by decide +kernel
theorem dX2_readDeclaration_62 : decode cX2_readDeclaration 62 = .ok (.invokevirtual 127, 3) := by decide +kernel
theorem dX2_readDeclaration_65 : decode cX2_readDeclaration 65 = .ok (.iconst 1, 1) := by decide +kernel
theorem dX2_readDeclaration_66 : decode cX2_readDeclaration 66 = .ok (.ireturn, 1) := by decide +kernel
theorem dX3_init_0 : decode cX3_init 0 = .ok (.aload_n 0, 1) := by decide +kernel
theorem dX3_init_1 : decode cX3_init 1 = .ok (.invokespecial 3, 3) := by decide +kernel
theorem dX3_init_4 : decode cX3_init 4 = .ok (.aload_n 0, 1) := by decide +kernel
theorem dX3_init_5 : decode cX3_init 5 = .ok (.iconst 3, 1) := by decide +kernel
theorem dX3_init_6 : decode cX3_init 6 = .ok (.newarray .int, 2) := by decide +kernel
theorem dX3_init_8 : decode cX3_init 8 = .ok (.putfield 9, 3) := by decide +kernel
theorem dX3_init_11 : decode cX3_init 11 = .ok (.aload_n 0, 1) := by decide +kernel
theorem dX3_init_12 : decode cX3_init 12 = .ok (.iconst 3, 1) := by decide +kernel
theorem dX3_init_13 : decode cX3_init 13 = .ok (.newarray .int, 2) := by decide +kernel
theorem dX3_init_15 : decode cX3_init 15 = .ok (.putfield 15, 3) := by decide +kernel
theorem dX3_init_18 : decode cX3_init 18 = .ok (.aload_n 0, 1) := by decide +kernel
theorem dX3_init_19 : decode cX3_init 19 = .ok (.iconst 3, 1) := by decide +kernel
theorem dX3_init_20 : decode cX3_init 20 = .ok (.newarray .boolean, 2) := by decide +kernel
theorem dX3_init_22 : decode cX3_init 22 = .ok (.putfield 18, 3) := by decide +kernel
theorem dX3_init_25 : decode cX3_init 25 = .ok (.aload_n 0, 1) := by decide +kernel
theorem dX3_init_26 : decode cX3_init 26 = .ok (.iconst 4, 1) := by decide +kernel
theorem dX3_init_27 : decode cX3_init 27 = .ok (.newarray .int, 2) := by decide +kernel
theorem dX3_init_29 : decode cX3_init 29 = .ok (.putfield 22, 3) := by decide +kernel
theorem dX3_init_32 : decode cX3_init 32 = .ok (.aload_n 0, 1) := by decide +kernel
theorem dX3_init_33 : decode cX3_init 33 = .ok (.iconst 4, 1) := by decide +kernel
theorem dX3_init_34 : decode cX3_init 34 = .ok (.newarray .int, 2) := by decide +kernel
theorem dX3_init_36 : decode cX3_init 36 = .ok (.putfield 25, 3) := by decide +kernel
theorem dX3_init_39 : decode cX3_init 39 = .ok (.return_, 1) := by decide +kernel
theorem dX3_begin_0 : decode cX3_begin 0 = .ok (.aload_n 0, 1) := by decide +kernel
theorem dX3_begin_1 : decode cX3_begin 1 = .ok (.iload_n 1, 1) := by decide +kernel
theorem dX3_begin_2 : decode cX3_begin 2 = .ok (.putfield 28, 3) := by decide +kernel
theorem dX3_begin_5 : decode cX3_begin 5 = .ok (.aload_n 0, 1) := by decide +kernel
theorem dX3_begin_6 : decode cX3_begin 6 = .ok (.iconst 0, 1) := by decide +kernel
theorem dX3_begin_7 : decode cX3_begin 7 = .ok (.putfield 32, 3) := by decide +kernel
theorem dX3_begin_10 : decode cX3_begin 10 = .ok (.aload_n 0, 1) := by decide +kernel
theorem dX3_begin_11 : decode cX3_begin 11 = .ok (.iconst 0, 1) := by decide +kernel
theorem dX3_begin_12 : decode cX3_begin 12 = .ok (.putfield 36, 3) := by decide +kernel
theorem dX3_begin_15 : decode cX3_begin 15 = .ok (.aload_n 0, 1) := by decide +kernel
theorem dX3_begin_16 : decode cX3_begin 16 = .ok (.iconst 0, 1) := by decide +kernel
theorem dX3_begin_17 : decode cX3_begin 17 = .ok (.putfield 39, 3) := by decide +kernel
theorem dX3_begin_20 : decode cX3_begin 20 = .ok (.aload_n 0, 1) := by decide +kernel
theorem dX3_begin_21 : decode cX3_begin 21 = .ok (.iconst 0, 1) := by decide +kernel
theorem dX3_begin_22 : decode cX3_begin 22 = .ok (.putfield 42, 3) := by decide +kernel
theorem dX3_begin_25 : decode cX3_begin 25 = .ok (.return_, 1) := by decide +kernel
theorem dX3_addCompound_0 : decode cX3_addCompound 0 = .ok (.aload_n 0, 1) := by decide +kernel
theorem dX3_addCompound_1 : decode cX3_addCompound 1 = .ok (.getfield 32, 3) := by decide +kernel
theorem dX3_addCompound_4 : decode cX3_addCompound 4 = .ok (.iconst 3, 1) := by decide +kernel
theorem dX3_addCompound_5 : decode cX3_addCompound 5 = .ok (.invokestatic 45, 3) := by decide +kernel
theorem dX3_addCompound_8 : decode cX3_addCompound 8 = .ok (.ifCond .eq 71, 3) := by decide +kernel
theorem dX3_addCompound_11 : decode cX3_addCompound 11 = .ok (.aload_n 0, 1) := by decide +kernel
theorem dX3_addCompound_12 : decode cX3_addCompound 12 = .ok (.getfield 9, 3) := by decide +kernel
theorem dX3_addCompound_15 : decode cX3_addCompound 15 = .ok (.aload_n 0, 1) := by decide +kernel
theorem dX3_addCompound_16 : decode cX3_addCompound 16 = .ok (.getfield 32, 3) := by decide +kernel
theorem dX3_addCompound_19 : decode cX3_addCompound 19 = .ok (.iload_n 1, 1) := by decide +kernel
theorem dX3_addCompound_20 : decode cX3_addCompound 20 = .ok (.iastore, 1) := by decide +kernel
theorem dX3_addCompound_21 : decode cX3_addCompound 21 = .ok (.aload_n 0, 1) := by decide +kernel
theorem dX3_addCompound_22 : decode cX3_addCompound 22 = .ok (.getfield 15, 3) := by decide +kernel
theorem dX3_addCompound_25 : decode cX3_addCompound 25 = .ok (.aload_n 0, 1) := by decide +kernel
theorem dX3_addCompound_26 : decode cX3_addCompound 26 = .ok (.getfield 32, 3) := by decide +kernel
theorem dX3_addCompound_29 : decode cX3_addCompound 29 = .ok (.iload_n 2, 1) := by decide +kernel
theorem dX3_addCompound_30 : decode cX3_addCompound 30 = .ok (.iastore, 1) := by decide +kernel
theorem dX3_addCompound_31 : decode cX3_addCompound 31 = .ok (.aload_n 0, 1) := by decide +kernel
theorem dX3_addCompound_32 : decode cX3_addCompound 32 = .ok (.getfield 18, 3) := by decide +kernel
theorem dX3_addCompound_35 : decode cX3_addCompound 35 = .ok (.aload_n 0, 1) := by decide +kernel
theorem dX3_addCompound_36 : decode cX3_addCompound 36 = .ok (.getfield 32, 3) := by decide +kernel
theorem dX3_addCompound_39 : decode cX3_addCompound 39 = .ok (.iload_n 3, 1) := by decide +kernel
theorem dX3_addCompound_40 : decode cX3_addCompound 40 = .ok (.bastore, 1) := by decide +kernel
theorem dX3_addCompound_41 : decode cX3_addCompound 41 = .ok (.aload_n 0, 1) := by decide +kernel
theorem dX3_addCompound_42 : decode cX3_addCompound 42 = .ok (.dup, 1) := by decide +kernel
theorem dX3_addCompound_43 : decode cX3_addCompound 43 = .ok (.getfield 32, 3) := by decide +kernel
theorem dX3_addCompound_46 : decode cX3_addCompound 46 = .ok (.iconst 1, 1) := by decide +kernel
theorem dX3_addCompound_47 : decode cX3_addCompound 47 = .ok (.iadd, 1) := by decide +kernel
theorem dX3_addCompound_48 : decode cX3_addCompound 48 = .ok (.putfield 32, 3) := by decide +kernel
theorem dX3_addCompound_51 : decode cX3_addCompound 51 = .ok (.aload_n 0, 1) := by decide +kernel
theorem dX3_addCompound_52 : decode cX3_addCompound 52 = .ok (.dup, 1) := by decide +kernel
theorem dX3_addCompound_53 : decode cX3_addCompound 53 = .ok (.getfield 36, 3) := by decide +kernel
theorem dX3_addCompound_56 : decode cX3_addCompound 56 = .ok (.bipush 10, 2) := by decide +kernel
theorem dX3_addCompound_58 : decode cX3_addCompound 58 = .ok (.iload_n 2, 1) := by decide +kernel
theorem dX3_addCompound_59 : decode cX3_addCompound 59 = .ok (.invokestatic 49, 3) := by decide +kernel
theorem dX3_addCompound_62 : decode cX3_addCompound 62 = .ok (.imul, 1) := by decide +kernel
theorem dX3_addCompound_63 : decode cX3_addCompound 63 = .ok (.iload_n 1, 1) := by decide +kernel
theorem dX3_addCompound_64 : decode cX3_addCompound 64 = .ok (.bipush (-9), 2) := by decide +kernel
theorem dX3_addCompound_66 : decode cX3_addCompound 66 = .ok (.if_icmp .ne 7, 3) := by decide +kernel
theorem dX3_addCompound_69 : decode cX3_addCompound 69 = .ok (.iconst 0, 1) := by decide +kernel
theorem dX3_addCompound_70 : decode cX3_addCompound 70 = .ok (.goto 4, 3) := by decide +kernel
theorem dX3_addCompound_73 : decode cX3_addCompound 73 = .ok (.iconst 1, 1) := by decide +kernel
theorem dX3_addCompound_74 : decode cX3_addCompound 74 = .ok (.iadd, 1) := by decide +kernel
theorem dX3_addCompound_75 : decode cX3_addCompound 75 = .ok (.iadd, 1) := by decide +kernel
theorem dX3_addCompound_76 : decode cX3_addCompound 76 = .ok (.putfield 36, 3) := by decide +kernel
theorem dX3_addCompound_79 : decode cX3_addCompound 79 = .ok (.return_, 1) := by decide +kernel
theorem dX3_declare_0 : decode cX3_declare 0 = .ok (.iload_n 1, 1) := by decide +kernel
theorem dX3_declare_1 : decode cX3_declare 1 = .ok (.iconst 4, 1) := by decide +kernel
theorem dX3_declare_2 : decode cX3_declare 2 = .ok (.invokestatic 45, 3) := by decide +kernel
theorem dX3_declare_5 : decode cX3_declare 5 = .ok (.ifCond .eq 62, 3) := by decide +kernel
theorem dX3_declare_8 : decode cX3_declare 8 = .ok (.aload_n 0, 1) := by decide +kernel
theorem dX3_declare_9 : decode cX3_declare 9 = .ok (.getfield 22, 3) := by decide +kernel
theorem dX3_declare_12 : decode cX3_declare 12 = .ok (.iload_n 1, 1) := by decide +kernel
theorem dX3_declare_13 : decode cX3_declare 13 = .ok (.iload_n 2, 1) := by decide +kernel
theorem dX3_declare_14 : decode cX3_declare 14 = .ok (.iastore, 1) := by decide +kernel
theorem dX3_declare_15 : decode cX3_declare 15 = .ok (.aload_n 0, 1) := by decide +kernel
theorem dX3_declare_16 : decode cX3_declare 16 = .ok (.dup, 1) := by decide +kernel
theorem dX3_declare_17 : decode cX3_declare 17 = .ok (.getfield 39, 3) := by decide +kernel
theorem dX3_declare_20 : decode cX3_declare 20 = .ok (.iconst 1, 1) := by decide +kernel
theorem dX3_declare_21 : decode cX3_declare 21 = .ok (.iload_n 1, 1) := by decide +kernel
theorem dX3_declare_22 : decode cX3_declare 22 = .ok (.ishl, 1) := by decide +kernel
theorem dX3_declare_23 : decode cX3_declare 23 = .ok (.ior, 1) := by decide +kernel
theorem dX3_declare_24 : decode cX3_declare 24 = .ok (.putfield 39, 3) := by decide +kernel
theorem dX3_declare_27 : decode cX3_declare 27 = .ok (.aload_n 0, 1) := by decide +kernel
theorem dX3_declare_28 : decode cX3_declare 28 = .ok (.dup, 1) := by decide +kernel
theorem dX3_declare_29 : decode cX3_declare 29 = .ok (.getfield 42, 3) := by decide +kernel
theorem dX3_declare_32 : decode cX3_declare 32 = .ok (.iload_n 3, 1) := by decide +kernel
theorem dX3_declare_33 : decode cX3_declare 33 = .ok (.ifCond .eq 9, 3) := by decide +kernel
theorem dX3_declare_36 : decode cX3_declare 36 = .ok (.iconst 1, 1) := by decide +kernel
theorem dX3_declare_37 : decode cX3_declare 37 = .ok (.iload_n 1, 1) := by decide +kernel
theorem dX3_declare_38 : decode cX3_declare 38 = .ok (.ishl, 1) := by decide +kernel
theorem dX3_declare_39 : decode cX3_declare 39 = .ok (.goto 4, 3) := by decide +kernel
theorem dX3_declare_42 : decode cX3_declare 42 = .ok (.iconst 0, 1) := by decide +kernel
theorem dX3_declare_43 : decode cX3_declare 43 = .ok (.ior, 1) := by decide +kernel
theorem dX3_declare_44 : decode cX3_declare 44 = .ok (.putfield 42, 3) := by decide +kernel
theorem dX3_declare_47 : decode cX3_declare 47 = .ok (.aload_n 0, 1) := by decide +kernel
theorem dX3_declare_48 : decode cX3_declare 48 = .ok (.getfield 25, 3) := by decide +kernel
theorem dX3_declare_51 : decode cX3_declare 51 = .ok (.iload_n 1, 1) := by decide +kernel
theorem dX3_declare_52 : decode cX3_declare 52 = .ok (.sipush 1000, 3) := by decide +kernel
theorem dX3_declare_55 : decode cX3_declare 55 = .ok (.aload_n 0, 1) := by decide +kernel
theorem dX3_declare_56 : decode cX3_declare 56 = .ok (.iload_n 3, 1) := by decide +kernel
theorem dX3_declare_57 : decode cX3_declare 57 = .ok (.invokevirtual 55, 3) := by decide +kernel
theorem dX3_declare_60 : decode cX3_declare 60 = .ok (.imul, 1) := by decide +kernel
theorem dX3_declare_61 : decode cX3_declare 61 = .ok (.aload_n 0, 1) := by decide +kernel
theorem dX3_declare_62 : decode cX3_declare 62 = .ok (.getfield 36, 3) := by decide +kernel
theorem dX3_declare_65 : decode cX3_declare 65 = .ok (.iadd, 1) := by decide +kernel
theorem dX3_declare_66 : decode cX3_declare 66 = .ok (.iastore, 1) := by decide +kernel
theorem dX3_declare_67 : decode cX3_declare 67 = .ok (.return_, 1) := by decide +kernel
theorem dX3_level_0 : decode cX3_level 0 = .ok (.iload_n 1, 1) := by decide +kernel
theorem dX3_level_1 : decode cX3_level 1 = .ok (.ifCond .eq 16, 3) := by decide +kernel
theorem dX3_level_4 : decode cX3_level 4 = .ok (.aload_n 0, 1) := by decide +kernel
theorem dX3_level_5 : decode cX3_level 5 = .ok (.getfield 28, 3) := by decide +kernel
theorem dX3_level_8 : decode cX3_level 8 = .ok (.ifCond .eq 7, 3) := by decide +kernel
theorem dX3_level_11 : decode cX3_level 11 = .ok (.iconst 3, 1) := by decide +kernel
theorem dX3_level_12 : decode cX3_level 12 = .ok (.goto 4, 3) := by decide +kernel
theorem dX3_level_15 : decode cX3_level 15 = .ok (.iconst 2, 1) := by decide +kernel
theorem dX3_level_16 : decode cX3_level 16 = .ok (.ireturn, 1) := by decide +kernel
theorem dX3_level_17 : decode cX3_level 17 = .ok (.aload_n 0, 1) := by decide +kernel
theorem dX3_level_18 : decode cX3_level 18 = .ok (.getfield 28, 3) := by decide +kernel
theorem dX3_level_21 : decode cX3_level 21 = .ok (.ifCond .eq 7, 3) := by decide +kernel
theorem dX3_level_24 : decode cX3_level 24 = .ok (.iconst 0, 1) := by decide +kernel
theorem dX3_level_25 : decode cX3_level 25 = .ok (.goto 4, 3) := by decide +kernel
theorem dX3_level_28 : decode cX3_level 28 = .ok (.iconst 1, 1) := by decide +kernel
theorem dX3_level_29 : decode cX3_level 29 = .ok (.ireturn, 1) := by decide +kernel
theorem dX3_fits_0 : decode cX3_fits 0 = .ok (.iload_n 1, 1) := by decide +kernel
theorem dX3_fits_1 : decode cX3_fits 1 = .ok (.ifCond .lt 11, 3) := by decide +kernel
theorem dX3_fits_4 : decode cX3_fits 4 = .ok (.iload_n 1, 1) := by decide +kernel
theorem dX3_fits_5 : decode cX3_fits 5 = .ok (.aload_n 0, 1) := by decide +kernel
theorem dX3_fits_6 : decode cX3_fits 6 = .ok (.getfield 32, 3) := by decide +kernel
theorem dX3_fits_9 : decode cX3_fits 9 = .ok (.if_icmp .lt 5, 3) := by decide +kernel
theorem dX3_fits_12 : decode cX3_fits 12 = .ok (.iconst 0, 1) := by decide +kernel
theorem dX3_fits_13 : decode cX3_fits 13 = .ok (.ireturn, 1) := by decide +kernel
theorem dX3_fits_14 : decode cX3_fits 14 = .ok (.aload_n 0, 1) := by decide +kernel
theorem dX3_fits_15 : decode cX3_fits 15 = .ok (.getfield 9, 3) := by decide +kernel
theorem dX3_fits_18 : decode cX3_fits 18 = .ok (.iload_n 1, 1) := by decide +kernel
theorem dX3_fits_19 : decode cX3_fits 19 = .ok (.iaload, 1) := by decide +kernel
theorem dX3_fits_20 : decode cX3_fits 20 = .ok (.bipush (-9), 2) := by decide +kernel
theorem dX3_fits_22 : decode cX3_fits 22 = .ok (.if_icmp .eq 13, 3) := by decide +kernel
theorem dX3_fits_25 : decode cX3_fits 25 = .ok (.aload_n 0, 1) := by decide +kernel
theorem dX3_fits_26 : decode cX3_fits 26 = .ok (.getfield 9, 3) := by decide +kernel
theorem dX3_fits_29 : decode cX3_fits 29 = .ok (.iload_n 1, 1) := by decide +kernel
theorem dX3_fits_30 : decode cX3_fits 30 = .ok (.iaload, 1) := by decide +kernel
theorem dX3_fits_31 : decode cX3_fits 31 = .ok (.iload_n 2, 1) := by decide +kernel
theorem dX3_fits_32 : decode cX3_fits 32 = .ok (.if_icmp .ne 7, 3) := by decide +kernel
theorem dX3_fits_35 : decode cX3_fits 35 = .ok (.iconst 1, 1) := by decide +kernel
theorem dX3_fits_36 : decode cX3_fits 36 = .ok (.goto 4, 3) := by decide +kernel
theorem dX3_fits_39 : decode cX3_fits 39 = .ok (.iconst 0, 1) := by decide +kernel
theorem dX3_fits_40 : decode cX3_fits 40 = .ok (.istore 4, 2) := by decide +kernel
theorem dX3_fits_42 : decode cX3_fits 42 = .ok (.iload 4, 2) := by decide +kernel
theorem dX3_fits_44 : decode cX3_fits 44 = .ok (.ifCond .eq 20, 3) := by decide +kernel
theorem dX3_fits_47 : decode cX3_fits 47 = .ok (.aload_n 0, 1) := by decide +kernel
theorem dX3_fits_48 : decode cX3_fits 48 = .ok (.getfield 15, 3) := by decide +kernel
theorem dX3_fits_51 : decode cX3_fits 51 = .ok (.iload_n 1, 1) := by decide +kernel
theorem dX3_fits_52 : decode cX3_fits 52 = .ok (.iaload, 1) := by decide +kernel
theorem dX3_fits_53 : decode cX3_fits 53 = .ok (.iload_n 3, 1) := by decide +kernel
theorem dX3_fits_54 : decode cX3_fits 54 = .ok (.iconst (-1), 1) := by decide +kernel
theorem dX3_fits_55 : decode cX3_fits 55 = .ok (.ixor, 1) := by decide +kernel
theorem dX3_fits_56 : decode cX3_fits 56 = .ok (.iand, 1) := by decide +kernel
theorem dX3_fits_57 : decode cX3_fits 57 = .ok (.ifCond .ne 7, 3) := by decide +kernel
theorem dX3_fits_60 : decode cX3_fits 60 = .ok (.iconst 1, 1) := by decide +kernel
theorem dX3_fits_61 : decode cX3_fits 61 = .ok (.goto 4, 3) := by decide +kernel
theorem dX3_fits_64 : decode cX3_fits 64 = .ok (.iconst 0, 1) := by decide +kernel
theorem dX3_fits_65 : decode cX3_fits 65 = .ok (.ireturn, 1) := by decide +kernel
theorem dX4_init_0 : decode cX4_init 0 = .ok (.aload_n 0, 1) := by decide +kernel
theorem dX4_init_1 : decode cX4_init 1 = .ok (.invokespecial 3, 3) := by decide +kernel
theorem dX4_init_4 : decode cX4_init 4 = .ok (.aload_n 0, 1) := by decide +kernel
theorem dX4_init_5 : decode cX4_init 5 = .ok (.iconst 0, 1) := by decide +kernel
theorem dX4_init_6 : decode cX4_init 6 = .ok (.putfield 9, 3) := by decide +kernel
theorem dX4_init_9 : decode cX4_init 9 = .ok (.aload_n 0, 1) := by decide +kernel
theorem dX4_init_10 : decode cX4_init 10 = .ok (.iconst 0, 1) := by decide +kernel
theorem dX4_init_11 : decode cX4_init 11 = .ok (.putfield 15, 3) := by decide +kernel
theorem dX4_init_14 : decode cX4_init 14 = .ok (.aload_n 0, 1) := by decide +kernel
theorem dX4_init_15 : decode cX4_init 15 = .ok (.bipush 9, 2) := by decide +kernel
theorem dX4_init_17 : decode cX4_init 17 = .ok (.newarray .int, 2) := by decide +kernel
theorem dX4_init_19 : decode cX4_init 19 = .ok (.putfield 18, 3) := by decide +kernel
theorem dX4_init_22 : decode cX4_init 22 = .ok (.aload_n 0, 1) := by decide +kernel
theorem dX4_init_23 : decode cX4_init 23 = .ok (.bipush 9, 2) := by decide +kernel
theorem dX4_init_25 : decode cX4_init 25 = .ok (.newarray .int, 2) := by decide +kernel
theorem dX4_init_27 : decode cX4_init 27 = .ok (.putfield 22, 3) := by decide +kernel
theorem dX4_init_30 : decode cX4_init 30 = .ok (.aload_n 0, 1) := by decide +kernel
theorem dX4_init_31 : decode cX4_init 31 = .ok (.new 25, 3) := by decide +kernel
theorem dX4_init_34 : decode cX4_init 34 = .ok (.dup, 1) := by decide +kernel
theorem dX4_init_35 : decode cX4_init 35 = .ok (.invokespecial 27, 3) := by decide +kernel
theorem dX4_init_38 : decode cX4_init 38 = .ok (.putfield 28, 3) := by decide +kernel
theorem dX4_init_41 : decode cX4_init 41 = .ok (.aload_n 0, 1) := by decide +kernel
theorem dX4_init_42 : decode cX4_init 42 = .ok (.bipush 8, 2) := by decide +kernel
theorem dX4_init_44 : decode cX4_init 44 = .ok (.anewarray 32, 3) := by decide +kernel
theorem dX4_init_47 : decode cX4_init 47 = .ok (.putfield 34, 3) := by decide +kernel
theorem dX4_init_50 : decode cX4_init 50 = .ok (.iconst 0, 1) := by decide +kernel
theorem dX4_init_51 : decode cX4_init 51 = .ok (.istore_n 1, 1) := by decide +kernel
theorem dX4_init_52 : decode cX4_init 52 = .ok (.iload_n 1, 1) := by decide +kernel
theorem dX4_init_53 : decode cX4_init 53 = .ok (.bipush 8, 2) := by decide +kernel
theorem dX4_init_55 : decode cX4_init 55 = .ok (.if_icmp .ge 22, 3) := by decide +kernel
theorem dX4_init_58 : decode cX4_init 58 = .ok (.aload_n 0, 1) := by decide +kernel
theorem dX4_init_59 : decode cX4_init 59 = .ok (.getfield 34, 3) := by decide +kernel
theorem dX4_init_62 : decode cX4_init 62 = .ok (.iload_n 1, 1) := by decide +kernel
theorem dX4_init_63 : decode cX4_init 63 = .ok (.new 32, 3) := by decide +kernel
theorem dX4_init_66 : decode cX4_init 66 = .ok (.dup, 1) := by decide +kernel
theorem dX4_init_67 : decode cX4_init 67 = .ok (.invokespecial 38, 3) := by decide +kernel
theorem dX4_init_70 : decode cX4_init 70 = .ok (.aastore, 1) := by decide +kernel
theorem dX4_init_71 : decode cX4_init 71 = .ok (.iinc 1 1, 3) := by decide +kernel
theorem dX4_init_74 : decode cX4_init 74 = .ok (.goto (-22), 3) := by decide +kernel
theorem dX4_init_77 : decode cX4_init 77 = .ok (.return_, 1) := by decide +kernel
theorem dX4_empty_0 : decode cX4_empty 0 = .ok (.aload_n 0, 1) := by decide +kernel
theorem dX4_empty_1 : decode cX4_empty 1 = .ok (.iconst 0, 1) := by decide +kernel
theorem dX4_empty_2 : decode cX4_empty 2 = .ok (.putfield 9, 3) := by decide +kernel
theorem dX4_empty_5 : decode cX4_empty 5 = .ok (.aload_n 0, 1) := by decide +kernel
theorem dX4_empty_6 : decode cX4_empty 6 = .ok (.iconst 0, 1) := by decide +kernel
theorem dX4_empty_7 : decode cX4_empty 7 = .ok (.putfield 15, 3) := by decide +kernel
theorem dX4_empty_10 : decode cX4_empty 10 = .ok (.aload_n 0, 1) := by decide +kernel
theorem dX4_empty_11 : decode cX4_empty 11 = .ok (.getfield 28, 3) := by decide +kernel
theorem dX4_empty_14 : decode cX4_empty 14 = .ok (.iconst 0, 1) := by decide +kernel
theorem dX4_empty_15 : decode cX4_empty 15 = .ok (.putfield 39, 3) := by decide +kernel
theorem dX4_empty_18 : decode cX4_empty 18 = .ok (.return_, 1) := by decide +kernel
theorem dX4_addNode_0 : decode cX4_addNode 0 = .ok (.aload_n 0, 1) := by decide +kernel
theorem dX4_addNode_1 : decode cX4_addNode 1 = .ok (.getfield 9, 3) := by decide +kernel
theorem dX4_addNode_4 : decode cX4_addNode 4 = .ok (.bipush 9, 2) := by decide +kernel
theorem dX4_addNode_6 : decode cX4_addNode 6 = .ok (.invokestatic 42, 3) := by decide +kernel
theorem dX4_addNode_9 : decode cX4_addNode 9 = .ok (.ifCond .eq 83, 3) := by decide +kernel
theorem dX4_addNode_12 : decode cX4_addNode 12 = .ok (.aload_n 0, 1) := by decide +kernel
theorem dX4_addNode_13 : decode cX4_addNode 13 = .ok (.getfield 18, 3) := by decide +kernel
theorem dX4_addNode_16 : decode cX4_addNode 16 = .ok (.aload_n 0, 1) := by decide +kernel
theorem dX4_addNode_17 : decode cX4_addNode 17 = .ok (.getfield 9, 3) := by decide +kernel
theorem dX4_addNode_20 : decode cX4_addNode 20 = .ok (.iload_n 1, 1) := by decide +kernel
theorem dX4_addNode_21 : decode cX4_addNode 21 = .ok (.iastore, 1) := by decide +kernel
theorem dX4_addNode_22 : decode cX4_addNode 22 = .ok (.aload_n 0, 1) := by decide +kernel
theorem dX4_addNode_23 : decode cX4_addNode 23 = .ok (.getfield 22, 3) := by decide +kernel
theorem dX4_addNode_26 : decode cX4_addNode 26 = .ok (.aload_n 0, 1) := by decide +kernel
theorem dX4_addNode_27 : decode cX4_addNode 27 = .ok (.getfield 9, 3) := by decide +kernel
theorem dX4_addNode_30 : decode cX4_addNode 30 = .ok (.iload_n 1, 1) := by decide +kernel
theorem dX4_addNode_31 : decode cX4_addNode 31 = .ok (.aload_n 0, 1) := by decide +kernel
theorem dX4_addNode_32 : decode cX4_addNode 32 = .ok (.getfield 9, 3) := by decide +kernel
theorem dX4_addNode_35 : decode cX4_addNode 35 = .ok (.invokestatic 42, 3) := by decide +kernel
theorem dX4_addNode_38 : decode cX4_addNode 38 = .ok (.ifCond .eq 16, 3) := by decide +kernel
theorem dX4_addNode_41 : decode cX4_addNode 41 = .ok (.aload_n 0, 1) := by decide +kernel
theorem dX4_addNode_42 : decode cX4_addNode 42 = .ok (.getfield 22, 3) := by decide +kernel
theorem dX4_addNode_45 : decode cX4_addNode 45 = .ok (.iload_n 1, 1) := by decide +kernel
theorem dX4_addNode_46 : decode cX4_addNode 46 = .ok (.iaload, 1) := by decide +kernel
theorem dX4_addNode_47 : decode cX4_addNode 47 = .ok (.iconst 1, 1) := by decide +kernel
theorem dX4_addNode_48 : decode cX4_addNode 48 = .ok (.iload_n 1, 1) := by decide +kernel
theorem dX4_addNode_49 : decode cX4_addNode 49 = .ok (.ishl, 1) := by decide +kernel
theorem dX4_addNode_50 : decode cX4_addNode 50 = .ok (.ior, 1) := by decide +kernel
theorem dX4_addNode_51 : decode cX4_addNode 51 = .ok (.goto 4, 3) := by decide +kernel
theorem dX4_addNode_54 : decode cX4_addNode 54 = .ok (.iconst 0, 1) := by decide +kernel
theorem dX4_addNode_55 : decode cX4_addNode 55 = .ok (.iastore, 1) := by decide +kernel
theorem dX4_addNode_56 : decode cX4_addNode 56 = .ok (.aload_n 0, 1) := by decide +kernel
theorem dX4_addNode_57 : decode cX4_addNode 57 = .ok (.getfield 28, 3) := by decide +kernel
theorem dX4_addNode_60 : decode cX4_addNode 60 = .ok (.getfield 46, 3) := by decide +kernel
theorem dX4_addNode_63 : decode cX4_addNode 63 = .ok (.aload_n 0, 1) := by decide +kernel
theorem dX4_addNode_64 : decode cX4_addNode 64 = .ok (.getfield 9, 3) := by decide +kernel
theorem dX4_addNode_67 : decode cX4_addNode 67 = .ok (.iload_n 2, 1) := by decide +kernel
theorem dX4_addNode_68 : decode cX4_addNode 68 = .ok (.iastore, 1) := by decide +kernel
theorem dX4_addNode_69 : decode cX4_addNode 69 = .ok (.aload_n 0, 1) := by decide +kernel
theorem dX4_addNode_70 : decode cX4_addNode 70 = .ok (.getfield 28, 3) := by decide +kernel
theorem dX4_addNode_73 : decode cX4_addNode 73 = .ok (.getfield 49, 3) := by decide +kernel
theorem dX4_addNode_76 : decode cX4_addNode 76 = .ok (.aload_n 0, 1) := by decide +kernel
theorem dX4_addNode_77 : decode cX4_addNode 77 = .ok (.getfield 9, 3) := by decide +kernel
theorem dX4_addNode_80 : decode cX4_addNode 80 = .ok (.iload_n 3, 1) := by decide +kernel
theorem dX4_addNode_81 : decode cX4_addNode 81 = .ok (.iastore, 1) := by decide +kernel
theorem dX4_addNode_82 : decode cX4_addNode 82 = .ok (.aload_n 0, 1) := by decide +kernel
theorem dX4_addNode_83 : decode cX4_addNode 83 = .ok (.dup, 1) := by decide +kernel
theorem dX4_addNode_84 : decode cX4_addNode 84 = .ok (.getfield 9, 3) := by decide +kernel
theorem dX4_addNode_87 : decode cX4_addNode 87 = .ok (.iconst 1, 1) := by decide +kernel
theorem dX4_addNode_88 : decode cX4_addNode 88 = .ok (.iadd, 1) := by decide +kernel
theorem dX4_addNode_89 : decode cX4_addNode 89 = .ok (.putfield 9, 3) := by decide +kernel
theorem dX4_addNode_92 : decode cX4_addNode 92 = .ok (.return_, 1) := by decide +kernel
theorem dX4_addRule_0 : decode cX4_addRule 0 = .ok (.aload_n 0, 1) := by decide +kernel
theorem dX4_addRule_1 : decode cX4_addRule 1 = .ok (.getfield 15, 3) := by decide +kernel
theorem dX4_addRule_4 : decode cX4_addRule 4 = .ok (.bipush 8, 2) := by decide +kernel
theorem dX4_addRule_6 : decode cX4_addRule 6 = .ok (.invokestatic 42, 3) := by decide +kernel
theorem dX4_addRule_9 : decode cX4_addRule 9 = .ok (.ifCond .eq 31, 3) := by decide +kernel
theorem dX4_addRule_12 : decode cX4_addRule 12 = .ok (.aload_n 0, 1) := by decide +kernel
theorem dX4_addRule_13 : decode cX4_addRule 13 = .ok (.getfield 28, 3) := by decide +kernel
theorem dX4_addRule_16 : decode cX4_addRule 16 = .ok (.dup, 1) := by decide +kernel
theorem dX4_addRule_17 : decode cX4_addRule 17 = .ok (.getfield 39, 3) := by decide +kernel
theorem dX4_addRule_20 : decode cX4_addRule 20 = .ok (.iconst 1, 1) := by decide +kernel
theorem dX4_addRule_21 : decode cX4_addRule 21 = .ok (.aload_n 0, 1) := by decide +kernel
theorem dX4_addRule_22 : decode cX4_addRule 22 = .ok (.getfield 15, 3) := by decide +kernel
theorem dX4_addRule_25 : decode cX4_addRule 25 = .ok (.ishl, 1) := by decide +kernel
theorem dX4_addRule_26 : decode cX4_addRule 26 = .ok (.ior, 1) := by decide +kernel
theorem dX4_addRule_27 : decode cX4_addRule 27 = .ok (.putfield 39, 3) := by decide +kernel
theorem dX4_addRule_30 : decode cX4_addRule 30 = .ok (.aload_n 0, 1) := by decide +kernel
theorem dX4_addRule_31 : decode cX4_addRule 31 = .ok (.dup, 1) := by decide +kernel
theorem dX4_addRule_32 : decode cX4_addRule 32 = .ok (.getfield 15, 3) := by decide +kernel
theorem dX4_addRule_35 : decode cX4_addRule 35 = .ok (.iconst 1, 1) := by decide +kernel
theorem dX4_addRule_36 : decode cX4_addRule 36 = .ok (.iadd, 1) := by decide +kernel
theorem dX4_addRule_37 : decode cX4_addRule 37 = .ok (.putfield 15, 3) := by decide +kernel
theorem dX4_addRule_40 : decode cX4_addRule 40 = .ok (.return_, 1) := by decide +kernel
theorem dX4_below_0 : decode cX4_below 0 = .ok (.iconst 0, 1) := by decide +kernel
theorem dX4_below_1 : decode cX4_below 1 = .ok (.istore_n 2, 1) := by decide +kernel
theorem dX4_below_2 : decode cX4_below 2 = .ok (.iconst 0, 1) := by decide +kernel
theorem dX4_below_3 : decode cX4_below 3 = .ok (.istore_n 3, 1) := by decide +kernel
theorem dX4_below_4 : decode cX4_below 4 = .ok (.iload_n 3, 1) := by decide +kernel
theorem dX4_below_5 : decode cX4_below 5 = .ok (.aload_n 0, 1) := by decide +kernel
theorem dX4_below_6 : decode cX4_below 6 = .ok (.getfield 9, 3) := by decide +kernel
theorem dX4_below_9 : decode cX4_below 9 = .ok (.if_icmp .ge 28, 3) := by decide +kernel
theorem dX4_below_12 : decode cX4_below 12 = .ok (.aload_n 0, 1) := by decide +kernel
theorem dX4_below_13 : decode cX4_below 13 = .ok (.getfield 22, 3) := by decide +kernel
theorem dX4_below_16 : decode cX4_below 16 = .ok (.iload_n 3, 1) := by decide +kernel
theorem dX4_below_17 : decode cX4_below 17 = .ok (.iaload, 1) := by decide +kernel
theorem dX4_below_18 : decode cX4_below 18 = .ok (.iload_n 1, 1) := by decide +kernel
theorem dX4_below_19 : decode cX4_below 19 = .ok (.invokestatic 52, 3) := by decide +kernel
theorem dX4_below_22 : decode cX4_below 22 = .ok (.ifCond .eq 9, 3) := by decide +kernel
theorem dX4_below_25 : decode cX4_below 25 = .ok (.iload_n 2, 1) := by decide +kernel
theorem dX4_below_26 : decode cX4_below 26 = .ok (.iconst 1, 1) := by decide +kernel
theorem dX4_below_27 : decode cX4_below 27 = .ok (.iload_n 3, 1) := by decide +kernel
theorem dX4_below_28 : decode cX4_below 28 = .ok (.ishl, 1) := by decide +kernel
theorem dX4_below_29 : decode cX4_below 29 = .ok (.ior, 1) := by decide +kernel
theorem dX4_below_30 : decode cX4_below 30 = .ok (.istore_n 2, 1) := by decide +kernel
theorem dX4_below_31 : decode cX4_below 31 = .ok (.iinc 3 1, 3) := by decide +kernel
theorem dX4_below_34 : decode cX4_below 34 = .ok (.goto (-30), 3) := by decide +kernel
theorem dX4_below_37 : decode cX4_below 37 = .ok (.iload_n 2, 1) := by decide +kernel
theorem dX4_below_38 : decode cX4_below 38 = .ok (.ireturn, 1) := by decide +kernel
theorem dX4_fitted_0 : decode cX4_fitted 0 = .ok (.iconst 0, 1) := by decide +kernel
theorem dX4_fitted_1 : decode cX4_fitted 1 = .ok (.istore 4, 2) := by decide +kernel
theorem dX4_fitted_3 : decode cX4_fitted 3 = .ok (.iconst 0, 1) := by decide +kernel
theorem dX4_fitted_4 : decode cX4_fitted 4 = .ok (.istore 5, 2) := by decide +kernel
theorem dX4_fitted_6 : decode cX4_fitted 6 = .ok (.iload 5, 2) := by decide +kernel
theorem dX4_fitted_8 : decode cX4_fitted 8 = .ok (.aload_n 0, 1) := by decide +kernel
theorem dX4_fitted_9 : decode cX4_fitted 9 = .ok (.getfield 9, 3) := by decide +kernel
theorem dX4_fitted_12 : decode cX4_fitted 12 = .ok (.if_icmp .ge 40, 3) := by decide +kernel
theorem dX4_fitted_15 : decode cX4_fitted 15 = .ok (.aload_n 2, 1) := by decide +kernel
theorem dX4_fitted_16 : decode cX4_fitted 16 = .ok (.iload_n 3, 1) := by decide +kernel
theorem dX4_fitted_17 : decode cX4_fitted 17 = .ok (.aload_n 1, 1) := by decide +kernel
theorem dX4_fitted_18 : decode cX4_fitted 18 = .ok (.getfield 46, 3) := by decide +kernel
theorem dX4_fitted_21 : decode cX4_fitted 21 = .ok (.iload 5, 2) := by decide +kernel
theorem dX4_fitted_23 : decode cX4_fitted 23 = .ok (.iaload, 1) := by decide +kernel
theorem dX4_fitted_24 : decode cX4_fitted 24 = .ok (.aload_n 1, 1) := by decide +kernel
theorem dX4_fitted_25 : decode cX4_fitted 25 = .ok (.getfield 49, 3) := by decide +kernel
theorem dX4_fitted_28 : decode cX4_fitted 28 = .ok (.iload 5, 2) := by decide +kernel
theorem dX4_fitted_30 : decode cX4_fitted 30 = .ok (.iaload, 1) := by decide +kernel
theorem dX4_fitted_31 : decode cX4_fitted 31 = .ok (.invokevirtual 55, 3) := by decide +kernel
theorem dX4_fitted_34 : decode cX4_fitted 34 = .ok (.ifCond .eq 12, 3) := by decide +kernel
theorem dX4_fitted_37 : decode cX4_fitted 37 = .ok (.iload 4, 2) := by decide +kernel
theorem dX4_fitted_39 : decode cX4_fitted 39 = .ok (.iconst 1, 1) := by decide +kernel
theorem dX4_fitted_40 : decode cX4_fitted 40 = .ok (.iload 5, 2) := by decide +kernel
theorem dX4_fitted_42 : decode cX4_fitted 42 = .ok (.ishl, 1) := by decide +kernel
theorem dX4_fitted_43 : decode cX4_fitted 43 = .ok (.ior, 1) := by decide +kernel
theorem dX4_fitted_44 : decode cX4_fitted 44 = .ok (.istore 4, 2) := by decide +kernel
theorem dX4_fitted_46 : decode cX4_fitted 46 = .ok (.iinc 5 1, 3) := by decide +kernel
theorem dX4_fitted_49 : decode cX4_fitted 49 = .ok (.goto (-43), 3) := by decide +kernel
theorem dX4_fitted_52 : decode cX4_fitted 52 = .ok (.iload 4, 2) := by decide +kernel
theorem dX4_fitted_54 : decode cX4_fitted 54 = .ok (.ireturn, 1) := by decide +kernel
theorem dX4_reached_0 : decode cX4_reached 0 = .ok (.aload_n 0, 1) := by decide +kernel
theorem dX4_reached_1 : decode cX4_reached 1 = .ok (.aload_n 1, 1) := by decide +kernel
theorem dX4_reached_2 : decode cX4_reached 2 = .ok (.aload_n 2, 1) := by decide +kernel
theorem dX4_reached_3 : decode cX4_reached 3 = .ok (.iconst 0, 1) := by decide +kernel
theorem dX4_reached_4 : decode cX4_reached 4 = .ok (.invokevirtual 59, 3) := by decide +kernel
theorem dX4_reached_7 : decode cX4_reached 7 = .ok (.istore_n 3, 1) := by decide +kernel
theorem dX4_reached_8 : decode cX4_reached 8 = .ok (.iconst 1, 1) := by decide +kernel
theorem dX4_reached_9 : decode cX4_reached 9 = .ok (.istore 4, 2) := by decide +kernel
theorem dX4_reached_11 : decode cX4_reached 11 = .ok (.iload 4, 2) := by decide +kernel
theorem dX4_reached_13 : decode cX4_reached 13 = .ok (.aload_n 2, 1) := by decide +kernel
theorem dX4_reached_14 : decode cX4_reached 14 = .ok (.getfield 63, 3) := by decide +kernel
theorem dX4_reached_17 : decode cX4_reached 17 = .ok (.if_icmp .ge 31, 3) := by decide +kernel
theorem dX4_reached_20 : decode cX4_reached 20 = .ok (.aload_n 0, 1) := by decide +kernel
theorem dX4_reached_21 : decode cX4_reached 21 = .ok (.aload_n 1, 1) := by decide +kernel
theorem dX4_reached_22 : decode cX4_reached 22 = .ok (.aload_n 2, 1) := by decide +kernel
theorem dX4_reached_23 : decode cX4_reached 23 = .ok (.iload 4, 2) := by decide +kernel
theorem dX4_reached_25 : decode cX4_reached 25 = .ok (.invokevirtual 59, 3) := by decide +kernel
theorem dX4_reached_28 : decode cX4_reached 28 = .ok (.aload_n 0, 1) := by decide +kernel
theorem dX4_reached_29 : decode cX4_reached 29 = .ok (.iload_n 3, 1) := by decide +kernel
theorem dX4_reached_30 : decode cX4_reached 30 = .ok (.aload_n 2, 1) := by decide +kernel
theorem dX4_reached_31 : decode cX4_reached 31 = .ok (.getfield 66, 3) := by decide +kernel
theorem dX4_reached_34 : decode cX4_reached 34 = .ok (.iload 4, 2) := by decide +kernel
theorem dX4_reached_36 : decode cX4_reached 36 = .ok (.baload, 1) := by decide +kernel
theorem dX4_reached_37 : decode cX4_reached 37 = .ok (.invokevirtual 70, 3) := by decide +kernel
theorem dX4_reached_40 : decode cX4_reached 40 = .ok (.iand, 1) := by decide +kernel
theorem dX4_reached_41 : decode cX4_reached 41 = .ok (.istore_n 3, 1) := by decide +kernel
theorem dX4_reached_42 : decode cX4_reached 42 = .ok (.iinc 4 1, 3) := by decide +kernel
theorem dX4_reached_45 : decode cX4_reached 45 = .ok (.goto (-34), 3) := by decide +kernel
theorem dX4_reached_48 : decode cX4_reached 48 = .ok (.iload_n 3, 1) := by decide +kernel
theorem dX4_reached_49 : decode cX4_reached 49 = .ok (.ireturn, 1) := by decide +kernel
theorem dX4_under_0 : decode cX4_under 0 = .ok (.iconst 0, 1) := by decide +kernel
theorem dX4_under_1 : decode cX4_under 1 = .ok (.istore_n 3, 1) := by decide +kernel
theorem dX4_under_2 : decode cX4_under 2 = .ok (.iconst 0, 1) := by decide +kernel
theorem dX4_under_3 : decode cX4_under 3 = .ok (.istore 4, 2) := by decide +kernel
theorem dX4_under_5 : decode cX4_under 5 = .ok (.iload 4, 2) := by decide +kernel
theorem dX4_under_7 : decode cX4_under 7 = .ok (.aload_n 0, 1) := by decide +kernel
theorem dX4_under_8 : decode cX4_under 8 = .ok (.getfield 9, 3) := by decide +kernel
theorem dX4_under_11 : decode cX4_under 11 = .ok (.if_icmp .ge 68, 3) := by decide +kernel
theorem dX4_under_14 : decode cX4_under 14 = .ok (.aload_n 0, 1) := by decide +kernel
theorem dX4_under_15 : decode cX4_under 15 = .ok (.getfield 22, 3) := by decide +kernel
theorem dX4_under_18 : decode cX4_under 18 = .ok (.iload 4, 2) := by decide +kernel
theorem dX4_under_20 : decode cX4_under 20 = .ok (.iaload, 1) := by decide +kernel
theorem dX4_under_21 : decode cX4_under 21 = .ok (.istore 5, 2) := by decide +kernel
theorem dX4_under_23 : decode cX4_under 23 = .ok (.iload_n 2, 1) := by decide +kernel
theorem dX4_under_24 : decode cX4_under 24 = .ok (.ifCond .eq 35, 3) := by decide +kernel
theorem dX4_under_27 : decode cX4_under 27 = .ok (.aload_n 0, 1) := by decide +kernel
theorem dX4_under_28 : decode cX4_under 28 = .ok (.getfield 18, 3) := by decide +kernel
theorem dX4_under_31 : decode cX4_under 31 = .ok (.iload 4, 2) := by decide +kernel
theorem dX4_under_33 : decode cX4_under 33 = .ok (.iaload, 1) := by decide +kernel
theorem dX4_under_34 : decode cX4_under 34 = .ok (.aload_n 0, 1) := by decide +kernel
theorem dX4_under_35 : decode cX4_under 35 = .ok (.getfield 9, 3) := by decide +kernel
theorem dX4_under_38 : decode cX4_under 38 = .ok (.invokestatic 42, 3) := by decide +kernel
theorem dX4_under_41 : decode cX4_under 41 = .ok (.ifCond .eq 15, 3) := by decide +kernel
theorem dX4_under_44 : decode cX4_under 44 = .ok (.iconst 1, 1) := by decide +kernel
theorem dX4_under_45 : decode cX4_under 45 = .ok (.aload_n 0, 1) := by decide +kernel
theorem dX4_under_46 : decode cX4_under 46 = .ok (.getfield 18, 3) := by decide +kernel
theorem dX4_under_49 : decode cX4_under 49 = .ok (.iload 4, 2) := by decide +kernel
theorem dX4_under_51 : decode cX4_under 51 = .ok (.iaload, 1) := by decide +kernel
theorem dX4_under_52 : decode cX4_under 52 = .ok (.ishl, 1) := by decide +kernel
theorem dX4_under_53 : decode cX4_under 53 = .ok (.goto 4, 3) := by decide +kernel
theorem dX4_under_56 : decode cX4_under 56 = .ok (.iconst 0, 1) := by decide +kernel
theorem dX4_under_57 : decode cX4_under 57 = .ok (.istore 5, 2) := by decide +kernel
theorem dX4_under_59 : decode cX4_under 59 = .ok (.iload 5, 2) := by decide +kernel
theorem dX4_under_61 : decode cX4_under 61 = .ok (.iload_n 1, 1) := by decide +kernel
theorem dX4_under_62 : decode cX4_under 62 = .ok (.iand, 1) := by decide +kernel
theorem dX4_under_63 : decode cX4_under 63 = .ok (.ifCond .eq 10, 3) := by decide +kernel
theorem dX4_under_66 : decode cX4_under 66 = .ok (.iload_n 3, 1) := by decide +kernel
theorem dX4_under_67 : decode cX4_under 67 = .ok (.iconst 1, 1) := by decide +kernel
theorem dX4_under_68 : decode cX4_under 68 = .ok (.iload 4, 2) := by decide +kernel
theorem dX4_under_70 : decode cX4_under 70 = .ok (.ishl, 1) := by decide +kernel
theorem dX4_under_71 : decode cX4_under 71 = .ok (.ior, 1) := by decide +kernel
theorem dX4_under_72 : decode cX4_under 72 = .ok (.istore_n 3, 1) := by decide +kernel
theorem dX4_under_73 : decode cX4_under 73 = .ok (.iinc 4 1, 3) := by decide +kernel
theorem dX4_under_76 : decode cX4_under 76 = .ok (.goto (-71), 3) := by decide +kernel
theorem dX4_under_79 : decode cX4_under 79 = .ok (.iload_n 3, 1) := by decide +kernel
theorem dX4_under_80 : decode cX4_under 80 = .ok (.ireturn, 1) := by decide +kernel
theorem dX4_strongest_0 : decode cX4_strongest 0 = .ok (.bipush (-9), 2) := by decide +kernel
theorem dX4_strongest_2 : decode cX4_strongest 2 = .ok (.istore_n 3, 1) := by decide +kernel
theorem dX4_strongest_3 : decode cX4_strongest 3 = .ok (.iconst 0, 1) := by decide +kernel
theorem dX4_strongest_4 : decode cX4_strongest 4 = .ok (.istore 4, 2) := by decide +kernel
theorem dX4_strongest_6 : decode cX4_strongest 6 = .ok (.iconst 0, 1) := by decide +kernel
theorem dX4_strongest_7 : decode cX4_strongest 7 = .ok (.istore 5, 2) := by decide +kernel
theorem dX4_strongest_9 : decode cX4_strongest 9 = .ok (.iload 5, 2) := by decide +kernel
theorem dX4_strongest_11 : decode cX4_strongest 11 = .ok (.aload_n 0, 1) := by decide +kernel
theorem dX4_strongest_12 : decode cX4_strongest 12 = .ok (.getfield 15, 3) := by decide +kernel
theorem dX4_strongest_15 : decode cX4_strongest 15 = .ok (.if_icmp .ge 63, 3) := by decide +kernel
theorem dX4_strongest_18 : decode cX4_strongest 18 = .ok (.iload_n 1, 1) := by decide +kernel
theorem dX4_strongest_19 : decode cX4_strongest 19 = .ok (.iload 5, 2) := by decide +kernel
theorem dX4_strongest_21 : decode cX4_strongest 21 = .ok (.invokestatic 52, 3) := by decide +kernel
theorem dX4_strongest_24 : decode cX4_strongest 24 = .ok (.ifCond .eq 48, 3) := by decide +kernel
theorem dX4_strongest_27 : decode cX4_strongest 27 = .ok (.aload_n 0, 1) := by decide +kernel
theorem dX4_strongest_28 : decode cX4_strongest 28 = .ok (.getfield 34, 3) := by decide +kernel
theorem dX4_strongest_31 : decode cX4_strongest 31 = .ok (.iload 5, 2) := by decide +kernel
theorem dX4_strongest_33 : decode cX4_strongest 33 = .ok (.aaload, 1) := by decide +kernel
theorem dX4_strongest_34 : decode cX4_strongest 34 = .ok (.getfield 74, 3) := by decide +kernel
theorem dX4_strongest_37 : decode cX4_strongest 37 = .ok (.iload_n 2, 1) := by decide +kernel
theorem dX4_strongest_38 : decode cX4_strongest 38 = .ok (.invokestatic 52, 3) := by decide +kernel
theorem dX4_strongest_41 : decode cX4_strongest 41 = .ok (.ifCond .eq 31, 3) := by decide +kernel
theorem dX4_strongest_44 : decode cX4_strongest 44 = .ok (.aload_n 0, 1) := by decide +kernel
theorem dX4_strongest_45 : decode cX4_strongest 45 = .ok (.getfield 34, 3) := by decide +kernel
theorem dX4_strongest_48 : decode cX4_strongest 48 = .ok (.iload 5, 2) := by decide +kernel
theorem dX4_strongest_50 : decode cX4_strongest 50 = .ok (.aaload, 1) := by decide +kernel
theorem dX4_strongest_51 : decode cX4_strongest 51 = .ok (.getfield 77, 3) := by decide +kernel
theorem dX4_strongest_54 : decode cX4_strongest 54 = .ok (.iload_n 2, 1) := by decide +kernel
theorem dX4_strongest_55 : decode cX4_strongest 55 = .ok (.iaload, 1) := by decide +kernel
theorem dX4_strongest_56 : decode cX4_strongest 56 = .ok (.istore 6, 2) := by decide +kernel
theorem dX4_strongest_58 : decode cX4_strongest 58 = .ok (.iload 6, 2) := by decide +kernel
theorem dX4_strongest_60 : decode cX4_strongest 60 = .ok (.iload 4, 2) := by decide +kernel
theorem dX4_strongest_62 : decode cX4_strongest 62 = .ok (.if_icmp .lt 10, 3) := by decide +kernel
theorem dX4_strongest_65 : decode cX4_strongest 65 = .ok (.iload 6, 2) := by decide +kernel
theorem dX4_strongest_67 : decode cX4_strongest 67 = .ok (.istore 4, 2) := by decide +kernel
theorem dX4_strongest_69 : decode cX4_strongest 69 = .ok (.iload 5, 2) := by decide +kernel
theorem dX4_strongest_71 : decode cX4_strongest 71 = .ok (.istore_n 3, 1) := by decide +kernel
theorem dX4_strongest_72 : decode cX4_strongest 72 = .ok (.iinc 5 1, 3) := by decide +kernel
theorem dX4_strongest_75 : decode cX4_strongest 75 = .ok (.goto (-66), 3) := by decide +kernel
theorem dX4_strongest_78 : decode cX4_strongest 78 = .ok (.iload_n 3, 1) := by decide +kernel
theorem dX4_strongest_79 : decode cX4_strongest 79 = .ok (.ireturn, 1) := by decide +kernel
theorem dX4_lookedAt_0 : decode cX4_lookedAt 0 = .ok (.iconst 0, 1) := by decide +kernel
theorem dX4_lookedAt_1 : decode cX4_lookedAt 1 = .ok (.istore 4, 2) := by decide +kernel
theorem dX4_lookedAt_3 : decode cX4_lookedAt 3 = .ok (.iconst 0, 1) := by decide +kernel
theorem dX4_lookedAt_4 : decode cX4_lookedAt 4 = .ok (.istore 5, 2) := by decide +kernel
theorem dX4_lookedAt_6 : decode cX4_lookedAt 6 = .ok (.iload 5, 2) := by decide +kernel
theorem dX4_lookedAt_8 : decode cX4_lookedAt 8 = .ok (.aload_n 0, 1) := by decide +kernel
theorem dX4_lookedAt_9 : decode cX4_lookedAt 9 = .ok (.getfield 15, 3) := by decide +kernel
theorem dX4_lookedAt_12 : decode cX4_lookedAt 12 = .ok (.if_icmp .ge 37, 3) := by decide +kernel
theorem dX4_lookedAt_15 : decode cX4_lookedAt 15 = .ok (.aload_n 1, 1) := by decide +kernel
theorem dX4_lookedAt_16 : decode cX4_lookedAt 16 = .ok (.iload 5, 2) := by decide +kernel
theorem dX4_lookedAt_18 : decode cX4_lookedAt 18 = .ok (.invokevirtual 80, 3) := by decide +kernel
theorem dX4_lookedAt_21 : decode cX4_lookedAt 21 = .ok (.ifCond .eq 22, 3) := by decide +kernel
theorem dX4_lookedAt_24 : decode cX4_lookedAt 24 = .ok (.iload 4, 2) := by decide +kernel
theorem dX4_lookedAt_26 : decode cX4_lookedAt 26 = .ok (.aload_n 0, 1) := by decide +kernel
theorem dX4_lookedAt_27 : decode cX4_lookedAt 27 = .ok (.aload_n 1, 1) := by decide +kernel
theorem dX4_lookedAt_28 : decode cX4_lookedAt 28 = .ok (.aload_n 0, 1) := by decide +kernel
theorem dX4_lookedAt_29 : decode cX4_lookedAt 29 = .ok (.getfield 34, 3) := by decide +kernel
theorem dX4_lookedAt_32 : decode cX4_lookedAt 32 = .ok (.iload 5, 2) := by decide +kernel
theorem dX4_lookedAt_34 : decode cX4_lookedAt 34 = .ok (.aaload, 1) := by decide +kernel
theorem dX4_lookedAt_35 : decode cX4_lookedAt 35 = .ok (.iload_n 2, 1) := by decide +kernel
theorem dX4_lookedAt_36 : decode cX4_lookedAt 36 = .ok (.iload_n 3, 1) := by decide +kernel
theorem dX4_lookedAt_37 : decode cX4_lookedAt 37 = .ok (.invokevirtual 84, 3) := by decide +kernel
theorem dX4_lookedAt_40 : decode cX4_lookedAt 40 = .ok (.ior, 1) := by decide +kernel
theorem dX4_lookedAt_41 : decode cX4_lookedAt 41 = .ok (.istore 4, 2) := by decide +kernel
theorem dX4_lookedAt_43 : decode cX4_lookedAt 43 = .ok (.iinc 5 1, 3) := by decide +kernel
theorem dX4_lookedAt_46 : decode cX4_lookedAt 46 = .ok (.goto (-40), 3) := by decide +kernel
theorem dX4_lookedAt_49 : decode cX4_lookedAt 49 = .ok (.iload 4, 2) := by decide +kernel
theorem dX4_lookedAt_51 : decode cX4_lookedAt 51 = .ok (.ireturn, 1) := by decide +kernel
theorem dX4_lookedAtBy_0 : decode cX4_lookedAtBy 0 = .ok (.aload_n 2, 1) := by decide +kernel
theorem dX4_lookedAtBy_1 : decode cX4_lookedAtBy 1 = .ok (.getfield 63, 3) := by decide +kernel
theorem dX4_lookedAtBy_4 : decode cX4_lookedAtBy 4 = .ok (.iconst 1, 1) := by decide +kernel
theorem dX4_lookedAtBy_5 : decode cX4_lookedAtBy 5 = .ok (.isub, 1) := by decide +kernel
theorem dX4_lookedAtBy_6 : decode cX4_lookedAtBy 6 = .ok (.istore 5, 2) := by decide +kernel
theorem dX4_lookedAtBy_8 : decode cX4_lookedAtBy 8 = .ok (.iconst 0, 1) := by decide +kernel
theorem dX4_lookedAtBy_9 : decode cX4_lookedAtBy 9 = .ok (.istore 6, 2) := by decide +kernel
theorem dX4_lookedAtBy_11 : decode cX4_lookedAtBy 11 = .ok (.iconst 0, 1) := by decide +kernel
theorem dX4_lookedAtBy_12 : decode cX4_lookedAtBy 12 = .ok (.istore 7, 2) := by decide +kernel
theorem dX4_lookedAtBy_14 : decode cX4_lookedAtBy 14 = .ok (.iload 7, 2) := by decide +kernel
theorem dX4_lookedAtBy_16 : decode cX4_lookedAtBy 16 = .ok (.iload 5, 2) := by decide +kernel
theorem dX4_lookedAtBy_18 : decode cX4_lookedAtBy 18 = .ok (.if_icmp .gt 56, 3) := by decide +kernel
theorem dX4_lookedAtBy_21 : decode cX4_lookedAtBy 21 = .ok (.aload_n 2, 1) := by decide +kernel
theorem dX4_lookedAtBy_22 : decode cX4_lookedAtBy 22 = .ok (.getfield 88, 3) := by decide +kernel
theorem dX4_lookedAtBy_25 : decode cX4_lookedAtBy 25 = .ok (.iload 7, 2) := by decide +kernel
theorem dX4_lookedAtBy_27 : decode cX4_lookedAtBy 27 = .ok (.iaload, 1) := by decide +kernel
theorem dX4_lookedAtBy_28 : decode cX4_lookedAtBy 28 = .ok (.iload 4, 2) := by decide +kernel
theorem dX4_lookedAtBy_30 : decode cX4_lookedAtBy 30 = .ok (.invokestatic 52, 3) := by decide +kernel
theorem dX4_lookedAtBy_33 : decode cX4_lookedAtBy 33 = .ok (.ifCond .eq 35, 3) := by decide +kernel
theorem dX4_lookedAtBy_36 : decode cX4_lookedAtBy 36 = .ok (.iload 6, 2) := by decide +kernel
theorem dX4_lookedAtBy_38 : decode cX4_lookedAtBy 38 = .ok (.iload 7, 2) := by decide +kernel
theorem dX4_lookedAtBy_40 : decode cX4_lookedAtBy 40 = .ok (.iload 5, 2) := by decide +kernel
theorem dX4_lookedAtBy_42 : decode cX4_lookedAtBy 42 = .ok (.if_icmp .ne 9, 3) := by decide +kernel
theorem dX4_lookedAtBy_45 : decode cX4_lookedAtBy 45 = .ok (.iconst 1, 1) := by decide +kernel
theorem dX4_lookedAtBy_46 : decode cX4_lookedAtBy 46 = .ok (.iload_n 3, 1) := by decide +kernel
theorem dX4_lookedAtBy_47 : decode cX4_lookedAtBy 47 = .ok (.ishl, 1) := by decide +kernel
theorem dX4_lookedAtBy_48 : decode cX4_lookedAtBy 48 = .ok (.goto 17, 3) := by decide +kernel
theorem dX4_lookedAtBy_51 : decode cX4_lookedAtBy 51 = .ok (.aload_n 0, 1) := by decide +kernel
theorem dX4_lookedAtBy_52 : decode cX4_lookedAtBy 52 = .ok (.iload_n 3, 1) := by decide +kernel
theorem dX4_lookedAtBy_53 : decode cX4_lookedAtBy 53 = .ok (.invokevirtual 89, 3) := by decide +kernel
theorem dX4_lookedAtBy_56 : decode cX4_lookedAtBy 56 = .ok (.aload_n 0, 1) := by decide +kernel
theorem dX4_lookedAtBy_57 : decode cX4_lookedAtBy 57 = .ok (.aload_n 1, 1) := by decide +kernel
theorem dX4_lookedAtBy_58 : decode cX4_lookedAtBy 58 = .ok (.aload_n 2, 1) := by decide +kernel
theorem dX4_lookedAtBy_59 : decode cX4_lookedAtBy 59 = .ok (.iload 5, 2) := by decide +kernel
theorem dX4_lookedAtBy_61 : decode cX4_lookedAtBy 61 = .ok (.invokevirtual 59, 3) := by decide +kernel
theorem dX4_lookedAtBy_64 : decode cX4_lookedAtBy 64 = .ok (.iand, 1) := by decide +kernel
theorem dX4_lookedAtBy_65 : decode cX4_lookedAtBy 65 = .ok (.ior, 1) := by decide +kernel
theorem dX4_lookedAtBy_66 : decode cX4_lookedAtBy 66 = .ok (.istore 6, 2) := by decide +kernel
theorem dX4_lookedAtBy_68 : decode cX4_lookedAtBy 68 = .ok (.iinc 7 1, 3) := by decide +kernel
theorem dX4_lookedAtBy_71 : decode cX4_lookedAtBy 71 = .ok (.goto (-57), 3) := by decide +kernel
theorem dX4_lookedAtBy_74 : decode cX4_lookedAtBy 74 = .ok (.iload 6, 2) := by decide +kernel
theorem dX4_lookedAtBy_76 : decode cX4_lookedAtBy 76 = .ok (.ireturn, 1) := by decide +kernel
theorem dX5_init_0 : decode cX5_init 0 = .ok (.aload_n 0, 1) := by decide +kernel
theorem dX5_init_1 : decode cX5_init 1 = .ok (.invokespecial 3, 3) := by decide +kernel
theorem dX5_init_4 : decode cX5_init 4 = .ok (.aload_n 0, 1) := by decide +kernel
theorem dX5_init_5 : decode cX5_init 5 = .ok (.bipush 6, 2) := by decide +kernel
theorem dX5_init_7 : decode cX5_init 7 = .ok (.newarray .int, 2) := by decide +kernel
theorem dX5_init_9 : decode cX5_init 9 = .ok (.putfield 9, 3) := by decide +kernel
theorem dX5_init_12 : decode cX5_init 12 = .ok (.aload_n 0, 1) := by decide +kernel
theorem dX5_init_13 : decode cX5_init 13 = .ok (.bipush 6, 2) := by decide +kernel
theorem dX5_init_15 : decode cX5_init 15 = .ok (.newarray .int, 2) := by decide +kernel
theorem dX5_init_17 : decode cX5_init 17 = .ok (.putfield 15, 3) := by decide +kernel
theorem dX5_init_20 : decode cX5_init 20 = .ok (.aload_n 0, 1) := by decide +kernel
theorem dX5_init_21 : decode cX5_init 21 = .ok (.bipush 6, 2) := by decide +kernel
theorem dX5_init_23 : decode cX5_init 23 = .ok (.newarray .int, 2) := by decide +kernel
theorem dX5_init_25 : decode cX5_init 25 = .ok (.putfield 18, 3) := by decide +kernel
theorem dX5_init_28 : decode cX5_init 28 = .ok (.aload_n 0, 1) := by decide +kernel
theorem dX5_init_29 : decode cX5_init 29 = .ok (.iconst 0, 1) := by decide +kernel
theorem dX5_init_30 : decode cX5_init 30 = .ok (.putfield 21, 3) := by decide +kernel
theorem dX5_init_33 : decode cX5_init 33 = .ok (.return_, 1) := by decide +kernel
theorem dX5_empty_0 : decode cX5_empty 0 = .ok (.aload_n 0, 1) := by decide +kernel
theorem dX5_empty_1 : decode cX5_empty 1 = .ok (.iconst 0, 1) := by decide +kernel
theorem dX5_empty_2 : decode cX5_empty 2 = .ok (.putfield 21, 3) := by decide +kernel
theorem dX5_empty_5 : decode cX5_empty 5 = .ok (.return_, 1) := by decide +kernel
theorem dX5_add_0 : decode cX5_add 0 = .ok (.aload_n 0, 1) := by decide +kernel
theorem dX5_add_1 : decode cX5_add 1 = .ok (.getfield 21, 3) := by decide +kernel
theorem dX5_add_4 : decode cX5_add 4 = .ok (.bipush 6, 2) := by decide +kernel
theorem dX5_add_6 : decode cX5_add 6 = .ok (.invokestatic 25, 3) := by decide +kernel
theorem dX5_add_9 : decode cX5_add 9 = .ok (.ifCond .ne 5, 3) := by decide +kernel
theorem dX5_add_12 : decode cX5_add 12 = .ok (.iconst 0, 1) := by decide +kernel
theorem dX5_add_13 : decode cX5_add 13 = .ok (.ireturn, 1) := by decide +kernel
theorem dX5_add_14 : decode cX5_add 14 = .ok (.aload_n 0, 1) := by decide +kernel
theorem dX5_add_15 : decode cX5_add 15 = .ok (.getfield 9, 3) := by decide +kernel
theorem dX5_add_18 : decode cX5_add 18 = .ok (.aload_n 0, 1) := by decide +kernel
theorem dX5_add_19 : decode cX5_add 19 = .ok (.getfield 21, 3) := by decide +kernel
theorem dX5_add_22 : decode cX5_add 22 = .ok (.iload_n 1, 1) := by decide +kernel
theorem dX5_add_23 : decode cX5_add 23 = .ok (.iastore, 1) := by decide +kernel
theorem dX5_add_24 : decode cX5_add 24 = .ok (.aload_n 0, 1) := by decide +kernel
theorem dX5_add_25 : decode cX5_add 25 = .ok (.getfield 15, 3) := by decide +kernel
theorem dX5_add_28 : decode cX5_add 28 = .ok (.aload_n 0, 1) := by decide +kernel
theorem dX5_add_29 : decode cX5_add 29 = .ok (.getfield 21, 3) := by decide +kernel
theorem dX5_add_32 : decode cX5_add 32 = .ok (.iload_n 2, 1) := by decide +kernel
theorem dX5_add_33 : decode cX5_add 33 = .ok (.iastore, 1) := by decide +kernel
theorem dX5_add_34 : decode cX5_add 34 = .ok (.aload_n 0, 1) := by decide +kernel
theorem dX5_add_35 : decode cX5_add 35 = .ok (.getfield 18, 3) := by decide +kernel
theorem dX5_add_38 : decode cX5_add 38 = .ok (.aload_n 0, 1) := by decide +kernel
theorem dX5_add_39 : decode cX5_add 39 = .ok (.getfield 21, 3) := by decide +kernel
theorem dX5_add_42 : decode cX5_add 42 = .ok (.iload_n 3, 1) := by decide +kernel
theorem dX5_add_43 : decode cX5_add 43 = .ok (.iastore, 1) := by decide +kernel
theorem dX5_add_44 : decode cX5_add 44 = .ok (.aload_n 0, 1) := by decide +kernel
theorem dX5_add_45 : decode cX5_add 45 = .ok (.dup, 1) := by decide +kernel
theorem dX5_add_46 : decode cX5_add 46 = .ok (.getfield 21, 3) := by decide +kernel
theorem dX5_add_49 : decode cX5_add 49 = .ok (.iconst 1, 1) := by decide +kernel
theorem dX5_add_50 : decode cX5_add 50 = .ok (.iadd, 1) := by decide +kernel
theorem dX5_add_51 : decode cX5_add 51 = .ok (.putfield 21, 3) := by decide +kernel
theorem dX5_add_54 : decode cX5_add 54 = .ok (.iconst 1, 1) := by decide +kernel
theorem dX5_add_55 : decode cX5_add 55 = .ok (.ireturn, 1) := by decide +kernel
theorem dX5_holdIn_0 : decode cX5_holdIn 0 = .ok (.iconst 0, 1) := by decide +kernel
theorem dX5_holdIn_1 : decode cX5_holdIn 1 = .ok (.istore_n 2, 1) := by decide +kernel
theorem dX5_holdIn_2 : decode cX5_holdIn 2 = .ok (.iload_n 2, 1) := by decide +kernel
theorem dX5_holdIn_3 : decode cX5_holdIn 3 = .ok (.aload_n 0, 1) := by decide +kernel
theorem dX5_holdIn_4 : decode cX5_holdIn 4 = .ok (.getfield 21, 3) := by decide +kernel
theorem dX5_holdIn_7 : decode cX5_holdIn 7 = .ok (.if_icmp .ge 36, 3) := by decide +kernel
theorem dX5_holdIn_10 : decode cX5_holdIn 10 = .ok (.aload_n 1, 1) := by decide +kernel
theorem dX5_holdIn_11 : decode cX5_holdIn 11 = .ok (.aload_n 0, 1) := by decide +kernel
theorem dX5_holdIn_12 : decode cX5_holdIn 12 = .ok (.getfield 9, 3) := by decide +kernel
theorem dX5_holdIn_15 : decode cX5_holdIn 15 = .ok (.iload_n 2, 1) := by decide +kernel
theorem dX5_holdIn_16 : decode cX5_holdIn 16 = .ok (.iaload, 1) := by decide +kernel
theorem dX5_holdIn_17 : decode cX5_holdIn 17 = .ok (.aload_n 0, 1) := by decide +kernel
theorem dX5_holdIn_18 : decode cX5_holdIn 18 = .ok (.getfield 15, 3) := by decide +kernel
theorem dX5_holdIn_21 : decode cX5_holdIn 21 = .ok (.iload_n 2, 1) := by decide +kernel
theorem dX5_holdIn_22 : decode cX5_holdIn 22 = .ok (.iaload, 1) := by decide +kernel
theorem dX5_holdIn_23 : decode cX5_holdIn 23 = .ok (.invokevirtual 29, 3) := by decide +kernel
theorem dX5_holdIn_26 : decode cX5_holdIn 26 = .ok (.aload_n 0, 1) := by decide +kernel
theorem dX5_holdIn_27 : decode cX5_holdIn 27 = .ok (.getfield 18, 3) := by decide +kernel
theorem dX5_holdIn_30 : decode cX5_holdIn 30 = .ok (.iload_n 2, 1) := by decide +kernel
theorem dX5_holdIn_31 : decode cX5_holdIn 31 = .ok (.iaload, 1) := by decide +kernel
theorem dX5_holdIn_32 : decode cX5_holdIn 32 = .ok (.if_icmp .eq 5, 3) := by decide +kernel
theorem dX5_holdIn_35 : decode cX5_holdIn 35 = .ok (.iconst 0, 1) := by decide +kernel
theorem dX5_holdIn_36 : decode cX5_holdIn 36 = .ok (.ireturn, 1) := by decide +kernel
theorem dX5_holdIn_37 : decode cX5_holdIn 37 = .ok (.iinc 2 1, 3) := by decide +kernel
theorem dX5_holdIn_40 : decode cX5_holdIn 40 = .ok (.goto (-38), 3) := by decide +kernel
theorem dX5_holdIn_43 : decode cX5_holdIn 43 = .ok (.iconst 1, 1) := by decide +kernel
theorem dX5_holdIn_44 : decode cX5_holdIn 44 = .ok (.ireturn, 1) := by decide +kernel
theorem dX6_init_0 : decode cX6_init 0 = .ok (.aload_n 0, 1) := by decide +kernel
theorem dX6_init_1 : decode cX6_init 1 = .ok (.invokespecial 3, 3) := by decide +kernel
theorem dX6_init_4 : decode cX6_init 4 = .ok (.aload_n 0, 1) := by decide +kernel
theorem dX6_init_5 : decode cX6_init 5 = .ok (.iconst 0, 1) := by decide +kernel
theorem dX6_init_6 : decode cX6_init 6 = .ok (.putfield 9, 3) := by decide +kernel
theorem dX6_init_9 : decode cX6_init 9 = .ok (.aload_n 0, 1) := by decide +kernel
theorem dX6_init_10 : decode cX6_init 10 = .ok (.bipush 8, 2) := by decide +kernel
theorem dX6_init_12 : decode cX6_init 12 = .ok (.newarray .int, 2) := by decide +kernel
theorem dX6_init_14 : decode cX6_init 14 = .ok (.putfield 15, 3) := by decide +kernel
theorem dX6_init_17 : decode cX6_init 17 = .ok (.aload_n 0, 1) := by decide +kernel
theorem dX6_init_18 : decode cX6_init 18 = .ok (.bipush 9, 2) := by decide +kernel
theorem dX6_init_20 : decode cX6_init 20 = .ok (.newarray .int, 2) := by decide +kernel
theorem dX6_init_22 : decode cX6_init 22 = .ok (.putfield 19, 3) := by decide +kernel
theorem dX6_init_25 : decode cX6_init 25 = .ok (.aload_n 0, 1) := by decide +kernel
theorem dX6_init_26 : decode cX6_init 26 = .ok (.bipush 36, 2) := by decide +kernel
theorem dX6_init_28 : decode cX6_init 28 = .ok (.newarray .int, 2) := by decide +kernel
theorem dX6_init_30 : decode cX6_init 30 = .ok (.putfield 22, 3) := by decide +kernel
theorem dX6_init_33 : decode cX6_init 33 = .ok (.aload_n 0, 1) := by decide +kernel
theorem dX6_init_34 : decode cX6_init 34 = .ok (.bipush 36, 2) := by decide +kernel
theorem dX6_init_36 : decode cX6_init 36 = .ok (.newarray .int, 2) := by decide +kernel
theorem dX6_init_38 : decode cX6_init 38 = .ok (.putfield 25, 3) := by decide +kernel
theorem dX6_init_41 : decode cX6_init 41 = .ok (.return_, 1) := by decide +kernel
theorem dX6_resolve_0 : decode cX6_resolve 0 = .ok (.aload_n 0, 1) := by decide +kernel
theorem dX6_resolve_1 : decode cX6_resolve 1 = .ok (.aload_n 1, 1) := by decide +kernel
theorem dX6_resolve_2 : decode cX6_resolve 2 = .ok (.getfield 28, 3) := by decide +kernel
theorem dX6_resolve_5 : decode cX6_resolve 5 = .ok (.putfield 9, 3) := by decide +kernel
theorem dX6_resolve_8 : decode cX6_resolve 8 = .ok (.iconst 0, 1) := by decide +kernel
theorem dX6_resolve_9 : decode cX6_resolve 9 = .ok (.istore_n 3, 1) := by decide +kernel
theorem dX6_resolve_10 : decode cX6_resolve 10 = .ok (.iload_n 3, 1) := by decide +kernel
theorem dX6_resolve_11 : decode cX6_resolve 11 = .ok (.aload_n 0, 1) := by decide +kernel
theorem dX6_resolve_12 : decode cX6_resolve 12 = .ok (.getfield 9, 3) := by decide +kernel
theorem dX6_resolve_15 : decode cX6_resolve 15 = .ok (.if_icmp .ge 16, 3) := by decide +kernel
theorem dX6_resolve_18 : decode cX6_resolve 18 = .ok (.aload_n 0, 1) := by decide +kernel
theorem dX6_resolve_19 : decode cX6_resolve 19 = .ok (.getfield 19, 3) := by decide +kernel
theorem dX6_resolve_22 : decode cX6_resolve 22 = .ok (.iload_n 3, 1) := by decide +kernel
theorem dX6_resolve_23 : decode cX6_resolve 23 = .ok (.iconst 0, 1) := by decide +kernel
theorem dX6_resolve_24 : decode cX6_resolve 24 = .ok (.iastore, 1) := by decide +kernel
theorem dX6_resolve_25 : decode cX6_resolve 25 = .ok (.iinc 3 1, 3) := by decide +kernel
theorem dX6_resolve_28 : decode cX6_resolve 28 = .ok (.goto (-18), 3) := by decide +kernel
theorem dX6_resolve_31 : decode cX6_resolve 31 = .ok (.iconst 0, 1) := by decide +kernel
theorem dX6_resolve_32 : decode cX6_resolve 32 = .ok (.istore_n 3, 1) := by decide +kernel
theorem dX6_resolve_33 : decode cX6_resolve 33 = .ok (.iload_n 3, 1) := by decide +kernel
theorem dX6_resolve_34 : decode cX6_resolve 34 = .ok (.aload_n 1, 1) := by decide +kernel
theorem dX6_resolve_35 : decode cX6_resolve 35 = .ok (.getfield 31, 3) := by decide +kernel
theorem dX6_resolve_38 : decode cX6_resolve 38 = .ok (.if_icmp .ge 43, 3) := by decide +kernel
theorem dX6_resolve_41 : decode cX6_resolve 41 = .ok (.aload_n 0, 1) := by decide +kernel
theorem dX6_resolve_42 : decode cX6_resolve 42 = .ok (.getfield 15, 3) := by decide +kernel
theorem dX6_resolve_45 : decode cX6_resolve 45 = .ok (.iload_n 3, 1) := by decide +kernel
theorem dX6_resolve_46 : decode cX6_resolve 46 = .ok (.aload_n 2, 1) := by decide +kernel
theorem dX6_resolve_47 : decode cX6_resolve 47 = .ok (.iload_n 3, 1) := by decide +kernel
theorem dX6_resolve_48 : decode cX6_resolve 48 = .ok (.invokevirtual 34, 3) := by decide +kernel
theorem dX6_resolve_51 : decode cX6_resolve 51 = .ok (.ifCond .eq 17, 3) := by decide +kernel
theorem dX6_resolve_54 : decode cX6_resolve 54 = .ok (.aload_n 1, 1) := by decide +kernel
theorem dX6_resolve_55 : decode cX6_resolve 55 = .ok (.aload_n 2, 1) := by decide +kernel
theorem dX6_resolve_56 : decode cX6_resolve 56 = .ok (.aload_n 1, 1) := by decide +kernel
theorem dX6_resolve_57 : decode cX6_resolve 57 = .ok (.getfield 40, 3) := by decide +kernel
theorem dX6_resolve_60 : decode cX6_resolve 60 = .ok (.iload_n 3, 1) := by decide +kernel
theorem dX6_resolve_61 : decode cX6_resolve 61 = .ok (.aaload, 1) := by decide +kernel
theorem dX6_resolve_62 : decode cX6_resolve 62 = .ok (.invokevirtual 44, 3) := by decide +kernel
theorem dX6_resolve_65 : decode cX6_resolve 65 = .ok (.goto 4, 3) := by decide +kernel
theorem dX6_resolve_68 : decode cX6_resolve 68 = .ok (.iconst 0, 1) := by decide +kernel
theorem dX6_resolve_69 : decode cX6_resolve 69 = .ok (.iastore, 1) := by decide +kernel
theorem dX6_resolve_70 : decode cX6_resolve 70 = .ok (.aload_n 0, 1) := by decide +kernel
theorem dX6_resolve_71 : decode cX6_resolve 71 = .ok (.iload_n 3, 1) := by decide +kernel
theorem dX6_resolve_72 : decode cX6_resolve 72 = .ok (.invokevirtual 48, 3) := by decide +kernel
theorem dX6_resolve_75 : decode cX6_resolve 75 = .ok (.iinc 3 1, 3) := by decide +kernel
theorem dX6_resolve_78 : decode cX6_resolve 78 = .ok (.goto (-45), 3) := by decide +kernel
theorem dX6_resolve_81 : decode cX6_resolve 81 = .ok (.iconst 0, 1) := by decide +kernel
theorem dX6_resolve_82 : decode cX6_resolve 82 = .ok (.istore_n 3, 1) := by decide +kernel
theorem dX6_resolve_83 : decode cX6_resolve 83 = .ok (.iload_n 3, 1) := by decide +kernel
theorem dX6_resolve_84 : decode cX6_resolve 84 = .ok (.aload_n 0, 1) := by decide +kernel
theorem dX6_resolve_85 : decode cX6_resolve 85 = .ok (.getfield 9, 3) := by decide +kernel
theorem dX6_resolve_88 : decode cX6_resolve 88 = .ok (.if_icmp .ge 32, 3) := by decide +kernel
theorem dX6_resolve_91 : decode cX6_resolve 91 = .ok (.iconst 0, 1) := by decide +kernel
theorem dX6_resolve_92 : decode cX6_resolve 92 = .ok (.istore 4, 2) := by decide +kernel
theorem dX6_resolve_94 : decode cX6_resolve 94 = .ok (.iload 4, 2) := by decide +kernel
theorem dX6_resolve_96 : decode cX6_resolve 96 = .ok (.iconst 4, 1) := by decide +kernel
theorem dX6_resolve_97 : decode cX6_resolve 97 = .ok (.if_icmp .ge 17, 3) := by decide +kernel
theorem dX6_resolve_100 : decode cX6_resolve 100 = .ok (.aload_n 0, 1) := by decide +kernel
theorem dX6_resolve_101 : decode cX6_resolve 101 = .ok (.aload_n 1, 1) := by decide +kernel
theorem dX6_resolve_102 : decode cX6_resolve 102 = .ok (.iload_n 3, 1) := by decide +kernel
theorem dX6_resolve_103 : decode cX6_resolve 103 = .ok (.iload 4, 2) := by decide +kernel
theorem dX6_resolve_105 : decode cX6_resolve 105 = .ok (.invokevirtual 52, 3) := by decide +kernel
theorem dX6_resolve_108 : decode cX6_resolve 108 = .ok (.iinc 4 1, 3) := by decide +kernel
theorem dX6_resolve_111 : decode cX6_resolve 111 = .ok (.goto (-17), 3) := by decide +kernel
theorem dX6_resolve_114 : decode cX6_resolve 114 = .ok (.iinc 3 1, 3) := by decide +kernel
theorem dX6_resolve_117 : decode cX6_resolve 117 = .ok (.goto (-34), 3) := by decide +kernel
theorem dX6_resolve_120 : decode cX6_resolve 120 = .ok (.return_, 1) := by decide +kernel
theorem dX6_noteRule_0 : decode cX6_noteRule 0 = .ok (.iconst 0, 1) := by decide +kernel
theorem dX6_noteRule_1 : decode cX6_noteRule 1 = .ok (.istore_n 2, 1) := by decide +kernel
theorem dX6_noteRule_2 : decode cX6_noteRule 2 = .ok (.iload_n 2, 1) := by decide +kernel
theorem dX6_noteRule_3 : decode cX6_noteRule 3 = .ok (.aload_n 0, 1) := by decide +kernel
theorem dX6_noteRule_4 : decode cX6_noteRule 4 = .ok (.getfield 9, 3) := by decide +kernel
theorem dX6_noteRule_7 : decode cX6_noteRule 7 = .ok (.if_icmp .ge 34, 3) := by decide +kernel
theorem dX6_noteRule_10 : decode cX6_noteRule 10 = .ok (.aload_n 0, 1) := by decide +kernel
theorem dX6_noteRule_11 : decode cX6_noteRule 11 = .ok (.getfield 15, 3) := by decide +kernel
theorem dX6_noteRule_14 : decode cX6_noteRule 14 = .ok (.iload_n 1, 1) := by decide +kernel
theorem dX6_noteRule_15 : decode cX6_noteRule 15 = .ok (.iaload, 1) := by decide +kernel
theorem dX6_noteRule_16 : decode cX6_noteRule 16 = .ok (.iload_n 2, 1) := by decide +kernel
theorem dX6_noteRule_17 : decode cX6_noteRule 17 = .ok (.invokestatic 56, 3) := by decide +kernel
theorem dX6_noteRule_20 : decode cX6_noteRule 20 = .ok (.ifCond .eq 15, 3) := by decide +kernel
theorem dX6_noteRule_23 : decode cX6_noteRule 23 = .ok (.aload_n 0, 1) := by decide +kernel
theorem dX6_noteRule_24 : decode cX6_noteRule 24 = .ok (.getfield 19, 3) := by decide +kernel
theorem dX6_noteRule_27 : decode cX6_noteRule 27 = .ok (.iload_n 2, 1) := by decide +kernel
theorem dX6_noteRule_28 : decode cX6_noteRule 28 = .ok (.dup2, 1) := by decide +kernel
theorem dX6_noteRule_29 : decode cX6_noteRule 29 = .ok (.iaload, 1) := by decide +kernel
theorem dX6_noteRule_30 : decode cX6_noteRule 30 = .ok (.iconst 1, 1) := by decide +kernel
theorem dX6_noteRule_31 : decode cX6_noteRule 31 = .ok (.iload_n 1, 1) := by decide +kernel
theorem dX6_noteRule_32 : decode cX6_noteRule 32 = .ok (.ishl, 1) := by decide +kernel
theorem dX6_noteRule_33 : decode cX6_noteRule 33 = .ok (.ior, 1) := by decide +kernel
theorem dX6_noteRule_34 : decode cX6_noteRule 34 = .ok (.iastore, 1) := by decide +kernel
theorem dX6_noteRule_35 : decode cX6_noteRule 35 = .ok (.iinc 2 1, 3) := by decide +kernel
theorem dX6_noteRule_38 : decode cX6_noteRule 38 = .ok (.goto (-36), 3) := by decide +kernel
theorem dX6_noteRule_41 : decode cX6_noteRule 41 = .ok (.return_, 1) := by decide +kernel
theorem dX6_settle_0 : decode cX6_settle 0 = .ok (.iconst 4, 1) := by decide +kernel
theorem dX6_settle_1 : decode cX6_settle 1 = .ok (.iload_n 2, 1) := by decide +kernel
theorem dX6_settle_2 : decode cX6_settle 2 = .ok (.imul, 1) := by decide +kernel
theorem dX6_settle_3 : decode cX6_settle 3 = .ok (.iload_n 3, 1) := by decide +kernel
theorem dX6_settle_4 : decode cX6_settle 4 = .ok (.iadd, 1) := by decide +kernel
theorem dX6_settle_5 : decode cX6_settle 5 = .ok (.istore 4, 2) := by decide +kernel
theorem dX6_settle_7 : decode cX6_settle 7 = .ok (.aload_n 1, 1) := by decide +kernel
theorem dX6_settle_8 : decode cX6_settle 8 = .ok (.aload_n 0, 1) := by decide +kernel
theorem dX6_settle_9 : decode cX6_settle 9 = .ok (.getfield 19, 3) := by decide +kernel
theorem dX6_settle_12 : decode cX6_settle 12 = .ok (.iload_n 2, 1) := by decide +kernel
theorem dX6_settle_13 : decode cX6_settle 13 = .ok (.iaload, 1) := by decide +kernel
theorem dX6_settle_14 : decode cX6_settle 14 = .ok (.iload_n 3, 1) := by decide +kernel
theorem dX6_settle_15 : decode cX6_settle 15 = .ok (.invokevirtual 60, 3) := by decide +kernel
theorem dX6_settle_18 : decode cX6_settle 18 = .ok (.istore 5, 2) := by decide +kernel
theorem dX6_settle_20 : decode cX6_settle 20 = .ok (.aload_n 1, 1) := by decide +kernel
theorem dX6_settle_21 : decode cX6_settle 21 = .ok (.getfield 64, 3) := by decide +kernel
theorem dX6_settle_24 : decode cX6_settle 24 = .ok (.iload_n 2, 1) := by decide +kernel
theorem dX6_settle_25 : decode cX6_settle 25 = .ok (.iaload, 1) := by decide +kernel
theorem dX6_settle_26 : decode cX6_settle 26 = .ok (.istore 6, 2) := by decide +kernel
theorem dX6_settle_28 : decode cX6_settle 28 = .ok (.iload 5, 2) := by decide +kernel
theorem dX6_settle_30 : decode cX6_settle 30 = .ok (.aload_n 1, 1) := by decide +kernel
theorem dX6_settle_31 : decode cX6_settle 31 = .ok (.getfield 31, 3) := by decide +kernel
theorem dX6_settle_34 : decode cX6_settle 34 = .ok (.invokestatic 67, 3) := by decide +kernel
theorem dX6_settle_37 : decode cX6_settle 37 = .ok (.ifCond .eq 33, 3) := by decide +kernel
theorem dX6_settle_40 : decode cX6_settle 40 = .ok (.aload_n 0, 1) := by decide +kernel
theorem dX6_settle_41 : decode cX6_settle 41 = .ok (.getfield 22, 3) := by decide +kernel
theorem dX6_settle_44 : decode cX6_settle 44 = .ok (.iload 4, 2) := by decide +kernel
theorem dX6_settle_46 : decode cX6_settle 46 = .ok (.aload_n 1, 1) := by decide +kernel
theorem dX6_settle_47 : decode cX6_settle 47 = .ok (.getfield 40, 3) := by decide +kernel
end
section
theorem dX6_settle_50 : decode cX6_settle 50 = .ok (.iload 5, 2) := by decide +kernel
theorem dX6_settle_52 : decode cX6_settle 52 = .ok (.aaload, 1) := by decide +kernel
theorem dX6_settle_53 : decode cX6_settle 53 = .ok (.getfield 70, 3) := by decide +kernel
theorem dX6_settle_56 : decode cX6_settle 56 = .ok (.iload_n 3, 1) := by decide +kernel
theorem dX6_settle_57 : decode cX6_settle 57 = .ok (.iaload, 1) := by decide +kernel
theorem dX6_settle_58 : decode cX6_settle 58 = .ok (.iastore, 1) := by decide +kernel
theorem dX6_settle_59 : decode cX6_settle 59 = .ok (.aload_n 0, 1) := by decide +kernel
theorem dX6_settle_60 : decode cX6_settle 60 = .ok (.getfield 25, 3) := by decide +kernel
theorem dX6_settle_63 : decode cX6_settle 63 = .ok (.iload 4, 2) := by decide +kernel
theorem dX6_settle_65 : decode cX6_settle 65 = .ok (.iload_n 2, 1) := by decide +kernel
theorem dX6_settle_66 : decode cX6_settle 66 = .ok (.iastore, 1) := by decide +kernel
theorem dX6_settle_67 : decode cX6_settle 67 = .ok (.goto 73, 3) := by decide +kernel
theorem dX6_settle_70 : decode cX6_settle 70 = .ok (.iload_n 3, 1) := by decide +kernel
theorem dX6_settle_71 : decode cX6_settle 71 = .ok (.iconst 2, 1) := by decide +kernel
theorem dX6_settle_72 : decode cX6_settle 72 = .ok (.if_icmp .ge 51, 3) := by decide +kernel
theorem dX6_settle_75 : decode cX6_settle 75 = .ok (.iload 6, 2) := by decide +kernel
theorem dX6_settle_77 : decode cX6_settle 77 = .ok (.iload_n 2, 1) := by decide +kernel
theorem dX6_settle_78 : decode cX6_settle 78 = .ok (.invokestatic 67, 3) := by decide +kernel
theorem dX6_settle_81 : decode cX6_settle 81 = .ok (.ifCond .eq 42, 3) := by decide +kernel
theorem dX6_settle_84 : decode cX6_settle 84 = .ok (.aload_n 0, 1) := by decide +kernel
theorem dX6_settle_85 : decode cX6_settle 85 = .ok (.getfield 22, 3) := by decide +kernel
theorem dX6_settle_88 : decode cX6_settle 88 = .ok (.iload 4, 2) := by decide +kernel
theorem dX6_settle_90 : decode cX6_settle 90 = .ok (.aload_n 0, 1) := by decide +kernel
theorem dX6_settle_91 : decode cX6_settle 91 = .ok (.getfield 22, 3) := by decide +kernel
theorem dX6_settle_94 : decode cX6_settle 94 = .ok (.iconst 4, 1) := by decide +kernel
theorem dX6_settle_95 : decode cX6_settle 95 = .ok (.iload 6, 2) := by decide +kernel
theorem dX6_settle_97 : decode cX6_settle 97 = .ok (.imul, 1) := by decide +kernel
theorem dX6_settle_98 : decode cX6_settle 98 = .ok (.iload_n 3, 1) := by decide +kernel
theorem dX6_settle_99 : decode cX6_settle 99 = .ok (.iadd, 1) := by decide +kernel
theorem dX6_settle_100 : decode cX6_settle 100 = .ok (.iaload, 1) := by decide +kernel
theorem dX6_settle_101 : decode cX6_settle 101 = .ok (.iastore, 1) := by decide +kernel
theorem dX6_settle_102 : decode cX6_settle 102 = .ok (.aload_n 0, 1) := by decide +kernel
theorem dX6_settle_103 : decode cX6_settle 103 = .ok (.getfield 25, 3) := by decide +kernel
theorem dX6_settle_106 : decode cX6_settle 106 = .ok (.iload 4, 2) := by decide +kernel
theorem dX6_settle_108 : decode cX6_settle 108 = .ok (.aload_n 0, 1) := by decide +kernel
theorem dX6_settle_109 : decode cX6_settle 109 = .ok (.getfield 25, 3) := by decide +kernel
theorem dX6_settle_112 : decode cX6_settle 112 = .ok (.iconst 4, 1) := by decide +kernel
theorem dX6_settle_113 : decode cX6_settle 113 = .ok (.iload 6, 2) := by decide +kernel
theorem dX6_settle_115 : decode cX6_settle 115 = .ok (.imul, 1) := by decide +kernel
theorem dX6_settle_116 : decode cX6_settle 116 = .ok (.iload_n 3, 1) := by decide +kernel
theorem dX6_settle_117 : decode cX6_settle 117 = .ok (.iadd, 1) := by decide +kernel
theorem dX6_settle_118 : decode cX6_settle 118 = .ok (.iaload, 1) := by decide +kernel
theorem dX6_settle_119 : decode cX6_settle 119 = .ok (.iastore, 1) := by decide +kernel
theorem dX6_settle_120 : decode cX6_settle 120 = .ok (.goto 20, 3) := by decide +kernel
theorem dX6_settle_123 : decode cX6_settle 123 = .ok (.aload_n 0, 1) := by decide +kernel
theorem dX6_settle_124 : decode cX6_settle 124 = .ok (.getfield 22, 3) := by decide +kernel
theorem dX6_settle_127 : decode cX6_settle 127 = .ok (.iload 4, 2) := by decide +kernel
theorem dX6_settle_129 : decode cX6_settle 129 = .ok (.iconst 0, 1) := by decide +kernel
theorem dX6_settle_130 : decode cX6_settle 130 = .ok (.iastore, 1) := by decide +kernel
theorem dX6_settle_131 : decode cX6_settle 131 = .ok (.aload_n 0, 1) := by decide +kernel
theorem dX6_settle_132 : decode cX6_settle 132 = .ok (.getfield 25, 3) := by decide +kernel
theorem dX6_settle_135 : decode cX6_settle 135 = .ok (.iload 4, 2) := by decide +kernel
theorem dX6_settle_137 : decode cX6_settle 137 = .ok (.bipush (-9), 2) := by decide +kernel
theorem dX6_settle_139 : decode cX6_settle 139 = .ok (.iastore, 1) := by decide +kernel
theorem dX6_settle_140 : decode cX6_settle 140 = .ok (.return_, 1) := by decide +kernel
theorem dX6_nodesOf_0 : decode cX6_nodesOf 0 = .ok (.iload_n 1, 1) := by decide +kernel
theorem dX6_nodesOf_1 : decode cX6_nodesOf 1 = .ok (.bipush 8, 2) := by decide +kernel
theorem dX6_nodesOf_3 : decode cX6_nodesOf 3 = .ok (.invokestatic 67, 3) := by decide +kernel
theorem dX6_nodesOf_6 : decode cX6_nodesOf 6 = .ok (.ifCond .eq 12, 3) := by decide +kernel
theorem dX6_nodesOf_9 : decode cX6_nodesOf 9 = .ok (.aload_n 0, 1) := by decide +kernel
theorem dX6_nodesOf_10 : decode cX6_nodesOf 10 = .ok (.getfield 15, 3) := by decide +kernel
theorem dX6_nodesOf_13 : decode cX6_nodesOf 13 = .ok (.iload_n 1, 1) := by decide +kernel
theorem dX6_nodesOf_14 : decode cX6_nodesOf 14 = .ok (.iaload, 1) := by decide +kernel
theorem dX6_nodesOf_15 : decode cX6_nodesOf 15 = .ok (.goto 4, 3) := by decide +kernel
theorem dX6_nodesOf_18 : decode cX6_nodesOf 18 = .ok (.iconst 0, 1) := by decide +kernel
theorem dX6_nodesOf_19 : decode cX6_nodesOf 19 = .ok (.ireturn, 1) := by decide +kernel
theorem dX6_rulesOf_0 : decode cX6_rulesOf 0 = .ok (.iload_n 1, 1) := by decide +kernel
theorem dX6_rulesOf_1 : decode cX6_rulesOf 1 = .ok (.aload_n 0, 1) := by decide +kernel
theorem dX6_rulesOf_2 : decode cX6_rulesOf 2 = .ok (.getfield 9, 3) := by decide +kernel
theorem dX6_rulesOf_5 : decode cX6_rulesOf 5 = .ok (.invokestatic 67, 3) := by decide +kernel
theorem dX6_rulesOf_8 : decode cX6_rulesOf 8 = .ok (.ifCond .eq 12, 3) := by decide +kernel
theorem dX6_rulesOf_11 : decode cX6_rulesOf 11 = .ok (.aload_n 0, 1) := by decide +kernel
theorem dX6_rulesOf_12 : decode cX6_rulesOf 12 = .ok (.getfield 19, 3) := by decide +kernel
theorem dX6_rulesOf_15 : decode cX6_rulesOf 15 = .ok (.iload_n 1, 1) := by decide +kernel
theorem dX6_rulesOf_16 : decode cX6_rulesOf 16 = .ok (.iaload, 1) := by decide +kernel
theorem dX6_rulesOf_17 : decode cX6_rulesOf 17 = .ok (.goto 4, 3) := by decide +kernel
theorem dX6_rulesOf_20 : decode cX6_rulesOf 20 = .ok (.iconst 0, 1) := by decide +kernel
theorem dX6_rulesOf_21 : decode cX6_rulesOf 21 = .ok (.ireturn, 1) := by decide +kernel
theorem dX6_valueAt_0 : decode cX6_valueAt 0 = .ok (.iload_n 1, 1) := by decide +kernel
theorem dX6_valueAt_1 : decode cX6_valueAt 1 = .ok (.aload_n 0, 1) := by decide +kernel
theorem dX6_valueAt_2 : decode cX6_valueAt 2 = .ok (.getfield 9, 3) := by decide +kernel
theorem dX6_valueAt_5 : decode cX6_valueAt 5 = .ok (.invokestatic 67, 3) := by decide +kernel
theorem dX6_valueAt_8 : decode cX6_valueAt 8 = .ok (.ifCond .eq 24, 3) := by decide +kernel
theorem dX6_valueAt_11 : decode cX6_valueAt 11 = .ok (.iload_n 2, 1) := by decide +kernel
theorem dX6_valueAt_12 : decode cX6_valueAt 12 = .ok (.iconst 4, 1) := by decide +kernel
theorem dX6_valueAt_13 : decode cX6_valueAt 13 = .ok (.invokestatic 67, 3) := by decide +kernel
theorem dX6_valueAt_16 : decode cX6_valueAt 16 = .ok (.ifCond .eq 16, 3) := by decide +kernel
theorem dX6_valueAt_19 : decode cX6_valueAt 19 = .ok (.aload_n 0, 1) := by decide +kernel
theorem dX6_valueAt_20 : decode cX6_valueAt 20 = .ok (.getfield 22, 3) := by decide +kernel
theorem dX6_valueAt_23 : decode cX6_valueAt 23 = .ok (.iconst 4, 1) := by decide +kernel
theorem dX6_valueAt_24 : decode cX6_valueAt 24 = .ok (.iload_n 1, 1) := by decide +kernel
theorem dX6_valueAt_25 : decode cX6_valueAt 25 = .ok (.imul, 1) := by decide +kernel
theorem dX6_valueAt_26 : decode cX6_valueAt 26 = .ok (.iload_n 2, 1) := by decide +kernel
theorem dX6_valueAt_27 : decode cX6_valueAt 27 = .ok (.iadd, 1) := by decide +kernel
theorem dX6_valueAt_28 : decode cX6_valueAt 28 = .ok (.iaload, 1) := by decide +kernel
theorem dX6_valueAt_29 : decode cX6_valueAt 29 = .ok (.goto 4, 3) := by decide +kernel
theorem dX6_valueAt_32 : decode cX6_valueAt 32 = .ok (.iconst 0, 1) := by decide +kernel
theorem dX6_valueAt_33 : decode cX6_valueAt 33 = .ok (.ireturn, 1) := by decide +kernel
theorem dX6_sourceAt_0 : decode cX6_sourceAt 0 = .ok (.iload_n 1, 1) := by decide +kernel
theorem dX6_sourceAt_1 : decode cX6_sourceAt 1 = .ok (.aload_n 0, 1) := by decide +kernel
theorem dX6_sourceAt_2 : decode cX6_sourceAt 2 = .ok (.getfield 9, 3) := by decide +kernel
theorem dX6_sourceAt_5 : decode cX6_sourceAt 5 = .ok (.invokestatic 67, 3) := by decide +kernel
theorem dX6_sourceAt_8 : decode cX6_sourceAt 8 = .ok (.ifCond .eq 24, 3) := by decide +kernel
theorem dX6_sourceAt_11 : decode cX6_sourceAt 11 = .ok (.iload_n 2, 1) := by decide +kernel
theorem dX6_sourceAt_12 : decode cX6_sourceAt 12 = .ok (.iconst 4, 1) := by decide +kernel
theorem dX6_sourceAt_13 : decode cX6_sourceAt 13 = .ok (.invokestatic 67, 3) := by decide +kernel
theorem dX6_sourceAt_16 : decode cX6_sourceAt 16 = .ok (.ifCond .eq 16, 3) := by decide +kernel
theorem dX6_sourceAt_19 : decode cX6_sourceAt 19 = .ok (.aload_n 0, 1) := by decide +kernel
theorem dX6_sourceAt_20 : decode cX6_sourceAt 20 = .ok (.getfield 25, 3) := by decide +kernel
theorem dX6_sourceAt_23 : decode cX6_sourceAt 23 = .ok (.iconst 4, 1) := by decide +kernel
theorem dX6_sourceAt_24 : decode cX6_sourceAt 24 = .ok (.iload_n 1, 1) := by decide +kernel
theorem dX6_sourceAt_25 : decode cX6_sourceAt 25 = .ok (.imul, 1) := by decide +kernel
theorem dX6_sourceAt_26 : decode cX6_sourceAt 26 = .ok (.iload_n 2, 1) := by decide +kernel
theorem dX6_sourceAt_27 : decode cX6_sourceAt 27 = .ok (.iadd, 1) := by decide +kernel
theorem dX6_sourceAt_28 : decode cX6_sourceAt 28 = .ok (.iaload, 1) := by decide +kernel
theorem dX6_sourceAt_29 : decode cX6_sourceAt 29 = .ok (.goto 5, 3) := by decide +kernel
theorem dX6_sourceAt_32 : decode cX6_sourceAt 32 = .ok (.bipush (-9), 2) := by decide +kernel
theorem dX6_sourceAt_34 : decode cX6_sourceAt 34 = .ok (.ireturn, 1) := by decide +kernel
theorem dX6_styleOf_0 : decode cX6_styleOf 0 = .ok (.iconst 0, 1) := by decide +kernel
theorem dX6_styleOf_1 : decode cX6_styleOf 1 = .ok (.istore_n 2, 1) := by decide +kernel
theorem dX6_styleOf_2 : decode cX6_styleOf 2 = .ok (.iconst 0, 1) := by decide +kernel
theorem dX6_styleOf_3 : decode cX6_styleOf 3 = .ok (.istore_n 3, 1) := by decide +kernel
theorem dX6_styleOf_4 : decode cX6_styleOf 4 = .ok (.iload_n 3, 1) := by decide +kernel
theorem dX6_styleOf_5 : decode cX6_styleOf 5 = .ok (.iconst 4, 1) := by decide +kernel
theorem dX6_styleOf_6 : decode cX6_styleOf 6 = .ok (.if_icmp .ge 21, 3) := by decide +kernel
theorem dX6_styleOf_9 : decode cX6_styleOf 9 = .ok (.bipush 10, 2) := by decide +kernel
theorem dX6_styleOf_11 : decode cX6_styleOf 11 = .ok (.iload_n 2, 1) := by decide +kernel
theorem dX6_styleOf_12 : decode cX6_styleOf 12 = .ok (.imul, 1) := by decide +kernel
theorem dX6_styleOf_13 : decode cX6_styleOf 13 = .ok (.aload_n 0, 1) := by decide +kernel
theorem dX6_styleOf_14 : decode cX6_styleOf 14 = .ok (.iload_n 1, 1) := by decide +kernel
theorem dX6_styleOf_15 : decode cX6_styleOf 15 = .ok (.iload_n 3, 1) := by decide +kernel
theorem dX6_styleOf_16 : decode cX6_styleOf 16 = .ok (.invokevirtual 73, 3) := by decide +kernel
theorem dX6_styleOf_19 : decode cX6_styleOf 19 = .ok (.iadd, 1) := by decide +kernel
theorem dX6_styleOf_20 : decode cX6_styleOf 20 = .ok (.istore_n 2, 1) := by decide +kernel
theorem dX6_styleOf_21 : decode cX6_styleOf 21 = .ok (.iinc 3 1, 3) := by decide +kernel
theorem dX6_styleOf_24 : decode cX6_styleOf 24 = .ok (.goto (-20), 3) := by decide +kernel
theorem dX6_styleOf_27 : decode cX6_styleOf 27 = .ok (.iload_n 2, 1) := by decide +kernel
theorem dX6_styleOf_28 : decode cX6_styleOf 28 = .ok (.ireturn, 1) := by decide +kernel
theorem dX6_recordOf_0 : decode cX6_recordOf 0 = .ok (.aload_n 0, 1) := by decide +kernel
theorem dX6_recordOf_1 : decode cX6_recordOf 1 = .ok (.iload_n 1, 1) := by decide +kernel
theorem dX6_recordOf_2 : decode cX6_recordOf 2 = .ok (.invokevirtual 76, 3) := by decide +kernel
theorem dX6_recordOf_5 : decode cX6_recordOf 5 = .ok (.istore_n 2, 1) := by decide +kernel
theorem dX6_recordOf_6 : decode cX6_recordOf 6 = .ok (.iconst 0, 1) := by decide +kernel
theorem dX6_recordOf_7 : decode cX6_recordOf 7 = .ok (.istore_n 3, 1) := by decide +kernel
theorem dX6_recordOf_8 : decode cX6_recordOf 8 = .ok (.iload_n 3, 1) := by decide +kernel
theorem dX6_recordOf_9 : decode cX6_recordOf 9 = .ok (.iload_n 1, 1) := by decide +kernel
theorem dX6_recordOf_10 : decode cX6_recordOf 10 = .ok (.if_icmp .ge 20, 3) := by decide +kernel
theorem dX6_recordOf_13 : decode cX6_recordOf 13 = .ok (.aload_n 0, 1) := by decide +kernel
theorem dX6_recordOf_14 : decode cX6_recordOf 14 = .ok (.iload_n 3, 1) := by decide +kernel
theorem dX6_recordOf_15 : decode cX6_recordOf 15 = .ok (.invokevirtual 76, 3) := by decide +kernel
theorem dX6_recordOf_18 : decode cX6_recordOf 18 = .ok (.iload_n 2, 1) := by decide +kernel
theorem dX6_recordOf_19 : decode cX6_recordOf 19 = .ok (.if_icmp .ne 5, 3) := by decide +kernel
theorem dX6_recordOf_22 : decode cX6_recordOf 22 = .ok (.iload_n 3, 1) := by decide +kernel
theorem dX6_recordOf_23 : decode cX6_recordOf 23 = .ok (.ireturn, 1) := by decide +kernel
theorem dX6_recordOf_24 : decode cX6_recordOf 24 = .ok (.iinc 3 1, 3) := by decide +kernel
theorem dX6_recordOf_27 : decode cX6_recordOf 27 = .ok (.goto (-19), 3) := by decide +kernel
theorem dX6_recordOf_30 : decode cX6_recordOf 30 = .ok (.iload_n 1, 1) := by decide +kernel
theorem dX6_recordOf_31 : decode cX6_recordOf 31 = .ok (.ireturn, 1) := by decide +kernel
theorem dX6_unlikeStyles_0 : decode cX6_unlikeStyles 0 = .ok (.iconst 0, 1) := by decide +kernel
theorem dX6_unlikeStyles_1 : decode cX6_unlikeStyles 1 = .ok (.istore_n 1, 1) := by decide +kernel
theorem dX6_unlikeStyles_2 : decode cX6_unlikeStyles 2 = .ok (.iconst 0, 1) := by decide +kernel
theorem dX6_unlikeStyles_3 : decode cX6_unlikeStyles 3 = .ok (.istore_n 2, 1) := by decide +kernel
theorem dX6_unlikeStyles_4 : decode cX6_unlikeStyles 4 = .ok (.iload_n 2, 1) := by decide +kernel
theorem dX6_unlikeStyles_5 : decode cX6_unlikeStyles 5 = .ok (.aload_n 0, 1) := by decide +kernel
theorem dX6_unlikeStyles_6 : decode cX6_unlikeStyles 6 = .ok (.getfield 9, 3) := by decide +kernel
theorem dX6_unlikeStyles_9 : decode cX6_unlikeStyles 9 = .ok (.if_icmp .ge 21, 3) := by decide +kernel
theorem dX6_unlikeStyles_12 : decode cX6_unlikeStyles 12 = .ok (.aload_n 0, 1) := by decide +kernel
theorem dX6_unlikeStyles_13 : decode cX6_unlikeStyles 13 = .ok (.iload_n 2, 1) := by decide +kernel
theorem dX6_unlikeStyles_14 : decode cX6_unlikeStyles 14 = .ok (.invokevirtual 80, 3) := by decide +kernel
theorem dX6_unlikeStyles_17 : decode cX6_unlikeStyles 17 = .ok (.iload_n 2, 1) := by decide +kernel
theorem dX6_unlikeStyles_18 : decode cX6_unlikeStyles 18 = .ok (.if_icmp .ne 6, 3) := by decide +kernel
theorem dX6_unlikeStyles_21 : decode cX6_unlikeStyles 21 = .ok (.iinc 1 1, 3) := by decide +kernel
theorem dX6_unlikeStyles_24 : decode cX6_unlikeStyles 24 = .ok (.iinc 2 1, 3) := by decide +kernel
theorem dX6_unlikeStyles_27 : decode cX6_unlikeStyles 27 = .ok (.goto (-23), 3) := by decide +kernel
theorem dX6_unlikeStyles_30 : decode cX6_unlikeStyles 30 = .ok (.iload_n 1, 1) := by decide +kernel
theorem dX6_unlikeStyles_31 : decode cX6_unlikeStyles 31 = .ok (.ireturn, 1) := by decide +kernel
theorem dX6_differences_0 : decode cX6_differences 0 = .ok (.iconst 0, 1) := by decide +kernel
theorem dX6_differences_1 : decode cX6_differences 1 = .ok (.istore_n 2, 1) := by decide +kernel
theorem dX6_differences_2 : decode cX6_differences 2 = .ok (.iconst 0, 1) := by decide +kernel
theorem dX6_differences_3 : decode cX6_differences 3 = .ok (.istore_n 3, 1) := by decide +kernel
theorem dX6_differences_4 : decode cX6_differences 4 = .ok (.iload_n 3, 1) := by decide +kernel
theorem dX6_differences_5 : decode cX6_differences 5 = .ok (.aload_n 0, 1) := by decide +kernel
theorem dX6_differences_6 : decode cX6_differences 6 = .ok (.getfield 9, 3) := by decide +kernel
theorem dX6_differences_9 : decode cX6_differences 9 = .ok (.if_icmp .ge 28, 3) := by decide +kernel
theorem dX6_differences_12 : decode cX6_differences 12 = .ok (.aload_n 0, 1) := by decide +kernel
theorem dX6_differences_13 : decode cX6_differences 13 = .ok (.iload_n 3, 1) := by decide +kernel
theorem dX6_differences_14 : decode cX6_differences 14 = .ok (.invokevirtual 76, 3) := by decide +kernel
theorem dX6_differences_17 : decode cX6_differences 17 = .ok (.aload_n 1, 1) := by decide +kernel
theorem dX6_differences_18 : decode cX6_differences 18 = .ok (.iload_n 3, 1) := by decide +kernel
theorem dX6_differences_19 : decode cX6_differences 19 = .ok (.invokevirtual 76, 3) := by decide +kernel
theorem dX6_differences_22 : decode cX6_differences 22 = .ok (.if_icmp .eq 9, 3) := by decide +kernel
theorem dX6_differences_25 : decode cX6_differences 25 = .ok (.iload_n 2, 1) := by decide +kernel
theorem dX6_differences_26 : decode cX6_differences 26 = .ok (.iconst 1, 1) := by decide +kernel
theorem dX6_differences_27 : decode cX6_differences 27 = .ok (.iload_n 3, 1) := by decide +kernel
theorem dX6_differences_28 : decode cX6_differences 28 = .ok (.ishl, 1) := by decide +kernel
theorem dX6_differences_29 : decode cX6_differences 29 = .ok (.ior, 1) := by decide +kernel
theorem dX6_differences_30 : decode cX6_differences 30 = .ok (.istore_n 2, 1) := by decide +kernel
theorem dX6_differences_31 : decode cX6_differences 31 = .ok (.iinc 3 1, 3) := by decide +kernel
theorem dX6_differences_34 : decode cX6_differences 34 = .ok (.goto (-30), 3) := by decide +kernel
theorem dX6_differences_37 : decode cX6_differences 37 = .ok (.iload_n 2, 1) := by decide +kernel
theorem dX6_differences_38 : decode cX6_differences 38 = .ok (.ireturn, 1) := by decide +kernel
theorem dX7_init_0 : decode cX7_init 0 = .ok (.aload_n 0, 1) := by decide +kernel
theorem dX7_init_1 : decode cX7_init 1 = .ok (.invokespecial 1, 3) := by decide +kernel
theorem dX7_init_4 : decode cX7_init 4 = .ok (.aload_n 0, 1) := by decide +kernel
theorem dX7_init_5 : decode cX7_init 5 = .ok (.bipush 120, 2) := by decide +kernel
theorem dX7_init_7 : decode cX7_init 7 = .ok (.newarray .char, 2) := by decide +kernel
theorem dX7_init_9 : decode cX7_init 9 = .ok (.putfield 9, 3) := by decide +kernel
theorem dX7_init_12 : decode cX7_init 12 = .ok (.aload_n 0, 1) := by decide +kernel
theorem dX7_init_13 : decode cX7_init 13 = .ok (.iconst 0, 1) := by decide +kernel
theorem dX7_init_14 : decode cX7_init 14 = .ok (.putfield 13, 3) := by decide +kernel
theorem dX7_init_17 : decode cX7_init 17 = .ok (.aload_n 0, 1) := by decide +kernel
theorem dX7_init_18 : decode cX7_init 18 = .ok (.new 17, 3) := by decide +kernel
theorem dX7_init_21 : decode cX7_init 21 = .ok (.dup, 1) := by decide +kernel
theorem dX7_init_22 : decode cX7_init 22 = .ok (.invokespecial 19, 3) := by decide +kernel
theorem dX7_init_25 : decode cX7_init 25 = .ok (.putfield 20, 3) := by decide +kernel
theorem dX7_init_28 : decode cX7_init 28 = .ok (.aload_n 0, 1) := by decide +kernel
theorem dX7_init_29 : decode cX7_init 29 = .ok (.new 24, 3) := by decide +kernel
theorem dX7_init_32 : decode cX7_init 32 = .ok (.dup, 1) := by decide +kernel
theorem dX7_init_33 : decode cX7_init 33 = .ok (.invokespecial 26, 3) := by decide +kernel
theorem dX7_init_36 : decode cX7_init 36 = .ok (.putfield 27, 3) := by decide +kernel
theorem dX7_init_39 : decode cX7_init 39 = .ok (.aload_n 0, 1) := by decide +kernel
theorem dX7_init_40 : decode cX7_init 40 = .ok (.new 31, 3) := by decide +kernel
theorem dX7_init_43 : decode cX7_init 43 = .ok (.dup, 1) := by decide +kernel
theorem dX7_init_44 : decode cX7_init 44 = .ok (.invokespecial 33, 3) := by decide +kernel
theorem dX7_init_47 : decode cX7_init 47 = .ok (.putfield 34, 3) := by decide +kernel
theorem dX7_init_50 : decode cX7_init 50 = .ok (.aload_n 0, 1) := by decide +kernel
theorem dX7_init_51 : decode cX7_init 51 = .ok (.new 31, 3) := by decide +kernel
theorem dX7_init_54 : decode cX7_init 54 = .ok (.dup, 1) := by decide +kernel
theorem dX7_init_55 : decode cX7_init 55 = .ok (.invokespecial 33, 3) := by decide +kernel
theorem dX7_init_58 : decode cX7_init 58 = .ok (.putfield 38, 3) := by decide +kernel
theorem dX7_init_61 : decode cX7_init 61 = .ok (.aload_n 0, 1) := by decide +kernel
theorem dX7_init_62 : decode cX7_init 62 = .ok (.new 41, 3) := by decide +kernel
theorem dX7_init_65 : decode cX7_init 65 = .ok (.dup, 1) := by decide +kernel
theorem dX7_init_66 : decode cX7_init 66 = .ok (.invokespecial 43, 3) := by decide +kernel
theorem dX7_init_69 : decode cX7_init 69 = .ok (.putfield 44, 3) := by decide +kernel
theorem dX7_init_72 : decode cX7_init 72 = .ok (.aload_n 0, 1) := by decide +kernel
theorem dX7_init_73 : decode cX7_init 73 = .ok (.new 41, 3) := by decide +kernel
theorem dX7_init_76 : decode cX7_init 76 = .ok (.dup, 1) := by decide +kernel
theorem dX7_init_77 : decode cX7_init 77 = .ok (.invokespecial 43, 3) := by decide +kernel
theorem dX7_init_80 : decode cX7_init 80 = .ok (.putfield 48, 3) := by decide +kernel
theorem dX7_init_83 : decode cX7_init 83 = .ok (.aload_n 0, 1) := by decide +kernel
theorem dX7_init_84 : decode cX7_init 84 = .ok (.new 51, 3) := by decide +kernel
theorem dX7_init_87 : decode cX7_init 87 = .ok (.dup, 1) := by decide +kernel
theorem dX7_init_88 : decode cX7_init 88 = .ok (.invokespecial 53, 3) := by decide +kernel
theorem dX7_init_91 : decode cX7_init 91 = .ok (.putfield 54, 3) := by decide +kernel
theorem dX7_init_94 : decode cX7_init 94 = .ok (.aload_n 0, 1) := by decide +kernel
theorem dX7_init_95 : decode cX7_init 95 = .ok (.new 58, 3) := by decide +kernel
theorem dX7_init_98 : decode cX7_init 98 = .ok (.dup, 1) := by decide +kernel
theorem dX7_init_99 : decode cX7_init 99 = .ok (.invokespecial 60, 3) := by decide +kernel
theorem dX7_init_102 : decode cX7_init 102 = .ok (.putfield 61, 3) := by decide +kernel
theorem dX7_init_105 : decode cX7_init 105 = .ok (.aload_n 0, 1) := by decide +kernel
theorem dX7_init_106 : decode cX7_init 106 = .ok (.iconst 2, 1) := by decide +kernel
theorem dX7_init_107 : decode cX7_init 107 = .ok (.anewarray 31, 3) := by decide +kernel
theorem dX7_init_110 : decode cX7_init 110 = .ok (.putfield 65, 3) := by decide +kernel
theorem dX7_init_113 : decode cX7_init 113 = .ok (.aload_n 0, 1) := by decide +kernel
theorem dX7_init_114 : decode cX7_init 114 = .ok (.iconst 0, 1) := by decide +kernel
theorem dX7_init_115 : decode cX7_init 115 = .ok (.putfield 69, 3) := by decide +kernel
theorem dX7_init_118 : decode cX7_init 118 = .ok (.aload_n 0, 1) := by decide +kernel
theorem dX7_init_119 : decode cX7_init 119 = .ok (.bipush 36, 2) := by decide +kernel
theorem dX7_init_121 : decode cX7_init 121 = .ok (.newarray .int, 2) := by decide +kernel
theorem dX7_init_123 : decode cX7_init 123 = .ok (.putfield 72, 3) := by decide +kernel
theorem dX7_init_126 : decode cX7_init 126 = .ok (.iconst 0, 1) := by decide +kernel
theorem dX7_init_127 : decode cX7_init 127 = .ok (.istore_n 1, 1) := by decide +kernel
theorem dX7_init_128 : decode cX7_init 128 = .ok (.iload_n 1, 1) := by decide +kernel
theorem dX7_init_129 : decode cX7_init 129 = .ok (.iconst 2, 1) := by decide +kernel
theorem dX7_init_130 : decode cX7_init 130 = .ok (.if_icmp .ge 22, 3) := by decide +kernel
theorem dX7_init_133 : decode cX7_init 133 = .ok (.aload_n 0, 1) := by decide +kernel
theorem dX7_init_134 : decode cX7_init 134 = .ok (.getfield 65, 3) := by decide +kernel
theorem dX7_init_137 : decode cX7_init 137 = .ok (.iload_n 1, 1) := by decide +kernel
theorem dX7_init_138 : decode cX7_init 138 = .ok (.new 31, 3) := by decide +kernel
theorem dX7_init_141 : decode cX7_init 141 = .ok (.dup, 1) := by decide +kernel
theorem dX7_init_142 : decode cX7_init 142 = .ok (.invokespecial 33, 3) := by decide +kernel
theorem dX7_init_145 : decode cX7_init 145 = .ok (.aastore, 1) := by decide +kernel
theorem dX7_init_146 : decode cX7_init 146 = .ok (.iinc 1 1, 3) := by decide +kernel
theorem dX7_init_149 : decode cX7_init 149 = .ok (.goto (-21), 3) := by decide +kernel
theorem dX7_init_152 : decode cX7_init 152 = .ok (.return_, 1) := by decide +kernel
theorem dX7_type_0 : decode cX7_type 0 = .ok (.iload_n 1, 1) := by decide +kernel
theorem dX7_type_1 : decode cX7_type 1 = .ok (.sipush 256, 3) := by decide +kernel
theorem dX7_type_4 : decode cX7_type 4 = .ok (.invokestatic 76, 3) := by decide +kernel
theorem dX7_type_7 : decode cX7_type 7 = .ok (.ifCond .ne 6, 3) := by decide +kernel
theorem dX7_type_10 : decode cX7_type 10 = .ok (.bipush (-2), 2) := by decide +kernel
theorem dX7_type_12 : decode cX7_type 12 = .ok (.ireturn, 1) := by decide +kernel
theorem dX7_type_13 : decode cX7_type 13 = .ok (.aload_n 0, 1) := by decide +kernel
theorem dX7_type_14 : decode cX7_type 14 = .ok (.getfield 13, 3) := by decide +kernel
theorem dX7_type_17 : decode cX7_type 17 = .ok (.bipush 120, 2) := by decide +kernel
theorem dX7_type_19 : decode cX7_type 19 = .ok (.invokestatic 76, 3) := by decide +kernel
theorem dX7_type_22 : decode cX7_type 22 = .ok (.ifCond .ne 6, 3) := by decide +kernel
theorem dX7_type_25 : decode cX7_type 25 = .ok (.bipush (-4), 2) := by decide +kernel
theorem dX7_type_27 : decode cX7_type 27 = .ok (.ireturn, 1) := by decide +kernel
theorem dX7_type_28 : decode cX7_type 28 = .ok (.aload_n 0, 1) := by decide +kernel
theorem dX7_type_29 : decode cX7_type 29 = .ok (.getfield 9, 3) := by decide +kernel
theorem dX7_type_32 : decode cX7_type 32 = .ok (.aload_n 0, 1) := by decide +kernel
theorem dX7_type_33 : decode cX7_type 33 = .ok (.getfield 13, 3) := by decide +kernel
theorem dX7_type_36 : decode cX7_type 36 = .ok (.iload_n 1, 1) := by decide +kernel
theorem dX7_type_37 : decode cX7_type 37 = .ok (.i2c, 1) := by decide +kernel
theorem dX7_type_38 : decode cX7_type 38 = .ok (.castore, 1) := by decide +kernel
theorem dX7_type_39 : decode cX7_type 39 = .ok (.aload_n 0, 1) := by decide +kernel
theorem dX7_type_40 : decode cX7_type 40 = .ok (.dup, 1) := by decide +kernel
theorem dX7_type_41 : decode cX7_type 41 = .ok (.getfield 13, 3) := by decide +kernel
theorem dX7_type_44 : decode cX7_type 44 = .ok (.iconst 1, 1) := by decide +kernel
theorem dX7_type_45 : decode cX7_type 45 = .ok (.iadd, 1) := by decide +kernel
theorem dX7_type_46 : decode cX7_type 46 = .ok (.putfield 13, 3) := by decide +kernel
theorem dX7_type_49 : decode cX7_type 49 = .ok (.aload_n 0, 1) := by decide +kernel
theorem dX7_type_50 : decode cX7_type 50 = .ok (.getfield 13, 3) := by decide +kernel
theorem dX7_type_53 : decode cX7_type 53 = .ok (.ireturn, 1) := by decide +kernel
theorem dX7_clear_0 : decode cX7_clear 0 = .ok (.aload_n 0, 1) := by decide +kernel
theorem dX7_clear_1 : decode cX7_clear 1 = .ok (.getfield 13, 3) := by decide +kernel
theorem dX7_clear_4 : decode cX7_clear 4 = .ok (.istore_n 1, 1) := by decide +kernel
theorem dX7_clear_5 : decode cX7_clear 5 = .ok (.aload_n 0, 1) := by decide +kernel
theorem dX7_clear_6 : decode cX7_clear 6 = .ok (.iconst 0, 1) := by decide +kernel
theorem dX7_clear_7 : decode cX7_clear 7 = .ok (.putfield 13, 3) := by decide +kernel
theorem dX7_clear_10 : decode cX7_clear 10 = .ok (.iload_n 1, 1) := by decide +kernel
theorem dX7_clear_11 : decode cX7_clear 11 = .ok (.ireturn, 1) := by decide +kernel
theorem dX7_page_0 : decode cX7_page 0 = .ok (.aload_n 0, 1) := by decide +kernel
theorem dX7_page_1 : decode cX7_page 1 = .ok (.getfield 20, 3) := by decide +kernel
theorem dX7_page_4 : decode cX7_page 4 = .ok (.aload_n 0, 1) := by decide +kernel
theorem dX7_page_5 : decode cX7_page 5 = .ok (.getfield 9, 3) := by decide +kernel
theorem dX7_page_8 : decode cX7_page 8 = .ok (.aload_n 0, 1) := by decide +kernel
theorem dX7_page_9 : decode cX7_page 9 = .ok (.getfield 13, 3) := by decide +kernel
theorem dX7_page_12 : decode cX7_page 12 = .ok (.invokevirtual 80, 3) := by decide +kernel
theorem dX7_page_15 : decode cX7_page 15 = .ok (.istore_n 1, 1) := by decide +kernel
theorem dX7_page_16 : decode cX7_page 16 = .ok (.iload_n 1, 1) := by decide +kernel
theorem dX7_page_17 : decode cX7_page 17 = .ok (.bipush (-9), 2) := by decide +kernel
theorem dX7_page_19 : decode cX7_page 19 = .ok (.if_icmp .ne 14, 3) := by decide +kernel
theorem dX7_page_22 : decode cX7_page 22 = .ok (.bipush (-10), 2) := by decide +kernel
theorem dX7_page_24 : decode cX7_page 24 = .ok (.aload_n 0, 1) := by decide +kernel
theorem dX7_page_25 : decode cX7_page 25 = .ok (.getfield 20, 3) := by decide +kernel
theorem dX7_page_28 : decode cX7_page 28 = .ok (.invokevirtual 84, 3) := by decide +kernel
theorem dX7_page_31 : decode cX7_page 31 = .ok (.isub, 1) := by decide +kernel
theorem dX7_page_32 : decode cX7_page 32 = .ok (.ireturn, 1) := by decide +kernel
theorem dX7_page_33 : decode cX7_page 33 = .ok (.aload_n 0, 1) := by decide +kernel
theorem dX7_page_34 : decode cX7_page 34 = .ok (.aload_n 0, 1) := by decide +kernel
theorem dX7_page_35 : decode cX7_page 35 = .ok (.getfield 20, 3) := by decide +kernel
theorem dX7_page_38 : decode cX7_page 38 = .ok (.aload_n 0, 1) := by decide +kernel
theorem dX7_page_39 : decode cX7_page 39 = .ok (.getfield 27, 3) := by decide +kernel
theorem dX7_page_42 : decode cX7_page 42 = .ok (.invokevirtual 88, 3) := by decide +kernel
theorem dX7_page_45 : decode cX7_page 45 = .ok (.putfield 27, 3) := by decide +kernel
theorem dX7_page_48 : decode cX7_page 48 = .ok (.aload_n 0, 1) := by decide +kernel
theorem dX7_page_49 : decode cX7_page 49 = .ok (.iconst 0, 1) := by decide +kernel
theorem dX7_page_50 : decode cX7_page 50 = .ok (.putfield 13, 3) := by decide +kernel
theorem dX7_page_53 : decode cX7_page 53 = .ok (.aload_n 0, 1) := by decide +kernel
theorem dX7_page_54 : decode cX7_page 54 = .ok (.getfield 34, 3) := by decide +kernel
theorem dX7_page_57 : decode cX7_page 57 = .ok (.aload_n 0, 1) := by decide +kernel
theorem dX7_page_58 : decode cX7_page 58 = .ok (.getfield 27, 3) := by decide +kernel
theorem dX7_page_61 : decode cX7_page 61 = .ok (.getfield 92, 3) := by decide +kernel
theorem dX7_page_64 : decode cX7_page 64 = .ok (.invokevirtual 95, 3) := by decide +kernel
theorem dX7_page_67 : decode cX7_page 67 = .ok (.aload_n 0, 1) := by decide +kernel
theorem dX7_page_68 : decode cX7_page 68 = .ok (.getfield 54, 3) := by decide +kernel
theorem dX7_page_71 : decode cX7_page 71 = .ok (.invokevirtual 99, 3) := by decide +kernel
theorem dX7_page_74 : decode cX7_page 74 = .ok (.aload_n 0, 1) := by decide +kernel
theorem dX7_page_75 : decode cX7_page 75 = .ok (.getfield 61, 3) := by decide +kernel
theorem dX7_page_78 : decode cX7_page 78 = .ok (.invokevirtual 102, 3) := by decide +kernel
theorem dX7_page_81 : decode cX7_page 81 = .ok (.aload_n 0, 1) := by decide +kernel
theorem dX7_page_82 : decode cX7_page 82 = .ok (.iconst 0, 1) := by decide +kernel
theorem dX7_page_83 : decode cX7_page 83 = .ok (.putfield 69, 3) := by decide +kernel
theorem dX7_page_86 : decode cX7_page 86 = .ok (.aload_n 0, 1) := by decide +kernel
theorem dX7_page_87 : decode cX7_page 87 = .ok (.invokevirtual 103, 3) := by decide +kernel
theorem dX7_page_90 : decode cX7_page 90 = .ok (.iload_n 1, 1) := by decide +kernel
theorem dX7_page_91 : decode cX7_page 91 = .ok (.ireturn, 1) := by decide +kernel
theorem dX7_node_0 : decode cX7_node 0 = .ok (.iload_n 1, 1) := by decide +kernel
theorem dX7_node_1 : decode cX7_node 1 = .ok (.aload_n 0, 1) := by decide +kernel
theorem dX7_node_2 : decode cX7_node 2 = .ok (.getfield 27, 3) := by decide +kernel
theorem dX7_node_5 : decode cX7_node 5 = .ok (.getfield 106, 3) := by decide +kernel
theorem dX7_node_8 : decode cX7_node 8 = .ok (.invokestatic 76, 3) := by decide +kernel
theorem dX7_node_11 : decode cX7_node 11 = .ok (.ifCond .eq 12, 3) := by decide +kernel
theorem dX7_node_14 : decode cX7_node 14 = .ok (.iload_n 2, 1) := by decide +kernel
theorem dX7_node_15 : decode cX7_node 15 = .ok (.bipush 6, 2) := by decide +kernel
theorem dX7_node_17 : decode cX7_node 17 = .ok (.invokestatic 76, 3) := by decide +kernel
theorem dX7_node_20 : decode cX7_node 20 = .ok (.ifCond .ne 6, 3) := by decide +kernel
theorem dX7_node_23 : decode cX7_node 23 = .ok (.bipush (-2), 2) := by decide +kernel
theorem dX7_node_25 : decode cX7_node 25 = .ok (.ireturn, 1) := by decide +kernel
theorem dX7_node_26 : decode cX7_node 26 = .ok (.iload_n 2, 1) := by decide +kernel
theorem dX7_node_27 : decode cX7_node 27 = .ok (.tableswitch 81 0 4 #[33, 43, 53, 63, 72], 33) := by decide +kernel
theorem dX7_node_60 : decode cX7_node 60 = .ok (.aload_n 0, 1) := by decide +kernel
theorem dX7_node_61 : decode cX7_node 61 = .ok (.getfield 27, 3) := by decide +kernel
theorem dX7_node_64 : decode cX7_node 64 = .ok (.getfield 109, 3) := by decide +kernel
theorem dX7_node_67 : decode cX7_node 67 = .ok (.iload_n 1, 1) := by decide +kernel
theorem dX7_node_68 : decode cX7_node 68 = .ok (.iaload, 1) := by decide +kernel
theorem dX7_node_69 : decode cX7_node 69 = .ok (.ireturn, 1) := by decide +kernel
theorem dX7_node_70 : decode cX7_node 70 = .ok (.aload_n 0, 1) := by decide +kernel
theorem dX7_node_71 : decode cX7_node 71 = .ok (.getfield 34, 3) := by decide +kernel
theorem dX7_node_74 : decode cX7_node 74 = .ok (.getfield 112, 3) := by decide +kernel
theorem dX7_node_77 : decode cX7_node 77 = .ok (.iload_n 1, 1) := by decide +kernel
theorem dX7_node_78 : decode cX7_node 78 = .ok (.iaload, 1) := by decide +kernel
theorem dX7_node_79 : decode cX7_node 79 = .ok (.ireturn, 1) := by decide +kernel
theorem dX7_node_80 : decode cX7_node 80 = .ok (.aload_n 0, 1) := by decide +kernel
theorem dX7_node_81 : decode cX7_node 81 = .ok (.getfield 34, 3) := by decide +kernel
theorem dX7_node_84 : decode cX7_node 84 = .ok (.getfield 115, 3) := by decide +kernel
theorem dX7_node_87 : decode cX7_node 87 = .ok (.iload_n 1, 1) := by decide +kernel
theorem dX7_node_88 : decode cX7_node 88 = .ok (.iaload, 1) := by decide +kernel
theorem dX7_node_89 : decode cX7_node 89 = .ok (.ireturn, 1) := by decide +kernel
theorem dX7_node_90 : decode cX7_node 90 = .ok (.aload_n 0, 1) := by decide +kernel
theorem dX7_node_91 : decode cX7_node 91 = .ok (.getfield 44, 3) := by decide +kernel
theorem dX7_node_94 : decode cX7_node 94 = .ok (.iload_n 1, 1) := by decide +kernel
theorem dX7_node_95 : decode cX7_node 95 = .ok (.invokevirtual 118, 3) := by decide +kernel
theorem dX7_node_98 : decode cX7_node 98 = .ok (.ireturn, 1) := by decide +kernel
theorem dX7_node_99 : decode cX7_node 99 = .ok (.aload_n 0, 1) := by decide +kernel
theorem dX7_node_100 : decode cX7_node 100 = .ok (.getfield 44, 3) := by decide +kernel
theorem dX7_node_103 : decode cX7_node 103 = .ok (.iload_n 1, 1) := by decide +kernel
theorem dX7_node_104 : decode cX7_node 104 = .ok (.invokevirtual 122, 3) := by decide +kernel
theorem dX7_node_107 : decode cX7_node 107 = .ok (.ireturn, 1) := by decide +kernel
theorem dX7_node_108 : decode cX7_node 108 = .ok (.aload_n 0, 1) := by decide +kernel
theorem dX7_node_109 : decode cX7_node 109 = .ok (.getfield 27, 3) := by decide +kernel
theorem dX7_node_112 : decode cX7_node 112 = .ok (.iload_n 1, 1) := by decide +kernel
theorem dX7_node_113 : decode cX7_node 113 = .ok (.invokevirtual 125, 3) := by decide +kernel
theorem dX7_node_116 : decode cX7_node 116 = .ok (.ireturn, 1) := by decide +kernel
theorem dX7_rule_0 : decode cX7_rule 0 = .ok (.iload_n 1, 1) := by decide +kernel
theorem dX7_rule_1 : decode cX7_rule 1 = .ok (.aload_n 0, 1) := by decide +kernel
theorem dX7_rule_2 : decode cX7_rule 2 = .ok (.getfield 27, 3) := by decide +kernel
theorem dX7_rule_5 : decode cX7_rule 5 = .ok (.getfield 128, 3) := by decide +kernel
theorem dX7_rule_8 : decode cX7_rule 8 = .ok (.invokestatic 76, 3) := by decide +kernel
theorem dX7_rule_11 : decode cX7_rule 11 = .ok (.ifCond .eq 12, 3) := by decide +kernel
theorem dX7_rule_14 : decode cX7_rule 14 = .ok (.iload_n 2, 1) := by decide +kernel
theorem dX7_rule_15 : decode cX7_rule 15 = .ok (.bipush 7, 2) := by decide +kernel
theorem dX7_rule_17 : decode cX7_rule 17 = .ok (.invokestatic 76, 3) := by decide +kernel
theorem dX7_rule_20 : decode cX7_rule 20 = .ok (.ifCond .ne 6, 3) := by decide +kernel
theorem dX7_rule_23 : decode cX7_rule 23 = .ok (.bipush (-2), 2) := by decide +kernel
theorem dX7_rule_25 : decode cX7_rule 25 = .ok (.ireturn, 1) := by decide +kernel
theorem dX7_rule_26 : decode cX7_rule 26 = .ok (.aload_n 0, 1) := by decide +kernel
theorem dX7_rule_27 : decode cX7_rule 27 = .ok (.getfield 27, 3) := by decide +kernel
theorem dX7_rule_30 : decode cX7_rule 30 = .ok (.getfield 131, 3) := by decide +kernel
theorem dX7_rule_33 : decode cX7_rule 33 = .ok (.iload_n 1, 1) := by decide +kernel
theorem dX7_rule_34 : decode cX7_rule 34 = .ok (.aaload, 1) := by decide +kernel
theorem dX7_rule_35 : decode cX7_rule 35 = .ok (.astore_n 3, 1) := by decide +kernel
theorem dX7_rule_36 : decode cX7_rule 36 = .ok (.iload_n 2, 1) := by decide +kernel
theorem dX7_rule_37 : decode cX7_rule 37 = .ok (.tableswitch 89 0 5 #[39, 52, 57, 62, 67, 72], 39) := by decide +kernel
theorem dX7_rule_76 : decode cX7_rule 76 = .ok (.aload_n 3, 1) := by decide +kernel
theorem dX7_rule_77 : decode cX7_rule 77 = .ok (.getfield 135, 3) := by decide +kernel
theorem dX7_rule_80 : decode cX7_rule 80 = .ok (.ifCond .eq 7, 3) := by decide +kernel
theorem dX7_rule_83 : decode cX7_rule 83 = .ok (.iconst 1, 1) := by decide +kernel
theorem dX7_rule_84 : decode cX7_rule 84 = .ok (.goto 4, 3) := by decide +kernel
theorem dX7_rule_87 : decode cX7_rule 87 = .ok (.iconst 0, 1) := by decide +kernel
theorem dX7_rule_88 : decode cX7_rule 88 = .ok (.ireturn, 1) := by decide +kernel
theorem dX7_rule_89 : decode cX7_rule 89 = .ok (.aload_n 3, 1) := by decide +kernel
theorem dX7_rule_90 : decode cX7_rule 90 = .ok (.getfield 141, 3) := by decide +kernel
theorem dX7_rule_93 : decode cX7_rule 93 = .ok (.ireturn, 1) := by decide +kernel
theorem dX7_rule_94 : decode cX7_rule 94 = .ok (.aload_n 3, 1) := by decide +kernel
theorem dX7_rule_95 : decode cX7_rule 95 = .ok (.getfield 144, 3) := by decide +kernel
theorem dX7_rule_98 : decode cX7_rule 98 = .ok (.ireturn, 1) := by decide +kernel
theorem dX7_rule_99 : decode cX7_rule 99 = .ok (.aload_n 3, 1) := by decide +kernel
theorem dX7_rule_100 : decode cX7_rule 100 = .ok (.getfield 147, 3) := by decide +kernel
theorem dX7_rule_103 : decode cX7_rule 103 = .ok (.ireturn, 1) := by decide +kernel
theorem dX7_rule_104 : decode cX7_rule 104 = .ok (.aload_n 3, 1) := by decide +kernel
theorem dX7_rule_105 : decode cX7_rule 105 = .ok (.getfield 150, 3) := by decide +kernel
theorem dX7_rule_108 : decode cX7_rule 108 = .ok (.ireturn, 1) := by decide +kernel
theorem dX7_rule_109 : decode cX7_rule 109 = .ok (.aload_n 0, 1) := by decide +kernel
theorem dX7_rule_110 : decode cX7_rule 110 = .ok (.getfield 34, 3) := by decide +kernel
theorem dX7_rule_113 : decode cX7_rule 113 = .ok (.iload_n 1, 1) := by decide +kernel
theorem dX7_rule_114 : decode cX7_rule 114 = .ok (.invokevirtual 153, 3) := by decide +kernel
theorem dX7_rule_117 : decode cX7_rule 117 = .ok (.ifCond .eq 7, 3) := by decide +kernel
theorem dX7_rule_120 : decode cX7_rule 120 = .ok (.iconst 1, 1) := by decide +kernel
theorem dX7_rule_121 : decode cX7_rule 121 = .ok (.goto 4, 3) := by decide +kernel
theorem dX7_rule_124 : decode cX7_rule 124 = .ok (.iconst 0, 1) := by decide +kernel
theorem dX7_rule_125 : decode cX7_rule 125 = .ok (.ireturn, 1) := by decide +kernel
theorem dX7_rule_126 : decode cX7_rule 126 = .ok (.aload_n 0, 1) := by decide +kernel
theorem dX7_rule_127 : decode cX7_rule 127 = .ok (.getfield 44, 3) := by decide +kernel
theorem dX7_rule_130 : decode cX7_rule 130 = .ok (.iload_n 1, 1) := by decide +kernel
theorem dX7_rule_131 : decode cX7_rule 131 = .ok (.invokevirtual 157, 3) := by decide +kernel
theorem dX7_rule_134 : decode cX7_rule 134 = .ok (.ireturn, 1) := by decide +kernel
theorem dX7_toggles_0 : decode cX7_toggles 0 = .ok (.iload_n 1, 1) := by decide +kernel
theorem dX7_toggles_1 : decode cX7_toggles 1 = .ok (.aload_n 0, 1) := by decide +kernel
theorem dX7_toggles_2 : decode cX7_toggles 2 = .ok (.getfield 27, 3) := by decide +kernel
theorem dX7_toggles_5 : decode cX7_toggles 5 = .ok (.getfield 106, 3) := by decide +kernel
theorem dX7_toggles_8 : decode cX7_toggles 8 = .ok (.invokestatic 76, 3) := by decide +kernel
theorem dX7_toggles_11 : decode cX7_toggles 11 = .ok (.ifCond .eq 11, 3) := by decide +kernel
theorem dX7_toggles_14 : decode cX7_toggles 14 = .ok (.iload_n 2, 1) := by decide +kernel
theorem dX7_toggles_15 : decode cX7_toggles 15 = .ok (.iconst 4, 1) := by decide +kernel
theorem dX7_toggles_16 : decode cX7_toggles 16 = .ok (.invokestatic 76, 3) := by decide +kernel
theorem dX7_toggles_19 : decode cX7_toggles 19 = .ok (.ifCond .ne 6, 3) := by decide +kernel
theorem dX7_toggles_22 : decode cX7_toggles 22 = .ok (.bipush (-2), 2) := by decide +kernel
theorem dX7_toggles_24 : decode cX7_toggles 24 = .ok (.ireturn, 1) := by decide +kernel
theorem dX7_toggles_25 : decode cX7_toggles 25 = .ok (.iconst 4, 1) := by decide +kernel
theorem dX7_toggles_26 : decode cX7_toggles 26 = .ok (.iload_n 1, 1) := by decide +kernel
theorem dX7_toggles_27 : decode cX7_toggles 27 = .ok (.imul, 1) := by decide +kernel
theorem dX7_toggles_28 : decode cX7_toggles 28 = .ok (.iload_n 2, 1) := by decide +kernel
theorem dX7_toggles_29 : decode cX7_toggles 29 = .ok (.iadd, 1) := by decide +kernel
theorem dX7_toggles_30 : decode cX7_toggles 30 = .ok (.istore_n 3, 1) := by decide +kernel
theorem dX7_toggles_31 : decode cX7_toggles 31 = .ok (.aload_n 0, 1) := by decide +kernel
theorem dX7_toggles_32 : decode cX7_toggles 32 = .ok (.iload_n 3, 1) := by decide +kernel
theorem dX7_toggles_33 : decode cX7_toggles 33 = .ok (.iload_n 3, 1) := by decide +kernel
theorem dX7_toggles_34 : decode cX7_toggles 34 = .ok (.invokevirtual 160, 3) := by decide +kernel
theorem dX7_toggles_37 : decode cX7_toggles 37 = .ok (.aload_n 0, 1) := by decide +kernel
theorem dX7_toggles_38 : decode cX7_toggles 38 = .ok (.getfield 34, 3) := by decide +kernel
theorem dX7_toggles_41 : decode cX7_toggles 41 = .ok (.getfield 115, 3) := by decide +kernel
theorem dX7_toggles_44 : decode cX7_toggles 44 = .ok (.iload_n 1, 1) := by decide +kernel
theorem dX7_toggles_45 : decode cX7_toggles 45 = .ok (.iaload, 1) := by decide +kernel
theorem dX7_toggles_46 : decode cX7_toggles 46 = .ok (.ireturn, 1) := by decide +kernel
theorem dX7_tags_0 : decode cX7_tags 0 = .ok (.iload_n 1, 1) := by decide +kernel
theorem dX7_tags_1 : decode cX7_tags 1 = .ok (.aload_n 0, 1) := by decide +kernel
theorem dX7_tags_2 : decode cX7_tags 2 = .ok (.getfield 27, 3) := by decide +kernel
theorem dX7_tags_5 : decode cX7_tags 5 = .ok (.getfield 106, 3) := by decide +kernel
theorem dX7_tags_8 : decode cX7_tags 8 = .ok (.invokestatic 76, 3) := by decide +kernel
theorem dX7_tags_11 : decode cX7_tags 11 = .ok (.ifCond .eq 11, 3) := by decide +kernel
theorem dX7_tags_14 : decode cX7_tags 14 = .ok (.iload_n 2, 1) := by decide +kernel
theorem dX7_tags_15 : decode cX7_tags 15 = .ok (.iconst 4, 1) := by decide +kernel
theorem dX7_tags_16 : decode cX7_tags 16 = .ok (.invokestatic 76, 3) := by decide +kernel
theorem dX7_tags_19 : decode cX7_tags 19 = .ok (.ifCond .ne 6, 3) := by decide +kernel
theorem dX7_tags_22 : decode cX7_tags 22 = .ok (.bipush (-2), 2) := by decide +kernel
theorem dX7_tags_24 : decode cX7_tags 24 = .ok (.ireturn, 1) := by decide +kernel
theorem dX7_tags_25 : decode cX7_tags 25 = .ok (.aload_n 0, 1) := by decide +kernel
theorem dX7_tags_26 : decode cX7_tags 26 = .ok (.getfield 34, 3) := by decide +kernel
theorem dX7_tags_29 : decode cX7_tags 29 = .ok (.getfield 112, 3) := by decide +kernel
theorem dX7_tags_32 : decode cX7_tags 32 = .ok (.iload_n 1, 1) := by decide +kernel
theorem dX7_tags_33 : decode cX7_tags 33 = .ok (.iaload, 1) := by decide +kernel
theorem dX7_tags_34 : decode cX7_tags 34 = .ok (.istore_n 3, 1) := by decide +kernel
theorem dX7_tags_35 : decode cX7_tags 35 = .ok (.iload_n 3, 1) := by decide +kernel
theorem dX7_tags_36 : decode cX7_tags 36 = .ok (.iload_n 2, 1) := by decide +kernel
theorem dX7_tags_37 : decode cX7_tags 37 = .ok (.if_icmp .ne 6, 3) := by decide +kernel
theorem dX7_tags_40 : decode cX7_tags 40 = .ok (.bipush (-3), 2) := by decide +kernel
theorem dX7_tags_42 : decode cX7_tags 42 = .ok (.ireturn, 1) := by decide +kernel
theorem dX7_tags_43 : decode cX7_tags 43 = .ok (.sipush 200, 3) := by decide +kernel
theorem dX7_tags_46 : decode cX7_tags 46 = .ok (.iconst 4, 1) := by decide +kernel
theorem dX7_tags_47 : decode cX7_tags 47 = .ok (.iload_n 1, 1) := by decide +kernel
theorem dX7_tags_48 : decode cX7_tags 48 = .ok (.imul, 1) := by decide +kernel
theorem dX7_tags_49 : decode cX7_tags 49 = .ok (.iadd, 1) := by decide +kernel
theorem dX7_tags_50 : decode cX7_tags 50 = .ok (.istore 4, 2) := by decide +kernel
theorem dX7_tags_52 : decode cX7_tags 52 = .ok (.aload_n 0, 1) := by decide +kernel
theorem dX7_tags_53 : decode cX7_tags 53 = .ok (.iload 4, 2) := by decide +kernel
theorem dX7_tags_55 : decode cX7_tags 55 = .ok (.iload_n 2, 1) := by decide +kernel
theorem dX7_tags_56 : decode cX7_tags 56 = .ok (.iadd, 1) := by decide +kernel
theorem dX7_tags_57 : decode cX7_tags 57 = .ok (.iload 4, 2) := by decide +kernel
theorem dX7_tags_59 : decode cX7_tags 59 = .ok (.iload_n 3, 1) := by decide +kernel
theorem dX7_tags_60 : decode cX7_tags 60 = .ok (.iadd, 1) := by decide +kernel
theorem dX7_tags_61 : decode cX7_tags 61 = .ok (.invokevirtual 160, 3) := by decide +kernel
theorem dX7_tags_64 : decode cX7_tags 64 = .ok (.iload_n 3, 1) := by decide +kernel
theorem dX7_tags_65 : decode cX7_tags 65 = .ok (.ireturn, 1) := by decide +kernel
theorem dX7_switches_0 : decode cX7_switches 0 = .ok (.iload_n 1, 1) := by decide +kernel
theorem dX7_switches_1 : decode cX7_switches 1 = .ok (.aload_n 0, 1) := by decide +kernel
theorem dX7_switches_2 : decode cX7_switches 2 = .ok (.getfield 27, 3) := by decide +kernel
theorem dX7_switches_5 : decode cX7_switches 5 = .ok (.getfield 128, 3) := by decide +kernel
theorem dX7_switches_8 : decode cX7_switches 8 = .ok (.invokestatic 76, 3) := by decide +kernel
theorem dX7_switches_11 : decode cX7_switches 11 = .ok (.ifCond .ne 6, 3) := by decide +kernel
theorem dX7_switches_14 : decode cX7_switches 14 = .ok (.bipush (-2), 2) := by decide +kernel
theorem dX7_switches_16 : decode cX7_switches 16 = .ok (.ireturn, 1) := by decide +kernel
theorem dX7_switches_17 : decode cX7_switches 17 = .ok (.bipush 100, 2) := by decide +kernel
theorem dX7_switches_19 : decode cX7_switches 19 = .ok (.iload_n 1, 1) := by decide +kernel
theorem dX7_switches_20 : decode cX7_switches 20 = .ok (.iadd, 1) := by decide +kernel
theorem dX7_switches_21 : decode cX7_switches 21 = .ok (.istore_n 2, 1) := by decide +kernel
theorem dX7_switches_22 : decode cX7_switches 22 = .ok (.aload_n 0, 1) := by decide +kernel
theorem dX7_switches_23 : decode cX7_switches 23 = .ok (.iload_n 2, 1) := by decide +kernel
theorem dX7_switches_24 : decode cX7_switches 24 = .ok (.iload_n 2, 1) := by decide +kernel
theorem dX7_switches_25 : decode cX7_switches 25 = .ok (.invokevirtual 160, 3) := by decide +kernel
theorem dX7_switches_28 : decode cX7_switches 28 = .ok (.aload_n 0, 1) := by decide +kernel
theorem dX7_switches_29 : decode cX7_switches 29 = .ok (.getfield 34, 3) := by decide +kernel
theorem dX7_switches_32 : decode cX7_switches 32 = .ok (.iload_n 1, 1) := by decide +kernel
theorem dX7_switches_33 : decode cX7_switches 33 = .ok (.invokevirtual 153, 3) := by decide +kernel
theorem dX7_switches_36 : decode cX7_switches 36 = .ok (.ifCond .eq 7, 3) := by decide +kernel
theorem dX7_switches_39 : decode cX7_switches 39 = .ok (.iconst 1, 1) := by decide +kernel
theorem dX7_switches_40 : decode cX7_switches 40 = .ok (.goto 4, 3) := by decide +kernel
theorem dX7_switches_43 : decode cX7_switches 43 = .ok (.iconst 0, 1) := by decide +kernel
theorem dX7_switches_44 : decode cX7_switches 44 = .ok (.ireturn, 1) := by decide +kernel
theorem dX7_undo_0 : decode cX7_undo 0 = .ok (.aload_n 0, 1) := by decide +kernel
theorem dX7_undo_1 : decode cX7_undo 1 = .ok (.getfield 54, 3) := by decide +kernel
theorem dX7_undo_4 : decode cX7_undo 4 = .ok (.invokevirtual 164, 3) := by decide +kernel
theorem dX7_undo_7 : decode cX7_undo 7 = .ok (.istore_n 1, 1) := by decide +kernel
theorem dX7_undo_8 : decode cX7_undo 8 = .ok (.iload_n 1, 1) := by decide +kernel
theorem dX7_undo_9 : decode cX7_undo 9 = .ok (.bipush (-9), 2) := by decide +kernel
theorem dX7_undo_11 : decode cX7_undo 11 = .ok (.if_icmp .ne 6, 3) := by decide +kernel
theorem dX7_undo_14 : decode cX7_undo 14 = .ok (.bipush (-3), 2) := by decide +kernel
theorem dX7_undo_16 : decode cX7_undo 16 = .ok (.ireturn, 1) := by decide +kernel
theorem dX7_undo_17 : decode cX7_undo 17 = .ok (.aload_n 0, 1) := by decide +kernel
theorem dX7_undo_18 : decode cX7_undo 18 = .ok (.getfield 34, 3) := by decide +kernel
theorem dX7_undo_21 : decode cX7_undo 21 = .ok (.iload_n 1, 1) := by decide +kernel
theorem dX7_undo_22 : decode cX7_undo 22 = .ok (.invokevirtual 167, 3) := by decide +kernel
theorem dX7_undo_25 : decode cX7_undo 25 = .ok (.aload_n 0, 1) := by decide +kernel
theorem dX7_undo_26 : decode cX7_undo 26 = .ok (.invokevirtual 103, 3) := by decide +kernel
theorem dX7_undo_29 : decode cX7_undo 29 = .ok (.aload_n 0, 1) := by decide +kernel
theorem dX7_undo_30 : decode cX7_undo 30 = .ok (.getfield 54, 3) := by decide +kernel
theorem dX7_undo_33 : decode cX7_undo 33 = .ok (.getfield 171, 3) := by decide +kernel
theorem dX7_undo_36 : decode cX7_undo 36 = .ok (.ireturn, 1) := by decide +kernel
theorem dX7_value_0 : decode cX7_value 0 = .ok (.aload_n 0, 1) := by decide +kernel
theorem dX7_value_1 : decode cX7_value 1 = .ok (.iload_n 1, 1) := by decide +kernel
theorem dX7_value_2 : decode cX7_value 2 = .ok (.iload_n 2, 1) := by decide +kernel
theorem dX7_value_3 : decode cX7_value 3 = .ok (.invokevirtual 174, 3) := by decide +kernel
theorem dX7_value_6 : decode cX7_value 6 = .ok (.ifCond .ne 6, 3) := by decide +kernel
theorem dX7_value_9 : decode cX7_value 9 = .ok (.bipush (-2), 2) := by decide +kernel
theorem dX7_value_11 : decode cX7_value 11 = .ok (.ireturn, 1) := by decide +kernel
theorem dX7_value_12 : decode cX7_value 12 = .ok (.aload_n 0, 1) := by decide +kernel
theorem dX7_value_13 : decode cX7_value 13 = .ok (.getfield 44, 3) := by decide +kernel
theorem dX7_value_16 : decode cX7_value 16 = .ok (.iload_n 1, 1) := by decide +kernel
theorem dX7_value_17 : decode cX7_value 17 = .ok (.iload_n 2, 1) := by decide +kernel
theorem dX7_value_18 : decode cX7_value 18 = .ok (.invokevirtual 177, 3) := by decide +kernel
theorem dX7_value_21 : decode cX7_value 21 = .ok (.ireturn, 1) := by decide +kernel
theorem dX7_winner_0 : decode cX7_winner 0 = .ok (.aload_n 0, 1) := by decide +kernel
theorem dX7_winner_1 : decode cX7_winner 1 = .ok (.iload_n 1, 1) := by decide +kernel
theorem dX7_winner_2 : decode cX7_winner 2 = .ok (.iload_n 2, 1) := by decide +kernel
theorem dX7_winner_3 : decode cX7_winner 3 = .ok (.invokevirtual 174, 3) := by decide +kernel
theorem dX7_winner_6 : decode cX7_winner 6 = .ok (.ifCond .eq 7, 3) := by decide +kernel
theorem dX7_winner_9 : decode cX7_winner 9 = .ok (.iload_n 3, 1) := by decide +kernel
theorem dX7_winner_10 : decode cX7_winner 10 = .ok (.ifCond .ge 6, 3) := by decide +kernel
theorem dX7_winner_13 : decode cX7_winner 13 = .ok (.bipush (-2), 2) := by decide +kernel
theorem dX7_winner_15 : decode cX7_winner 15 = .ok (.ireturn, 1) := by decide +kernel
theorem dX7_winner_16 : decode cX7_winner 16 = .ok (.aload_n 0, 1) := by decide +kernel
theorem dX7_winner_17 : decode cX7_winner 17 = .ok (.getfield 44, 3) := by decide +kernel
theorem dX7_winner_20 : decode cX7_winner 20 = .ok (.iload_n 1, 1) := by decide +kernel
theorem dX7_winner_21 : decode cX7_winner 21 = .ok (.invokevirtual 118, 3) := by decide +kernel
theorem dX7_winner_24 : decode cX7_winner 24 = .ok (.istore 4, 2) := by decide +kernel
theorem dX7_winner_26 : decode cX7_winner 26 = .ok (.aload_n 0, 1) := by decide +kernel
theorem dX7_winner_27 : decode cX7_winner 27 = .ok (.getfield 27, 3) := by decide +kernel
theorem dX7_winner_30 : decode cX7_winner 30 = .ok (.iload 4, 2) := by decide +kernel
theorem dX7_winner_32 : decode cX7_winner 32 = .ok (.iload_n 2, 1) := by decide +kernel
theorem dX7_winner_33 : decode cX7_winner 33 = .ok (.invokevirtual 181, 3) := by decide +kernel
theorem dX7_winner_36 : decode cX7_winner 36 = .ok (.istore 5, 2) := by decide +kernel
theorem dX7_winner_38 : decode cX7_winner 38 = .ok (.iconst 0, 1) := by decide +kernel
theorem dX7_winner_39 : decode cX7_winner 39 = .ok (.istore 6, 2) := by decide +kernel
theorem dX7_winner_41 : decode cX7_winner 41 = .ok (.iload 6, 2) := by decide +kernel
theorem dX7_winner_43 : decode cX7_winner 43 = .ok (.iload_n 3, 1) := by decide +kernel
theorem dX7_winner_44 : decode cX7_winner 44 = .ok (.bipush 8, 2) := by decide +kernel
theorem dX7_winner_46 : decode cX7_winner 46 = .ok (.invokestatic 184, 3) := by decide +kernel
theorem dX7_winner_49 : decode cX7_winner 49 = .ok (.if_icmp .ge 39, 3) := by decide +kernel
theorem dX7_winner_52 : decode cX7_winner 52 = .ok (.iload 5, 2) := by decide +kernel
theorem dX7_winner_54 : decode cX7_winner 54 = .ok (.bipush (-9), 2) := by decide +kernel
theorem dX7_winner_56 : decode cX7_winner 56 = .ok (.if_icmp .eq 32, 3) := by decide +kernel
theorem dX7_winner_59 : decode cX7_winner 59 = .ok (.iload 4, 2) := by decide +kernel
theorem dX7_winner_61 : decode cX7_winner 61 = .ok (.iconst 1, 1) := by decide +kernel
theorem dX7_winner_62 : decode cX7_winner 62 = .ok (.iload 5, 2) := by decide +kernel
theorem dX7_winner_64 : decode cX7_winner 64 = .ok (.ishl, 1) := by decide +kernel
theorem dX7_winner_65 : decode cX7_winner 65 = .ok (.iconst (-1), 1) := by decide +kernel
theorem dX7_winner_66 : decode cX7_winner 66 = .ok (.ixor, 1) := by decide +kernel
theorem dX7_winner_67 : decode cX7_winner 67 = .ok (.iand, 1) := by decide +kernel
theorem dX7_winner_68 : decode cX7_winner 68 = .ok (.istore 4, 2) := by decide +kernel
theorem dX7_winner_70 : decode cX7_winner 70 = .ok (.aload_n 0, 1) := by decide +kernel
theorem dX7_winner_71 : decode cX7_winner 71 = .ok (.getfield 27, 3) := by decide +kernel
theorem dX7_winner_74 : decode cX7_winner 74 = .ok (.iload 4, 2) := by decide +kernel
theorem dX7_winner_76 : decode cX7_winner 76 = .ok (.iload_n 2, 1) := by decide +kernel
theorem dX7_winner_77 : decode cX7_winner 77 = .ok (.invokevirtual 181, 3) := by decide +kernel
theorem dX7_winner_80 : decode cX7_winner 80 = .ok (.istore 5, 2) := by decide +kernel
theorem dX7_winner_82 : decode cX7_winner 82 = .ok (.iinc 6 1, 3) := by decide +kernel
theorem dX7_winner_85 : decode cX7_winner 85 = .ok (.goto (-44), 3) := by decide +kernel
theorem dX7_winner_88 : decode cX7_winner 88 = .ok (.iload 5, 2) := by decide +kernel
theorem dX7_winner_90 : decode cX7_winner 90 = .ok (.ireturn, 1) := by decide +kernel
theorem dX7_source_0 : decode cX7_source 0 = .ok (.aload_n 0, 1) := by decide +kernel
theorem dX7_source_1 : decode cX7_source 1 = .ok (.iload_n 1, 1) := by decide +kernel
theorem dX7_source_2 : decode cX7_source 2 = .ok (.iload_n 2, 1) := by decide +kernel
theorem dX7_source_3 : decode cX7_source 3 = .ok (.invokevirtual 174, 3) := by decide +kernel
theorem dX7_source_6 : decode cX7_source 6 = .ok (.ifCond .ne 6, 3) := by decide +kernel
theorem dX7_source_9 : decode cX7_source 9 = .ok (.bipush (-2), 2) := by decide +kernel
theorem dX7_source_11 : decode cX7_source 11 = .ok (.ireturn, 1) := by decide +kernel
theorem dX7_source_12 : decode cX7_source 12 = .ok (.aload_n 0, 1) := by decide +kernel
theorem dX7_source_13 : decode cX7_source 13 = .ok (.getfield 44, 3) := by decide +kernel
theorem dX7_source_16 : decode cX7_source 16 = .ok (.iload_n 1, 1) := by decide +kernel
theorem dX7_source_17 : decode cX7_source 17 = .ok (.iload_n 2, 1) := by decide +kernel
theorem dX7_source_18 : decode cX7_source 18 = .ok (.invokevirtual 189, 3) := by decide +kernel
theorem dX7_source_21 : decode cX7_source 21 = .ok (.ireturn, 1) := by decide +kernel
theorem dX7_change_0 : decode cX7_change 0 = .ok (.iload_n 1, 1) := by decide +kernel
theorem dX7_change_1 : decode cX7_change 1 = .ok (.aload_n 0, 1) := by decide +kernel
theorem dX7_change_2 : decode cX7_change 2 = .ok (.getfield 27, 3) := by decide +kernel
theorem dX7_change_5 : decode cX7_change 5 = .ok (.getfield 106, 3) := by decide +kernel
theorem dX7_change_8 : decode cX7_change 8 = .ok (.invokestatic 76, 3) := by decide +kernel
theorem dX7_change_11 : decode cX7_change 11 = .ok (.ifCond .eq 19, 3) := by decide +kernel
theorem dX7_change_14 : decode cX7_change 14 = .ok (.iload_n 2, 1) := by decide +kernel
theorem dX7_change_15 : decode cX7_change 15 = .ok (.iconst 4, 1) := by decide +kernel
theorem dX7_change_16 : decode cX7_change 16 = .ok (.invokestatic 76, 3) := by decide +kernel
theorem dX7_change_19 : decode cX7_change 19 = .ok (.ifCond .eq 11, 3) := by decide +kernel
theorem dX7_change_22 : decode cX7_change 22 = .ok (.iload_n 3, 1) := by decide +kernel
theorem dX7_change_23 : decode cX7_change 23 = .ok (.iconst 2, 1) := by decide +kernel
theorem dX7_change_24 : decode cX7_change 24 = .ok (.invokestatic 76, 3) := by decide +kernel
theorem dX7_change_27 : decode cX7_change 27 = .ok (.ifCond .ne 6, 3) := by decide +kernel
theorem dX7_change_30 : decode cX7_change 30 = .ok (.bipush (-2), 2) := by decide +kernel
theorem dX7_change_32 : decode cX7_change 32 = .ok (.ireturn, 1) := by decide +kernel
theorem dX7_change_33 : decode cX7_change 33 = .ok (.iload_n 3, 1) := by decide +kernel
theorem dX7_change_34 : decode cX7_change 34 = .ok (.ifCond .ne 17, 3) := by decide +kernel
theorem dX7_change_37 : decode cX7_change 37 = .ok (.aload_n 0, 1) := by decide +kernel
theorem dX7_change_38 : decode cX7_change 38 = .ok (.getfield 27, 3) := by decide +kernel
theorem dX7_change_41 : decode cX7_change 41 = .ok (.aload_n 0, 1) := by decide +kernel
theorem dX7_change_42 : decode cX7_change 42 = .ok (.getfield 34, 3) := by decide +kernel
theorem dX7_change_45 : decode cX7_change 45 = .ok (.iload_n 1, 1) := by decide +kernel
theorem dX7_change_46 : decode cX7_change 46 = .ok (.iload_n 2, 1) := by decide +kernel
theorem dX7_change_47 : decode cX7_change 47 = .ok (.invokevirtual 192, 3) := by decide +kernel
theorem dX7_change_50 : decode cX7_change 50 = .ok (.ireturn, 1) := by decide +kernel
theorem dX7_change_51 : decode cX7_change 51 = .ok (.aload_n 0, 1) := by decide +kernel
theorem dX7_change_52 : decode cX7_change 52 = .ok (.iconst 4, 1) := by decide +kernel
theorem dX7_change_53 : decode cX7_change 53 = .ok (.iload_n 1, 1) := by decide +kernel
theorem dX7_change_54 : decode cX7_change 54 = .ok (.imul, 1) := by decide +kernel
theorem dX7_change_55 : decode cX7_change 55 = .ok (.iload_n 2, 1) := by decide +kernel
theorem dX7_change_56 : decode cX7_change 56 = .ok (.iadd, 1) := by decide +kernel
theorem dX7_change_57 : decode cX7_change 57 = .ok (.invokevirtual 196, 3) := by decide +kernel
theorem dX7_change_60 : decode cX7_change 60 = .ok (.aload_n 0, 1) := by decide +kernel
theorem dX7_change_61 : decode cX7_change 61 = .ok (.getfield 44, 3) := by decide +kernel
theorem dX7_change_64 : decode cX7_change 64 = .ok (.aload_n 0, 1) := by decide +kernel
theorem dX7_change_65 : decode cX7_change 65 = .ok (.getfield 48, 3) := by decide +kernel
theorem dX7_change_68 : decode cX7_change 68 = .ok (.invokevirtual 199, 3) := by decide +kernel
theorem dX7_change_71 : decode cX7_change 71 = .ok (.ireturn, 1) := by decide +kernel
theorem dX7_wanted_0 : decode cX7_wanted 0 = .ok (.aload_n 0, 1) := by decide +kernel
theorem dX7_wanted_1 : decode cX7_wanted 1 = .ok (.iload_n 1, 1) := by decide +kernel
theorem dX7_wanted_2 : decode cX7_wanted 2 = .ok (.iload_n 2, 1) := by decide +kernel
theorem dX7_wanted_3 : decode cX7_wanted 3 = .ok (.invokevirtual 174, 3) := by decide +kernel
theorem dX7_wanted_6 : decode cX7_wanted 6 = .ok (.ifCond .eq 12, 3) := by decide +kernel
theorem dX7_wanted_9 : decode cX7_wanted 9 = .ok (.iload_n 3, 1) := by decide +kernel
theorem dX7_wanted_10 : decode cX7_wanted 10 = .ok (.bipush 10, 2) := by decide +kernel
theorem dX7_wanted_12 : decode cX7_wanted 12 = .ok (.invokestatic 76, 3) := by decide +kernel
theorem dX7_wanted_15 : decode cX7_wanted 15 = .ok (.ifCond .ne 6, 3) := by decide +kernel
theorem dX7_wanted_18 : decode cX7_wanted 18 = .ok (.bipush (-2), 2) := by decide +kernel
theorem dX7_wanted_20 : decode cX7_wanted 20 = .ok (.ireturn, 1) := by decide +kernel
theorem dX7_wanted_21 : decode cX7_wanted 21 = .ok (.aload_n 0, 1) := by decide +kernel
theorem dX7_wanted_22 : decode cX7_wanted 22 = .ok (.getfield 44, 3) := by decide +kernel
theorem dX7_wanted_25 : decode cX7_wanted 25 = .ok (.iload_n 1, 1) := by decide +kernel
theorem dX7_wanted_26 : decode cX7_wanted 26 = .ok (.iload_n 2, 1) := by decide +kernel
theorem dX7_wanted_27 : decode cX7_wanted 27 = .ok (.invokevirtual 177, 3) := by decide +kernel
theorem dX7_wanted_30 : decode cX7_wanted 30 = .ok (.iload_n 3, 1) := by decide +kernel
theorem dX7_wanted_31 : decode cX7_wanted 31 = .ok (.if_icmp .ne 5, 3) := by decide +kernel
theorem dX7_wanted_34 : decode cX7_wanted 34 = .ok (.iconst (-1), 1) := by decide +kernel
theorem dX7_wanted_35 : decode cX7_wanted 35 = .ok (.ireturn, 1) := by decide +kernel
theorem dX7_wanted_36 : decode cX7_wanted 36 = .ok (.iconst 0, 1) := by decide +kernel
theorem dX7_wanted_37 : decode cX7_wanted 37 = .ok (.istore 4, 2) := by decide +kernel
theorem dX7_wanted_39 : decode cX7_wanted 39 = .ok (.iload 4, 2) := by decide +kernel
theorem dX7_wanted_41 : decode cX7_wanted 41 = .ok (.iconst 4, 1) := by decide +kernel
theorem dX7_wanted_42 : decode cX7_wanted 42 = .ok (.aload_n 0, 1) := by decide +kernel
theorem dX7_wanted_43 : decode cX7_wanted 43 = .ok (.getfield 27, 3) := by decide +kernel
theorem dX7_wanted_46 : decode cX7_wanted 46 = .ok (.getfield 106, 3) := by decide +kernel
theorem dX7_wanted_49 : decode cX7_wanted 49 = .ok (.imul, 1) := by decide +kernel
theorem dX7_wanted_50 : decode cX7_wanted 50 = .ok (.if_icmp .ge 31, 3) := by decide +kernel
theorem dX7_wanted_53 : decode cX7_wanted 53 = .ok (.aload_n 0, 1) := by decide +kernel
theorem dX7_wanted_54 : decode cX7_wanted 54 = .ok (.iload 4, 2) := by decide +kernel
theorem dX7_wanted_56 : decode cX7_wanted 56 = .ok (.invokevirtual 196, 3) := by decide +kernel
theorem dX7_wanted_59 : decode cX7_wanted 59 = .ok (.aload_n 0, 1) := by decide +kernel
theorem dX7_wanted_60 : decode cX7_wanted 60 = .ok (.getfield 48, 3) := by decide +kernel
theorem dX7_wanted_63 : decode cX7_wanted 63 = .ok (.iload_n 1, 1) := by decide +kernel
theorem dX7_wanted_64 : decode cX7_wanted 64 = .ok (.iload_n 2, 1) := by decide +kernel
theorem dX7_wanted_65 : decode cX7_wanted 65 = .ok (.invokevirtual 177, 3) := by decide +kernel
theorem dX7_wanted_68 : decode cX7_wanted 68 = .ok (.iload_n 3, 1) := by decide +kernel
theorem dX7_wanted_69 : decode cX7_wanted 69 = .ok (.if_icmp .ne 6, 3) := by decide +kernel
theorem dX7_wanted_72 : decode cX7_wanted 72 = .ok (.iload 4, 2) := by decide +kernel
theorem dX7_wanted_74 : decode cX7_wanted 74 = .ok (.ireturn, 1) := by decide +kernel
theorem dX7_wanted_75 : decode cX7_wanted 75 = .ok (.iinc 4 1, 3) := by decide +kernel
theorem dX7_wanted_78 : decode cX7_wanted 78 = .ok (.goto (-39), 3) := by decide +kernel
theorem dX7_wanted_81 : decode cX7_wanted 81 = .ok (.iconst 0, 1) := by decide +kernel
theorem dX7_wanted_82 : decode cX7_wanted 82 = .ok (.istore 4, 2) := by decide +kernel
theorem dX7_wanted_84 : decode cX7_wanted 84 = .ok (.iload 4, 2) := by decide +kernel
theorem dX7_wanted_86 : decode cX7_wanted 86 = .ok (.aload_n 0, 1) := by decide +kernel
theorem dX7_wanted_87 : decode cX7_wanted 87 = .ok (.getfield 27, 3) := by decide +kernel
theorem dX7_wanted_90 : decode cX7_wanted 90 = .ok (.getfield 128, 3) := by decide +kernel
theorem dX7_wanted_93 : decode cX7_wanted 93 = .ok (.if_icmp .ge 37, 3) := by decide +kernel
theorem dX7_wanted_96 : decode cX7_wanted 96 = .ok (.aload_n 0, 1) := by decide +kernel
theorem dX7_wanted_97 : decode cX7_wanted 97 = .ok (.bipush 100, 2) := by decide +kernel
theorem dX7_wanted_99 : decode cX7_wanted 99 = .ok (.iload 4, 2) := by decide +kernel
theorem dX7_wanted_101 : decode cX7_wanted 101 = .ok (.iadd, 1) := by decide +kernel
theorem dX7_wanted_102 : decode cX7_wanted 102 = .ok (.invokevirtual 196, 3) := by decide +kernel
theorem dX7_wanted_105 : decode cX7_wanted 105 = .ok (.aload_n 0, 1) := by decide +kernel
theorem dX7_wanted_106 : decode cX7_wanted 106 = .ok (.getfield 48, 3) := by decide +kernel
theorem dX7_wanted_109 : decode cX7_wanted 109 = .ok (.iload_n 1, 1) := by decide +kernel
theorem dX7_wanted_110 : decode cX7_wanted 110 = .ok (.iload_n 2, 1) := by decide +kernel
theorem dX7_wanted_111 : decode cX7_wanted 111 = .ok (.invokevirtual 177, 3) := by decide +kernel
theorem dX7_wanted_114 : decode cX7_wanted 114 = .ok (.iload_n 3, 1) := by decide +kernel
theorem dX7_wanted_115 : decode cX7_wanted 115 = .ok (.if_icmp .ne 9, 3) := by decide +kernel
theorem dX7_wanted_118 : decode cX7_wanted 118 = .ok (.bipush 100, 2) := by decide +kernel
theorem dX7_wanted_120 : decode cX7_wanted 120 = .ok (.iload 4, 2) := by decide +kernel
theorem dX7_wanted_122 : decode cX7_wanted 122 = .ok (.iadd, 1) := by decide +kernel
theorem dX7_wanted_123 : decode cX7_wanted 123 = .ok (.ireturn, 1) := by decide +kernel
theorem dX7_wanted_124 : decode cX7_wanted 124 = .ok (.iinc 4 1, 3) := by decide +kernel
theorem dX7_wanted_127 : decode cX7_wanted 127 = .ok (.goto (-43), 3) := by decide +kernel
theorem dX7_wanted_130 : decode cX7_wanted 130 = .ok (.bipush (-9), 2) := by decide +kernel
theorem dX7_wanted_132 : decode cX7_wanted 132 = .ok (.ireturn, 1) := by decide +kernel
theorem dX7_sees_0 : decode cX7_sees 0 = .ok (.aload_n 0, 1) := by decide +kernel
theorem dX7_sees_1 : decode cX7_sees 1 = .ok (.iload_n 1, 1) := by decide +kernel
theorem dX7_sees_2 : decode cX7_sees 2 = .ok (.iload_n 2, 1) := by decide +kernel
theorem dX7_sees_3 : decode cX7_sees 3 = .ok (.invokevirtual 174, 3) := by decide +kernel
theorem dX7_sees_6 : decode cX7_sees 6 = .ok (.ifCond .eq 12, 3) := by decide +kernel
theorem dX7_sees_9 : decode cX7_sees 9 = .ok (.iload_n 3, 1) := by decide +kernel
theorem dX7_sees_10 : decode cX7_sees 10 = .ok (.bipush 10, 2) := by decide +kernel
theorem dX7_sees_12 : decode cX7_sees 12 = .ok (.invokestatic 76, 3) := by decide +kernel
theorem dX7_sees_15 : decode cX7_sees 15 = .ok (.ifCond .ne 6, 3) := by decide +kernel
theorem dX7_sees_18 : decode cX7_sees 18 = .ok (.bipush (-2), 2) := by decide +kernel
theorem dX7_sees_20 : decode cX7_sees 20 = .ok (.ireturn, 1) := by decide +kernel
theorem dX7_sees_21 : decode cX7_sees 21 = .ok (.aload_n 0, 1) := by decide +kernel
theorem dX7_sees_22 : decode cX7_sees 22 = .ok (.getfield 61, 3) := by decide +kernel
theorem dX7_sees_25 : decode cX7_sees 25 = .ok (.iload_n 1, 1) := by decide +kernel
theorem dX7_sees_26 : decode cX7_sees 26 = .ok (.iload_n 2, 1) := by decide +kernel
theorem dX7_sees_27 : decode cX7_sees 27 = .ok (.iload_n 3, 1) := by decide +kernel
theorem dX7_sees_28 : decode cX7_sees 28 = .ok (.invokevirtual 203, 3) := by decide +kernel
theorem dX7_sees_31 : decode cX7_sees 31 = .ok (.ifCond .ne 6, 3) := by decide +kernel
theorem dX7_sees_34 : decode cX7_sees 34 = .ok (.bipush (-4), 2) := by decide +kernel
theorem dX7_sees_36 : decode cX7_sees 36 = .ok (.ireturn, 1) := by decide +kernel
theorem dX7_sees_37 : decode cX7_sees 37 = .ok (.aload_n 0, 1) := by decide +kernel
theorem dX7_sees_38 : decode cX7_sees 38 = .ok (.getfield 61, 3) := by decide +kernel
theorem dX7_sees_41 : decode cX7_sees 41 = .ok (.getfield 207, 3) := by decide +kernel
theorem dX7_sees_44 : decode cX7_sees 44 = .ok (.ireturn, 1) := by decide +kernel
theorem dX7_forget_0 : decode cX7_forget 0 = .ok (.aload_n 0, 1) := by decide +kernel
theorem dX7_forget_1 : decode cX7_forget 1 = .ok (.getfield 61, 3) := by decide +kernel
theorem dX7_forget_4 : decode cX7_forget 4 = .ok (.getfield 207, 3) := by decide +kernel
theorem dX7_forget_7 : decode cX7_forget 7 = .ok (.istore_n 1, 1) := by decide +kernel
theorem dX7_forget_8 : decode cX7_forget 8 = .ok (.aload_n 0, 1) := by decide +kernel
theorem dX7_forget_9 : decode cX7_forget 9 = .ok (.getfield 61, 3) := by decide +kernel
theorem dX7_forget_12 : decode cX7_forget 12 = .ok (.invokevirtual 102, 3) := by decide +kernel
theorem dX7_forget_15 : decode cX7_forget 15 = .ok (.iload_n 1, 1) := by decide +kernel
theorem dX7_forget_16 : decode cX7_forget 16 = .ok (.ireturn, 1) := by decide +kernel
theorem dX7_unseen_0 : decode cX7_unseen 0 = .ok (.iconst 0, 1) := by decide +kernel
theorem dX7_unseen_1 : decode cX7_unseen 1 = .ok (.istore_n 1, 1) := by decide +kernel
theorem dX7_unseen_2 : decode cX7_unseen 2 = .ok (.iconst 0, 1) := by decide +kernel
theorem dX7_unseen_3 : decode cX7_unseen 3 = .ok (.istore_n 2, 1) := by decide +kernel
theorem dX7_unseen_4 : decode cX7_unseen 4 = .ok (.iload_n 2, 1) := by decide +kernel
theorem dX7_unseen_5 : decode cX7_unseen 5 = .ok (.aload_n 0, 1) := by decide +kernel
theorem dX7_unseen_6 : decode cX7_unseen 6 = .ok (.getfield 27, 3) := by decide +kernel
theorem dX7_unseen_9 : decode cX7_unseen 9 = .ok (.getfield 128, 3) := by decide +kernel
theorem dX7_unseen_12 : decode cX7_unseen 12 = .ok (.if_icmp .ge 37, 3) := by decide +kernel
theorem dX7_unseen_15 : decode cX7_unseen 15 = .ok (.aload_n 0, 1) := by decide +kernel
theorem dX7_unseen_16 : decode cX7_unseen 16 = .ok (.bipush 100, 2) := by decide +kernel
theorem dX7_unseen_18 : decode cX7_unseen 18 = .ok (.iload_n 2, 1) := by decide +kernel
theorem dX7_unseen_19 : decode cX7_unseen 19 = .ok (.iadd, 1) := by decide +kernel
theorem dX7_unseen_20 : decode cX7_unseen 20 = .ok (.invokevirtual 196, 3) := by decide +kernel
theorem dX7_unseen_23 : decode cX7_unseen 23 = .ok (.aload_n 0, 1) := by decide +kernel
theorem dX7_unseen_24 : decode cX7_unseen 24 = .ok (.getfield 61, 3) := by decide +kernel
theorem dX7_unseen_27 : decode cX7_unseen 27 = .ok (.aload_n 0, 1) := by decide +kernel
theorem dX7_unseen_28 : decode cX7_unseen 28 = .ok (.getfield 48, 3) := by decide +kernel
theorem dX7_unseen_31 : decode cX7_unseen 31 = .ok (.invokevirtual 208, 3) := by decide +kernel
theorem dX7_unseen_34 : decode cX7_unseen 34 = .ok (.ifCond .eq 9, 3) := by decide +kernel
theorem dX7_unseen_37 : decode cX7_unseen 37 = .ok (.iload_n 1, 1) := by decide +kernel
theorem dX7_unseen_38 : decode cX7_unseen 38 = .ok (.iconst 1, 1) := by decide +kernel
theorem dX7_unseen_39 : decode cX7_unseen 39 = .ok (.iload_n 2, 1) := by decide +kernel
theorem dX7_unseen_40 : decode cX7_unseen 40 = .ok (.ishl, 1) := by decide +kernel
theorem dX7_unseen_41 : decode cX7_unseen 41 = .ok (.ior, 1) := by decide +kernel
theorem dX7_unseen_42 : decode cX7_unseen 42 = .ok (.istore_n 1, 1) := by decide +kernel
theorem dX7_unseen_43 : decode cX7_unseen 43 = .ok (.iinc 2 1, 3) := by decide +kernel
theorem dX7_unseen_46 : decode cX7_unseen 46 = .ok (.goto (-42), 3) := by decide +kernel
theorem dX7_unseen_49 : decode cX7_unseen 49 = .ok (.iload_n 1, 1) := by decide +kernel
theorem dX7_unseen_50 : decode cX7_unseen 50 = .ok (.ireturn, 1) := by decide +kernel
theorem dX7_ask_0 : decode cX7_ask 0 = .ok (.aload_n 0, 1) := by decide +kernel
theorem dX7_ask_1 : decode cX7_ask 1 = .ok (.aload_n 0, 1) := by decide +kernel
theorem dX7_ask_2 : decode cX7_ask 2 = .ok (.invokevirtual 212, 3) := by decide +kernel
theorem dX7_ask_5 : decode cX7_ask 5 = .ok (.invokevirtual 215, 3) := by decide +kernel
theorem dX7_ask_8 : decode cX7_ask 8 = .ok (.bipush (-9), 2) := by decide +kernel
theorem dX7_ask_10 : decode cX7_ask 10 = .ok (.istore_n 1, 1) := by decide +kernel
theorem dX7_ask_11 : decode cX7_ask 11 = .ok (.iconst 1, 1) := by decide +kernel
theorem dX7_ask_12 : decode cX7_ask 12 = .ok (.istore_n 2, 1) := by decide +kernel
theorem dX7_ask_13 : decode cX7_ask 13 = .ok (.iconst 0, 1) := by decide +kernel
theorem dX7_ask_14 : decode cX7_ask 14 = .ok (.istore_n 3, 1) := by decide +kernel
theorem dX7_ask_15 : decode cX7_ask 15 = .ok (.iload_n 3, 1) := by decide +kernel
theorem dX7_ask_16 : decode cX7_ask 16 = .ok (.iconst 4, 1) := by decide +kernel
theorem dX7_ask_17 : decode cX7_ask 17 = .ok (.aload_n 0, 1) := by decide +kernel
theorem dX7_ask_18 : decode cX7_ask 18 = .ok (.getfield 27, 3) := by decide +kernel
theorem dX7_ask_21 : decode cX7_ask 21 = .ok (.getfield 106, 3) := by decide +kernel
theorem dX7_ask_24 : decode cX7_ask 24 = .ok (.imul, 1) := by decide +kernel
theorem dX7_ask_25 : decode cX7_ask 25 = .ok (.if_icmp .ge 31, 3) := by decide +kernel
theorem dX7_ask_28 : decode cX7_ask 28 = .ok (.aload_n 0, 1) := by decide +kernel
theorem dX7_ask_29 : decode cX7_ask 29 = .ok (.getfield 72, 3) := by decide +kernel
theorem dX7_ask_32 : decode cX7_ask 32 = .ok (.iload_n 3, 1) := by decide +kernel
theorem dX7_ask_33 : decode cX7_ask 33 = .ok (.iaload, 1) := by decide +kernel
theorem dX7_ask_34 : decode cX7_ask 34 = .ok (.invokestatic 218, 3) := by decide +kernel
theorem dX7_ask_37 : decode cX7_ask 37 = .ok (.istore 4, 2) := by decide +kernel
theorem dX7_ask_39 : decode cX7_ask 39 = .ok (.iload 4, 2) := by decide +kernel
theorem dX7_ask_41 : decode cX7_ask 41 = .ok (.iload_n 2, 1) := by decide +kernel
theorem dX7_ask_42 : decode cX7_ask 42 = .ok (.if_icmp .le 8, 3) := by decide +kernel
theorem dX7_ask_45 : decode cX7_ask 45 = .ok (.iload 4, 2) := by decide +kernel
theorem dX7_ask_47 : decode cX7_ask 47 = .ok (.istore_n 2, 1) := by decide +kernel
theorem dX7_ask_48 : decode cX7_ask 48 = .ok (.iload_n 3, 1) := by decide +kernel
theorem dX7_ask_49 : decode cX7_ask 49 = .ok (.istore_n 1, 1) := by decide +kernel
theorem dX7_ask_50 : decode cX7_ask 50 = .ok (.iinc 3 1, 3) := by decide +kernel
theorem dX7_ask_53 : decode cX7_ask 53 = .ok (.goto (-38), 3) := by decide +kernel
theorem dX7_ask_56 : decode cX7_ask 56 = .ok (.iload_n 1, 1) := by decide +kernel
theorem dX7_ask_57 : decode cX7_ask 57 = .ok (.ireturn, 1) := by decide +kernel
theorem dX7_keep_0 : decode cX7_keep 0 = .ok (.iload_n 1, 1) := by decide +kernel
theorem dX7_keep_1 : decode cX7_keep 1 = .ok (.iconst 2, 1) := by decide +kernel
theorem dX7_keep_2 : decode cX7_keep 2 = .ok (.invokestatic 76, 3) := by decide +kernel
theorem dX7_keep_5 : decode cX7_keep 5 = .ok (.ifCond .ne 6, 3) := by decide +kernel
theorem dX7_keep_8 : decode cX7_keep 8 = .ok (.bipush (-2), 2) := by decide +kernel
theorem dX7_keep_10 : decode cX7_keep 10 = .ok (.ireturn, 1) := by decide +kernel
theorem dX7_keep_11 : decode cX7_keep 11 = .ok (.aload_n 0, 1) := by decide +kernel
theorem dX7_keep_12 : decode cX7_keep 12 = .ok (.getfield 65, 3) := by decide +kernel
theorem dX7_keep_15 : decode cX7_keep 15 = .ok (.iload_n 1, 1) := by decide +kernel
theorem dX7_keep_16 : decode cX7_keep 16 = .ok (.aaload, 1) := by decide +kernel
theorem dX7_keep_17 : decode cX7_keep 17 = .ok (.aload_n 0, 1) := by decide +kernel
theorem dX7_keep_18 : decode cX7_keep 18 = .ok (.getfield 34, 3) := by decide +kernel
theorem dX7_keep_21 : decode cX7_keep 21 = .ok (.invokevirtual 95, 3) := by decide +kernel
theorem dX7_keep_24 : decode cX7_keep 24 = .ok (.aload_n 0, 1) := by decide +kernel
theorem dX7_keep_25 : decode cX7_keep 25 = .ok (.dup, 1) := by decide +kernel
theorem dX7_keep_26 : decode cX7_keep 26 = .ok (.getfield 69, 3) := by decide +kernel
theorem dX7_keep_29 : decode cX7_keep 29 = .ok (.iconst 1, 1) := by decide +kernel
theorem dX7_keep_30 : decode cX7_keep 30 = .ok (.iload_n 1, 1) := by decide +kernel
theorem dX7_keep_31 : decode cX7_keep 31 = .ok (.ishl, 1) := by decide +kernel
theorem dX7_keep_32 : decode cX7_keep 32 = .ok (.ior, 1) := by decide +kernel
theorem dX7_keep_33 : decode cX7_keep 33 = .ok (.putfield 69, 3) := by decide +kernel
theorem dX7_keep_36 : decode cX7_keep 36 = .ok (.aload_n 0, 1) := by decide +kernel
theorem dX7_keep_37 : decode cX7_keep 37 = .ok (.getfield 27, 3) := by decide +kernel
theorem dX7_keep_40 : decode cX7_keep 40 = .ok (.getfield 106, 3) := by decide +kernel
theorem dX7_keep_43 : decode cX7_keep 43 = .ok (.ireturn, 1) := by decide +kernel
theorem dX7_back_0 : decode cX7_back 0 = .ok (.iload_n 1, 1) := by decide +kernel
theorem dX7_back_1 : decode cX7_back 1 = .ok (.iconst 2, 1) := by decide +kernel
theorem dX7_back_2 : decode cX7_back 2 = .ok (.invokestatic 76, 3) := by decide +kernel
theorem dX7_back_5 : decode cX7_back 5 = .ok (.ifCond .ne 6, 3) := by decide +kernel
theorem dX7_back_8 : decode cX7_back 8 = .ok (.bipush (-2), 2) := by decide +kernel
theorem dX7_back_10 : decode cX7_back 10 = .ok (.ireturn, 1) := by decide +kernel
theorem dX7_back_11 : decode cX7_back 11 = .ok (.aload_n 0, 1) := by decide +kernel
theorem dX7_back_12 : decode cX7_back 12 = .ok (.getfield 69, 3) := by decide +kernel
theorem dX7_back_15 : decode cX7_back 15 = .ok (.iload_n 1, 1) := by decide +kernel
theorem dX7_back_16 : decode cX7_back 16 = .ok (.invokestatic 223, 3) := by decide +kernel
theorem dX7_back_19 : decode cX7_back 19 = .ok (.ifCond .ne 6, 3) := by decide +kernel
theorem dX7_back_22 : decode cX7_back 22 = .ok (.bipush (-3), 2) := by decide +kernel
theorem dX7_back_24 : decode cX7_back 24 = .ok (.ireturn, 1) := by decide +kernel
theorem dX7_back_25 : decode cX7_back 25 = .ok (.aload_n 0, 1) := by decide +kernel
theorem dX7_back_26 : decode cX7_back 26 = .ok (.getfield 34, 3) := by decide +kernel
theorem dX7_back_29 : decode cX7_back 29 = .ok (.aload_n 0, 1) := by decide +kernel
theorem dX7_back_30 : decode cX7_back 30 = .ok (.getfield 65, 3) := by decide +kernel
theorem dX7_back_33 : decode cX7_back 33 = .ok (.iload_n 1, 1) := by decide +kernel
theorem dX7_back_34 : decode cX7_back 34 = .ok (.aaload, 1) := by decide +kernel
theorem dX7_back_35 : decode cX7_back 35 = .ok (.invokevirtual 95, 3) := by decide +kernel
theorem dX7_back_38 : decode cX7_back 38 = .ok (.aload_n 0, 1) := by decide +kernel
theorem dX7_back_39 : decode cX7_back 39 = .ok (.getfield 54, 3) := by decide +kernel
theorem dX7_back_42 : decode cX7_back 42 = .ok (.invokevirtual 99, 3) := by decide +kernel
theorem dX7_back_45 : decode cX7_back 45 = .ok (.aload_n 0, 1) := by decide +kernel
theorem dX7_back_46 : decode cX7_back 46 = .ok (.invokevirtual 103, 3) := by decide +kernel
theorem dX7_back_49 : decode cX7_back 49 = .ok (.aload_n 0, 1) := by decide +kernel
theorem dX7_back_50 : decode cX7_back 50 = .ok (.getfield 27, 3) := by decide +kernel
theorem dX7_back_53 : decode cX7_back 53 = .ok (.getfield 106, 3) := by decide +kernel
theorem dX7_back_56 : decode cX7_back 56 = .ok (.ireturn, 1) := by decide +kernel
theorem dX7_count_0 : decode cX7_count 0 = .ok (.iload_n 1, 1) := by decide +kernel
theorem dX7_count_1 : decode cX7_count 1 = .ok (.tableswitch 96 0 6 #[43, 51, 59, 67, 75, 83, 88], 43) := by decide +kernel
theorem dX7_count_44 : decode cX7_count 44 = .ok (.aload_n 0, 1) := by decide +kernel
theorem dX7_count_45 : decode cX7_count 45 = .ok (.getfield 27, 3) := by decide +kernel
theorem dX7_count_48 : decode cX7_count 48 = .ok (.getfield 106, 3) := by decide +kernel
theorem dX7_count_51 : decode cX7_count 51 = .ok (.ireturn, 1) := by decide +kernel
theorem dX7_count_52 : decode cX7_count 52 = .ok (.aload_n 0, 1) := by decide +kernel
theorem dX7_count_53 : decode cX7_count 53 = .ok (.getfield 27, 3) := by decide +kernel
theorem dX7_count_56 : decode cX7_count 56 = .ok (.getfield 128, 3) := by decide +kernel
theorem dX7_count_59 : decode cX7_count 59 = .ok (.ireturn, 1) := by decide +kernel
theorem dX7_count_60 : decode cX7_count 60 = .ok (.aload_n 0, 1) := by decide +kernel
theorem dX7_count_61 : decode cX7_count 61 = .ok (.getfield 34, 3) := by decide +kernel
theorem dX7_count_64 : decode cX7_count 64 = .ok (.getfield 226, 3) := by decide +kernel
theorem dX7_count_67 : decode cX7_count 67 = .ok (.ireturn, 1) := by decide +kernel
theorem dX7_count_68 : decode cX7_count 68 = .ok (.aload_n 0, 1) := by decide +kernel
theorem dX7_count_69 : decode cX7_count 69 = .ok (.getfield 44, 3) := by decide +kernel
theorem dX7_count_72 : decode cX7_count 72 = .ok (.invokevirtual 229, 3) := by decide +kernel
theorem dX7_count_75 : decode cX7_count 75 = .ok (.ireturn, 1) := by decide +kernel
theorem dX7_count_76 : decode cX7_count 76 = .ok (.aload_n 0, 1) := by decide +kernel
theorem dX7_count_77 : decode cX7_count 77 = .ok (.getfield 61, 3) := by decide +kernel
theorem dX7_count_80 : decode cX7_count 80 = .ok (.getfield 207, 3) := by decide +kernel
theorem dX7_count_83 : decode cX7_count 83 = .ok (.ireturn, 1) := by decide +kernel
theorem dX7_count_84 : decode cX7_count 84 = .ok (.aload_n 0, 1) := by decide +kernel
theorem dX7_count_85 : decode cX7_count 85 = .ok (.getfield 13, 3) := by decide +kernel
theorem dX7_count_88 : decode cX7_count 88 = .ok (.ireturn, 1) := by decide +kernel
theorem dX7_count_89 : decode cX7_count 89 = .ok (.aload_n 0, 1) := by decide +kernel
theorem dX7_count_90 : decode cX7_count 90 = .ok (.getfield 54, 3) := by decide +kernel
theorem dX7_count_93 : decode cX7_count 93 = .ok (.getfield 171, 3) := by decide +kernel
theorem dX7_count_96 : decode cX7_count 96 = .ok (.ireturn, 1) := by decide +kernel
theorem dX7_count_97 : decode cX7_count 97 = .ok (.bipush (-2), 2) := by decide +kernel
theorem dX7_count_99 : decode cX7_count 99 = .ok (.ireturn, 1) := by decide +kernel
theorem dX7_within_0 : decode cX7_within 0 = .ok (.iload_n 0, 1) := by decide +kernel
theorem dX7_within_1 : decode cX7_within 1 = .ok (.ifCond .lt 12, 3) := by decide +kernel
theorem dX7_within_4 : decode cX7_within 4 = .ok (.iload_n 0, 1) := by decide +kernel
theorem dX7_within_5 : decode cX7_within 5 = .ok (.iload_n 1, 1) := by decide +kernel
theorem dX7_within_6 : decode cX7_within 6 = .ok (.if_icmp .ge 7, 3) := by decide +kernel
theorem dX7_within_9 : decode cX7_within 9 = .ok (.iconst 1, 1) := by decide +kernel
theorem dX7_within_10 : decode cX7_within 10 = .ok (.goto 4, 3) := by decide +kernel
theorem dX7_within_13 : decode cX7_within 13 = .ok (.iconst 0, 1) := by decide +kernel
theorem dX7_within_14 : decode cX7_within 14 = .ok (.ireturn, 1) := by decide +kernel
theorem dX7_hasBit_0 : decode cX7_hasBit 0 = .ok (.iload_n 0, 1) := by decide +kernel
theorem dX7_hasBit_1 : decode cX7_hasBit 1 = .ok (.iload_n 1, 1) := by decide +kernel
theorem dX7_hasBit_2 : decode cX7_hasBit 2 = .ok (.ishr, 1) := by decide +kernel
theorem dX7_hasBit_3 : decode cX7_hasBit 3 = .ok (.iconst 1, 1) := by decide +kernel
theorem dX7_hasBit_4 : decode cX7_hasBit 4 = .ok (.iand, 1) := by decide +kernel
theorem dX7_hasBit_5 : decode cX7_hasBit 5 = .ok (.iconst 1, 1) := by decide +kernel
theorem dX7_hasBit_6 : decode cX7_hasBit 6 = .ok (.if_icmp .ne 7, 3) := by decide +kernel
theorem dX7_hasBit_9 : decode cX7_hasBit 9 = .ok (.iconst 1, 1) := by decide +kernel
theorem dX7_hasBit_10 : decode cX7_hasBit 10 = .ok (.goto 4, 3) := by decide +kernel
theorem dX7_hasBit_13 : decode cX7_hasBit 13 = .ok (.iconst 0, 1) := by decide +kernel
theorem dX7_hasBit_14 : decode cX7_hasBit 14 = .ok (.ireturn, 1) := by decide +kernel
theorem dX7_isPlace_0 : decode cX7_isPlace 0 = .ok (.iload_n 1, 1) := by decide +kernel
theorem dX7_isPlace_1 : decode cX7_isPlace 1 = .ok (.aload_n 0, 1) := by decide +kernel
theorem dX7_isPlace_2 : decode cX7_isPlace 2 = .ok (.getfield 27, 3) := by decide +kernel
theorem dX7_isPlace_5 : decode cX7_isPlace 5 = .ok (.getfield 106, 3) := by decide +kernel
theorem dX7_isPlace_8 : decode cX7_isPlace 8 = .ok (.invokestatic 76, 3) := by decide +kernel
theorem dX7_isPlace_11 : decode cX7_isPlace 11 = .ok (.ifCond .eq 15, 3) := by decide +kernel
theorem dX7_isPlace_14 : decode cX7_isPlace 14 = .ok (.iload_n 2, 1) := by decide +kernel
theorem dX7_isPlace_15 : decode cX7_isPlace 15 = .ok (.iconst 4, 1) := by decide +kernel
theorem dX7_isPlace_16 : decode cX7_isPlace 16 = .ok (.invokestatic 76, 3) := by decide +kernel
theorem dX7_isPlace_19 : decode cX7_isPlace 19 = .ok (.ifCond .eq 7, 3) := by decide +kernel
theorem dX7_isPlace_22 : decode cX7_isPlace 22 = .ok (.iconst 1, 1) := by decide +kernel
theorem dX7_isPlace_23 : decode cX7_isPlace 23 = .ok (.goto 4, 3) := by decide +kernel
theorem dX7_isPlace_26 : decode cX7_isPlace 26 = .ok (.iconst 0, 1) := by decide +kernel
theorem dX7_isPlace_27 : decode cX7_isPlace 27 = .ok (.ireturn, 1) := by decide +kernel
theorem dX7_refresh_0 : decode cX7_refresh 0 = .ok (.aload_n 0, 1) := by decide +kernel
theorem dX7_refresh_1 : decode cX7_refresh 1 = .ok (.getfield 44, 3) := by decide +kernel
theorem dX7_refresh_4 : decode cX7_refresh 4 = .ok (.aload_n 0, 1) := by decide +kernel
theorem dX7_refresh_5 : decode cX7_refresh 5 = .ok (.getfield 27, 3) := by decide +kernel
theorem dX7_refresh_8 : decode cX7_refresh 8 = .ok (.aload_n 0, 1) := by decide +kernel
theorem dX7_refresh_9 : decode cX7_refresh 9 = .ok (.getfield 34, 3) := by decide +kernel
theorem dX7_refresh_12 : decode cX7_refresh 12 = .ok (.invokevirtual 232, 3) := by decide +kernel
theorem dX7_refresh_15 : decode cX7_refresh 15 = .ok (.return_, 1) := by decide +kernel
theorem dX7_perform_0 : decode cX7_perform 0 = .ok (.aload_n 0, 1) := by decide +kernel
theorem dX7_perform_1 : decode cX7_perform 1 = .ok (.getfield 34, 3) := by decide +kernel
theorem dX7_perform_4 : decode cX7_perform 4 = .ok (.iload_n 1, 1) := by decide +kernel
theorem dX7_perform_5 : decode cX7_perform 5 = .ok (.invokevirtual 167, 3) := by decide +kernel
theorem dX7_perform_8 : decode cX7_perform 8 = .ok (.aload_n 0, 1) := by decide +kernel
theorem dX7_perform_9 : decode cX7_perform 9 = .ok (.getfield 54, 3) := by decide +kernel
theorem dX7_perform_12 : decode cX7_perform 12 = .ok (.iload_n 2, 1) := by decide +kernel
theorem dX7_perform_13 : decode cX7_perform 13 = .ok (.invokevirtual 236, 3) := by decide +kernel
theorem dX7_perform_16 : decode cX7_perform 16 = .ok (.aload_n 0, 1) := by decide +kernel
theorem dX7_perform_17 : decode cX7_perform 17 = .ok (.invokevirtual 103, 3) := by decide +kernel
theorem dX7_perform_20 : decode cX7_perform 20 = .ok (.return_, 1) := by decide +kernel
theorem dX7_tryOut_0 : decode cX7_tryOut 0 = .ok (.aload_n 0, 1) := by decide +kernel
theorem dX7_tryOut_1 : decode cX7_tryOut 1 = .ok (.getfield 38, 3) := by decide +kernel
theorem dX7_tryOut_4 : decode cX7_tryOut 4 = .ok (.aload_n 0, 1) := by decide +kernel
theorem dX7_tryOut_5 : decode cX7_tryOut 5 = .ok (.getfield 34, 3) := by decide +kernel
theorem dX7_tryOut_8 : decode cX7_tryOut 8 = .ok (.invokevirtual 95, 3) := by decide +kernel
theorem dX7_tryOut_11 : decode cX7_tryOut 11 = .ok (.aload_n 0, 1) := by decide +kernel
theorem dX7_tryOut_12 : decode cX7_tryOut 12 = .ok (.getfield 38, 3) := by decide +kernel
theorem dX7_tryOut_15 : decode cX7_tryOut 15 = .ok (.iload_n 1, 1) := by decide +kernel
theorem dX7_tryOut_16 : decode cX7_tryOut 16 = .ok (.invokevirtual 167, 3) := by decide +kernel
theorem dX7_tryOut_19 : decode cX7_tryOut 19 = .ok (.aload_n 0, 1) := by decide +kernel
theorem dX7_tryOut_20 : decode cX7_tryOut 20 = .ok (.getfield 48, 3) := by decide +kernel
theorem dX7_tryOut_23 : decode cX7_tryOut 23 = .ok (.aload_n 0, 1) := by decide +kernel
theorem dX7_tryOut_24 : decode cX7_tryOut 24 = .ok (.getfield 27, 3) := by decide +kernel
theorem dX7_tryOut_27 : decode cX7_tryOut 27 = .ok (.aload_n 0, 1) := by decide +kernel
theorem dX7_tryOut_28 : decode cX7_tryOut 28 = .ok (.getfield 38, 3) := by decide +kernel
theorem dX7_tryOut_31 : decode cX7_tryOut 31 = .ok (.invokevirtual 232, 3) := by decide +kernel
theorem dX7_tryOut_34 : decode cX7_tryOut 34 = .ok (.return_, 1) := by decide +kernel
theorem dX7_gatherAnswers_0 : decode cX7_gatherAnswers 0 = .ok (.iconst 0, 1) := by decide +kernel
theorem dX7_gatherAnswers_1 : decode cX7_gatherAnswers 1 = .ok (.istore_n 2, 1) := by decide +kernel
theorem dX7_gatherAnswers_2 : decode cX7_gatherAnswers 2 = .ok (.iload_n 2, 1) := by decide +kernel
theorem dX7_gatherAnswers_3 : decode cX7_gatherAnswers 3 = .ok (.aload_n 0, 1) := by decide +kernel
theorem dX7_gatherAnswers_4 : decode cX7_gatherAnswers 4 = .ok (.getfield 72, 3) := by decide +kernel
theorem dX7_gatherAnswers_7 : decode cX7_gatherAnswers 7 = .ok (.arraylength, 1) := by decide +kernel
theorem dX7_gatherAnswers_8 : decode cX7_gatherAnswers 8 = .ok (.if_icmp .ge 16, 3) := by decide +kernel
theorem dX7_gatherAnswers_11 : decode cX7_gatherAnswers 11 = .ok (.aload_n 0, 1) := by decide +kernel
theorem dX7_gatherAnswers_12 : decode cX7_gatherAnswers 12 = .ok (.getfield 72, 3) := by decide +kernel
theorem dX7_gatherAnswers_15 : decode cX7_gatherAnswers 15 = .ok (.iload_n 2, 1) := by decide +kernel
theorem dX7_gatherAnswers_16 : decode cX7_gatherAnswers 16 = .ok (.iconst 0, 1) := by decide +kernel
theorem dX7_gatherAnswers_17 : decode cX7_gatherAnswers 17 = .ok (.iastore, 1) := by decide +kernel
theorem dX7_gatherAnswers_18 : decode cX7_gatherAnswers 18 = .ok (.iinc 2 1, 3) := by decide +kernel
theorem dX7_gatherAnswers_21 : decode cX7_gatherAnswers 21 = .ok (.goto (-19), 3) := by decide +kernel
theorem dX7_gatherAnswers_24 : decode cX7_gatherAnswers 24 = .ok (.iconst 0, 1) := by decide +kernel
theorem dX7_gatherAnswers_25 : decode cX7_gatherAnswers 25 = .ok (.istore_n 2, 1) := by decide +kernel
theorem dX7_gatherAnswers_26 : decode cX7_gatherAnswers 26 = .ok (.iload_n 2, 1) := by decide +kernel
theorem dX7_gatherAnswers_27 : decode cX7_gatherAnswers 27 = .ok (.aload_n 0, 1) := by decide +kernel
theorem dX7_gatherAnswers_28 : decode cX7_gatherAnswers 28 = .ok (.getfield 27, 3) := by decide +kernel
theorem dX7_gatherAnswers_31 : decode cX7_gatherAnswers 31 = .ok (.getfield 128, 3) := by decide +kernel
theorem dX7_gatherAnswers_34 : decode cX7_gatherAnswers 34 = .ok (.if_icmp .ge 29, 3) := by decide +kernel
theorem dX7_gatherAnswers_37 : decode cX7_gatherAnswers 37 = .ok (.iload_n 1, 1) := by decide +kernel
theorem dX7_gatherAnswers_38 : decode cX7_gatherAnswers 38 = .ok (.iload_n 2, 1) := by decide +kernel
theorem dX7_gatherAnswers_39 : decode cX7_gatherAnswers 39 = .ok (.invokestatic 223, 3) := by decide +kernel
theorem dX7_gatherAnswers_42 : decode cX7_gatherAnswers 42 = .ok (.ifCond .eq 15, 3) := by decide +kernel
theorem dX7_gatherAnswers_45 : decode cX7_gatherAnswers 45 = .ok (.aload_n 0, 1) := by decide +kernel
theorem dX7_gatherAnswers_46 : decode cX7_gatherAnswers 46 = .ok (.bipush 100, 2) := by decide +kernel
theorem dX7_gatherAnswers_48 : decode cX7_gatherAnswers 48 = .ok (.iload_n 2, 1) := by decide +kernel
theorem dX7_gatherAnswers_49 : decode cX7_gatherAnswers 49 = .ok (.iadd, 1) := by decide +kernel
theorem dX7_gatherAnswers_50 : decode cX7_gatherAnswers 50 = .ok (.invokevirtual 196, 3) := by decide +kernel
theorem dX7_gatherAnswers_53 : decode cX7_gatherAnswers 53 = .ok (.aload_n 0, 1) := by decide +kernel
theorem dX7_gatherAnswers_54 : decode cX7_gatherAnswers 54 = .ok (.invokevirtual 238, 3) := by decide +kernel
theorem dX7_gatherAnswers_57 : decode cX7_gatherAnswers 57 = .ok (.iinc 2 1, 3) := by decide +kernel
theorem dX7_gatherAnswers_60 : decode cX7_gatherAnswers 60 = .ok (.goto (-34), 3) := by decide +kernel
theorem dX7_gatherAnswers_63 : decode cX7_gatherAnswers 63 = .ok (.return_, 1) := by decide +kernel
theorem dX7_addAnswers_0 : decode cX7_addAnswers 0 = .ok (.iconst 0, 1) := by decide +kernel
theorem dX7_addAnswers_1 : decode cX7_addAnswers 1 = .ok (.istore_n 1, 1) := by decide +kernel
theorem dX7_addAnswers_2 : decode cX7_addAnswers 2 = .ok (.iload_n 1, 1) := by decide +kernel
theorem dX7_addAnswers_3 : decode cX7_addAnswers 3 = .ok (.aload_n 0, 1) := by decide +kernel
theorem dX7_addAnswers_4 : decode cX7_addAnswers 4 = .ok (.getfield 27, 3) := by decide +kernel
theorem dX7_addAnswers_7 : decode cX7_addAnswers 7 = .ok (.getfield 106, 3) := by decide +kernel
theorem dX7_addAnswers_10 : decode cX7_addAnswers 10 = .ok (.if_icmp .ge 46, 3) := by decide +kernel
theorem dX7_addAnswers_13 : decode cX7_addAnswers 13 = .ok (.iconst 0, 1) := by decide +kernel
theorem dX7_addAnswers_14 : decode cX7_addAnswers 14 = .ok (.istore_n 2, 1) := by decide +kernel
theorem dX7_addAnswers_15 : decode cX7_addAnswers 15 = .ok (.iload_n 2, 1) := by decide +kernel
theorem dX7_addAnswers_16 : decode cX7_addAnswers 16 = .ok (.iconst 4, 1) := by decide +kernel
theorem dX7_addAnswers_17 : decode cX7_addAnswers 17 = .ok (.if_icmp .ge 33, 3) := by decide +kernel
theorem dX7_addAnswers_20 : decode cX7_addAnswers 20 = .ok (.aload_n 0, 1) := by decide +kernel
theorem dX7_addAnswers_21 : decode cX7_addAnswers 21 = .ok (.getfield 72, 3) := by decide +kernel
theorem dX7_addAnswers_24 : decode cX7_addAnswers 24 = .ok (.iconst 4, 1) := by decide +kernel
theorem dX7_addAnswers_25 : decode cX7_addAnswers 25 = .ok (.iload_n 1, 1) := by decide +kernel
theorem dX7_addAnswers_26 : decode cX7_addAnswers 26 = .ok (.imul, 1) := by decide +kernel
theorem dX7_addAnswers_27 : decode cX7_addAnswers 27 = .ok (.iload_n 2, 1) := by decide +kernel
theorem dX7_addAnswers_28 : decode cX7_addAnswers 28 = .ok (.iadd, 1) := by decide +kernel
theorem dX7_addAnswers_29 : decode cX7_addAnswers 29 = .ok (.dup2, 1) := by decide +kernel
theorem dX7_addAnswers_30 : decode cX7_addAnswers 30 = .ok (.iaload, 1) := by decide +kernel
theorem dX7_addAnswers_31 : decode cX7_addAnswers 31 = .ok (.iconst 1, 1) := by decide +kernel
theorem dX7_addAnswers_32 : decode cX7_addAnswers 32 = .ok (.aload_n 0, 1) := by decide +kernel
theorem dX7_addAnswers_33 : decode cX7_addAnswers 33 = .ok (.getfield 48, 3) := by decide +kernel
theorem dX7_addAnswers_36 : decode cX7_addAnswers 36 = .ok (.iload_n 1, 1) := by decide +kernel
theorem dX7_addAnswers_37 : decode cX7_addAnswers 37 = .ok (.iload_n 2, 1) := by decide +kernel
theorem dX7_addAnswers_38 : decode cX7_addAnswers 38 = .ok (.invokevirtual 177, 3) := by decide +kernel
theorem dX7_addAnswers_41 : decode cX7_addAnswers 41 = .ok (.ishl, 1) := by decide +kernel
theorem dX7_addAnswers_42 : decode cX7_addAnswers 42 = .ok (.ior, 1) := by decide +kernel
theorem dX7_addAnswers_43 : decode cX7_addAnswers 43 = .ok (.iastore, 1) := by decide +kernel
theorem dX7_addAnswers_44 : decode cX7_addAnswers 44 = .ok (.iinc 2 1, 3) := by decide +kernel
theorem dX7_addAnswers_47 : decode cX7_addAnswers 47 = .ok (.goto (-32), 3) := by decide +kernel
theorem dX7_addAnswers_50 : decode cX7_addAnswers 50 = .ok (.iinc 1 1, 3) := by decide +kernel
theorem dX7_addAnswers_53 : decode cX7_addAnswers 53 = .ok (.goto (-51), 3) := by decide +kernel
theorem dX7_addAnswers_56 : decode cX7_addAnswers 56 = .ok (.return_, 1) := by decide +kernel
theorem dX8_init_0 : decode cX8_init 0 = .ok (.aload_n 0, 1) := by decide +kernel
theorem dX8_init_1 : decode cX8_init 1 = .ok (.invokespecial 1, 3) := by decide +kernel
theorem dX8_init_4 : decode cX8_init 4 = .ok (.aload_n 0, 1) := by decide +kernel
theorem dX8_init_5 : decode cX8_init 5 = .ok (.bipush 120, 2) := by decide +kernel
theorem dX8_init_7 : decode cX8_init 7 = .ok (.newarray .int, 2) := by decide +kernel
theorem dX8_init_9 : decode cX8_init 9 = .ok (.putfield 7, 3) := by decide +kernel
theorem dX8_init_12 : decode cX8_init 12 = .ok (.aload_n 0, 1) := by decide +kernel
theorem dX8_init_13 : decode cX8_init 13 = .ok (.sipush 140, 3) := by decide +kernel
theorem dX8_init_16 : decode cX8_init 16 = .ok (.newarray .int, 2) := by decide +kernel
theorem dX8_init_18 : decode cX8_init 18 = .ok (.putfield 13, 3) := by decide +kernel
theorem dX8_init_21 : decode cX8_init 21 = .ok (.aload_n 0, 1) := by decide +kernel
theorem dX8_init_22 : decode cX8_init 22 = .ok (.sipush 140, 3) := by decide +kernel
theorem dX8_init_25 : decode cX8_init 25 = .ok (.newarray .int, 2) := by decide +kernel
theorem dX8_init_27 : decode cX8_init 27 = .ok (.putfield 16, 3) := by decide +kernel
theorem dX8_init_30 : decode cX8_init 30 = .ok (.aload_n 0, 1) := by decide +kernel
theorem dX8_init_31 : decode cX8_init 31 = .ok (.bipush 19, 2) := by decide +kernel
theorem dX8_init_33 : decode cX8_init 33 = .ok (.newarray .int, 2) := by decide +kernel
theorem dX8_init_35 : decode cX8_init 35 = .ok (.putfield 19, 3) := by decide +kernel
theorem dX8_init_38 : decode cX8_init 38 = .ok (.aload_n 0, 1) := by decide +kernel
theorem dX8_init_39 : decode cX8_init 39 = .ok (.bipush 19, 2) := by decide +kernel
theorem dX8_init_41 : decode cX8_init 41 = .ok (.newarray .int, 2) := by decide +kernel
theorem dX8_init_43 : decode cX8_init 43 = .ok (.putfield 22, 3) := by decide +kernel
theorem dX8_init_46 : decode cX8_init 46 = .ok (.aload_n 0, 1) := by decide +kernel
theorem dX8_init_47 : decode cX8_init 47 = .ok (.sipush 190, 3) := by decide +kernel
theorem dX8_init_50 : decode cX8_init 50 = .ok (.newarray .int, 2) := by decide +kernel
theorem dX8_init_52 : decode cX8_init 52 = .ok (.putfield 25, 3) := by decide +kernel
theorem dX8_init_55 : decode cX8_init 55 = .ok (.aload_n 0, 1) := by decide +kernel
theorem dX8_init_56 : decode cX8_init 56 = .ok (.bipush 38, 2) := by decide +kernel
theorem dX8_init_58 : decode cX8_init 58 = .ok (.newarray .int, 2) := by decide +kernel
theorem dX8_init_60 : decode cX8_init 60 = .ok (.putfield 28, 3) := by decide +kernel
theorem dX8_init_63 : decode cX8_init 63 = .ok (.aload_n 0, 1) := by decide +kernel
theorem dX8_init_64 : decode cX8_init 64 = .ok (.iconst 2, 1) := by decide +kernel
theorem dX8_init_65 : decode cX8_init 65 = .ok (.newarray .boolean, 2) := by decide +kernel
theorem dX8_init_67 : decode cX8_init 67 = .ok (.putfield 31, 3) := by decide +kernel
theorem dX8_init_70 : decode cX8_init 70 = .ok (.aload_n 0, 1) := by decide +kernel
theorem dX8_init_71 : decode cX8_init 71 = .ok (.bipush 6, 2) := by decide +kernel
theorem dX8_init_73 : decode cX8_init 73 = .ok (.newarray .int, 2) := by decide +kernel
theorem dX8_init_75 : decode cX8_init 75 = .ok (.putfield 35, 3) := by decide +kernel
theorem dX8_init_78 : decode cX8_init 78 = .ok (.aload_n 0, 1) := by decide +kernel
theorem dX8_init_79 : decode cX8_init 79 = .ok (.bipush 6, 2) := by decide +kernel
theorem dX8_init_81 : decode cX8_init 81 = .ok (.newarray .int, 2) := by decide +kernel
theorem dX8_init_83 : decode cX8_init 83 = .ok (.putfield 38, 3) := by decide +kernel
theorem dX8_init_86 : decode cX8_init 86 = .ok (.aload_n 0, 1) := by decide +kernel
theorem dX8_init_87 : decode cX8_init 87 = .ok (.bipush 6, 2) := by decide +kernel
theorem dX8_init_89 : decode cX8_init 89 = .ok (.newarray .int, 2) := by decide +kernel
theorem dX8_init_91 : decode cX8_init 91 = .ok (.putfield 41, 3) := by decide +kernel
theorem dX8_init_94 : decode cX8_init 94 = .ok (.aload_n 0, 1) := by decide +kernel
theorem dX8_init_95 : decode cX8_init 95 = .ok (.bipush 36, 2) := by decide +kernel
theorem dX8_init_97 : decode cX8_init 97 = .ok (.newarray .int, 2) := by decide +kernel
theorem dX8_init_99 : decode cX8_init 99 = .ok (.putfield 44, 3) := by decide +kernel
theorem dX8_init_102 : decode cX8_init 102 = .ok (.aload_n 0, 1) := by decide +kernel
theorem dX8_init_103 : decode cX8_init 103 = .ok (.bipush 8, 2) := by decide +kernel
theorem dX8_init_105 : decode cX8_init 105 = .ok (.newarray .int, 2) := by decide +kernel
theorem dX8_init_107 : decode cX8_init 107 = .ok (.putfield 47, 3) := by decide +kernel
theorem dX8_init_110 : decode cX8_init 110 = .ok (.aload_n 0, 1) := by decide +kernel
theorem dX8_init_111 : decode cX8_init 111 = .ok (.invokevirtual 50, 3) := by decide +kernel
theorem dX8_init_114 : decode cX8_init 114 = .ok (.aload_n 0, 1) := by decide +kernel
theorem dX8_init_115 : decode cX8_init 115 = .ok (.invokevirtual 53, 3) := by decide +kernel
theorem dX8_init_118 : decode cX8_init 118 = .ok (.return_, 1) := by decide +kernel
theorem dX8_in_0 : decode cX8_in 0 = .ok (.iload_n 0, 1) := by decide +kernel
theorem dX8_in_1 : decode cX8_in 1 = .ok (.iload_n 1, 1) := by decide +kernel
theorem dX8_in_2 : decode cX8_in 2 = .ok (.if_icmp .lt 12, 3) := by decide +kernel
theorem dX8_in_5 : decode cX8_in 5 = .ok (.iload_n 0, 1) := by decide +kernel
theorem dX8_in_6 : decode cX8_in 6 = .ok (.iload_n 2, 1) := by decide +kernel
theorem dX8_in_7 : decode cX8_in 7 = .ok (.if_icmp .gt 7, 3) := by decide +kernel
theorem dX8_in_10 : decode cX8_in 10 = .ok (.iconst 1, 1) := by decide +kernel
theorem dX8_in_11 : decode cX8_in 11 = .ok (.goto 4, 3) := by decide +kernel
theorem dX8_in_14 : decode cX8_in 14 = .ok (.iconst 0, 1) := by decide +kernel
theorem dX8_in_15 : decode cX8_in 15 = .ok (.ireturn, 1) := by decide +kernel
theorem dX8_has_0 : decode cX8_has 0 = .ok (.iload_n 0, 1) := by decide +kernel
theorem dX8_has_1 : decode cX8_has 1 = .ok (.iload_n 1, 1) := by decide +kernel
theorem dX8_has_2 : decode cX8_has 2 = .ok (.ishr, 1) := by decide +kernel
theorem dX8_has_3 : decode cX8_has 3 = .ok (.iconst 1, 1) := by decide +kernel
theorem dX8_has_4 : decode cX8_has 4 = .ok (.iand, 1) := by decide +kernel
theorem dX8_has_5 : decode cX8_has 5 = .ok (.iconst 1, 1) := by decide +kernel
theorem dX8_has_6 : decode cX8_has 6 = .ok (.if_icmp .ne 7, 3) := by decide +kernel
theorem dX8_has_9 : decode cX8_has 9 = .ok (.iconst 1, 1) := by decide +kernel
theorem dX8_has_10 : decode cX8_has 10 = .ok (.goto 4, 3) := by decide +kernel
theorem dX8_has_13 : decode cX8_has 13 = .ok (.iconst 0, 1) := by decide +kernel
theorem dX8_has_14 : decode cX8_has 14 = .ok (.ireturn, 1) := by decide +kernel
theorem dX8_ones_0 : decode cX8_ones 0 = .ok (.iconst 0, 1) := by decide +kernel
theorem dX8_ones_1 : decode cX8_ones 1 = .ok (.istore_n 1, 1) := by decide +kernel
theorem dX8_ones_2 : decode cX8_ones 2 = .ok (.iload_n 0, 1) := by decide +kernel
theorem dX8_ones_3 : decode cX8_ones 3 = .ok (.istore_n 2, 1) := by decide +kernel
theorem dX8_ones_4 : decode cX8_ones 4 = .ok (.iload_n 2, 1) := by decide +kernel
theorem dX8_ones_5 : decode cX8_ones 5 = .ok (.ifCond .eq 15, 3) := by decide +kernel
theorem dX8_ones_8 : decode cX8_ones 8 = .ok (.iinc 1 1, 3) := by decide +kernel
theorem dX8_ones_11 : decode cX8_ones 11 = .ok (.iload_n 2, 1) := by decide +kernel
theorem dX8_ones_12 : decode cX8_ones 12 = .ok (.iload_n 2, 1) := by decide +kernel
theorem dX8_ones_13 : decode cX8_ones 13 = .ok (.iconst 1, 1) := by decide +kernel
theorem dX8_ones_14 : decode cX8_ones 14 = .ok (.isub, 1) := by decide +kernel
theorem dX8_ones_15 : decode cX8_ones 15 = .ok (.iand, 1) := by decide +kernel
theorem dX8_ones_16 : decode cX8_ones 16 = .ok (.istore_n 2, 1) := by decide +kernel
theorem dX8_ones_17 : decode cX8_ones 17 = .ok (.goto (-13), 3) := by decide +kernel
theorem dX8_ones_20 : decode cX8_ones 20 = .ok (.iload_n 1, 1) := by decide +kernel
theorem dX8_ones_21 : decode cX8_ones 21 = .ok (.ireturn, 1) := by decide +kernel
theorem dX8_type_0 : decode cX8_type 0 = .ok (.aload_n 0, 1) := by decide +kernel
theorem dX8_type_1 : decode cX8_type 1 = .ok (.iconst 0, 1) := by decide +kernel
theorem dX8_type_2 : decode cX8_type 2 = .ok (.putfield 56, 3) := by decide +kernel
theorem dX8_type_5 : decode cX8_type 5 = .ok (.iload_n 1, 1) := by decide +kernel
theorem dX8_type_6 : decode cX8_type 6 = .ok (.iconst 0, 1) := by decide +kernel
theorem dX8_type_7 : decode cX8_type 7 = .ok (.sipush 255, 3) := by decide +kernel
theorem dX8_type_10 : decode cX8_type 10 = .ok (.invokestatic 60, 3) := by decide +kernel
theorem dX8_type_13 : decode cX8_type 13 = .ok (.ifCond .ne 6, 3) := by decide +kernel
theorem dX8_type_16 : decode cX8_type 16 = .ok (.bipush (-2), 2) := by decide +kernel
theorem dX8_type_18 : decode cX8_type 18 = .ok (.ireturn, 1) := by decide +kernel
theorem dX8_type_19 : decode cX8_type 19 = .ok (.aload_n 0, 1) := by decide +kernel
theorem dX8_type_20 : decode cX8_type 20 = .ok (.getfield 64, 3) := by decide +kernel
theorem dX8_type_23 : decode cX8_type 23 = .ok (.bipush 120, 2) := by decide +kernel
theorem dX8_type_25 : decode cX8_type 25 = .ok (.if_icmp .ne 6, 3) := by decide +kernel
theorem dX8_type_28 : decode cX8_type 28 = .ok (.bipush (-4), 2) := by decide +kernel
theorem dX8_type_30 : decode cX8_type 30 = .ok (.ireturn, 1) := by decide +kernel
theorem dX8_type_31 : decode cX8_type 31 = .ok (.aload_n 0, 1) := by decide +kernel
theorem dX8_type_32 : decode cX8_type 32 = .ok (.getfield 7, 3) := by decide +kernel
theorem dX8_type_35 : decode cX8_type 35 = .ok (.aload_n 0, 1) := by decide +kernel
theorem dX8_type_36 : decode cX8_type 36 = .ok (.getfield 64, 3) := by decide +kernel
theorem dX8_type_39 : decode cX8_type 39 = .ok (.iload_n 1, 1) := by decide +kernel
theorem dX8_type_40 : decode cX8_type 40 = .ok (.iastore, 1) := by decide +kernel
theorem dX8_type_41 : decode cX8_type 41 = .ok (.aload_n 0, 1) := by decide +kernel
theorem dX8_type_42 : decode cX8_type 42 = .ok (.dup, 1) := by decide +kernel
theorem dX8_type_43 : decode cX8_type 43 = .ok (.getfield 64, 3) := by decide +kernel
theorem dX8_type_46 : decode cX8_type 46 = .ok (.iconst 1, 1) := by decide +kernel
theorem dX8_type_47 : decode cX8_type 47 = .ok (.iadd, 1) := by decide +kernel
theorem dX8_type_48 : decode cX8_type 48 = .ok (.putfield 64, 3) := by decide +kernel
theorem dX8_type_51 : decode cX8_type 51 = .ok (.aload_n 0, 1) := by decide +kernel
theorem dX8_type_52 : decode cX8_type 52 = .ok (.getfield 64, 3) := by decide +kernel
theorem dX8_type_55 : decode cX8_type 55 = .ok (.ireturn, 1) := by decide +kernel
theorem dX8_clear_0 : decode cX8_clear 0 = .ok (.aload_n 0, 1) := by decide +kernel
theorem dX8_clear_1 : decode cX8_clear 1 = .ok (.iconst 0, 1) := by decide +kernel
theorem dX8_clear_2 : decode cX8_clear 2 = .ok (.putfield 56, 3) := by decide +kernel
theorem dX8_clear_5 : decode cX8_clear 5 = .ok (.aload_n 0, 1) := by decide +kernel
theorem dX8_clear_6 : decode cX8_clear 6 = .ok (.getfield 64, 3) := by decide +kernel
theorem dX8_clear_9 : decode cX8_clear 9 = .ok (.istore_n 1, 1) := by decide +kernel
theorem dX8_clear_10 : decode cX8_clear 10 = .ok (.aload_n 0, 1) := by decide +kernel
theorem dX8_clear_11 : decode cX8_clear 11 = .ok (.iconst 0, 1) := by decide +kernel
theorem dX8_clear_12 : decode cX8_clear 12 = .ok (.putfield 64, 3) := by decide +kernel
theorem dX8_clear_15 : decode cX8_clear 15 = .ok (.iload_n 1, 1) := by decide +kernel
theorem dX8_clear_16 : decode cX8_clear 16 = .ok (.ireturn, 1) := by decide +kernel
theorem dX8_letterAt_0 : decode cX8_letterAt 0 = .ok (.iload_n 1, 1) := by decide +kernel
theorem dX8_letterAt_1 : decode cX8_letterAt 1 = .ok (.aload_n 0, 1) := by decide +kernel
theorem dX8_letterAt_2 : decode cX8_letterAt 2 = .ok (.getfield 64, 3) := by decide +kernel
theorem dX8_letterAt_5 : decode cX8_letterAt 5 = .ok (.if_icmp .ge 12, 3) := by decide +kernel
theorem dX8_letterAt_8 : decode cX8_letterAt 8 = .ok (.aload_n 0, 1) := by decide +kernel
theorem dX8_letterAt_9 : decode cX8_letterAt 9 = .ok (.getfield 7, 3) := by decide +kernel
theorem dX8_letterAt_12 : decode cX8_letterAt 12 = .ok (.iload_n 1, 1) := by decide +kernel
theorem dX8_letterAt_13 : decode cX8_letterAt 13 = .ok (.iaload, 1) := by decide +kernel
theorem dX8_letterAt_14 : decode cX8_letterAt 14 = .ok (.goto 4, 3) := by decide +kernel
theorem dX8_letterAt_17 : decode cX8_letterAt 17 = .ok (.iconst (-1), 1) := by decide +kernel
theorem dX8_letterAt_18 : decode cX8_letterAt 18 = .ok (.ireturn, 1) := by decide +kernel
theorem dX8_isSign_0 : decode cX8_isSign 0 = .ok (.iload_n 0, 1) := by decide +kernel
theorem dX8_isSign_1 : decode cX8_isSign 1 = .ok (.bipush 78, 2) := by decide +kernel
theorem dX8_isSign_3 : decode cX8_isSign 3 = .ok (.if_icmp .eq 84, 3) := by decide +kernel
theorem dX8_isSign_6 : decode cX8_isSign 6 = .ok (.iload_n 0, 1) := by decide +kernel
theorem dX8_isSign_7 : decode cX8_isSign 7 = .ok (.bipush 82, 2) := by decide +kernel
theorem dX8_isSign_9 : decode cX8_isSign 9 = .ok (.if_icmp .eq 78, 3) := by decide +kernel
theorem dX8_isSign_12 : decode cX8_isSign 12 = .ok (.iload_n 0, 1) := by decide +kernel
theorem dX8_isSign_13 : decode cX8_isSign 13 = .ok (.bipush 85, 2) := by decide +kernel
theorem dX8_isSign_15 : decode cX8_isSign 15 = .ok (.if_icmp .eq 72, 3) := by decide +kernel
theorem dX8_isSign_18 : decode cX8_isSign 18 = .ok (.iload_n 0, 1) := by decide +kernel
theorem dX8_isSign_19 : decode cX8_isSign 19 = .ok (.bipush 97, 2) := by decide +kernel
theorem dX8_isSign_21 : decode cX8_isSign 21 = .ok (.bipush 100, 2) := by decide +kernel
theorem dX8_isSign_23 : decode cX8_isSign 23 = .ok (.invokestatic 60, 3) := by decide +kernel
theorem dX8_isSign_26 : decode cX8_isSign 26 = .ok (.ifCond .ne 61, 3) := by decide +kernel
theorem dX8_isSign_29 : decode cX8_isSign 29 = .ok (.iload_n 0, 1) := by decide +kernel
theorem dX8_isSign_30 : decode cX8_isSign 30 = .ok (.bipush 112, 2) := by decide +kernel
theorem dX8_isSign_32 : decode cX8_isSign 32 = .ok (.bipush 115, 2) := by decide +kernel
theorem dX8_isSign_34 : decode cX8_isSign 34 = .ok (.invokestatic 60, 3) := by decide +kernel
theorem dX8_isSign_37 : decode cX8_isSign 37 = .ok (.ifCond .ne 50, 3) := by decide +kernel
theorem dX8_isSign_40 : decode cX8_isSign 40 = .ok (.iload_n 0, 1) := by decide +kernel
theorem dX8_isSign_41 : decode cX8_isSign 41 = .ok (.bipush 119, 2) := by decide +kernel
theorem dX8_isSign_43 : decode cX8_isSign 43 = .ok (.bipush 122, 2) := by decide +kernel
theorem dX8_isSign_45 : decode cX8_isSign 45 = .ok (.invokestatic 60, 3) := by decide +kernel
theorem dX8_isSign_48 : decode cX8_isSign 48 = .ok (.ifCond .ne 39, 3) := by decide +kernel
theorem dX8_isSign_51 : decode cX8_isSign 51 = .ok (.iload_n 0, 1) := by decide +kernel
theorem dX8_isSign_52 : decode cX8_isSign 52 = .ok (.bipush 62, 2) := by decide +kernel
theorem dX8_isSign_54 : decode cX8_isSign 54 = .ok (.if_icmp .eq 33, 3) := by decide +kernel
theorem dX8_isSign_57 : decode cX8_isSign 57 = .ok (.iload_n 0, 1) := by decide +kernel
theorem dX8_isSign_58 : decode cX8_isSign 58 = .ok (.bipush 47, 2) := by decide +kernel
theorem dX8_isSign_60 : decode cX8_isSign 60 = .ok (.if_icmp .eq 27, 3) := by decide +kernel
theorem dX8_isSign_63 : decode cX8_isSign 63 = .ok (.iload_n 0, 1) := by decide +kernel
theorem dX8_isSign_64 : decode cX8_isSign 64 = .ok (.bipush 46, 2) := by decide +kernel
theorem dX8_isSign_66 : decode cX8_isSign 66 = .ok (.if_icmp .eq 21, 3) := by decide +kernel
theorem dX8_isSign_69 : decode cX8_isSign 69 = .ok (.iload_n 0, 1) := by decide +kernel
theorem dX8_isSign_70 : decode cX8_isSign 70 = .ok (.bipush 58, 2) := by decide +kernel
theorem dX8_isSign_72 : decode cX8_isSign 72 = .ok (.if_icmp .eq 15, 3) := by decide +kernel
theorem dX8_isSign_75 : decode cX8_isSign 75 = .ok (.iload_n 0, 1) := by decide +kernel
theorem dX8_isSign_76 : decode cX8_isSign 76 = .ok (.bipush 33, 2) := by decide +kernel
theorem dX8_isSign_78 : decode cX8_isSign 78 = .ok (.if_icmp .eq 9, 3) := by decide +kernel
theorem dX8_isSign_81 : decode cX8_isSign 81 = .ok (.iload_n 0, 1) := by decide +kernel
theorem dX8_isSign_82 : decode cX8_isSign 82 = .ok (.bipush 59, 2) := by decide +kernel
theorem dX8_isSign_84 : decode cX8_isSign 84 = .ok (.if_icmp .ne 7, 3) := by decide +kernel
theorem dX8_isSign_87 : decode cX8_isSign 87 = .ok (.iconst 1, 1) := by decide +kernel
theorem dX8_isSign_88 : decode cX8_isSign 88 = .ok (.goto 4, 3) := by decide +kernel
theorem dX8_isSign_91 : decode cX8_isSign 91 = .ok (.iconst 0, 1) := by decide +kernel
theorem dX8_isSign_92 : decode cX8_isSign 92 = .ok (.ireturn, 1) := by decide +kernel
theorem dX8_advances_0 : decode cX8_advances 0 = .ok (.aload_n 0, 1) := by decide +kernel
theorem dX8_advances_1 : decode cX8_advances 1 = .ok (.aload_n 0, 1) := by decide +kernel
theorem dX8_advances_2 : decode cX8_advances 2 = .ok (.getfield 67, 3) := by decide +kernel
theorem dX8_advances_5 : decode cX8_advances 5 = .ok (.invokevirtual 70, 3) := by decide +kernel
theorem dX8_advances_8 : decode cX8_advances 8 = .ok (.bipush 32, 2) := by decide +kernel
theorem dX8_advances_10 : decode cX8_advances 10 = .ok (.if_icmp .ne 16, 3) := by decide +kernel
theorem dX8_advances_13 : decode cX8_advances 13 = .ok (.aload_n 0, 1) := by decide +kernel
theorem dX8_advances_14 : decode cX8_advances 14 = .ok (.dup, 1) := by decide +kernel
theorem dX8_advances_15 : decode cX8_advances 15 = .ok (.getfield 67, 3) := by decide +kernel
theorem dX8_advances_18 : decode cX8_advances 18 = .ok (.iconst 1, 1) := by decide +kernel
theorem dX8_advances_19 : decode cX8_advances 19 = .ok (.iadd, 1) := by decide +kernel
theorem dX8_advances_20 : decode cX8_advances 20 = .ok (.putfield 67, 3) := by decide +kernel
theorem dX8_advances_23 : decode cX8_advances 23 = .ok (.goto (-23), 3) := by decide +kernel
theorem dX8_advances_26 : decode cX8_advances 26 = .ok (.aload_n 0, 1) := by decide +kernel
theorem dX8_advances_27 : decode cX8_advances 27 = .ok (.aload_n 0, 1) := by decide +kernel
theorem dX8_advances_28 : decode cX8_advances 28 = .ok (.getfield 67, 3) := by decide +kernel
theorem dX8_advances_31 : decode cX8_advances 31 = .ok (.putfield 74, 3) := by decide +kernel
theorem dX8_advances_34 : decode cX8_advances 34 = .ok (.aload_n 0, 1) := by decide +kernel
theorem dX8_advances_35 : decode cX8_advances 35 = .ok (.aload_n 0, 1) := by decide +kernel
theorem dX8_advances_36 : decode cX8_advances 36 = .ok (.getfield 67, 3) := by decide +kernel
theorem dX8_advances_39 : decode cX8_advances 39 = .ok (.invokevirtual 70, 3) := by decide +kernel
theorem dX8_advances_42 : decode cX8_advances 42 = .ok (.istore_n 1, 1) := by decide +kernel
theorem dX8_advances_43 : decode cX8_advances 43 = .ok (.iload_n 1, 1) := by decide +kernel
theorem dX8_advances_44 : decode cX8_advances 44 = .ok (.ifCond .ge 11, 3) := by decide +kernel
theorem dX8_advances_47 : decode cX8_advances 47 = .ok (.aload_n 0, 1) := by decide +kernel
theorem dX8_advances_48 : decode cX8_advances 48 = .ok (.iconst 0, 1) := by decide +kernel
theorem dX8_advances_49 : decode cX8_advances 49 = .ok (.putfield 77, 3) := by decide +kernel
theorem dX8_advances_52 : decode cX8_advances 52 = .ok (.goto 154, 3) := by decide +kernel
theorem dX8_advances_55 : decode cX8_advances 55 = .ok (.iload_n 1, 1) := by decide +kernel
theorem dX8_advances_56 : decode cX8_advances 56 = .ok (.bipush 48, 2) := by decide +kernel
theorem dX8_advances_58 : decode cX8_advances 58 = .ok (.bipush 57, 2) := by decide +kernel
theorem dX8_advances_60 : decode cX8_advances 60 = .ok (.invokestatic 60, 3) := by decide +kernel
theorem dX8_advances_63 : decode cX8_advances 63 = .ok (.ifCond .eq 112, 3) := by decide +kernel
theorem dX8_advances_66 : decode cX8_advances 66 = .ok (.aload_n 0, 1) := by decide +kernel
theorem dX8_advances_67 : decode cX8_advances 67 = .ok (.iconst 0, 1) := by decide +kernel
theorem dX8_advances_68 : decode cX8_advances 68 = .ok (.putfield 80, 3) := by decide +kernel
theorem dX8_advances_71 : decode cX8_advances 71 = .ok (.aload_n 0, 1) := by decide +kernel
theorem dX8_advances_72 : decode cX8_advances 72 = .ok (.aload_n 0, 1) := by decide +kernel
theorem dX8_advances_73 : decode cX8_advances 73 = .ok (.getfield 67, 3) := by decide +kernel
theorem dX8_advances_76 : decode cX8_advances 76 = .ok (.invokevirtual 70, 3) := by decide +kernel
theorem dX8_advances_79 : decode cX8_advances 79 = .ok (.bipush 48, 2) := by decide +kernel
theorem dX8_advances_81 : decode cX8_advances 81 = .ok (.bipush 57, 2) := by decide +kernel
theorem dX8_advances_83 : decode cX8_advances 83 = .ok (.invokestatic 60, 3) := by decide +kernel
theorem dX8_advances_86 : decode cX8_advances 86 = .ok (.ifCond .eq 55, 3) := by decide +kernel
theorem dX8_advances_89 : decode cX8_advances 89 = .ok (.aload_n 0, 1) := by decide +kernel
theorem dX8_advances_90 : decode cX8_advances 90 = .ok (.aload_n 0, 1) := by decide +kernel
theorem dX8_advances_91 : decode cX8_advances 91 = .ok (.getfield 80, 3) := by decide +kernel
theorem dX8_advances_94 : decode cX8_advances 94 = .ok (.bipush 9, 2) := by decide +kernel
theorem dX8_advances_96 : decode cX8_advances 96 = .ok (.if_icmp .le 10, 3) := by decide +kernel
theorem dX8_advances_99 : decode cX8_advances 99 = .ok (.aload_n 0, 1) := by decide +kernel
theorem dX8_advances_100 : decode cX8_advances 100 = .ok (.getfield 80, 3) := by decide +kernel
theorem dX8_advances_103 : decode cX8_advances 103 = .ok (.goto 22, 3) := by decide +kernel
theorem dX8_advances_106 : decode cX8_advances 106 = .ok (.bipush 10, 2) := by decide +kernel
theorem dX8_advances_108 : decode cX8_advances 108 = .ok (.aload_n 0, 1) := by decide +kernel
theorem dX8_advances_109 : decode cX8_advances 109 = .ok (.getfield 80, 3) := by decide +kernel
theorem dX8_advances_112 : decode cX8_advances 112 = .ok (.imul, 1) := by decide +kernel
theorem dX8_advances_113 : decode cX8_advances 113 = .ok (.aload_n 0, 1) := by decide +kernel
theorem dX8_advances_114 : decode cX8_advances 114 = .ok (.aload_n 0, 1) := by decide +kernel
theorem dX8_advances_115 : decode cX8_advances 115 = .ok (.getfield 67, 3) := by decide +kernel
theorem dX8_advances_118 : decode cX8_advances 118 = .ok (.invokevirtual 70, 3) := by decide +kernel
theorem dX8_advances_121 : decode cX8_advances 121 = .ok (.iadd, 1) := by decide +kernel
theorem dX8_advances_122 : decode cX8_advances 122 = .ok (.bipush 48, 2) := by decide +kernel
theorem dX8_advances_124 : decode cX8_advances 124 = .ok (.isub, 1) := by decide +kernel
theorem dX8_advances_125 : decode cX8_advances 125 = .ok (.putfield 80, 3) := by decide +kernel
theorem dX8_advances_128 : decode cX8_advances 128 = .ok (.aload_n 0, 1) := by decide +kernel
theorem dX8_advances_129 : decode cX8_advances 129 = .ok (.dup, 1) := by decide +kernel
theorem dX8_advances_130 : decode cX8_advances 130 = .ok (.getfield 67, 3) := by decide +kernel
theorem dX8_advances_133 : decode cX8_advances 133 = .ok (.iconst 1, 1) := by decide +kernel
theorem dX8_advances_134 : decode cX8_advances 134 = .ok (.iadd, 1) := by decide +kernel
theorem dX8_advances_135 : decode cX8_advances 135 = .ok (.putfield 67, 3) := by decide +kernel
theorem dX8_advances_138 : decode cX8_advances 138 = .ok (.goto (-67), 3) := by decide +kernel
theorem dX8_advances_141 : decode cX8_advances 141 = .ok (.aload_n 0, 1) := by decide +kernel
theorem dX8_advances_142 : decode cX8_advances 142 = .ok (.aload_n 0, 1) := by decide +kernel
theorem dX8_advances_143 : decode cX8_advances 143 = .ok (.getfield 80, 3) := by decide +kernel
theorem dX8_advances_146 : decode cX8_advances 146 = .ok (.bipush 9, 2) := by decide +kernel
theorem dX8_advances_148 : decode cX8_advances 148 = .ok (.if_icmp .gt 16, 3) := by decide +kernel
theorem dX8_advances_151 : decode cX8_advances 151 = .ok (.aload_n 0, 1) := by decide +kernel
theorem dX8_advances_152 : decode cX8_advances 152 = .ok (.getfield 67, 3) := by decide +kernel
theorem dX8_advances_155 : decode cX8_advances 155 = .ok (.aload_n 0, 1) := by decide +kernel
theorem dX8_advances_156 : decode cX8_advances 156 = .ok (.getfield 74, 3) := by decide +kernel
theorem dX8_advances_159 : decode cX8_advances 159 = .ok (.isub, 1) := by decide +kernel
theorem dX8_advances_160 : decode cX8_advances 160 = .ok (.iconst 1, 1) := by decide +kernel
theorem dX8_advances_161 : decode cX8_advances 161 = .ok (.if_icmp .le 7, 3) := by decide +kernel
theorem dX8_advances_164 : decode cX8_advances 164 = .ok (.iconst 3, 1) := by decide +kernel
theorem dX8_advances_165 : decode cX8_advances 165 = .ok (.goto 4, 3) := by decide +kernel
theorem dX8_advances_168 : decode cX8_advances 168 = .ok (.iconst 2, 1) := by decide +kernel
theorem dX8_advances_169 : decode cX8_advances 169 = .ok (.putfield 77, 3) := by decide +kernel
theorem dX8_advances_172 : decode cX8_advances 172 = .ok (.goto 34, 3) := by decide +kernel
theorem dX8_advances_175 : decode cX8_advances 175 = .ok (.aload_n 0, 1) := by decide +kernel
theorem dX8_advances_176 : decode cX8_advances 176 = .ok (.dup, 1) := by decide +kernel
theorem dX8_advances_177 : decode cX8_advances 177 = .ok (.getfield 67, 3) := by decide +kernel
theorem dX8_advances_180 : decode cX8_advances 180 = .ok (.iconst 1, 1) := by decide +kernel
theorem dX8_advances_181 : decode cX8_advances 181 = .ok (.iadd, 1) := by decide +kernel
theorem dX8_advances_182 : decode cX8_advances 182 = .ok (.putfield 67, 3) := by decide +kernel
theorem dX8_advances_185 : decode cX8_advances 185 = .ok (.aload_n 0, 1) := by decide +kernel
theorem dX8_advances_186 : decode cX8_advances 186 = .ok (.iload_n 1, 1) := by decide +kernel
theorem dX8_advances_187 : decode cX8_advances 187 = .ok (.putfield 80, 3) := by decide +kernel
theorem dX8_advances_190 : decode cX8_advances 190 = .ok (.aload_n 0, 1) := by decide +kernel
theorem dX8_advances_191 : decode cX8_advances 191 = .ok (.iload_n 1, 1) := by decide +kernel
theorem dX8_advances_192 : decode cX8_advances 192 = .ok (.invokestatic 83, 3) := by decide +kernel
theorem dX8_advances_195 : decode cX8_advances 195 = .ok (.ifCond .eq 7, 3) := by decide +kernel
theorem dX8_advances_198 : decode cX8_advances 198 = .ok (.iconst 1, 1) := by decide +kernel
theorem dX8_advances_199 : decode cX8_advances 199 = .ok (.goto 4, 3) := by decide +kernel
theorem dX8_advances_202 : decode cX8_advances 202 = .ok (.iconst 3, 1) := by decide +kernel
theorem dX8_advances_203 : decode cX8_advances 203 = .ok (.putfield 77, 3) := by decide +kernel
theorem dX8_advances_206 : decode cX8_advances 206 = .ok (.return_, 1) := by decide +kernel
theorem dX8_isWell_0 : decode cX8_isWell 0 = .ok (.aload_n 0, 1) := by decide +kernel
theorem dX8_isWell_1 : decode cX8_isWell 1 = .ok (.getfield 87, 3) := by decide +kernel
theorem dX8_isWell_4 : decode cX8_isWell 4 = .ok (.ifCond .ge 7, 3) := by decide +kernel
theorem dX8_isWell_7 : decode cX8_isWell 7 = .ok (.iconst 1, 1) := by decide +kernel
theorem dX8_isWell_8 : decode cX8_isWell 8 = .ok (.goto 4, 3) := by decide +kernel
theorem dX8_isWell_11 : decode cX8_isWell 11 = .ok (.iconst 0, 1) := by decide +kernel
theorem dX8_isWell_12 : decode cX8_isWell 12 = .ok (.ireturn, 1) := by decide +kernel
theorem dX8_takes_0 : decode cX8_takes 0 = .ok (.aload_n 0, 1) := by decide +kernel
theorem dX8_takes_1 : decode cX8_takes 1 = .ok (.invokevirtual 90, 3) := by decide +kernel
theorem dX8_takes_4 : decode cX8_takes 4 = .ok (.ifCond .ne 5, 3) := by decide +kernel
theorem dX8_takes_7 : decode cX8_takes 7 = .ok (.iconst 0, 1) := by decide +kernel
theorem dX8_takes_8 : decode cX8_takes 8 = .ok (.ireturn, 1) := by decide +kernel
theorem dX8_takes_9 : decode cX8_takes 9 = .ok (.iload_n 1, 1) := by decide +kernel
theorem dX8_takes_10 : decode cX8_takes 10 = .ok (.ifCond .ne 13, 3) := by decide +kernel
theorem dX8_takes_13 : decode cX8_takes 13 = .ok (.aload_n 0, 1) := by decide +kernel
theorem dX8_takes_14 : decode cX8_takes 14 = .ok (.aload_n 0, 1) := by decide +kernel
theorem dX8_takes_15 : decode cX8_takes 15 = .ok (.getfield 74, 3) := by decide +kernel
theorem dX8_takes_18 : decode cX8_takes 18 = .ok (.putfield 87, 3) := by decide +kernel
theorem dX8_takes_21 : decode cX8_takes 21 = .ok (.iconst 0, 1) := by decide +kernel
theorem dX8_takes_22 : decode cX8_takes 22 = .ok (.ireturn, 1) := by decide +kernel
theorem dX8_takes_23 : decode cX8_takes 23 = .ok (.aload_n 0, 1) := by decide +kernel
theorem dX8_takes_24 : decode cX8_takes 24 = .ok (.getfield 80, 3) := by decide +kernel
theorem dX8_takes_27 : decode cX8_takes 27 = .ok (.istore_n 2, 1) := by decide +kernel
theorem dX8_takes_28 : decode cX8_takes 28 = .ok (.aload_n 0, 1) := by decide +kernel
theorem dX8_takes_29 : decode cX8_takes 29 = .ok (.invokevirtual 94, 3) := by decide +kernel
theorem dX8_takes_32 : decode cX8_takes 32 = .ok (.iload_n 2, 1) := by decide +kernel
theorem dX8_takes_33 : decode cX8_takes 33 = .ok (.ireturn, 1) := by decide +kernel
theorem dX8_isThis_0 : decode cX8_isThis 0 = .ok (.aload_n 0, 1) := by decide +kernel
theorem dX8_isThis_1 : decode cX8_isThis 1 = .ok (.invokevirtual 90, 3) := by decide +kernel
theorem dX8_isThis_4 : decode cX8_isThis 4 = .ok (.ifCond .eq 23, 3) := by decide +kernel
theorem dX8_isThis_7 : decode cX8_isThis 7 = .ok (.aload_n 0, 1) := by decide +kernel
theorem dX8_isThis_8 : decode cX8_isThis 8 = .ok (.getfield 77, 3) := by decide +kernel
theorem dX8_isThis_11 : decode cX8_isThis 11 = .ok (.iconst 1, 1) := by decide +kernel
theorem dX8_isThis_12 : decode cX8_isThis 12 = .ok (.if_icmp .ne 15, 3) := by decide +kernel
theorem dX8_isThis_15 : decode cX8_isThis 15 = .ok (.aload_n 0, 1) := by decide +kernel
theorem dX8_isThis_16 : decode cX8_isThis 16 = .ok (.getfield 80, 3) := by decide +kernel
theorem dX8_isThis_19 : decode cX8_isThis 19 = .ok (.iload_n 1, 1) := by decide +kernel
theorem dX8_isThis_20 : decode cX8_isThis 20 = .ok (.if_icmp .ne 7, 3) := by decide +kernel
theorem dX8_isThis_23 : decode cX8_isThis 23 = .ok (.iconst 1, 1) := by decide +kernel
theorem dX8_isThis_24 : decode cX8_isThis 24 = .ok (.goto 4, 3) := by decide +kernel
theorem dX8_isThis_27 : decode cX8_isThis 27 = .ok (.iconst 0, 1) := by decide +kernel
theorem dX8_isThis_28 : decode cX8_isThis 28 = .ok (.ireturn, 1) := by decide +kernel
theorem dX8_isFrom_0 : decode cX8_isFrom 0 = .ok (.aload_n 0, 1) := by decide +kernel
theorem dX8_isFrom_1 : decode cX8_isFrom 1 = .ok (.invokevirtual 90, 3) := by decide +kernel
theorem dX8_isFrom_4 : decode cX8_isFrom 4 = .ok (.ifCond .eq 27, 3) := by decide +kernel
theorem dX8_isFrom_7 : decode cX8_isFrom 7 = .ok (.aload_n 0, 1) := by decide +kernel
theorem dX8_isFrom_8 : decode cX8_isFrom 8 = .ok (.getfield 77, 3) := by decide +kernel
theorem dX8_isFrom_11 : decode cX8_isFrom 11 = .ok (.iconst 1, 1) := by decide +kernel
theorem dX8_isFrom_12 : decode cX8_isFrom 12 = .ok (.if_icmp .ne 19, 3) := by decide +kernel
theorem dX8_isFrom_15 : decode cX8_isFrom 15 = .ok (.aload_n 0, 1) := by decide +kernel
theorem dX8_isFrom_16 : decode cX8_isFrom 16 = .ok (.getfield 80, 3) := by decide +kernel
theorem dX8_isFrom_19 : decode cX8_isFrom 19 = .ok (.iload_n 1, 1) := by decide +kernel
theorem dX8_isFrom_20 : decode cX8_isFrom 20 = .ok (.iload_n 2, 1) := by decide +kernel
theorem dX8_isFrom_21 : decode cX8_isFrom 21 = .ok (.invokestatic 60, 3) := by decide +kernel
theorem dX8_isFrom_24 : decode cX8_isFrom 24 = .ok (.ifCond .eq 7, 3) := by decide +kernel
theorem dX8_isFrom_27 : decode cX8_isFrom 27 = .ok (.iconst 1, 1) := by decide +kernel
theorem dX8_isFrom_28 : decode cX8_isFrom 28 = .ok (.goto 4, 3) := by decide +kernel
theorem dX8_isFrom_31 : decode cX8_isFrom 31 = .ok (.iconst 0, 1) := by decide +kernel
theorem dX8_isFrom_32 : decode cX8_isFrom 32 = .ok (.ireturn, 1) := by decide +kernel
theorem dX8_begins_0 : decode cX8_begins 0 = .ok (.iconst 0, 1) := by decide +kernel
theorem dX8_begins_1 : decode cX8_begins 1 = .ok (.istore_n 1, 1) := by decide +kernel
theorem dX8_begins_2 : decode cX8_begins 2 = .ok (.iload_n 1, 1) := by decide +kernel
theorem dX8_begins_3 : decode cX8_begins 3 = .ok (.sipush 140, 3) := by decide +kernel
theorem dX8_begins_6 : decode cX8_begins 6 = .ok (.if_icmp .ge 33, 3) := by decide +kernel
theorem dX8_begins_9 : decode cX8_begins 9 = .ok (.aload_n 0, 1) := by decide +kernel
theorem dX8_begins_10 : decode cX8_begins 10 = .ok (.getfield 16, 3) := by decide +kernel
theorem dX8_begins_13 : decode cX8_begins 13 = .ok (.iload_n 1, 1) := by decide +kernel
theorem dX8_begins_14 : decode cX8_begins 14 = .ok (.iload_n 1, 1) := by decide +kernel
theorem dX8_begins_15 : decode cX8_begins 15 = .ok (.bipush 20, 2) := by decide +kernel
theorem dX8_begins_17 : decode cX8_begins 17 = .ok (.if_icmp .lt 14, 3) := by decide +kernel
theorem dX8_begins_20 : decode cX8_begins 20 = .ok (.iload_n 1, 1) := by decide +kernel
theorem dX8_begins_21 : decode cX8_begins 21 = .ok (.bipush 44, 2) := by decide +kernel
theorem dX8_begins_23 : decode cX8_begins 23 = .ok (.if_icmp .ge 8, 3) := by decide +kernel
theorem dX8_begins_26 : decode cX8_begins 26 = .ok (.bipush (-9), 2) := by decide +kernel
theorem dX8_begins_28 : decode cX8_begins 28 = .ok (.goto 4, 3) := by decide +kernel
theorem dX8_begins_31 : decode cX8_begins 31 = .ok (.iconst 0, 1) := by decide +kernel
theorem dX8_begins_32 : decode cX8_begins 32 = .ok (.iastore, 1) := by decide +kernel
theorem dX8_begins_33 : decode cX8_begins 33 = .ok (.iinc 1 1, 3) := by decide +kernel
theorem dX8_begins_36 : decode cX8_begins 36 = .ok (.goto (-34), 3) := by decide +kernel
theorem dX8_begins_39 : decode cX8_begins 39 = .ok (.iconst 0, 1) := by decide +kernel
theorem dX8_begins_40 : decode cX8_begins 40 = .ok (.istore_n 1, 1) := by decide +kernel
theorem dX8_begins_41 : decode cX8_begins 41 = .ok (.iload_n 1, 1) := by decide +kernel
theorem dX8_begins_42 : decode cX8_begins 42 = .ok (.bipush 19, 2) := by decide +kernel
theorem dX8_begins_44 : decode cX8_begins 44 = .ok (.if_icmp .ge 16, 3) := by decide +kernel
theorem dX8_begins_47 : decode cX8_begins 47 = .ok (.aload_n 0, 1) := by decide +kernel
theorem dX8_begins_48 : decode cX8_begins 48 = .ok (.getfield 19, 3) := by decide +kernel
theorem dX8_begins_51 : decode cX8_begins 51 = .ok (.iload_n 1, 1) := by decide +kernel
theorem dX8_begins_52 : decode cX8_begins 52 = .ok (.iconst 0, 1) := by decide +kernel
theorem dX8_begins_53 : decode cX8_begins 53 = .ok (.iastore, 1) := by decide +kernel
theorem dX8_begins_54 : decode cX8_begins 54 = .ok (.iinc 1 1, 3) := by decide +kernel
theorem dX8_begins_57 : decode cX8_begins 57 = .ok (.goto (-16), 3) := by decide +kernel
theorem dX8_begins_60 : decode cX8_begins 60 = .ok (.return_, 1) := by decide +kernel
theorem dX8_readsNode_0 : decode cX8_readsNode 0 = .ok (.aload_n 0, 1) := by decide +kernel
theorem dX8_readsNode_1 : decode cX8_readsNode 1 = .ok (.getfield 16, 3) := by decide +kernel
theorem dX8_readsNode_4 : decode cX8_readsNode 4 = .ok (.iconst 0, 1) := by decide +kernel
theorem dX8_readsNode_5 : decode cX8_readsNode 5 = .ok (.iaload, 1) := by decide +kernel
theorem dX8_readsNode_6 : decode cX8_readsNode 6 = .ok (.istore_n 1, 1) := by decide +kernel
theorem dX8_readsNode_7 : decode cX8_readsNode 7 = .ok (.aload_n 0, 1) := by decide +kernel
theorem dX8_readsNode_8 : decode cX8_readsNode 8 = .ok (.getfield 16, 3) := by decide +kernel
theorem dX8_readsNode_11 : decode cX8_readsNode 11 = .ok (.iconst 3, 1) := by decide +kernel
theorem dX8_readsNode_12 : decode cX8_readsNode 12 = .ok (.iload_n 1, 1) := by decide +kernel
theorem dX8_readsNode_13 : decode cX8_readsNode 13 = .ok (.iadd, 1) := by decide +kernel
theorem dX8_readsNode_14 : decode cX8_readsNode 14 = .ok (.iload_n 1, 1) := by decide +kernel
theorem dX8_readsNode_15 : decode cX8_readsNode 15 = .ok (.ifCond .ne 8, 3) := by decide +kernel
theorem dX8_readsNode_18 : decode cX8_readsNode 18 = .ok (.bipush (-9), 2) := by decide +kernel
theorem dX8_readsNode_20 : decode cX8_readsNode 20 = .ok (.goto 28, 3) := by decide +kernel
theorem dX8_readsNode_23 : decode cX8_readsNode 23 = .ok (.aload_n 0, 1) := by decide +kernel
theorem dX8_readsNode_24 : decode cX8_readsNode 24 = .ok (.aload_n 0, 1) := by decide +kernel
theorem dX8_readsNode_25 : decode cX8_readsNode 25 = .ok (.getfield 77, 3) := by decide +kernel
theorem dX8_readsNode_28 : decode cX8_readsNode 28 = .ok (.iconst 2, 1) := by decide +kernel
theorem dX8_readsNode_29 : decode cX8_readsNode 29 = .ok (.if_icmp .ne 15, 3) := by decide +kernel
theorem dX8_readsNode_32 : decode cX8_readsNode 32 = .ok (.aload_n 0, 1) := by decide +kernel
theorem dX8_readsNode_33 : decode cX8_readsNode 33 = .ok (.getfield 80, 3) := by decide +kernel
theorem dX8_readsNode_36 : decode cX8_readsNode 36 = .ok (.iload_n 1, 1) := by decide +kernel
theorem dX8_readsNode_37 : decode cX8_readsNode 37 = .ok (.if_icmp .ge 7, 3) := by decide +kernel
theorem dX8_readsNode_40 : decode cX8_readsNode 40 = .ok (.iconst 1, 1) := by decide +kernel
theorem dX8_readsNode_41 : decode cX8_readsNode 41 = .ok (.goto 4, 3) := by decide +kernel
theorem dX8_readsNode_44 : decode cX8_readsNode 44 = .ok (.iconst 0, 1) := by decide +kernel
theorem dX8_readsNode_45 : decode cX8_readsNode 45 = .ok (.invokevirtual 97, 3) := by decide +kernel
theorem dX8_readsNode_48 : decode cX8_readsNode 48 = .ok (.iastore, 1) := by decide +kernel
theorem dX8_readsNode_49 : decode cX8_readsNode 49 = .ok (.aload_n 0, 1) := by decide +kernel
theorem dX8_readsNode_50 : decode cX8_readsNode 50 = .ok (.getfield 19, 3) := by decide +kernel
theorem dX8_readsNode_53 : decode cX8_readsNode 53 = .ok (.iconst 0, 1) := by decide +kernel
theorem dX8_readsNode_54 : decode cX8_readsNode 54 = .ok (.iload_n 1, 1) := by decide +kernel
end
section
theorem dX8_readsNode_55 : decode cX8_readsNode 55 = .ok (.iadd, 1) := by decide +kernel
theorem dX8_readsNode_56 : decode cX8_readsNode 56 = .ok (.aload_n 0, 1) := by decide +kernel
theorem dX8_readsNode_57 : decode cX8_readsNode 57 = .ok (.aload_n 0, 1) := by decide +kernel
theorem dX8_readsNode_58 : decode cX8_readsNode 58 = .ok (.bipush 97, 2) := by decide +kernel
theorem dX8_readsNode_60 : decode cX8_readsNode 60 = .ok (.bipush 100, 2) := by decide +kernel
theorem dX8_readsNode_62 : decode cX8_readsNode 62 = .ok (.invokevirtual 101, 3) := by decide +kernel
theorem dX8_readsNode_65 : decode cX8_readsNode 65 = .ok (.invokevirtual 97, 3) := by decide +kernel
theorem dX8_readsNode_68 : decode cX8_readsNode 68 = .ok (.bipush 97, 2) := by decide +kernel
theorem dX8_readsNode_70 : decode cX8_readsNode 70 = .ok (.isub, 1) := by decide +kernel
theorem dX8_readsNode_71 : decode cX8_readsNode 71 = .ok (.iastore, 1) := by decide +kernel
theorem dX8_readsNode_72 : decode cX8_readsNode 72 = .ok (.aload_n 0, 1) := by decide +kernel
theorem dX8_readsNode_73 : decode cX8_readsNode 73 = .ok (.bipush 112, 2) := by decide +kernel
theorem dX8_readsNode_75 : decode cX8_readsNode 75 = .ok (.bipush 115, 2) := by decide +kernel
theorem dX8_readsNode_77 : decode cX8_readsNode 77 = .ok (.invokevirtual 101, 3) := by decide +kernel
theorem dX8_readsNode_80 : decode cX8_readsNode 80 = .ok (.ifCond .eq 67, 3) := by decide +kernel
theorem dX8_readsNode_83 : decode cX8_readsNode 83 = .ok (.aload_n 0, 1) := by decide +kernel
theorem dX8_readsNode_84 : decode cX8_readsNode 84 = .ok (.aload_n 0, 1) := by decide +kernel
theorem dX8_readsNode_85 : decode cX8_readsNode 85 = .ok (.getfield 19, 3) := by decide +kernel
theorem dX8_readsNode_88 : decode cX8_readsNode 88 = .ok (.bipush 9, 2) := by decide +kernel
theorem dX8_readsNode_90 : decode cX8_readsNode 90 = .ok (.iload_n 1, 1) := by decide +kernel
theorem dX8_readsNode_91 : decode cX8_readsNode 91 = .ok (.iadd, 1) := by decide +kernel
theorem dX8_readsNode_92 : decode cX8_readsNode 92 = .ok (.iaload, 1) := by decide +kernel
theorem dX8_readsNode_93 : decode cX8_readsNode 93 = .ok (.aload_n 0, 1) := by decide +kernel
theorem dX8_readsNode_94 : decode cX8_readsNode 94 = .ok (.getfield 80, 3) := by decide +kernel
theorem dX8_readsNode_97 : decode cX8_readsNode 97 = .ok (.bipush 112, 2) := by decide +kernel
theorem dX8_readsNode_99 : decode cX8_readsNode 99 = .ok (.isub, 1) := by decide +kernel
theorem dX8_readsNode_100 : decode cX8_readsNode 100 = .ok (.invokestatic 105, 3) := by decide +kernel
theorem dX8_readsNode_103 : decode cX8_readsNode 103 = .ok (.ifCond .ne 7, 3) := by decide +kernel
theorem dX8_readsNode_106 : decode cX8_readsNode 106 = .ok (.iconst 1, 1) := by decide +kernel
theorem dX8_readsNode_107 : decode cX8_readsNode 107 = .ok (.goto 4, 3) := by decide +kernel
theorem dX8_readsNode_110 : decode cX8_readsNode 110 = .ok (.iconst 0, 1) := by decide +kernel
theorem dX8_readsNode_111 : decode cX8_readsNode 111 = .ok (.invokevirtual 97, 3) := by decide +kernel
theorem dX8_readsNode_114 : decode cX8_readsNode 114 = .ok (.bipush 112, 2) := by decide +kernel
theorem dX8_readsNode_116 : decode cX8_readsNode 116 = .ok (.isub, 1) := by decide +kernel
theorem dX8_readsNode_117 : decode cX8_readsNode 117 = .ok (.istore_n 2, 1) := by decide +kernel
theorem dX8_readsNode_118 : decode cX8_readsNode 118 = .ok (.aload_n 0, 1) := by decide +kernel
theorem dX8_readsNode_119 : decode cX8_readsNode 119 = .ok (.getfield 19, 3) := by decide +kernel
theorem dX8_readsNode_122 : decode cX8_readsNode 122 = .ok (.bipush 9, 2) := by decide +kernel
theorem dX8_readsNode_124 : decode cX8_readsNode 124 = .ok (.iload_n 1, 1) := by decide +kernel
theorem dX8_readsNode_125 : decode cX8_readsNode 125 = .ok (.iadd, 1) := by decide +kernel
theorem dX8_readsNode_126 : decode cX8_readsNode 126 = .ok (.dup2, 1) := by decide +kernel
theorem dX8_readsNode_127 : decode cX8_readsNode 127 = .ok (.iaload, 1) := by decide +kernel
theorem dX8_readsNode_128 : decode cX8_readsNode 128 = .ok (.aload_n 0, 1) := by decide +kernel
theorem dX8_readsNode_129 : decode cX8_readsNode 129 = .ok (.invokevirtual 90, 3) := by decide +kernel
theorem dX8_readsNode_132 : decode cX8_readsNode 132 = .ok (.ifCond .eq 9, 3) := by decide +kernel
theorem dX8_readsNode_135 : decode cX8_readsNode 135 = .ok (.iconst 1, 1) := by decide +kernel
theorem dX8_readsNode_136 : decode cX8_readsNode 136 = .ok (.iload_n 2, 1) := by decide +kernel
theorem dX8_readsNode_137 : decode cX8_readsNode 137 = .ok (.ishl, 1) := by decide +kernel
theorem dX8_readsNode_138 : decode cX8_readsNode 138 = .ok (.goto 4, 3) := by decide +kernel
theorem dX8_readsNode_141 : decode cX8_readsNode 141 = .ok (.iconst 0, 1) := by decide +kernel
theorem dX8_readsNode_142 : decode cX8_readsNode 142 = .ok (.ior, 1) := by decide +kernel
theorem dX8_readsNode_143 : decode cX8_readsNode 143 = .ok (.iastore, 1) := by decide +kernel
theorem dX8_readsNode_144 : decode cX8_readsNode 144 = .ok (.goto (-72), 3) := by decide +kernel
theorem dX8_readsNode_147 : decode cX8_readsNode 147 = .ok (.aload_n 0, 1) := by decide +kernel
theorem dX8_readsNode_148 : decode cX8_readsNode 148 = .ok (.getfield 16, 3) := by decide +kernel
theorem dX8_readsNode_151 : decode cX8_readsNode 151 = .ok (.iconst 0, 1) := by decide +kernel
theorem dX8_readsNode_152 : decode cX8_readsNode 152 = .ok (.dup2, 1) := by decide +kernel
theorem dX8_readsNode_153 : decode cX8_readsNode 153 = .ok (.iaload, 1) := by decide +kernel
theorem dX8_readsNode_154 : decode cX8_readsNode 154 = .ok (.iconst 1, 1) := by decide +kernel
theorem dX8_readsNode_155 : decode cX8_readsNode 155 = .ok (.iadd, 1) := by decide +kernel
theorem dX8_readsNode_156 : decode cX8_readsNode 156 = .ok (.iastore, 1) := by decide +kernel
theorem dX8_readsNode_157 : decode cX8_readsNode 157 = .ok (.return_, 1) := by decide +kernel
theorem dX8_readsCompound_0 : decode cX8_readsCompound 0 = .ok (.aload_n 0, 1) := by decide +kernel
theorem dX8_readsCompound_1 : decode cX8_readsCompound 1 = .ok (.bipush 97, 2) := by decide +kernel
theorem dX8_readsCompound_3 : decode cX8_readsCompound 3 = .ok (.bipush 100, 2) := by decide +kernel
theorem dX8_readsCompound_5 : decode cX8_readsCompound 5 = .ok (.invokevirtual 101, 3) := by decide +kernel
theorem dX8_readsCompound_8 : decode cX8_readsCompound 8 = .ok (.istore_n 2, 1) := by decide +kernel
theorem dX8_readsCompound_9 : decode cX8_readsCompound 9 = .ok (.iload_n 2, 1) := by decide +kernel
theorem dX8_readsCompound_10 : decode cX8_readsCompound 10 = .ok (.ifCond .eq 20, 3) := by decide +kernel
theorem dX8_readsCompound_13 : decode cX8_readsCompound 13 = .ok (.aload_n 0, 1) := by decide +kernel
theorem dX8_readsCompound_14 : decode cX8_readsCompound 14 = .ok (.getfield 16, 3) := by decide +kernel
theorem dX8_readsCompound_17 : decode cX8_readsCompound 17 = .ok (.bipush 20, 2) := by decide +kernel
theorem dX8_readsCompound_19 : decode cX8_readsCompound 19 = .ok (.iload_n 1, 1) := by decide +kernel
theorem dX8_readsCompound_20 : decode cX8_readsCompound 20 = .ok (.iadd, 1) := by decide +kernel
theorem dX8_readsCompound_21 : decode cX8_readsCompound 21 = .ok (.aload_n 0, 1) := by decide +kernel
theorem dX8_readsCompound_22 : decode cX8_readsCompound 22 = .ok (.iconst 1, 1) := by decide +kernel
theorem dX8_readsCompound_23 : decode cX8_readsCompound 23 = .ok (.invokevirtual 97, 3) := by decide +kernel
theorem dX8_readsCompound_26 : decode cX8_readsCompound 26 = .ok (.bipush 97, 2) := by decide +kernel
theorem dX8_readsCompound_28 : decode cX8_readsCompound 28 = .ok (.isub, 1) := by decide +kernel
theorem dX8_readsCompound_29 : decode cX8_readsCompound 29 = .ok (.iastore, 1) := by decide +kernel
theorem dX8_readsCompound_30 : decode cX8_readsCompound 30 = .ok (.aload_n 0, 1) := by decide +kernel
theorem dX8_readsCompound_31 : decode cX8_readsCompound 31 = .ok (.bipush 46, 2) := by decide +kernel
theorem dX8_readsCompound_33 : decode cX8_readsCompound 33 = .ok (.invokevirtual 108, 3) := by decide +kernel
theorem dX8_readsCompound_36 : decode cX8_readsCompound 36 = .ok (.ifCond .eq 86, 3) := by decide +kernel
theorem dX8_readsCompound_39 : decode cX8_readsCompound 39 = .ok (.aload_n 0, 1) := by decide +kernel
theorem dX8_readsCompound_40 : decode cX8_readsCompound 40 = .ok (.iconst 1, 1) := by decide +kernel
theorem dX8_readsCompound_41 : decode cX8_readsCompound 41 = .ok (.invokevirtual 97, 3) := by decide +kernel
theorem dX8_readsCompound_44 : decode cX8_readsCompound 44 = .ok (.pop, 1) := by decide +kernel
theorem dX8_readsCompound_45 : decode cX8_readsCompound 45 = .ok (.aload_n 0, 1) := by decide +kernel
theorem dX8_readsCompound_46 : decode cX8_readsCompound 46 = .ok (.aload_n 0, 1) := by decide +kernel
theorem dX8_readsCompound_47 : decode cX8_readsCompound 47 = .ok (.bipush 112, 2) := by decide +kernel
theorem dX8_readsCompound_49 : decode cX8_readsCompound 49 = .ok (.bipush 115, 2) := by decide +kernel
theorem dX8_readsCompound_51 : decode cX8_readsCompound 51 = .ok (.invokevirtual 101, 3) := by decide +kernel
theorem dX8_readsCompound_54 : decode cX8_readsCompound 54 = .ok (.ifCond .eq 29, 3) := by decide +kernel
theorem dX8_readsCompound_57 : decode cX8_readsCompound 57 = .ok (.aload_n 0, 1) := by decide +kernel
theorem dX8_readsCompound_58 : decode cX8_readsCompound 58 = .ok (.getfield 16, 3) := by decide +kernel
theorem dX8_readsCompound_61 : decode cX8_readsCompound 61 = .ok (.bipush 44, 2) := by decide +kernel
theorem dX8_readsCompound_63 : decode cX8_readsCompound 63 = .ok (.iload_n 1, 1) := by decide +kernel
theorem dX8_readsCompound_64 : decode cX8_readsCompound 64 = .ok (.iadd, 1) := by decide +kernel
theorem dX8_readsCompound_65 : decode cX8_readsCompound 65 = .ok (.iaload, 1) := by decide +kernel
theorem dX8_readsCompound_66 : decode cX8_readsCompound 66 = .ok (.aload_n 0, 1) := by decide +kernel
theorem dX8_readsCompound_67 : decode cX8_readsCompound 67 = .ok (.getfield 80, 3) := by decide +kernel
theorem dX8_readsCompound_70 : decode cX8_readsCompound 70 = .ok (.bipush 112, 2) := by decide +kernel
theorem dX8_readsCompound_72 : decode cX8_readsCompound 72 = .ok (.isub, 1) := by decide +kernel
theorem dX8_readsCompound_73 : decode cX8_readsCompound 73 = .ok (.invokestatic 105, 3) := by decide +kernel
theorem dX8_readsCompound_76 : decode cX8_readsCompound 76 = .ok (.ifCond .ne 7, 3) := by decide +kernel
theorem dX8_readsCompound_79 : decode cX8_readsCompound 79 = .ok (.iconst 1, 1) := by decide +kernel
theorem dX8_readsCompound_80 : decode cX8_readsCompound 80 = .ok (.goto 4, 3) := by decide +kernel
theorem dX8_readsCompound_83 : decode cX8_readsCompound 83 = .ok (.iconst 0, 1) := by decide +kernel
theorem dX8_readsCompound_84 : decode cX8_readsCompound 84 = .ok (.invokevirtual 97, 3) := by decide +kernel
theorem dX8_readsCompound_87 : decode cX8_readsCompound 87 = .ok (.bipush 112, 2) := by decide +kernel
theorem dX8_readsCompound_89 : decode cX8_readsCompound 89 = .ok (.isub, 1) := by decide +kernel
theorem dX8_readsCompound_90 : decode cX8_readsCompound 90 = .ok (.istore_n 3, 1) := by decide +kernel
theorem dX8_readsCompound_91 : decode cX8_readsCompound 91 = .ok (.aload_n 0, 1) := by decide +kernel
theorem dX8_readsCompound_92 : decode cX8_readsCompound 92 = .ok (.getfield 16, 3) := by decide +kernel
theorem dX8_readsCompound_95 : decode cX8_readsCompound 95 = .ok (.bipush 44, 2) := by decide +kernel
theorem dX8_readsCompound_97 : decode cX8_readsCompound 97 = .ok (.iload_n 1, 1) := by decide +kernel
theorem dX8_readsCompound_98 : decode cX8_readsCompound 98 = .ok (.iadd, 1) := by decide +kernel
theorem dX8_readsCompound_99 : decode cX8_readsCompound 99 = .ok (.dup2, 1) := by decide +kernel
theorem dX8_readsCompound_100 : decode cX8_readsCompound 100 = .ok (.iaload, 1) := by decide +kernel
theorem dX8_readsCompound_101 : decode cX8_readsCompound 101 = .ok (.aload_n 0, 1) := by decide +kernel
theorem dX8_readsCompound_102 : decode cX8_readsCompound 102 = .ok (.invokevirtual 90, 3) := by decide +kernel
theorem dX8_readsCompound_105 : decode cX8_readsCompound 105 = .ok (.ifCond .eq 9, 3) := by decide +kernel
theorem dX8_readsCompound_108 : decode cX8_readsCompound 108 = .ok (.iconst 1, 1) := by decide +kernel
theorem dX8_readsCompound_109 : decode cX8_readsCompound 109 = .ok (.iload_n 3, 1) := by decide +kernel
theorem dX8_readsCompound_110 : decode cX8_readsCompound 110 = .ok (.ishl, 1) := by decide +kernel
theorem dX8_readsCompound_111 : decode cX8_readsCompound 111 = .ok (.goto 4, 3) := by decide +kernel
theorem dX8_readsCompound_114 : decode cX8_readsCompound 114 = .ok (.iconst 0, 1) := by decide +kernel
theorem dX8_readsCompound_115 : decode cX8_readsCompound 115 = .ok (.ior, 1) := by decide +kernel
theorem dX8_readsCompound_116 : decode cX8_readsCompound 116 = .ok (.iastore, 1) := by decide +kernel
theorem dX8_readsCompound_117 : decode cX8_readsCompound 117 = .ok (.iconst 1, 1) := by decide +kernel
theorem dX8_readsCompound_118 : decode cX8_readsCompound 118 = .ok (.istore_n 2, 1) := by decide +kernel
theorem dX8_readsCompound_119 : decode cX8_readsCompound 119 = .ok (.goto (-89), 3) := by decide +kernel
theorem dX8_readsCompound_122 : decode cX8_readsCompound 122 = .ok (.iload_n 2, 1) := by decide +kernel
theorem dX8_readsCompound_123 : decode cX8_readsCompound 123 = .ok (.ifCond .ne 9, 3) := by decide +kernel
theorem dX8_readsCompound_126 : decode cX8_readsCompound 126 = .ok (.aload_n 0, 1) := by decide +kernel
theorem dX8_readsCompound_127 : decode cX8_readsCompound 127 = .ok (.iconst 0, 1) := by decide +kernel
theorem dX8_readsCompound_128 : decode cX8_readsCompound 128 = .ok (.invokevirtual 97, 3) := by decide +kernel
theorem dX8_readsCompound_131 : decode cX8_readsCompound 131 = .ok (.pop, 1) := by decide +kernel
theorem dX8_readsCompound_132 : decode cX8_readsCompound 132 = .ok (.return_, 1) := by decide +kernel
theorem dX8_readsDeclarations_0 : decode cX8_readsDeclarations 0 = .ok (.aload_n 0, 1) := by decide +kernel
theorem dX8_readsDeclarations_1 : decode cX8_readsDeclarations 1 = .ok (.aload_n 0, 1) := by decide +kernel
theorem dX8_readsDeclarations_2 : decode cX8_readsDeclarations 2 = .ok (.bipush 119, 2) := by decide +kernel
theorem dX8_readsDeclarations_4 : decode cX8_readsDeclarations 4 = .ok (.bipush 122, 2) := by decide +kernel
theorem dX8_readsDeclarations_6 : decode cX8_readsDeclarations 6 = .ok (.invokevirtual 101, 3) := by decide +kernel
theorem dX8_readsDeclarations_9 : decode cX8_readsDeclarations 9 = .ok (.ifCond .eq 29, 3) := by decide +kernel
theorem dX8_readsDeclarations_12 : decode cX8_readsDeclarations 12 = .ok (.aload_n 0, 1) := by decide +kernel
theorem dX8_readsDeclarations_13 : decode cX8_readsDeclarations 13 = .ok (.getfield 16, 3) := by decide +kernel
theorem dX8_readsDeclarations_16 : decode cX8_readsDeclarations 16 = .ok (.bipush 92, 2) := by decide +kernel
theorem dX8_readsDeclarations_18 : decode cX8_readsDeclarations 18 = .ok (.iload_n 1, 1) := by decide +kernel
theorem dX8_readsDeclarations_19 : decode cX8_readsDeclarations 19 = .ok (.iadd, 1) := by decide +kernel
theorem dX8_readsDeclarations_20 : decode cX8_readsDeclarations 20 = .ok (.iaload, 1) := by decide +kernel
theorem dX8_readsDeclarations_21 : decode cX8_readsDeclarations 21 = .ok (.aload_n 0, 1) := by decide +kernel
theorem dX8_readsDeclarations_22 : decode cX8_readsDeclarations 22 = .ok (.getfield 80, 3) := by decide +kernel
theorem dX8_readsDeclarations_25 : decode cX8_readsDeclarations 25 = .ok (.bipush 119, 2) := by decide +kernel
theorem dX8_readsDeclarations_27 : decode cX8_readsDeclarations 27 = .ok (.isub, 1) := by decide +kernel
theorem dX8_readsDeclarations_28 : decode cX8_readsDeclarations 28 = .ok (.invokestatic 105, 3) := by decide +kernel
theorem dX8_readsDeclarations_31 : decode cX8_readsDeclarations 31 = .ok (.ifCond .ne 7, 3) := by decide +kernel
theorem dX8_readsDeclarations_34 : decode cX8_readsDeclarations 34 = .ok (.iconst 1, 1) := by decide +kernel
theorem dX8_readsDeclarations_35 : decode cX8_readsDeclarations 35 = .ok (.goto 4, 3) := by decide +kernel
theorem dX8_readsDeclarations_38 : decode cX8_readsDeclarations 38 = .ok (.iconst 0, 1) := by decide +kernel
theorem dX8_readsDeclarations_39 : decode cX8_readsDeclarations 39 = .ok (.invokevirtual 97, 3) := by decide +kernel
theorem dX8_readsDeclarations_42 : decode cX8_readsDeclarations 42 = .ok (.bipush 119, 2) := by decide +kernel
theorem dX8_readsDeclarations_44 : decode cX8_readsDeclarations 44 = .ok (.isub, 1) := by decide +kernel
theorem dX8_readsDeclarations_45 : decode cX8_readsDeclarations 45 = .ok (.istore_n 2, 1) := by decide +kernel
theorem dX8_readsDeclarations_46 : decode cX8_readsDeclarations 46 = .ok (.aload_n 0, 1) := by decide +kernel
theorem dX8_readsDeclarations_47 : decode cX8_readsDeclarations 47 = .ok (.aload_n 0, 1) := by decide +kernel
theorem dX8_readsDeclarations_48 : decode cX8_readsDeclarations 48 = .ok (.invokevirtual 90, 3) := by decide +kernel
theorem dX8_readsDeclarations_51 : decode cX8_readsDeclarations 51 = .ok (.ifCond .eq 15, 3) := by decide +kernel
theorem dX8_readsDeclarations_54 : decode cX8_readsDeclarations 54 = .ok (.aload_n 0, 1) := by decide +kernel
theorem dX8_readsDeclarations_55 : decode cX8_readsDeclarations 55 = .ok (.getfield 77, 3) := by decide +kernel
theorem dX8_readsDeclarations_58 : decode cX8_readsDeclarations 58 = .ok (.iconst 2, 1) := by decide +kernel
theorem dX8_readsDeclarations_59 : decode cX8_readsDeclarations 59 = .ok (.if_icmp .ne 7, 3) := by decide +kernel
theorem dX8_readsDeclarations_62 : decode cX8_readsDeclarations 62 = .ok (.iconst 1, 1) := by decide +kernel
theorem dX8_readsDeclarations_63 : decode cX8_readsDeclarations 63 = .ok (.goto 4, 3) := by decide +kernel
theorem dX8_readsDeclarations_66 : decode cX8_readsDeclarations 66 = .ok (.iconst 0, 1) := by decide +kernel
theorem dX8_readsDeclarations_67 : decode cX8_readsDeclarations 67 = .ok (.invokevirtual 97, 3) := by decide +kernel
theorem dX8_readsDeclarations_70 : decode cX8_readsDeclarations 70 = .ok (.istore_n 3, 1) := by decide +kernel
theorem dX8_readsDeclarations_71 : decode cX8_readsDeclarations 71 = .ok (.aload_n 0, 1) := by decide +kernel
theorem dX8_readsDeclarations_72 : decode cX8_readsDeclarations 72 = .ok (.invokevirtual 90, 3) := by decide +kernel
theorem dX8_readsDeclarations_75 : decode cX8_readsDeclarations 75 = .ok (.ifCond .eq 62, 3) := by decide +kernel
theorem dX8_readsDeclarations_78 : decode cX8_readsDeclarations 78 = .ok (.aload_n 0, 1) := by decide +kernel
theorem dX8_readsDeclarations_79 : decode cX8_readsDeclarations 79 = .ok (.getfield 16, 3) := by decide +kernel
theorem dX8_readsDeclarations_82 : decode cX8_readsDeclarations 82 = .ok (.bipush 92, 2) := by decide +kernel
theorem dX8_readsDeclarations_84 : decode cX8_readsDeclarations 84 = .ok (.iload_n 1, 1) := by decide +kernel
theorem dX8_readsDeclarations_85 : decode cX8_readsDeclarations 85 = .ok (.iadd, 1) := by decide +kernel
theorem dX8_readsDeclarations_86 : decode cX8_readsDeclarations 86 = .ok (.dup2, 1) := by decide +kernel
theorem dX8_readsDeclarations_87 : decode cX8_readsDeclarations 87 = .ok (.iaload, 1) := by decide +kernel
theorem dX8_readsDeclarations_88 : decode cX8_readsDeclarations 88 = .ok (.iconst 1, 1) := by decide +kernel
theorem dX8_readsDeclarations_89 : decode cX8_readsDeclarations 89 = .ok (.iload_n 2, 1) := by decide +kernel
theorem dX8_readsDeclarations_90 : decode cX8_readsDeclarations 90 = .ok (.ishl, 1) := by decide +kernel
theorem dX8_readsDeclarations_91 : decode cX8_readsDeclarations 91 = .ok (.ior, 1) := by decide +kernel
theorem dX8_readsDeclarations_92 : decode cX8_readsDeclarations 92 = .ok (.iastore, 1) := by decide +kernel
theorem dX8_readsDeclarations_93 : decode cX8_readsDeclarations 93 = .ok (.aload_n 0, 1) := by decide +kernel
theorem dX8_readsDeclarations_94 : decode cX8_readsDeclarations 94 = .ok (.getfield 16, 3) := by decide +kernel
theorem dX8_readsDeclarations_97 : decode cX8_readsDeclarations 97 = .ok (.bipush 108, 2) := by decide +kernel
theorem dX8_readsDeclarations_99 : decode cX8_readsDeclarations 99 = .ok (.iconst 4, 1) := by decide +kernel
theorem dX8_readsDeclarations_100 : decode cX8_readsDeclarations 100 = .ok (.iload_n 1, 1) := by decide +kernel
theorem dX8_readsDeclarations_101 : decode cX8_readsDeclarations 101 = .ok (.imul, 1) := by decide +kernel
theorem dX8_readsDeclarations_102 : decode cX8_readsDeclarations 102 = .ok (.iadd, 1) := by decide +kernel
theorem dX8_readsDeclarations_103 : decode cX8_readsDeclarations 103 = .ok (.iload_n 2, 1) := by decide +kernel
theorem dX8_readsDeclarations_104 : decode cX8_readsDeclarations 104 = .ok (.iadd, 1) := by decide +kernel
theorem dX8_readsDeclarations_105 : decode cX8_readsDeclarations 105 = .ok (.iload_n 3, 1) := by decide +kernel
theorem dX8_readsDeclarations_106 : decode cX8_readsDeclarations 106 = .ok (.iastore, 1) := by decide +kernel
theorem dX8_readsDeclarations_107 : decode cX8_readsDeclarations 107 = .ok (.aload_n 0, 1) := by decide +kernel
theorem dX8_readsDeclarations_108 : decode cX8_readsDeclarations 108 = .ok (.bipush 33, 2) := by decide +kernel
theorem dX8_readsDeclarations_110 : decode cX8_readsDeclarations 110 = .ok (.invokevirtual 108, 3) := by decide +kernel
theorem dX8_readsDeclarations_113 : decode cX8_readsDeclarations 113 = .ok (.ifCond .eq 24, 3) := by decide +kernel
theorem dX8_readsDeclarations_116 : decode cX8_readsDeclarations 116 = .ok (.aload_n 0, 1) := by decide +kernel
theorem dX8_readsDeclarations_117 : decode cX8_readsDeclarations 117 = .ok (.iconst 1, 1) := by decide +kernel
theorem dX8_readsDeclarations_118 : decode cX8_readsDeclarations 118 = .ok (.invokevirtual 97, 3) := by decide +kernel
theorem dX8_readsDeclarations_121 : decode cX8_readsDeclarations 121 = .ok (.pop, 1) := by decide +kernel
theorem dX8_readsDeclarations_122 : decode cX8_readsDeclarations 122 = .ok (.aload_n 0, 1) := by decide +kernel
theorem dX8_readsDeclarations_123 : decode cX8_readsDeclarations 123 = .ok (.getfield 16, 3) := by decide +kernel
theorem dX8_readsDeclarations_126 : decode cX8_readsDeclarations 126 = .ok (.bipush 100, 2) := by decide +kernel
theorem dX8_readsDeclarations_128 : decode cX8_readsDeclarations 128 = .ok (.iload_n 1, 1) := by decide +kernel
theorem dX8_readsDeclarations_129 : decode cX8_readsDeclarations 129 = .ok (.iadd, 1) := by decide +kernel
theorem dX8_readsDeclarations_130 : decode cX8_readsDeclarations 130 = .ok (.dup2, 1) := by decide +kernel
theorem dX8_readsDeclarations_131 : decode cX8_readsDeclarations 131 = .ok (.iaload, 1) := by decide +kernel
theorem dX8_readsDeclarations_132 : decode cX8_readsDeclarations 132 = .ok (.iconst 1, 1) := by decide +kernel
theorem dX8_readsDeclarations_133 : decode cX8_readsDeclarations 133 = .ok (.iload_n 2, 1) := by decide +kernel
theorem dX8_readsDeclarations_134 : decode cX8_readsDeclarations 134 = .ok (.ishl, 1) := by decide +kernel
theorem dX8_readsDeclarations_135 : decode cX8_readsDeclarations 135 = .ok (.ior, 1) := by decide +kernel
theorem dX8_readsDeclarations_136 : decode cX8_readsDeclarations 136 = .ok (.iastore, 1) := by decide +kernel
theorem dX8_readsDeclarations_137 : decode cX8_readsDeclarations 137 = .ok (.aload_n 0, 1) := by decide +kernel
theorem dX8_readsDeclarations_138 : decode cX8_readsDeclarations 138 = .ok (.invokevirtual 90, 3) := by decide +kernel
theorem dX8_readsDeclarations_141 : decode cX8_readsDeclarations 141 = .ok (.ifCond .eq 19, 3) := by decide +kernel
theorem dX8_readsDeclarations_144 : decode cX8_readsDeclarations 144 = .ok (.aload_n 0, 1) := by decide +kernel
theorem dX8_readsDeclarations_145 : decode cX8_readsDeclarations 145 = .ok (.bipush 59, 2) := by decide +kernel
theorem dX8_readsDeclarations_147 : decode cX8_readsDeclarations 147 = .ok (.invokevirtual 108, 3) := by decide +kernel
theorem dX8_readsDeclarations_150 : decode cX8_readsDeclarations 150 = .ok (.ifCond .ne 10, 3) := by decide +kernel
theorem dX8_readsDeclarations_153 : decode cX8_readsDeclarations 153 = .ok (.aload_n 0, 1) := by decide +kernel
theorem dX8_readsDeclarations_154 : decode cX8_readsDeclarations 154 = .ok (.getfield 77, 3) := by decide +kernel
theorem dX8_readsDeclarations_157 : decode cX8_readsDeclarations 157 = .ok (.ifCond .ne (-157), 3) := by decide +kernel
theorem dX8_readsDeclarations_160 : decode cX8_readsDeclarations 160 = .ok (.return_, 1) := by decide +kernel
theorem dX8_readsRule_0 : decode cX8_readsRule 0 = .ok (.aload_n 0, 1) := by decide +kernel
theorem dX8_readsRule_1 : decode cX8_readsRule 1 = .ok (.getfield 16, 3) := by decide +kernel
theorem dX8_readsRule_4 : decode cX8_readsRule 4 = .ok (.iconst 1, 1) := by decide +kernel
theorem dX8_readsRule_5 : decode cX8_readsRule 5 = .ok (.iaload, 1) := by decide +kernel
theorem dX8_readsRule_6 : decode cX8_readsRule 6 = .ok (.istore_n 1, 1) := by decide +kernel
theorem dX8_readsRule_7 : decode cX8_readsRule 7 = .ok (.aload_n 0, 1) := by decide +kernel
theorem dX8_readsRule_8 : decode cX8_readsRule 8 = .ok (.bipush 85, 2) := by decide +kernel
theorem dX8_readsRule_10 : decode cX8_readsRule 10 = .ok (.invokevirtual 108, 3) := by decide +kernel
theorem dX8_readsRule_13 : decode cX8_readsRule 13 = .ok (.ifCond .eq 21, 3) := by decide +kernel
theorem dX8_readsRule_16 : decode cX8_readsRule 16 = .ok (.aload_n 0, 1) := by decide +kernel
theorem dX8_readsRule_17 : decode cX8_readsRule 17 = .ok (.iconst 1, 1) := by decide +kernel
theorem dX8_readsRule_18 : decode cX8_readsRule 18 = .ok (.invokevirtual 97, 3) := by decide +kernel
theorem dX8_readsRule_21 : decode cX8_readsRule 21 = .ok (.pop, 1) := by decide +kernel
theorem dX8_readsRule_22 : decode cX8_readsRule 22 = .ok (.aload_n 0, 1) := by decide +kernel
theorem dX8_readsRule_23 : decode cX8_readsRule 23 = .ok (.getfield 16, 3) := by decide +kernel
theorem dX8_readsRule_26 : decode cX8_readsRule 26 = .ok (.iconst 2, 1) := by decide +kernel
theorem dX8_readsRule_27 : decode cX8_readsRule 27 = .ok (.dup2, 1) := by decide +kernel
theorem dX8_readsRule_28 : decode cX8_readsRule 28 = .ok (.iaload, 1) := by decide +kernel
theorem dX8_readsRule_29 : decode cX8_readsRule 29 = .ok (.iconst 1, 1) := by decide +kernel
theorem dX8_readsRule_30 : decode cX8_readsRule 30 = .ok (.iload_n 1, 1) := by decide +kernel
theorem dX8_readsRule_31 : decode cX8_readsRule 31 = .ok (.ishl, 1) := by decide +kernel
theorem dX8_readsRule_32 : decode cX8_readsRule 32 = .ok (.ior, 1) := by decide +kernel
theorem dX8_readsRule_33 : decode cX8_readsRule 33 = .ok (.iastore, 1) := by decide +kernel
theorem dX8_readsRule_34 : decode cX8_readsRule 34 = .ok (.iconst 0, 1) := by decide +kernel
theorem dX8_readsRule_35 : decode cX8_readsRule 35 = .ok (.istore_n 2, 1) := by decide +kernel
theorem dX8_readsRule_36 : decode cX8_readsRule 36 = .ok (.aload_n 0, 1) := by decide +kernel
theorem dX8_readsRule_37 : decode cX8_readsRule 37 = .ok (.iconst 3, 1) := by decide +kernel
theorem dX8_readsRule_38 : decode cX8_readsRule 38 = .ok (.iload_n 1, 1) := by decide +kernel
theorem dX8_readsRule_39 : decode cX8_readsRule 39 = .ok (.imul, 1) := by decide +kernel
theorem dX8_readsRule_40 : decode cX8_readsRule 40 = .ok (.invokevirtual 111, 3) := by decide +kernel
theorem dX8_readsRule_43 : decode cX8_readsRule 43 = .ok (.iinc 2 1, 3) := by decide +kernel
theorem dX8_readsRule_46 : decode cX8_readsRule 46 = .ok (.aload_n 0, 1) := by decide +kernel
theorem dX8_readsRule_47 : decode cX8_readsRule 47 = .ok (.bipush 62, 2) := by decide +kernel
theorem dX8_readsRule_49 : decode cX8_readsRule 49 = .ok (.invokevirtual 108, 3) := by decide +kernel
theorem dX8_readsRule_52 : decode cX8_readsRule 52 = .ok (.ifCond .ne 12, 3) := by decide +kernel
theorem dX8_readsRule_55 : decode cX8_readsRule 55 = .ok (.aload_n 0, 1) := by decide +kernel
theorem dX8_readsRule_56 : decode cX8_readsRule 56 = .ok (.bipush 47, 2) := by decide +kernel
theorem dX8_readsRule_58 : decode cX8_readsRule 58 = .ok (.invokevirtual 108, 3) := by decide +kernel
theorem dX8_readsRule_61 : decode cX8_readsRule 61 = .ok (.ifCond .eq 54, 3) := by decide +kernel
theorem dX8_readsRule_64 : decode cX8_readsRule 64 = .ok (.aload_n 0, 1) := by decide +kernel
theorem dX8_readsRule_65 : decode cX8_readsRule 65 = .ok (.iload_n 2, 1) := by decide +kernel
theorem dX8_readsRule_66 : decode cX8_readsRule 66 = .ok (.iconst 3, 1) := by decide +kernel
theorem dX8_readsRule_67 : decode cX8_readsRule 67 = .ok (.if_icmp .ge 7, 3) := by decide +kernel
theorem dX8_readsRule_70 : decode cX8_readsRule 70 = .ok (.iconst 1, 1) := by decide +kernel
theorem dX8_readsRule_71 : decode cX8_readsRule 71 = .ok (.goto 4, 3) := by decide +kernel
theorem dX8_readsRule_74 : decode cX8_readsRule 74 = .ok (.iconst 0, 1) := by decide +kernel
theorem dX8_readsRule_75 : decode cX8_readsRule 75 = .ok (.invokevirtual 97, 3) := by decide +kernel
theorem dX8_readsRule_78 : decode cX8_readsRule 78 = .ok (.istore_n 3, 1) := by decide +kernel
theorem dX8_readsRule_79 : decode cX8_readsRule 79 = .ok (.aload_n 0, 1) := by decide +kernel
theorem dX8_readsRule_80 : decode cX8_readsRule 80 = .ok (.invokevirtual 90, 3) := by decide +kernel
theorem dX8_readsRule_83 : decode cX8_readsRule 83 = .ok (.ifCond .eq 29, 3) := by decide +kernel
theorem dX8_readsRule_86 : decode cX8_readsRule 86 = .ok (.aload_n 0, 1) := by decide +kernel
theorem dX8_readsRule_87 : decode cX8_readsRule 87 = .ok (.getfield 16, 3) := by decide +kernel
theorem dX8_readsRule_90 : decode cX8_readsRule 90 = .ok (.bipush 68, 2) := by decide +kernel
theorem dX8_readsRule_92 : decode cX8_readsRule 92 = .ok (.iconst 3, 1) := by decide +kernel
theorem dX8_readsRule_93 : decode cX8_readsRule 93 = .ok (.iload_n 1, 1) := by decide +kernel
theorem dX8_readsRule_94 : decode cX8_readsRule 94 = .ok (.imul, 1) := by decide +kernel
theorem dX8_readsRule_95 : decode cX8_readsRule 95 = .ok (.iadd, 1) := by decide +kernel
theorem dX8_readsRule_96 : decode cX8_readsRule 96 = .ok (.iload_n 2, 1) := by decide +kernel
theorem dX8_readsRule_97 : decode cX8_readsRule 97 = .ok (.iadd, 1) := by decide +kernel
theorem dX8_readsRule_98 : decode cX8_readsRule 98 = .ok (.iload_n 3, 1) := by decide +kernel
theorem dX8_readsRule_99 : decode cX8_readsRule 99 = .ok (.iastore, 1) := by decide +kernel
theorem dX8_readsRule_100 : decode cX8_readsRule 100 = .ok (.aload_n 0, 1) := by decide +kernel
theorem dX8_readsRule_101 : decode cX8_readsRule 101 = .ok (.iconst 3, 1) := by decide +kernel
theorem dX8_readsRule_102 : decode cX8_readsRule 102 = .ok (.iload_n 1, 1) := by decide +kernel
theorem dX8_readsRule_103 : decode cX8_readsRule 103 = .ok (.imul, 1) := by decide +kernel
theorem dX8_readsRule_104 : decode cX8_readsRule 104 = .ok (.iload_n 2, 1) := by decide +kernel
theorem dX8_readsRule_105 : decode cX8_readsRule 105 = .ok (.iadd, 1) := by decide +kernel
theorem dX8_readsRule_106 : decode cX8_readsRule 106 = .ok (.invokevirtual 111, 3) := by decide +kernel
theorem dX8_readsRule_109 : decode cX8_readsRule 109 = .ok (.iinc 2 1, 3) := by decide +kernel
theorem dX8_readsRule_112 : decode cX8_readsRule 112 = .ok (.goto (-66), 3) := by decide +kernel
theorem dX8_readsRule_115 : decode cX8_readsRule 115 = .ok (.aload_n 0, 1) := by decide +kernel
theorem dX8_readsRule_116 : decode cX8_readsRule 116 = .ok (.getfield 16, 3) := by decide +kernel
theorem dX8_readsRule_119 : decode cX8_readsRule 119 = .ok (.bipush 12, 2) := by decide +kernel
theorem dX8_readsRule_121 : decode cX8_readsRule 121 = .ok (.iload_n 1, 1) := by decide +kernel
theorem dX8_readsRule_122 : decode cX8_readsRule 122 = .ok (.iadd, 1) := by decide +kernel
theorem dX8_readsRule_123 : decode cX8_readsRule 123 = .ok (.iload_n 2, 1) := by decide +kernel
theorem dX8_readsRule_124 : decode cX8_readsRule 124 = .ok (.iastore, 1) := by decide +kernel
theorem dX8_readsRule_125 : decode cX8_readsRule 125 = .ok (.aload_n 0, 1) := by decide +kernel
theorem dX8_readsRule_126 : decode cX8_readsRule 126 = .ok (.aload_n 0, 1) := by decide +kernel
theorem dX8_readsRule_127 : decode cX8_readsRule 127 = .ok (.bipush 58, 2) := by decide +kernel
theorem dX8_readsRule_129 : decode cX8_readsRule 129 = .ok (.invokevirtual 108, 3) := by decide +kernel
theorem dX8_readsRule_132 : decode cX8_readsRule 132 = .ok (.invokevirtual 97, 3) := by decide +kernel
theorem dX8_readsRule_135 : decode cX8_readsRule 135 = .ok (.pop, 1) := by decide +kernel
theorem dX8_readsRule_136 : decode cX8_readsRule 136 = .ok (.aload_n 0, 1) := by decide +kernel
theorem dX8_readsRule_137 : decode cX8_readsRule 137 = .ok (.invokevirtual 90, 3) := by decide +kernel
theorem dX8_readsRule_140 : decode cX8_readsRule 140 = .ok (.ifCond .eq 8, 3) := by decide +kernel
theorem dX8_readsRule_143 : decode cX8_readsRule 143 = .ok (.aload_n 0, 1) := by decide +kernel
theorem dX8_readsRule_144 : decode cX8_readsRule 144 = .ok (.iload_n 1, 1) := by decide +kernel
theorem dX8_readsRule_145 : decode cX8_readsRule 145 = .ok (.invokevirtual 115, 3) := by decide +kernel
theorem dX8_readsRule_148 : decode cX8_readsRule 148 = .ok (.aload_n 0, 1) := by decide +kernel
theorem dX8_readsRule_149 : decode cX8_readsRule 149 = .ok (.getfield 16, 3) := by decide +kernel
theorem dX8_readsRule_152 : decode cX8_readsRule 152 = .ok (.iconst 1, 1) := by decide +kernel
theorem dX8_readsRule_153 : decode cX8_readsRule 153 = .ok (.dup2, 1) := by decide +kernel
theorem dX8_readsRule_154 : decode cX8_readsRule 154 = .ok (.iaload, 1) := by decide +kernel
theorem dX8_readsRule_155 : decode cX8_readsRule 155 = .ok (.iconst 1, 1) := by decide +kernel
theorem dX8_readsRule_156 : decode cX8_readsRule 156 = .ok (.iadd, 1) := by decide +kernel
theorem dX8_readsRule_157 : decode cX8_readsRule 157 = .ok (.iastore, 1) := by decide +kernel
theorem dX8_readsRule_158 : decode cX8_readsRule 158 = .ok (.return_, 1) := by decide +kernel
theorem dX8_page_0 : decode cX8_page 0 = .ok (.aload_n 0, 1) := by decide +kernel
theorem dX8_page_1 : decode cX8_page 1 = .ok (.iconst 0, 1) := by decide +kernel
theorem dX8_page_2 : decode cX8_page 2 = .ok (.putfield 56, 3) := by decide +kernel
theorem dX8_page_5 : decode cX8_page 5 = .ok (.aload_n 0, 1) := by decide +kernel
theorem dX8_page_6 : decode cX8_page 6 = .ok (.iconst (-1), 1) := by decide +kernel
theorem dX8_page_7 : decode cX8_page 7 = .ok (.putfield 87, 3) := by decide +kernel
theorem dX8_page_10 : decode cX8_page 10 = .ok (.aload_n 0, 1) := by decide +kernel
theorem dX8_page_11 : decode cX8_page 11 = .ok (.iconst 0, 1) := by decide +kernel
theorem dX8_page_12 : decode cX8_page 12 = .ok (.putfield 67, 3) := by decide +kernel
theorem dX8_page_15 : decode cX8_page 15 = .ok (.aload_n 0, 1) := by decide +kernel
theorem dX8_page_16 : decode cX8_page 16 = .ok (.invokevirtual 50, 3) := by decide +kernel
theorem dX8_page_19 : decode cX8_page 19 = .ok (.iconst 0, 1) := by decide +kernel
theorem dX8_page_20 : decode cX8_page 20 = .ok (.istore_n 1, 1) := by decide +kernel
theorem dX8_page_21 : decode cX8_page 21 = .ok (.aload_n 0, 1) := by decide +kernel
theorem dX8_page_22 : decode cX8_page 22 = .ok (.invokevirtual 94, 3) := by decide +kernel
theorem dX8_page_25 : decode cX8_page 25 = .ok (.aload_n 0, 1) := by decide +kernel
theorem dX8_page_26 : decode cX8_page 26 = .ok (.invokevirtual 90, 3) := by decide +kernel
theorem dX8_page_29 : decode cX8_page 29 = .ok (.ifCond .eq 108, 3) := by decide +kernel
theorem dX8_page_32 : decode cX8_page 32 = .ok (.aload_n 0, 1) := by decide +kernel
theorem dX8_page_33 : decode cX8_page 33 = .ok (.getfield 77, 3) := by decide +kernel
theorem dX8_page_36 : decode cX8_page 36 = .ok (.ifCond .eq 101, 3) := by decide +kernel
theorem dX8_page_39 : decode cX8_page 39 = .ok (.aload_n 0, 1) := by decide +kernel
theorem dX8_page_40 : decode cX8_page 40 = .ok (.aload_n 0, 1) := by decide +kernel
theorem dX8_page_41 : decode cX8_page 41 = .ok (.bipush 78, 2) := by decide +kernel
theorem dX8_page_43 : decode cX8_page 43 = .ok (.invokevirtual 108, 3) := by decide +kernel
theorem dX8_page_46 : decode cX8_page 46 = .ok (.ifCond .eq 14, 3) := by decide +kernel
theorem dX8_page_49 : decode cX8_page 49 = .ok (.aload_n 0, 1) := by decide +kernel
theorem dX8_page_50 : decode cX8_page 50 = .ok (.getfield 16, 3) := by decide +kernel
theorem dX8_page_53 : decode cX8_page 53 = .ok (.iconst 0, 1) := by decide +kernel
theorem dX8_page_54 : decode cX8_page 54 = .ok (.iaload, 1) := by decide +kernel
theorem dX8_page_55 : decode cX8_page 55 = .ok (.bipush 9, 2) := by decide +kernel
theorem dX8_page_57 : decode cX8_page 57 = .ok (.if_icmp .lt 23, 3) := by decide +kernel
theorem dX8_page_60 : decode cX8_page 60 = .ok (.aload_n 0, 1) := by decide +kernel
theorem dX8_page_61 : decode cX8_page 61 = .ok (.bipush 82, 2) := by decide +kernel
theorem dX8_page_63 : decode cX8_page 63 = .ok (.invokevirtual 108, 3) := by decide +kernel
theorem dX8_page_66 : decode cX8_page 66 = .ok (.ifCond .eq 18, 3) := by decide +kernel
theorem dX8_page_69 : decode cX8_page 69 = .ok (.aload_n 0, 1) := by decide +kernel
theorem dX8_page_70 : decode cX8_page 70 = .ok (.getfield 16, 3) := by decide +kernel
theorem dX8_page_73 : decode cX8_page 73 = .ok (.iconst 1, 1) := by decide +kernel
theorem dX8_page_74 : decode cX8_page 74 = .ok (.iaload, 1) := by decide +kernel
theorem dX8_page_75 : decode cX8_page 75 = .ok (.bipush 8, 2) := by decide +kernel
theorem dX8_page_77 : decode cX8_page 77 = .ok (.if_icmp .ge 7, 3) := by decide +kernel
theorem dX8_page_80 : decode cX8_page 80 = .ok (.iconst 1, 1) := by decide +kernel
theorem dX8_page_81 : decode cX8_page 81 = .ok (.goto 4, 3) := by decide +kernel
theorem dX8_page_84 : decode cX8_page 84 = .ok (.iconst 0, 1) := by decide +kernel
theorem dX8_page_85 : decode cX8_page 85 = .ok (.invokevirtual 97, 3) := by decide +kernel
theorem dX8_page_88 : decode cX8_page 88 = .ok (.istore_n 2, 1) := by decide +kernel
theorem dX8_page_89 : decode cX8_page 89 = .ok (.aload_n 0, 1) := by decide +kernel
theorem dX8_page_90 : decode cX8_page 90 = .ok (.invokevirtual 90, 3) := by decide +kernel
theorem dX8_page_93 : decode cX8_page 93 = .ok (.ifCond .eq 16, 3) := by decide +kernel
theorem dX8_page_96 : decode cX8_page 96 = .ok (.iload_n 2, 1) := by decide +kernel
theorem dX8_page_97 : decode cX8_page 97 = .ok (.bipush 78, 2) := by decide +kernel
theorem dX8_page_99 : decode cX8_page 99 = .ok (.if_icmp .ne 10, 3) := by decide +kernel
theorem dX8_page_102 : decode cX8_page 102 = .ok (.aload_n 0, 1) := by decide +kernel
theorem dX8_page_103 : decode cX8_page 103 = .ok (.invokevirtual 118, 3) := by decide +kernel
theorem dX8_page_106 : decode cX8_page 106 = .ok (.goto 14, 3) := by decide +kernel
theorem dX8_page_109 : decode cX8_page 109 = .ok (.aload_n 0, 1) := by decide +kernel
theorem dX8_page_110 : decode cX8_page 110 = .ok (.invokevirtual 90, 3) := by decide +kernel
theorem dX8_page_113 : decode cX8_page 113 = .ok (.ifCond .eq 7, 3) := by decide +kernel
theorem dX8_page_116 : decode cX8_page 116 = .ok (.aload_n 0, 1) := by decide +kernel
theorem dX8_page_117 : decode cX8_page 117 = .ok (.invokevirtual 121, 3) := by decide +kernel
theorem dX8_page_120 : decode cX8_page 120 = .ok (.aload_n 0, 1) := by decide +kernel
theorem dX8_page_121 : decode cX8_page 121 = .ok (.aload_n 0, 1) := by decide +kernel
theorem dX8_page_122 : decode cX8_page 122 = .ok (.bipush 59, 2) := by decide +kernel
theorem dX8_page_124 : decode cX8_page 124 = .ok (.invokevirtual 108, 3) := by decide +kernel
theorem dX8_page_127 : decode cX8_page 127 = .ok (.invokevirtual 97, 3) := by decide +kernel
theorem dX8_page_130 : decode cX8_page 130 = .ok (.pop, 1) := by decide +kernel
theorem dX8_page_131 : decode cX8_page 131 = .ok (.iinc 1 1, 3) := by decide +kernel
theorem dX8_page_134 : decode cX8_page 134 = .ok (.goto (-109), 3) := by decide +kernel
theorem dX8_page_137 : decode cX8_page 137 = .ok (.aload_n 0, 1) := by decide +kernel
theorem dX8_page_138 : decode cX8_page 138 = .ok (.invokevirtual 90, 3) := by decide +kernel
theorem dX8_page_141 : decode cX8_page 141 = .ok (.ifCond .ne 11, 3) := by decide +kernel
theorem dX8_page_144 : decode cX8_page 144 = .ok (.bipush (-10), 2) := by decide +kernel
theorem dX8_page_146 : decode cX8_page 146 = .ok (.aload_n 0, 1) := by decide +kernel
theorem dX8_page_147 : decode cX8_page 147 = .ok (.getfield 87, 3) := by decide +kernel
theorem dX8_page_150 : decode cX8_page 150 = .ok (.isub, 1) := by decide +kernel
theorem dX8_page_151 : decode cX8_page 151 = .ok (.ireturn, 1) := by decide +kernel
theorem dX8_page_152 : decode cX8_page 152 = .ok (.aload_n 0, 1) := by decide +kernel
theorem dX8_page_153 : decode cX8_page 153 = .ok (.getfield 19, 3) := by decide +kernel
theorem dX8_page_156 : decode cX8_page 156 = .ok (.bipush 18, 2) := by decide +kernel
theorem dX8_page_158 : decode cX8_page 158 = .ok (.iconst 1, 1) := by decide +kernel
theorem dX8_page_159 : decode cX8_page 159 = .ok (.aload_n 0, 1) := by decide +kernel
theorem dX8_page_160 : decode cX8_page 160 = .ok (.getfield 16, 3) := by decide +kernel
theorem dX8_page_163 : decode cX8_page 163 = .ok (.iconst 1, 1) := by decide +kernel
theorem dX8_page_164 : decode cX8_page 164 = .ok (.iaload, 1) := by decide +kernel
theorem dX8_page_165 : decode cX8_page 165 = .ok (.ishl, 1) := by decide +kernel
theorem dX8_page_166 : decode cX8_page 166 = .ok (.iconst 1, 1) := by decide +kernel
theorem dX8_page_167 : decode cX8_page 167 = .ok (.isub, 1) := by decide +kernel
theorem dX8_page_168 : decode cX8_page 168 = .ok (.iastore, 1) := by decide +kernel
theorem dX8_page_169 : decode cX8_page 169 = .ok (.aload_n 0, 1) := by decide +kernel
theorem dX8_page_170 : decode cX8_page 170 = .ok (.invokevirtual 53, 3) := by decide +kernel
theorem dX8_page_173 : decode cX8_page 173 = .ok (.iload_n 1, 1) := by decide +kernel
theorem dX8_page_174 : decode cX8_page 174 = .ok (.ireturn, 1) := by decide +kernel
theorem dX8_settles_0 : decode cX8_settles 0 = .ok (.iconst 0, 1) := by decide +kernel
theorem dX8_settles_1 : decode cX8_settles 1 = .ok (.istore_n 1, 1) := by decide +kernel
theorem dX8_settles_2 : decode cX8_settles 2 = .ok (.iload_n 1, 1) := by decide +kernel
theorem dX8_settles_3 : decode cX8_settles 3 = .ok (.sipush 140, 3) := by decide +kernel
theorem dX8_settles_6 : decode cX8_settles 6 = .ok (.if_icmp .ge 21, 3) := by decide +kernel
theorem dX8_settles_9 : decode cX8_settles 9 = .ok (.aload_n 0, 1) := by decide +kernel
theorem dX8_settles_10 : decode cX8_settles 10 = .ok (.getfield 13, 3) := by decide +kernel
theorem dX8_settles_13 : decode cX8_settles 13 = .ok (.iload_n 1, 1) := by decide +kernel
theorem dX8_settles_14 : decode cX8_settles 14 = .ok (.aload_n 0, 1) := by decide +kernel
theorem dX8_settles_15 : decode cX8_settles 15 = .ok (.getfield 16, 3) := by decide +kernel
theorem dX8_settles_18 : decode cX8_settles 18 = .ok (.iload_n 1, 1) := by decide +kernel
theorem dX8_settles_19 : decode cX8_settles 19 = .ok (.iaload, 1) := by decide +kernel
theorem dX8_settles_20 : decode cX8_settles 20 = .ok (.iastore, 1) := by decide +kernel
theorem dX8_settles_21 : decode cX8_settles 21 = .ok (.iinc 1 1, 3) := by decide +kernel
theorem dX8_settles_24 : decode cX8_settles 24 = .ok (.goto (-22), 3) := by decide +kernel
theorem dX8_settles_27 : decode cX8_settles 27 = .ok (.iconst 0, 1) := by decide +kernel
theorem dX8_settles_28 : decode cX8_settles 28 = .ok (.istore_n 1, 1) := by decide +kernel
theorem dX8_settles_29 : decode cX8_settles 29 = .ok (.iload_n 1, 1) := by decide +kernel
theorem dX8_settles_30 : decode cX8_settles 30 = .ok (.bipush 19, 2) := by decide +kernel
theorem dX8_settles_32 : decode cX8_settles 32 = .ok (.if_icmp .ge 21, 3) := by decide +kernel
theorem dX8_settles_35 : decode cX8_settles 35 = .ok (.aload_n 0, 1) := by decide +kernel
theorem dX8_settles_36 : decode cX8_settles 36 = .ok (.getfield 22, 3) := by decide +kernel
theorem dX8_settles_39 : decode cX8_settles 39 = .ok (.iload_n 1, 1) := by decide +kernel
theorem dX8_settles_40 : decode cX8_settles 40 = .ok (.aload_n 0, 1) := by decide +kernel
theorem dX8_settles_41 : decode cX8_settles 41 = .ok (.getfield 19, 3) := by decide +kernel
theorem dX8_settles_44 : decode cX8_settles 44 = .ok (.iload_n 1, 1) := by decide +kernel
theorem dX8_settles_45 : decode cX8_settles 45 = .ok (.iaload, 1) := by decide +kernel
theorem dX8_settles_46 : decode cX8_settles 46 = .ok (.iastore, 1) := by decide +kernel
theorem dX8_settles_47 : decode cX8_settles 47 = .ok (.iinc 1 1, 3) := by decide +kernel
theorem dX8_settles_50 : decode cX8_settles 50 = .ok (.goto (-21), 3) := by decide +kernel
theorem dX8_settles_53 : decode cX8_settles 53 = .ok (.aload_n 0, 1) := by decide +kernel
theorem dX8_settles_54 : decode cX8_settles 54 = .ok (.iconst 0, 1) := by decide +kernel
theorem dX8_settles_55 : decode cX8_settles 55 = .ok (.putfield 64, 3) := by decide +kernel
theorem dX8_settles_58 : decode cX8_settles 58 = .ok (.aload_n 0, 1) := by decide +kernel
theorem dX8_settles_59 : decode cX8_settles 59 = .ok (.iconst 0, 1) := by decide +kernel
theorem dX8_settles_60 : decode cX8_settles 60 = .ok (.putfield 124, 3) := by decide +kernel
theorem dX8_settles_63 : decode cX8_settles 63 = .ok (.aload_n 0, 1) := by decide +kernel
theorem dX8_settles_64 : decode cX8_settles 64 = .ok (.iconst 0, 1) := by decide +kernel
theorem dX8_settles_65 : decode cX8_settles 65 = .ok (.putfield 127, 3) := by decide +kernel
theorem dX8_settles_68 : decode cX8_settles 68 = .ok (.aload_n 0, 1) := by decide +kernel
theorem dX8_settles_69 : decode cX8_settles 69 = .ok (.getfield 31, 3) := by decide +kernel
theorem dX8_settles_72 : decode cX8_settles 72 = .ok (.iconst 0, 1) := by decide +kernel
theorem dX8_settles_73 : decode cX8_settles 73 = .ok (.iconst 0, 1) := by decide +kernel
theorem dX8_settles_74 : decode cX8_settles 74 = .ok (.bastore, 1) := by decide +kernel
theorem dX8_settles_75 : decode cX8_settles 75 = .ok (.aload_n 0, 1) := by decide +kernel
theorem dX8_settles_76 : decode cX8_settles 76 = .ok (.getfield 31, 3) := by decide +kernel
theorem dX8_settles_79 : decode cX8_settles 79 = .ok (.iconst 1, 1) := by decide +kernel
theorem dX8_settles_80 : decode cX8_settles 80 = .ok (.iconst 0, 1) := by decide +kernel
theorem dX8_settles_81 : decode cX8_settles 81 = .ok (.bastore, 1) := by decide +kernel
theorem dX8_settles_82 : decode cX8_settles 82 = .ok (.return_, 1) := by decide +kernel
theorem dX8_isNode_0 : decode cX8_isNode 0 = .ok (.iload_n 1, 1) := by decide +kernel
theorem dX8_isNode_1 : decode cX8_isNode 1 = .ok (.iconst 0, 1) := by decide +kernel
theorem dX8_isNode_2 : decode cX8_isNode 2 = .ok (.aload_n 0, 1) := by decide +kernel
theorem dX8_isNode_3 : decode cX8_isNode 3 = .ok (.getfield 13, 3) := by decide +kernel
theorem dX8_isNode_6 : decode cX8_isNode 6 = .ok (.iconst 0, 1) := by decide +kernel
theorem dX8_isNode_7 : decode cX8_isNode 7 = .ok (.iaload, 1) := by decide +kernel
theorem dX8_isNode_8 : decode cX8_isNode 8 = .ok (.iconst 1, 1) := by decide +kernel
theorem dX8_isNode_9 : decode cX8_isNode 9 = .ok (.isub, 1) := by decide +kernel
theorem dX8_isNode_10 : decode cX8_isNode 10 = .ok (.invokestatic 60, 3) := by decide +kernel
theorem dX8_isNode_13 : decode cX8_isNode 13 = .ok (.ireturn, 1) := by decide +kernel
theorem dX8_isRule_0 : decode cX8_isRule 0 = .ok (.iload_n 1, 1) := by decide +kernel
theorem dX8_isRule_1 : decode cX8_isRule 1 = .ok (.iconst 0, 1) := by decide +kernel
theorem dX8_isRule_2 : decode cX8_isRule 2 = .ok (.aload_n 0, 1) := by decide +kernel
theorem dX8_isRule_3 : decode cX8_isRule 3 = .ok (.getfield 13, 3) := by decide +kernel
theorem dX8_isRule_6 : decode cX8_isRule 6 = .ok (.iconst 1, 1) := by decide +kernel
theorem dX8_isRule_7 : decode cX8_isRule 7 = .ok (.iaload, 1) := by decide +kernel
theorem dX8_isRule_8 : decode cX8_isRule 8 = .ok (.iconst 1, 1) := by decide +kernel
theorem dX8_isRule_9 : decode cX8_isRule 9 = .ok (.isub, 1) := by decide +kernel
theorem dX8_isRule_10 : decode cX8_isRule 10 = .ok (.invokestatic 60, 3) := by decide +kernel
theorem dX8_isRule_13 : decode cX8_isRule 13 = .ok (.ireturn, 1) := by decide +kernel
theorem dX8_isFour_0 : decode cX8_isFour 0 = .ok (.iload_n 0, 1) := by decide +kernel
theorem dX8_isFour_1 : decode cX8_isFour 1 = .ok (.iconst 0, 1) := by decide +kernel
theorem dX8_isFour_2 : decode cX8_isFour 2 = .ok (.iconst 3, 1) := by decide +kernel
theorem dX8_isFour_3 : decode cX8_isFour 3 = .ok (.invokestatic 60, 3) := by decide +kernel
theorem dX8_isFour_6 : decode cX8_isFour 6 = .ok (.ireturn, 1) := by decide +kernel
theorem dX8_fits_0 : decode cX8_fits 0 = .ok (.aload_n 0, 1) := by decide +kernel
theorem dX8_fits_1 : decode cX8_fits 1 = .ok (.getfield 13, 3) := by decide +kernel
theorem dX8_fits_4 : decode cX8_fits 4 = .ok (.bipush 20, 2) := by decide +kernel
theorem dX8_fits_6 : decode cX8_fits 6 = .ok (.iload_n 1, 1) := by decide +kernel
theorem dX8_fits_7 : decode cX8_fits 7 = .ok (.iadd, 1) := by decide +kernel
theorem dX8_fits_8 : decode cX8_fits 8 = .ok (.iaload, 1) := by decide +kernel
theorem dX8_fits_9 : decode cX8_fits 9 = .ok (.istore_n 3, 1) := by decide +kernel
theorem dX8_fits_10 : decode cX8_fits 10 = .ok (.iload_n 3, 1) := by decide +kernel
theorem dX8_fits_11 : decode cX8_fits 11 = .ok (.bipush (-9), 2) := by decide +kernel
theorem dX8_fits_13 : decode cX8_fits 13 = .ok (.if_icmp .eq 15, 3) := by decide +kernel
theorem dX8_fits_16 : decode cX8_fits 16 = .ok (.iload_n 3, 1) := by decide +kernel
theorem dX8_fits_17 : decode cX8_fits 17 = .ok (.aload_n 0, 1) := by decide +kernel
theorem dX8_fits_18 : decode cX8_fits 18 = .ok (.getfield 22, 3) := by decide +kernel
theorem dX8_fits_21 : decode cX8_fits 21 = .ok (.iconst 0, 1) := by decide +kernel
theorem dX8_fits_22 : decode cX8_fits 22 = .ok (.iload_n 2, 1) := by decide +kernel
theorem dX8_fits_23 : decode cX8_fits 23 = .ok (.iadd, 1) := by decide +kernel
theorem dX8_fits_24 : decode cX8_fits 24 = .ok (.iaload, 1) := by decide +kernel
theorem dX8_fits_25 : decode cX8_fits 25 = .ok (.if_icmp .ne 31, 3) := by decide +kernel
theorem dX8_fits_28 : decode cX8_fits 28 = .ok (.aload_n 0, 1) := by decide +kernel
theorem dX8_fits_29 : decode cX8_fits 29 = .ok (.getfield 13, 3) := by decide +kernel
theorem dX8_fits_32 : decode cX8_fits 32 = .ok (.bipush 44, 2) := by decide +kernel
theorem dX8_fits_34 : decode cX8_fits 34 = .ok (.iload_n 1, 1) := by decide +kernel
theorem dX8_fits_35 : decode cX8_fits 35 = .ok (.iadd, 1) := by decide +kernel
theorem dX8_fits_36 : decode cX8_fits 36 = .ok (.iaload, 1) := by decide +kernel
theorem dX8_fits_37 : decode cX8_fits 37 = .ok (.aload_n 0, 1) := by decide +kernel
theorem dX8_fits_38 : decode cX8_fits 38 = .ok (.getfield 22, 3) := by decide +kernel
theorem dX8_fits_41 : decode cX8_fits 41 = .ok (.bipush 9, 2) := by decide +kernel
theorem dX8_fits_43 : decode cX8_fits 43 = .ok (.iload_n 2, 1) := by decide +kernel
theorem dX8_fits_44 : decode cX8_fits 44 = .ok (.iadd, 1) := by decide +kernel
theorem dX8_fits_45 : decode cX8_fits 45 = .ok (.iaload, 1) := by decide +kernel
theorem dX8_fits_46 : decode cX8_fits 46 = .ok (.iconst (-1), 1) := by decide +kernel
theorem dX8_fits_47 : decode cX8_fits 47 = .ok (.ixor, 1) := by decide +kernel
theorem dX8_fits_48 : decode cX8_fits 48 = .ok (.iand, 1) := by decide +kernel
theorem dX8_fits_49 : decode cX8_fits 49 = .ok (.ifCond .ne 7, 3) := by decide +kernel
theorem dX8_fits_52 : decode cX8_fits 52 = .ok (.iconst 1, 1) := by decide +kernel
theorem dX8_fits_53 : decode cX8_fits 53 = .ok (.goto 4, 3) := by decide +kernel
theorem dX8_fits_56 : decode cX8_fits 56 = .ok (.iconst 0, 1) := by decide +kernel
theorem dX8_fits_57 : decode cX8_fits 57 = .ok (.ireturn, 1) := by decide +kernel
theorem dX8_matching_0 : decode cX8_matching 0 = .ok (.iconst 0, 1) := by decide +kernel
theorem dX8_matching_1 : decode cX8_matching 1 = .ok (.istore_n 3, 1) := by decide +kernel
theorem dX8_matching_2 : decode cX8_matching 2 = .ok (.iconst 0, 1) := by decide +kernel
theorem dX8_matching_3 : decode cX8_matching 3 = .ok (.istore 4, 2) := by decide +kernel
theorem dX8_matching_5 : decode cX8_matching 5 = .ok (.iload 4, 2) := by decide +kernel
theorem dX8_matching_7 : decode cX8_matching 7 = .ok (.iload_n 2, 1) := by decide +kernel
theorem dX8_matching_8 : decode cX8_matching 8 = .ok (.if_icmp .ge 167, 3) := by decide +kernel
theorem dX8_matching_11 : decode cX8_matching 11 = .ok (.iconst 0, 1) := by decide +kernel
theorem dX8_matching_12 : decode cX8_matching 12 = .ok (.istore 5, 2) := by decide +kernel
theorem dX8_matching_14 : decode cX8_matching 14 = .ok (.iconst 0, 1) := by decide +kernel
theorem dX8_matching_15 : decode cX8_matching 15 = .ok (.istore 6, 2) := by decide +kernel
theorem dX8_matching_17 : decode cX8_matching 17 = .ok (.iload 6, 2) := by decide +kernel
theorem dX8_matching_19 : decode cX8_matching 19 = .ok (.aload_n 0, 1) := by decide +kernel
theorem dX8_matching_20 : decode cX8_matching 20 = .ok (.getfield 13, 3) := by decide +kernel
theorem dX8_matching_23 : decode cX8_matching 23 = .ok (.iconst 0, 1) := by decide +kernel
theorem dX8_matching_24 : decode cX8_matching 24 = .ok (.iaload, 1) := by decide +kernel
theorem dX8_matching_25 : decode cX8_matching 25 = .ok (.if_icmp .ge 141, 3) := by decide +kernel
theorem dX8_matching_28 : decode cX8_matching 28 = .ok (.iload 4, 2) := by decide +kernel
theorem dX8_matching_30 : decode cX8_matching 30 = .ok (.ifCond .ne 7, 3) := by decide +kernel
theorem dX8_matching_33 : decode cX8_matching 33 = .ok (.iconst 1, 1) := by decide +kernel
theorem dX8_matching_34 : decode cX8_matching 34 = .ok (.goto 4, 3) := by decide +kernel
theorem dX8_matching_37 : decode cX8_matching 37 = .ok (.iconst 0, 1) := by decide +kernel
theorem dX8_matching_38 : decode cX8_matching 38 = .ok (.istore 7, 2) := by decide +kernel
theorem dX8_matching_40 : decode cX8_matching 40 = .ok (.iload 4, 2) := by decide +kernel
theorem dX8_matching_42 : decode cX8_matching 42 = .ok (.ifCond .ne 8, 3) := by decide +kernel
theorem dX8_matching_45 : decode cX8_matching 45 = .ok (.bipush (-9), 2) := by decide +kernel
theorem dX8_matching_47 : decode cX8_matching 47 = .ok (.goto 12, 3) := by decide +kernel
theorem dX8_matching_50 : decode cX8_matching 50 = .ok (.aload_n 0, 1) := by decide +kernel
theorem dX8_matching_51 : decode cX8_matching 51 = .ok (.getfield 13, 3) := by decide +kernel
theorem dX8_matching_54 : decode cX8_matching 54 = .ok (.iconst 3, 1) := by decide +kernel
theorem dX8_matching_55 : decode cX8_matching 55 = .ok (.iload 6, 2) := by decide +kernel
theorem dX8_matching_57 : decode cX8_matching 57 = .ok (.iadd, 1) := by decide +kernel
theorem dX8_matching_58 : decode cX8_matching 58 = .ok (.iaload, 1) := by decide +kernel
theorem dX8_matching_59 : decode cX8_matching 59 = .ok (.istore 8, 2) := by decide +kernel
theorem dX8_matching_61 : decode cX8_matching 61 = .ok (.iload 8, 2) := by decide +kernel
theorem dX8_matching_63 : decode cX8_matching 63 = .ok (.bipush (-9), 2) := by decide +kernel
theorem dX8_matching_65 : decode cX8_matching 65 = .ok (.if_icmp .eq 62, 3) := by decide +kernel
theorem dX8_matching_68 : decode cX8_matching 68 = .ok (.iload 7, 2) := by decide +kernel
theorem dX8_matching_70 : decode cX8_matching 70 = .ok (.ifCond .ne 12, 3) := by decide +kernel
theorem dX8_matching_73 : decode cX8_matching 73 = .ok (.iload_n 3, 1) := by decide +kernel
theorem dX8_matching_74 : decode cX8_matching 74 = .ok (.iload 8, 2) := by decide +kernel
theorem dX8_matching_76 : decode cX8_matching 76 = .ok (.invokestatic 105, 3) := by decide +kernel
theorem dX8_matching_79 : decode cX8_matching 79 = .ok (.ifCond .eq 7, 3) := by decide +kernel
theorem dX8_matching_82 : decode cX8_matching 82 = .ok (.iconst 1, 1) := by decide +kernel
theorem dX8_matching_83 : decode cX8_matching 83 = .ok (.goto 4, 3) := by decide +kernel
theorem dX8_matching_86 : decode cX8_matching 86 = .ok (.iconst 0, 1) := by decide +kernel
theorem dX8_matching_87 : decode cX8_matching 87 = .ok (.istore 7, 2) := by decide +kernel
theorem dX8_matching_89 : decode cX8_matching 89 = .ok (.aload_n 0, 1) := by decide +kernel
theorem dX8_matching_90 : decode cX8_matching 90 = .ok (.getfield 13, 3) := by decide +kernel
theorem dX8_matching_93 : decode cX8_matching 93 = .ok (.bipush 68, 2) := by decide +kernel
theorem dX8_matching_95 : decode cX8_matching 95 = .ok (.iconst 3, 1) := by decide +kernel
theorem dX8_matching_96 : decode cX8_matching 96 = .ok (.iload_n 1, 1) := by decide +kernel
theorem dX8_matching_97 : decode cX8_matching 97 = .ok (.imul, 1) := by decide +kernel
theorem dX8_matching_98 : decode cX8_matching 98 = .ok (.iadd, 1) := by decide +kernel
theorem dX8_matching_99 : decode cX8_matching 99 = .ok (.iload 4, 2) := by decide +kernel
theorem dX8_matching_101 : decode cX8_matching 101 = .ok (.iadd, 1) := by decide +kernel
theorem dX8_matching_102 : decode cX8_matching 102 = .ok (.iaload, 1) := by decide +kernel
theorem dX8_matching_103 : decode cX8_matching 103 = .ok (.bipush 62, 2) := by decide +kernel
theorem dX8_matching_105 : decode cX8_matching 105 = .ok (.if_icmp .ne 8, 3) := by decide +kernel
theorem dX8_matching_108 : decode cX8_matching 108 = .ok (.bipush (-9), 2) := by decide +kernel
theorem dX8_matching_110 : decode cX8_matching 110 = .ok (.goto 12, 3) := by decide +kernel
theorem dX8_matching_113 : decode cX8_matching 113 = .ok (.aload_n 0, 1) := by decide +kernel
theorem dX8_matching_114 : decode cX8_matching 114 = .ok (.getfield 13, 3) := by decide +kernel
theorem dX8_matching_117 : decode cX8_matching 117 = .ok (.iconst 3, 1) := by decide +kernel
theorem dX8_matching_118 : decode cX8_matching 118 = .ok (.iload 8, 2) := by decide +kernel
theorem dX8_matching_120 : decode cX8_matching 120 = .ok (.iadd, 1) := by decide +kernel
theorem dX8_matching_121 : decode cX8_matching 121 = .ok (.iaload, 1) := by decide +kernel
theorem dX8_matching_122 : decode cX8_matching 122 = .ok (.istore 8, 2) := by decide +kernel
theorem dX8_matching_124 : decode cX8_matching 124 = .ok (.goto (-63), 3) := by decide +kernel
theorem dX8_matching_127 : decode cX8_matching 127 = .ok (.iload 5, 2) := by decide +kernel
theorem dX8_matching_129 : decode cX8_matching 129 = .ok (.iload 7, 2) := by decide +kernel
theorem dX8_matching_131 : decode cX8_matching 131 = .ok (.ifCond .eq 25, 3) := by decide +kernel
theorem dX8_matching_134 : decode cX8_matching 134 = .ok (.aload_n 0, 1) := by decide +kernel
theorem dX8_matching_135 : decode cX8_matching 135 = .ok (.iconst 3, 1) := by decide +kernel
theorem dX8_matching_136 : decode cX8_matching 136 = .ok (.iload_n 1, 1) := by decide +kernel
theorem dX8_matching_137 : decode cX8_matching 137 = .ok (.imul, 1) := by decide +kernel
theorem dX8_matching_138 : decode cX8_matching 138 = .ok (.iload 4, 2) := by decide +kernel
theorem dX8_matching_140 : decode cX8_matching 140 = .ok (.iadd, 1) := by decide +kernel
theorem dX8_matching_141 : decode cX8_matching 141 = .ok (.iload 6, 2) := by decide +kernel
theorem dX8_matching_143 : decode cX8_matching 143 = .ok (.invokevirtual 130, 3) := by decide +kernel
theorem dX8_matching_146 : decode cX8_matching 146 = .ok (.ifCond .eq 10, 3) := by decide +kernel
theorem dX8_matching_149 : decode cX8_matching 149 = .ok (.iconst 1, 1) := by decide +kernel
theorem dX8_matching_150 : decode cX8_matching 150 = .ok (.iload 6, 2) := by decide +kernel
theorem dX8_matching_152 : decode cX8_matching 152 = .ok (.ishl, 1) := by decide +kernel
theorem dX8_matching_153 : decode cX8_matching 153 = .ok (.goto 4, 3) := by decide +kernel
theorem dX8_matching_156 : decode cX8_matching 156 = .ok (.iconst 0, 1) := by decide +kernel
theorem dX8_matching_157 : decode cX8_matching 157 = .ok (.ior, 1) := by decide +kernel
theorem dX8_matching_158 : decode cX8_matching 158 = .ok (.istore 5, 2) := by decide +kernel
theorem dX8_matching_160 : decode cX8_matching 160 = .ok (.iinc 6 1, 3) := by decide +kernel
theorem dX8_matching_163 : decode cX8_matching 163 = .ok (.goto (-146), 3) := by decide +kernel
theorem dX8_matching_166 : decode cX8_matching 166 = .ok (.iload 5, 2) := by decide +kernel
theorem dX8_matching_168 : decode cX8_matching 168 = .ok (.istore_n 3, 1) := by decide +kernel
theorem dX8_matching_169 : decode cX8_matching 169 = .ok (.iinc 4 1, 3) := by decide +kernel
theorem dX8_matching_172 : decode cX8_matching 172 = .ok (.goto (-167), 3) := by decide +kernel
theorem dX8_matching_175 : decode cX8_matching 175 = .ok (.iload_n 3, 1) := by decide +kernel
theorem dX8_matching_176 : decode cX8_matching 176 = .ok (.ireturn, 1) := by decide +kernel
theorem dX8_fills_0 : decode cX8_fills 0 = .ok (.iconst 0, 1) := by decide +kernel
theorem dX8_fills_1 : decode cX8_fills 1 = .ok (.istore_n 1, 1) := by decide +kernel
theorem dX8_fills_2 : decode cX8_fills 2 = .ok (.iload_n 1, 1) := by decide +kernel
theorem dX8_fills_3 : decode cX8_fills 3 = .ok (.aload_n 0, 1) := by decide +kernel
theorem dX8_fills_4 : decode cX8_fills 4 = .ok (.getfield 13, 3) := by decide +kernel
theorem dX8_fills_7 : decode cX8_fills 7 = .ok (.iconst 1, 1) := by decide +kernel
theorem dX8_fills_8 : decode cX8_fills 8 = .ok (.iaload, 1) := by decide +kernel
theorem dX8_fills_9 : decode cX8_fills 9 = .ok (.if_icmp .ge 47, 3) := by decide +kernel
theorem dX8_fills_12 : decode cX8_fills 12 = .ok (.aload_n 0, 1) := by decide +kernel
theorem dX8_fills_13 : decode cX8_fills 13 = .ok (.getfield 47, 3) := by decide +kernel
theorem dX8_fills_16 : decode cX8_fills 16 = .ok (.iload_n 1, 1) := by decide +kernel
theorem dX8_fills_17 : decode cX8_fills 17 = .ok (.aload_n 0, 1) := by decide +kernel
theorem dX8_fills_18 : decode cX8_fills 18 = .ok (.getfield 22, 3) := by decide +kernel
theorem dX8_fills_21 : decode cX8_fills 21 = .ok (.bipush 18, 2) := by decide +kernel
theorem dX8_fills_23 : decode cX8_fills 23 = .ok (.iaload, 1) := by decide +kernel
theorem dX8_fills_24 : decode cX8_fills 24 = .ok (.iload_n 1, 1) := by decide +kernel
theorem dX8_fills_25 : decode cX8_fills 25 = .ok (.invokestatic 105, 3) := by decide +kernel
theorem dX8_fills_28 : decode cX8_fills 28 = .ok (.ifCond .eq 20, 3) := by decide +kernel
theorem dX8_fills_31 : decode cX8_fills 31 = .ok (.aload_n 0, 1) := by decide +kernel
theorem dX8_fills_32 : decode cX8_fills 32 = .ok (.iload_n 1, 1) := by decide +kernel
theorem dX8_fills_33 : decode cX8_fills 33 = .ok (.aload_n 0, 1) := by decide +kernel
theorem dX8_fills_34 : decode cX8_fills 34 = .ok (.getfield 13, 3) := by decide +kernel
theorem dX8_fills_37 : decode cX8_fills 37 = .ok (.bipush 12, 2) := by decide +kernel
theorem dX8_fills_39 : decode cX8_fills 39 = .ok (.iload_n 1, 1) := by decide +kernel
theorem dX8_fills_40 : decode cX8_fills 40 = .ok (.iadd, 1) := by decide +kernel
theorem dX8_fills_41 : decode cX8_fills 41 = .ok (.iaload, 1) := by decide +kernel
theorem dX8_fills_42 : decode cX8_fills 42 = .ok (.invokevirtual 133, 3) := by decide +kernel
theorem dX8_fills_45 : decode cX8_fills 45 = .ok (.goto 4, 3) := by decide +kernel
theorem dX8_fills_48 : decode cX8_fills 48 = .ok (.iconst 0, 1) := by decide +kernel
theorem dX8_fills_49 : decode cX8_fills 49 = .ok (.iastore, 1) := by decide +kernel
theorem dX8_fills_50 : decode cX8_fills 50 = .ok (.iinc 1 1, 3) := by decide +kernel
theorem dX8_fills_53 : decode cX8_fills 53 = .ok (.goto (-51), 3) := by decide +kernel
theorem dX8_fills_56 : decode cX8_fills 56 = .ok (.return_, 1) := by decide +kernel
theorem dX8_rulesOf_0 : decode cX8_rulesOf 0 = .ok (.iconst 0, 1) := by decide +kernel
theorem dX8_rulesOf_1 : decode cX8_rulesOf 1 = .ok (.istore_n 2, 1) := by decide +kernel
theorem dX8_rulesOf_2 : decode cX8_rulesOf 2 = .ok (.iconst 0, 1) := by decide +kernel
theorem dX8_rulesOf_3 : decode cX8_rulesOf 3 = .ok (.istore_n 3, 1) := by decide +kernel
theorem dX8_rulesOf_4 : decode cX8_rulesOf 4 = .ok (.iload_n 3, 1) := by decide +kernel
theorem dX8_rulesOf_5 : decode cX8_rulesOf 5 = .ok (.aload_n 0, 1) := by decide +kernel
theorem dX8_rulesOf_6 : decode cX8_rulesOf 6 = .ok (.getfield 13, 3) := by decide +kernel
theorem dX8_rulesOf_9 : decode cX8_rulesOf 9 = .ok (.iconst 1, 1) := by decide +kernel
theorem dX8_rulesOf_10 : decode cX8_rulesOf 10 = .ok (.iaload, 1) := by decide +kernel
theorem dX8_rulesOf_11 : decode cX8_rulesOf 11 = .ok (.if_icmp .ge 32, 3) := by decide +kernel
theorem dX8_rulesOf_14 : decode cX8_rulesOf 14 = .ok (.iload_n 2, 1) := by decide +kernel
theorem dX8_rulesOf_15 : decode cX8_rulesOf 15 = .ok (.aload_n 0, 1) := by decide +kernel
theorem dX8_rulesOf_16 : decode cX8_rulesOf 16 = .ok (.getfield 47, 3) := by decide +kernel
theorem dX8_rulesOf_19 : decode cX8_rulesOf 19 = .ok (.iload_n 3, 1) := by decide +kernel
theorem dX8_rulesOf_20 : decode cX8_rulesOf 20 = .ok (.iaload, 1) := by decide +kernel
theorem dX8_rulesOf_21 : decode cX8_rulesOf 21 = .ok (.iload_n 1, 1) := by decide +kernel
theorem dX8_rulesOf_22 : decode cX8_rulesOf 22 = .ok (.invokestatic 105, 3) := by decide +kernel
theorem dX8_rulesOf_25 : decode cX8_rulesOf 25 = .ok (.ifCond .eq 9, 3) := by decide +kernel
theorem dX8_rulesOf_28 : decode cX8_rulesOf 28 = .ok (.iconst 1, 1) := by decide +kernel
theorem dX8_rulesOf_29 : decode cX8_rulesOf 29 = .ok (.iload_n 3, 1) := by decide +kernel
theorem dX8_rulesOf_30 : decode cX8_rulesOf 30 = .ok (.ishl, 1) := by decide +kernel
theorem dX8_rulesOf_31 : decode cX8_rulesOf 31 = .ok (.goto 4, 3) := by decide +kernel
theorem dX8_rulesOf_34 : decode cX8_rulesOf 34 = .ok (.iconst 0, 1) := by decide +kernel
theorem dX8_rulesOf_35 : decode cX8_rulesOf 35 = .ok (.ior, 1) := by decide +kernel
theorem dX8_rulesOf_36 : decode cX8_rulesOf 36 = .ok (.istore_n 2, 1) := by decide +kernel
theorem dX8_rulesOf_37 : decode cX8_rulesOf 37 = .ok (.iinc 3 1, 3) := by decide +kernel
theorem dX8_rulesOf_40 : decode cX8_rulesOf 40 = .ok (.goto (-36), 3) := by decide +kernel
theorem dX8_rulesOf_43 : decode cX8_rulesOf 43 = .ok (.iload_n 2, 1) := by decide +kernel
theorem dX8_rulesOf_44 : decode cX8_rulesOf 44 = .ok (.ireturn, 1) := by decide +kernel
theorem dX8_below_0 : decode cX8_below 0 = .ok (.iconst 0, 1) := by decide +kernel
theorem dX8_below_1 : decode cX8_below 1 = .ok (.istore_n 2, 1) := by decide +kernel
theorem dX8_below_2 : decode cX8_below 2 = .ok (.iconst 0, 1) := by decide +kernel
theorem dX8_below_3 : decode cX8_below 3 = .ok (.istore_n 3, 1) := by decide +kernel
theorem dX8_below_4 : decode cX8_below 4 = .ok (.iload_n 3, 1) := by decide +kernel
theorem dX8_below_5 : decode cX8_below 5 = .ok (.aload_n 0, 1) := by decide +kernel
theorem dX8_below_6 : decode cX8_below 6 = .ok (.getfield 13, 3) := by decide +kernel
theorem dX8_below_9 : decode cX8_below 9 = .ok (.iconst 0, 1) := by decide +kernel
theorem dX8_below_10 : decode cX8_below 10 = .ok (.iaload, 1) := by decide +kernel
theorem dX8_below_11 : decode cX8_below 11 = .ok (.if_icmp .ge 56, 3) := by decide +kernel
theorem dX8_below_14 : decode cX8_below 14 = .ok (.aload_n 0, 1) := by decide +kernel
theorem dX8_below_15 : decode cX8_below 15 = .ok (.getfield 13, 3) := by decide +kernel
theorem dX8_below_18 : decode cX8_below 18 = .ok (.iconst 3, 1) := by decide +kernel
theorem dX8_below_19 : decode cX8_below 19 = .ok (.iload_n 3, 1) := by decide +kernel
theorem dX8_below_20 : decode cX8_below 20 = .ok (.iadd, 1) := by decide +kernel
theorem dX8_below_21 : decode cX8_below 21 = .ok (.iaload, 1) := by decide +kernel
theorem dX8_below_22 : decode cX8_below 22 = .ok (.istore 4, 2) := by decide +kernel
theorem dX8_below_24 : decode cX8_below 24 = .ok (.iload 4, 2) := by decide +kernel
theorem dX8_below_26 : decode cX8_below 26 = .ok (.bipush (-9), 2) := by decide +kernel
theorem dX8_below_28 : decode cX8_below 28 = .ok (.if_icmp .eq 33, 3) := by decide +kernel
theorem dX8_below_31 : decode cX8_below 31 = .ok (.iload_n 2, 1) := by decide +kernel
theorem dX8_below_32 : decode cX8_below 32 = .ok (.iload 4, 2) := by decide +kernel
theorem dX8_below_34 : decode cX8_below 34 = .ok (.iload_n 1, 1) := by decide +kernel
theorem dX8_below_35 : decode cX8_below 35 = .ok (.if_icmp .ne 9, 3) := by decide +kernel
theorem dX8_below_38 : decode cX8_below 38 = .ok (.iconst 1, 1) := by decide +kernel
theorem dX8_below_39 : decode cX8_below 39 = .ok (.iload_n 3, 1) := by decide +kernel
theorem dX8_below_40 : decode cX8_below 40 = .ok (.ishl, 1) := by decide +kernel
theorem dX8_below_41 : decode cX8_below 41 = .ok (.goto 4, 3) := by decide +kernel
theorem dX8_below_44 : decode cX8_below 44 = .ok (.iconst 0, 1) := by decide +kernel
theorem dX8_below_45 : decode cX8_below 45 = .ok (.ior, 1) := by decide +kernel
theorem dX8_below_46 : decode cX8_below 46 = .ok (.istore_n 2, 1) := by decide +kernel
theorem dX8_below_47 : decode cX8_below 47 = .ok (.aload_n 0, 1) := by decide +kernel
theorem dX8_below_48 : decode cX8_below 48 = .ok (.getfield 13, 3) := by decide +kernel
theorem dX8_below_51 : decode cX8_below 51 = .ok (.iconst 3, 1) := by decide +kernel
theorem dX8_below_52 : decode cX8_below 52 = .ok (.iload 4, 2) := by decide +kernel
theorem dX8_below_54 : decode cX8_below 54 = .ok (.iadd, 1) := by decide +kernel
theorem dX8_below_55 : decode cX8_below 55 = .ok (.iaload, 1) := by decide +kernel
theorem dX8_below_56 : decode cX8_below 56 = .ok (.istore 4, 2) := by decide +kernel
theorem dX8_below_58 : decode cX8_below 58 = .ok (.goto (-34), 3) := by decide +kernel
theorem dX8_below_61 : decode cX8_below 61 = .ok (.iinc 3 1, 3) := by decide +kernel
theorem dX8_below_64 : decode cX8_below 64 = .ok (.goto (-60), 3) := by decide +kernel
theorem dX8_below_67 : decode cX8_below 67 = .ok (.iload_n 2, 1) := by decide +kernel
theorem dX8_below_68 : decode cX8_below 68 = .ok (.ireturn, 1) := by decide +kernel
theorem dX8_specific_0 : decode cX8_specific 0 = .ok (.iconst 0, 1) := by decide +kernel
theorem dX8_specific_1 : decode cX8_specific 1 = .ok (.istore_n 2, 1) := by decide +kernel
theorem dX8_specific_2 : decode cX8_specific 2 = .ok (.iconst 0, 1) := by decide +kernel
theorem dX8_specific_3 : decode cX8_specific 3 = .ok (.istore_n 3, 1) := by decide +kernel
theorem dX8_specific_4 : decode cX8_specific 4 = .ok (.iload_n 3, 1) := by decide +kernel
theorem dX8_specific_5 : decode cX8_specific 5 = .ok (.aload_n 0, 1) := by decide +kernel
theorem dX8_specific_6 : decode cX8_specific 6 = .ok (.getfield 13, 3) := by decide +kernel
theorem dX8_specific_9 : decode cX8_specific 9 = .ok (.bipush 12, 2) := by decide +kernel
theorem dX8_specific_11 : decode cX8_specific 11 = .ok (.iload_n 1, 1) := by decide +kernel
theorem dX8_specific_12 : decode cX8_specific 12 = .ok (.iadd, 1) := by decide +kernel
theorem dX8_specific_13 : decode cX8_specific 13 = .ok (.iaload, 1) := by decide +kernel
theorem dX8_specific_14 : decode cX8_specific 14 = .ok (.if_icmp .ge 55, 3) := by decide +kernel
theorem dX8_specific_17 : decode cX8_specific 17 = .ok (.iload_n 2, 1) := by decide +kernel
theorem dX8_specific_18 : decode cX8_specific 18 = .ok (.bipush 10, 2) := by decide +kernel
theorem dX8_specific_20 : decode cX8_specific 20 = .ok (.aload_n 0, 1) := by decide +kernel
theorem dX8_specific_21 : decode cX8_specific 21 = .ok (.getfield 13, 3) := by decide +kernel
theorem dX8_specific_24 : decode cX8_specific 24 = .ok (.bipush 44, 2) := by decide +kernel
theorem dX8_specific_26 : decode cX8_specific 26 = .ok (.iconst 3, 1) := by decide +kernel
theorem dX8_specific_27 : decode cX8_specific 27 = .ok (.iload_n 1, 1) := by decide +kernel
theorem dX8_specific_28 : decode cX8_specific 28 = .ok (.imul, 1) := by decide +kernel
theorem dX8_specific_29 : decode cX8_specific 29 = .ok (.iadd, 1) := by decide +kernel
theorem dX8_specific_30 : decode cX8_specific 30 = .ok (.iload_n 3, 1) := by decide +kernel
theorem dX8_specific_31 : decode cX8_specific 31 = .ok (.iadd, 1) := by decide +kernel
theorem dX8_specific_32 : decode cX8_specific 32 = .ok (.iaload, 1) := by decide +kernel
theorem dX8_specific_33 : decode cX8_specific 33 = .ok (.invokestatic 137, 3) := by decide +kernel
theorem dX8_specific_36 : decode cX8_specific 36 = .ok (.imul, 1) := by decide +kernel
theorem dX8_specific_37 : decode cX8_specific 37 = .ok (.aload_n 0, 1) := by decide +kernel
theorem dX8_specific_38 : decode cX8_specific 38 = .ok (.getfield 13, 3) := by decide +kernel
theorem dX8_specific_41 : decode cX8_specific 41 = .ok (.bipush 20, 2) := by decide +kernel
theorem dX8_specific_43 : decode cX8_specific 43 = .ok (.iconst 3, 1) := by decide +kernel
theorem dX8_specific_44 : decode cX8_specific 44 = .ok (.iload_n 1, 1) := by decide +kernel
theorem dX8_specific_45 : decode cX8_specific 45 = .ok (.imul, 1) := by decide +kernel
theorem dX8_specific_46 : decode cX8_specific 46 = .ok (.iadd, 1) := by decide +kernel
theorem dX8_specific_47 : decode cX8_specific 47 = .ok (.iload_n 3, 1) := by decide +kernel
theorem dX8_specific_48 : decode cX8_specific 48 = .ok (.iadd, 1) := by decide +kernel
theorem dX8_specific_49 : decode cX8_specific 49 = .ok (.iaload, 1) := by decide +kernel
theorem dX8_specific_50 : decode cX8_specific 50 = .ok (.bipush (-9), 2) := by decide +kernel
theorem dX8_specific_52 : decode cX8_specific 52 = .ok (.if_icmp .ne 7, 3) := by decide +kernel
theorem dX8_specific_55 : decode cX8_specific 55 = .ok (.iconst 0, 1) := by decide +kernel
theorem dX8_specific_56 : decode cX8_specific 56 = .ok (.goto 4, 3) := by decide +kernel
theorem dX8_specific_59 : decode cX8_specific 59 = .ok (.iconst 1, 1) := by decide +kernel
theorem dX8_specific_60 : decode cX8_specific 60 = .ok (.iadd, 1) := by decide +kernel
theorem dX8_specific_61 : decode cX8_specific 61 = .ok (.iadd, 1) := by decide +kernel
theorem dX8_specific_62 : decode cX8_specific 62 = .ok (.istore_n 2, 1) := by decide +kernel
theorem dX8_specific_63 : decode cX8_specific 63 = .ok (.iinc 3 1, 3) := by decide +kernel
theorem dX8_specific_66 : decode cX8_specific 66 = .ok (.goto (-62), 3) := by decide +kernel
theorem dX8_specific_69 : decode cX8_specific 69 = .ok (.iload_n 2, 1) := by decide +kernel
theorem dX8_specific_70 : decode cX8_specific 70 = .ok (.ireturn, 1) := by decide +kernel
theorem dX8_heightOf_0 : decode cX8_heightOf 0 = .ok (.aload_n 0, 1) := by decide +kernel
theorem dX8_heightOf_1 : decode cX8_heightOf 1 = .ok (.getfield 13, 3) := by decide +kernel
theorem dX8_heightOf_4 : decode cX8_heightOf 4 = .ok (.iconst 2, 1) := by decide +kernel
theorem dX8_heightOf_5 : decode cX8_heightOf 5 = .ok (.iaload, 1) := by decide +kernel
theorem dX8_heightOf_6 : decode cX8_heightOf 6 = .ok (.iload_n 1, 1) := by decide +kernel
theorem dX8_heightOf_7 : decode cX8_heightOf 7 = .ok (.invokestatic 105, 3) := by decide +kernel
theorem dX8_heightOf_10 : decode cX8_heightOf 10 = .ok (.istore_n 3, 1) := by decide +kernel
theorem dX8_heightOf_11 : decode cX8_heightOf 11 = .ok (.aload_n 0, 1) := by decide +kernel
theorem dX8_heightOf_12 : decode cX8_heightOf 12 = .ok (.getfield 13, 3) := by decide +kernel
theorem dX8_heightOf_15 : decode cX8_heightOf 15 = .ok (.bipush 100, 2) := by decide +kernel
theorem dX8_heightOf_17 : decode cX8_heightOf 17 = .ok (.iload_n 1, 1) := by decide +kernel
theorem dX8_heightOf_18 : decode cX8_heightOf 18 = .ok (.iadd, 1) := by decide +kernel
theorem dX8_heightOf_19 : decode cX8_heightOf 19 = .ok (.iaload, 1) := by decide +kernel
theorem dX8_heightOf_20 : decode cX8_heightOf 20 = .ok (.iload_n 2, 1) := by decide +kernel
theorem dX8_heightOf_21 : decode cX8_heightOf 21 = .ok (.invokestatic 105, 3) := by decide +kernel
theorem dX8_heightOf_24 : decode cX8_heightOf 24 = .ok (.ifCond .eq 15, 3) := by decide +kernel
theorem dX8_heightOf_27 : decode cX8_heightOf 27 = .ok (.iload_n 3, 1) := by decide +kernel
theorem dX8_heightOf_28 : decode cX8_heightOf 28 = .ok (.ifCond .eq 7, 3) := by decide +kernel
theorem dX8_heightOf_31 : decode cX8_heightOf 31 = .ok (.iconst 3, 1) := by decide +kernel
theorem dX8_heightOf_32 : decode cX8_heightOf 32 = .ok (.goto 16, 3) := by decide +kernel
theorem dX8_heightOf_35 : decode cX8_heightOf 35 = .ok (.iconst 2, 1) := by decide +kernel
theorem dX8_heightOf_36 : decode cX8_heightOf 36 = .ok (.goto 12, 3) := by decide +kernel
theorem dX8_heightOf_39 : decode cX8_heightOf 39 = .ok (.iload_n 3, 1) := by decide +kernel
theorem dX8_heightOf_40 : decode cX8_heightOf 40 = .ok (.ifCond .eq 7, 3) := by decide +kernel
theorem dX8_heightOf_43 : decode cX8_heightOf 43 = .ok (.iconst 0, 1) := by decide +kernel
theorem dX8_heightOf_44 : decode cX8_heightOf 44 = .ok (.goto 4, 3) := by decide +kernel
theorem dX8_heightOf_47 : decode cX8_heightOf 47 = .ok (.iconst 1, 1) := by decide +kernel
theorem dX8_heightOf_48 : decode cX8_heightOf 48 = .ok (.istore 4, 2) := by decide +kernel
theorem dX8_heightOf_50 : decode cX8_heightOf 50 = .ok (.sipush 10000, 3) := by decide +kernel
theorem dX8_heightOf_53 : decode cX8_heightOf 53 = .ok (.iload 4, 2) := by decide +kernel
theorem dX8_heightOf_55 : decode cX8_heightOf 55 = .ok (.imul, 1) := by decide +kernel
theorem dX8_heightOf_56 : decode cX8_heightOf 56 = .ok (.bipush 10, 2) := by decide +kernel
theorem dX8_heightOf_58 : decode cX8_heightOf 58 = .ok (.aload_n 0, 1) := by decide +kernel
theorem dX8_heightOf_59 : decode cX8_heightOf 59 = .ok (.iload_n 1, 1) := by decide +kernel
theorem dX8_heightOf_60 : decode cX8_heightOf 60 = .ok (.invokevirtual 140, 3) := by decide +kernel
theorem dX8_heightOf_63 : decode cX8_heightOf 63 = .ok (.imul, 1) := by decide +kernel
theorem dX8_heightOf_64 : decode cX8_heightOf 64 = .ok (.iadd, 1) := by decide +kernel
theorem dX8_heightOf_65 : decode cX8_heightOf 65 = .ok (.iload_n 1, 1) := by decide +kernel
theorem dX8_heightOf_66 : decode cX8_heightOf 66 = .ok (.iadd, 1) := by decide +kernel
theorem dX8_heightOf_67 : decode cX8_heightOf 67 = .ok (.ireturn, 1) := by decide +kernel
theorem dX8_winnerOf_0 : decode cX8_winnerOf 0 = .ok (.iconst 0, 1) := by decide +kernel
theorem dX8_winnerOf_1 : decode cX8_winnerOf 1 = .ok (.istore 4, 2) := by decide +kernel
theorem dX8_winnerOf_3 : decode cX8_winnerOf 3 = .ok (.aload_n 0, 1) := by decide +kernel
theorem dX8_winnerOf_4 : decode cX8_winnerOf 4 = .ok (.iload_n 1, 1) := by decide +kernel
theorem dX8_winnerOf_5 : decode cX8_winnerOf 5 = .ok (.invokevirtual 143, 3) := by decide +kernel
theorem dX8_winnerOf_8 : decode cX8_winnerOf 8 = .ok (.istore 5, 2) := by decide +kernel
theorem dX8_winnerOf_10 : decode cX8_winnerOf 10 = .ok (.iconst 0, 1) := by decide +kernel
theorem dX8_winnerOf_11 : decode cX8_winnerOf 11 = .ok (.istore 6, 2) := by decide +kernel
theorem dX8_winnerOf_13 : decode cX8_winnerOf 13 = .ok (.iload 6, 2) := by decide +kernel
theorem dX8_winnerOf_15 : decode cX8_winnerOf 15 = .ok (.aload_n 0, 1) := by decide +kernel
theorem dX8_winnerOf_16 : decode cX8_winnerOf 16 = .ok (.getfield 13, 3) := by decide +kernel
theorem dX8_winnerOf_19 : decode cX8_winnerOf 19 = .ok (.iconst 1, 1) := by decide +kernel
theorem dX8_winnerOf_20 : decode cX8_winnerOf 20 = .ok (.iaload, 1) := by decide +kernel
theorem dX8_winnerOf_21 : decode cX8_winnerOf 21 = .ok (.if_icmp .ge 49, 3) := by decide +kernel
theorem dX8_winnerOf_24 : decode cX8_winnerOf 24 = .ok (.iload 4, 2) := by decide +kernel
theorem dX8_winnerOf_26 : decode cX8_winnerOf 26 = .ok (.iload 5, 2) := by decide +kernel
theorem dX8_winnerOf_28 : decode cX8_winnerOf 28 = .ok (.iload 6, 2) := by decide +kernel
theorem dX8_winnerOf_30 : decode cX8_winnerOf 30 = .ok (.invokestatic 105, 3) := by decide +kernel
theorem dX8_winnerOf_33 : decode cX8_winnerOf 33 = .ok (.ifCond .eq 27, 3) := by decide +kernel
theorem dX8_winnerOf_36 : decode cX8_winnerOf 36 = .ok (.aload_n 0, 1) := by decide +kernel
theorem dX8_winnerOf_37 : decode cX8_winnerOf 37 = .ok (.getfield 13, 3) := by decide +kernel
theorem dX8_winnerOf_40 : decode cX8_winnerOf 40 = .ok (.bipush 92, 2) := by decide +kernel
theorem dX8_winnerOf_42 : decode cX8_winnerOf 42 = .ok (.iload 6, 2) := by decide +kernel
theorem dX8_winnerOf_44 : decode cX8_winnerOf 44 = .ok (.iadd, 1) := by decide +kernel
theorem dX8_winnerOf_45 : decode cX8_winnerOf 45 = .ok (.iaload, 1) := by decide +kernel
theorem dX8_winnerOf_46 : decode cX8_winnerOf 46 = .ok (.iload_n 2, 1) := by decide +kernel
theorem dX8_winnerOf_47 : decode cX8_winnerOf 47 = .ok (.invokestatic 105, 3) := by decide +kernel
theorem dX8_winnerOf_50 : decode cX8_winnerOf 50 = .ok (.ifCond .eq 10, 3) := by decide +kernel
theorem dX8_winnerOf_53 : decode cX8_winnerOf 53 = .ok (.iconst 1, 1) := by decide +kernel
theorem dX8_winnerOf_54 : decode cX8_winnerOf 54 = .ok (.iload 6, 2) := by decide +kernel
theorem dX8_winnerOf_56 : decode cX8_winnerOf 56 = .ok (.ishl, 1) := by decide +kernel
theorem dX8_winnerOf_57 : decode cX8_winnerOf 57 = .ok (.goto 4, 3) := by decide +kernel
theorem dX8_winnerOf_60 : decode cX8_winnerOf 60 = .ok (.iconst 0, 1) := by decide +kernel
theorem dX8_winnerOf_61 : decode cX8_winnerOf 61 = .ok (.ior, 1) := by decide +kernel
theorem dX8_winnerOf_62 : decode cX8_winnerOf 62 = .ok (.istore 4, 2) := by decide +kernel
theorem dX8_winnerOf_64 : decode cX8_winnerOf 64 = .ok (.iinc 6 1, 3) := by decide +kernel
theorem dX8_winnerOf_67 : decode cX8_winnerOf 67 = .ok (.goto (-54), 3) := by decide +kernel
theorem dX8_winnerOf_70 : decode cX8_winnerOf 70 = .ok (.bipush (-9), 2) := by decide +kernel
theorem dX8_winnerOf_72 : decode cX8_winnerOf 72 = .ok (.istore 6, 2) := by decide +kernel
theorem dX8_winnerOf_74 : decode cX8_winnerOf 74 = .ok (.iconst 0, 1) := by decide +kernel
theorem dX8_winnerOf_75 : decode cX8_winnerOf 75 = .ok (.istore 7, 2) := by decide +kernel
theorem dX8_winnerOf_77 : decode cX8_winnerOf 77 = .ok (.iload 7, 2) := by decide +kernel
theorem dX8_winnerOf_79 : decode cX8_winnerOf 79 = .ok (.iload_n 3, 1) := by decide +kernel
theorem dX8_winnerOf_80 : decode cX8_winnerOf 80 = .ok (.if_icmp .gt 106, 3) := by decide +kernel
theorem dX8_winnerOf_83 : decode cX8_winnerOf 83 = .ok (.iload 7, 2) := by decide +kernel
theorem dX8_winnerOf_85 : decode cX8_winnerOf 85 = .ok (.bipush 9, 2) := by decide +kernel
theorem dX8_winnerOf_87 : decode cX8_winnerOf 87 = .ok (.if_icmp .ge 99, 3) := by decide +kernel
theorem dX8_winnerOf_90 : decode cX8_winnerOf 90 = .ok (.bipush (-9), 2) := by decide +kernel
theorem dX8_winnerOf_92 : decode cX8_winnerOf 92 = .ok (.istore 6, 2) := by decide +kernel
theorem dX8_winnerOf_94 : decode cX8_winnerOf 94 = .ok (.iconst 0, 1) := by decide +kernel
theorem dX8_winnerOf_95 : decode cX8_winnerOf 95 = .ok (.istore 8, 2) := by decide +kernel
theorem dX8_winnerOf_97 : decode cX8_winnerOf 97 = .ok (.iload 8, 2) := by decide +kernel
theorem dX8_winnerOf_99 : decode cX8_winnerOf 99 = .ok (.aload_n 0, 1) := by decide +kernel
theorem dX8_winnerOf_100 : decode cX8_winnerOf 100 = .ok (.getfield 13, 3) := by decide +kernel
theorem dX8_winnerOf_103 : decode cX8_winnerOf 103 = .ok (.iconst 1, 1) := by decide +kernel
theorem dX8_winnerOf_104 : decode cX8_winnerOf 104 = .ok (.iaload, 1) := by decide +kernel
theorem dX8_winnerOf_105 : decode cX8_winnerOf 105 = .ok (.if_icmp .ge 52, 3) := by decide +kernel
theorem dX8_winnerOf_108 : decode cX8_winnerOf 108 = .ok (.iload 4, 2) := by decide +kernel
theorem dX8_winnerOf_110 : decode cX8_winnerOf 110 = .ok (.iload 8, 2) := by decide +kernel
theorem dX8_winnerOf_112 : decode cX8_winnerOf 112 = .ok (.invokestatic 105, 3) := by decide +kernel
theorem dX8_winnerOf_115 : decode cX8_winnerOf 115 = .ok (.ifCond .eq 32, 3) := by decide +kernel
theorem dX8_winnerOf_118 : decode cX8_winnerOf 118 = .ok (.iload 6, 2) := by decide +kernel
theorem dX8_winnerOf_120 : decode cX8_winnerOf 120 = .ok (.bipush (-9), 2) := by decide +kernel
theorem dX8_winnerOf_122 : decode cX8_winnerOf 122 = .ok (.if_icmp .eq 20, 3) := by decide +kernel
theorem dX8_winnerOf_125 : decode cX8_winnerOf 125 = .ok (.aload_n 0, 1) := by decide +kernel
theorem dX8_winnerOf_126 : decode cX8_winnerOf 126 = .ok (.iload 8, 2) := by decide +kernel
theorem dX8_winnerOf_128 : decode cX8_winnerOf 128 = .ok (.iload_n 2, 1) := by decide +kernel
theorem dX8_winnerOf_129 : decode cX8_winnerOf 129 = .ok (.invokevirtual 146, 3) := by decide +kernel
theorem dX8_winnerOf_132 : decode cX8_winnerOf 132 = .ok (.aload_n 0, 1) := by decide +kernel
theorem dX8_winnerOf_133 : decode cX8_winnerOf 133 = .ok (.iload 6, 2) := by decide +kernel
theorem dX8_winnerOf_135 : decode cX8_winnerOf 135 = .ok (.iload_n 2, 1) := by decide +kernel
theorem dX8_winnerOf_136 : decode cX8_winnerOf 136 = .ok (.invokevirtual 146, 3) := by decide +kernel
theorem dX8_winnerOf_139 : decode cX8_winnerOf 139 = .ok (.if_icmp .le 8, 3) := by decide +kernel
theorem dX8_winnerOf_142 : decode cX8_winnerOf 142 = .ok (.iload 8, 2) := by decide +kernel
theorem dX8_winnerOf_144 : decode cX8_winnerOf 144 = .ok (.goto 5, 3) := by decide +kernel
theorem dX8_winnerOf_147 : decode cX8_winnerOf 147 = .ok (.iload 6, 2) := by decide +kernel
theorem dX8_winnerOf_149 : decode cX8_winnerOf 149 = .ok (.istore 6, 2) := by decide +kernel
theorem dX8_winnerOf_151 : decode cX8_winnerOf 151 = .ok (.iinc 8 1, 3) := by decide +kernel
theorem dX8_winnerOf_154 : decode cX8_winnerOf 154 = .ok (.goto (-57), 3) := by decide +kernel
theorem dX8_winnerOf_157 : decode cX8_winnerOf 157 = .ok (.iload 4, 2) := by decide +kernel
theorem dX8_winnerOf_159 : decode cX8_winnerOf 159 = .ok (.iload 6, 2) := by decide +kernel
theorem dX8_winnerOf_161 : decode cX8_winnerOf 161 = .ok (.bipush (-9), 2) := by decide +kernel
theorem dX8_winnerOf_163 : decode cX8_winnerOf 163 = .ok (.if_icmp .ne 8, 3) := by decide +kernel
theorem dX8_winnerOf_166 : decode cX8_winnerOf 166 = .ok (.iload 4, 2) := by decide +kernel
theorem dX8_winnerOf_168 : decode cX8_winnerOf 168 = .ok (.goto 9, 3) := by decide +kernel
theorem dX8_winnerOf_171 : decode cX8_winnerOf 171 = .ok (.iconst 1, 1) := by decide +kernel
theorem dX8_winnerOf_172 : decode cX8_winnerOf 172 = .ok (.iload 6, 2) := by decide +kernel
theorem dX8_winnerOf_174 : decode cX8_winnerOf 174 = .ok (.ishl, 1) := by decide +kernel
theorem dX8_winnerOf_175 : decode cX8_winnerOf 175 = .ok (.iconst (-1), 1) := by decide +kernel
theorem dX8_winnerOf_176 : decode cX8_winnerOf 176 = .ok (.ixor, 1) := by decide +kernel
theorem dX8_winnerOf_177 : decode cX8_winnerOf 177 = .ok (.iand, 1) := by decide +kernel
theorem dX8_winnerOf_178 : decode cX8_winnerOf 178 = .ok (.istore 4, 2) := by decide +kernel
theorem dX8_winnerOf_180 : decode cX8_winnerOf 180 = .ok (.iinc 7 1, 3) := by decide +kernel
theorem dX8_winnerOf_183 : decode cX8_winnerOf 183 = .ok (.goto (-106), 3) := by decide +kernel
theorem dX8_winnerOf_186 : decode cX8_winnerOf 186 = .ok (.iload_n 3, 1) := by decide +kernel
theorem dX8_winnerOf_187 : decode cX8_winnerOf 187 = .ok (.bipush 8, 2) := by decide +kernel
theorem dX8_winnerOf_189 : decode cX8_winnerOf 189 = .ok (.if_icmp .le 8, 3) := by decide +kernel
theorem dX8_winnerOf_192 : decode cX8_winnerOf 192 = .ok (.bipush (-9), 2) := by decide +kernel
theorem dX8_winnerOf_194 : decode cX8_winnerOf 194 = .ok (.goto 5, 3) := by decide +kernel
theorem dX8_winnerOf_197 : decode cX8_winnerOf 197 = .ok (.iload 6, 2) := by decide +kernel
theorem dX8_winnerOf_199 : decode cX8_winnerOf 199 = .ok (.ireturn, 1) := by decide +kernel
theorem dX8_sourceOf_0 : decode cX8_sourceOf 0 = .ok (.iload_n 1, 1) := by decide +kernel
theorem dX8_sourceOf_1 : decode cX8_sourceOf 1 = .ok (.istore_n 3, 1) := by decide +kernel
theorem dX8_sourceOf_2 : decode cX8_sourceOf 2 = .ok (.iload_n 3, 1) := by decide +kernel
theorem dX8_sourceOf_3 : decode cX8_sourceOf 3 = .ok (.bipush (-9), 2) := by decide +kernel
theorem dX8_sourceOf_5 : decode cX8_sourceOf 5 = .ok (.if_icmp .eq 37, 3) := by decide +kernel
theorem dX8_sourceOf_8 : decode cX8_sourceOf 8 = .ok (.aload_n 0, 1) := by decide +kernel
theorem dX8_sourceOf_9 : decode cX8_sourceOf 9 = .ok (.iload_n 3, 1) := by decide +kernel
theorem dX8_sourceOf_10 : decode cX8_sourceOf 10 = .ok (.iload_n 2, 1) := by decide +kernel
theorem dX8_sourceOf_11 : decode cX8_sourceOf 11 = .ok (.iconst 0, 1) := by decide +kernel
theorem dX8_sourceOf_12 : decode cX8_sourceOf 12 = .ok (.invokevirtual 149, 3) := by decide +kernel
theorem dX8_sourceOf_15 : decode cX8_sourceOf 15 = .ok (.bipush (-9), 2) := by decide +kernel
theorem dX8_sourceOf_17 : decode cX8_sourceOf 17 = .ok (.if_icmp .ne 25, 3) := by decide +kernel
theorem dX8_sourceOf_20 : decode cX8_sourceOf 20 = .ok (.iload_n 2, 1) := by decide +kernel
theorem dX8_sourceOf_21 : decode cX8_sourceOf 21 = .ok (.iconst 2, 1) := by decide +kernel
theorem dX8_sourceOf_22 : decode cX8_sourceOf 22 = .ok (.if_icmp .ge 14, 3) := by decide +kernel
theorem dX8_sourceOf_25 : decode cX8_sourceOf 25 = .ok (.aload_n 0, 1) := by decide +kernel
theorem dX8_sourceOf_26 : decode cX8_sourceOf 26 = .ok (.getfield 13, 3) := by decide +kernel
theorem dX8_sourceOf_29 : decode cX8_sourceOf 29 = .ok (.iconst 3, 1) := by decide +kernel
theorem dX8_sourceOf_30 : decode cX8_sourceOf 30 = .ok (.iload_n 3, 1) := by decide +kernel
theorem dX8_sourceOf_31 : decode cX8_sourceOf 31 = .ok (.iadd, 1) := by decide +kernel
theorem dX8_sourceOf_32 : decode cX8_sourceOf 32 = .ok (.iaload, 1) := by decide +kernel
theorem dX8_sourceOf_33 : decode cX8_sourceOf 33 = .ok (.goto 5, 3) := by decide +kernel
theorem dX8_sourceOf_36 : decode cX8_sourceOf 36 = .ok (.bipush (-9), 2) := by decide +kernel
theorem dX8_sourceOf_38 : decode cX8_sourceOf 38 = .ok (.istore_n 3, 1) := by decide +kernel
theorem dX8_sourceOf_39 : decode cX8_sourceOf 39 = .ok (.goto (-37), 3) := by decide +kernel
theorem dX8_sourceOf_42 : decode cX8_sourceOf 42 = .ok (.iload_n 3, 1) := by decide +kernel
theorem dX8_sourceOf_43 : decode cX8_sourceOf 43 = .ok (.ireturn, 1) := by decide +kernel
theorem dX8_valueOf_0 : decode cX8_valueOf 0 = .ok (.aload_n 0, 1) := by decide +kernel
theorem dX8_valueOf_1 : decode cX8_valueOf 1 = .ok (.iload_n 1, 1) := by decide +kernel
theorem dX8_valueOf_2 : decode cX8_valueOf 2 = .ok (.iload_n 2, 1) := by decide +kernel
theorem dX8_valueOf_3 : decode cX8_valueOf 3 = .ok (.invokevirtual 153, 3) := by decide +kernel
theorem dX8_valueOf_6 : decode cX8_valueOf 6 = .ok (.istore_n 3, 1) := by decide +kernel
theorem dX8_valueOf_7 : decode cX8_valueOf 7 = .ok (.iload_n 3, 1) := by decide +kernel
theorem dX8_valueOf_8 : decode cX8_valueOf 8 = .ok (.bipush (-9), 2) := by decide +kernel
theorem dX8_valueOf_10 : decode cX8_valueOf 10 = .ok (.if_icmp .ne 7, 3) := by decide +kernel
theorem dX8_valueOf_13 : decode cX8_valueOf 13 = .ok (.iconst 0, 1) := by decide +kernel
theorem dX8_valueOf_14 : decode cX8_valueOf 14 = .ok (.goto 22, 3) := by decide +kernel
theorem dX8_valueOf_17 : decode cX8_valueOf 17 = .ok (.aload_n 0, 1) := by decide +kernel
theorem dX8_valueOf_18 : decode cX8_valueOf 18 = .ok (.getfield 13, 3) := by decide +kernel
theorem dX8_valueOf_21 : decode cX8_valueOf 21 = .ok (.bipush 108, 2) := by decide +kernel
theorem dX8_valueOf_23 : decode cX8_valueOf 23 = .ok (.iconst 4, 1) := by decide +kernel
theorem dX8_valueOf_24 : decode cX8_valueOf 24 = .ok (.aload_n 0, 1) := by decide +kernel
theorem dX8_valueOf_25 : decode cX8_valueOf 25 = .ok (.iload_n 3, 1) := by decide +kernel
theorem dX8_valueOf_26 : decode cX8_valueOf 26 = .ok (.iload_n 2, 1) := by decide +kernel
theorem dX8_valueOf_27 : decode cX8_valueOf 27 = .ok (.iconst 0, 1) := by decide +kernel
theorem dX8_valueOf_28 : decode cX8_valueOf 28 = .ok (.invokevirtual 149, 3) := by decide +kernel
theorem dX8_valueOf_31 : decode cX8_valueOf 31 = .ok (.imul, 1) := by decide +kernel
theorem dX8_valueOf_32 : decode cX8_valueOf 32 = .ok (.iadd, 1) := by decide +kernel
theorem dX8_valueOf_33 : decode cX8_valueOf 33 = .ok (.iload_n 2, 1) := by decide +kernel
theorem dX8_valueOf_34 : decode cX8_valueOf 34 = .ok (.iadd, 1) := by decide +kernel
theorem dX8_valueOf_35 : decode cX8_valueOf 35 = .ok (.iaload, 1) := by decide +kernel
theorem dX8_valueOf_36 : decode cX8_valueOf 36 = .ok (.ireturn, 1) := by decide +kernel
theorem dX8_isLike_0 : decode cX8_isLike 0 = .ok (.iconst 1, 1) := by decide +kernel
theorem dX8_isLike_1 : decode cX8_isLike 1 = .ok (.istore_n 3, 1) := by decide +kernel
theorem dX8_isLike_2 : decode cX8_isLike 2 = .ok (.iconst 0, 1) := by decide +kernel
theorem dX8_isLike_3 : decode cX8_isLike 3 = .ok (.istore 4, 2) := by decide +kernel
theorem dX8_isLike_5 : decode cX8_isLike 5 = .ok (.iload 4, 2) := by decide +kernel
theorem dX8_isLike_7 : decode cX8_isLike 7 = .ok (.iconst 4, 1) := by decide +kernel
theorem dX8_isLike_8 : decode cX8_isLike 8 = .ok (.if_icmp .ge 36, 3) := by decide +kernel
theorem dX8_isLike_11 : decode cX8_isLike 11 = .ok (.iload_n 3, 1) := by decide +kernel
theorem dX8_isLike_12 : decode cX8_isLike 12 = .ok (.ifCond .eq 24, 3) := by decide +kernel
theorem dX8_isLike_15 : decode cX8_isLike 15 = .ok (.aload_n 0, 1) := by decide +kernel
theorem dX8_isLike_16 : decode cX8_isLike 16 = .ok (.iload_n 1, 1) := by decide +kernel
theorem dX8_isLike_17 : decode cX8_isLike 17 = .ok (.iload 4, 2) := by decide +kernel
theorem dX8_isLike_19 : decode cX8_isLike 19 = .ok (.invokevirtual 156, 3) := by decide +kernel
theorem dX8_isLike_22 : decode cX8_isLike 22 = .ok (.aload_n 0, 1) := by decide +kernel
theorem dX8_isLike_23 : decode cX8_isLike 23 = .ok (.iload_n 2, 1) := by decide +kernel
theorem dX8_isLike_24 : decode cX8_isLike 24 = .ok (.iload 4, 2) := by decide +kernel
theorem dX8_isLike_26 : decode cX8_isLike 26 = .ok (.invokevirtual 156, 3) := by decide +kernel
theorem dX8_isLike_29 : decode cX8_isLike 29 = .ok (.if_icmp .ne 7, 3) := by decide +kernel
theorem dX8_isLike_32 : decode cX8_isLike 32 = .ok (.iconst 1, 1) := by decide +kernel
theorem dX8_isLike_33 : decode cX8_isLike 33 = .ok (.goto 4, 3) := by decide +kernel
theorem dX8_isLike_36 : decode cX8_isLike 36 = .ok (.iconst 0, 1) := by decide +kernel
theorem dX8_isLike_37 : decode cX8_isLike 37 = .ok (.istore_n 3, 1) := by decide +kernel
theorem dX8_isLike_38 : decode cX8_isLike 38 = .ok (.iinc 4 1, 3) := by decide +kernel
theorem dX8_isLike_41 : decode cX8_isLike 41 = .ok (.goto (-36), 3) := by decide +kernel
theorem dX8_isLike_44 : decode cX8_isLike 44 = .ok (.iload_n 3, 1) := by decide +kernel
theorem dX8_isLike_45 : decode cX8_isLike 45 = .ok (.ireturn, 1) := by decide +kernel
theorem dX8_recordOf_0 : decode cX8_recordOf 0 = .ok (.iconst 0, 1) := by decide +kernel
theorem dX8_recordOf_1 : decode cX8_recordOf 1 = .ok (.istore_n 2, 1) := by decide +kernel
theorem dX8_recordOf_2 : decode cX8_recordOf 2 = .ok (.aload_n 0, 1) := by decide +kernel
theorem dX8_recordOf_3 : decode cX8_recordOf 3 = .ok (.iload_n 2, 1) := by decide +kernel
theorem dX8_recordOf_4 : decode cX8_recordOf 4 = .ok (.iload_n 1, 1) := by decide +kernel
theorem dX8_recordOf_5 : decode cX8_recordOf 5 = .ok (.invokevirtual 159, 3) := by decide +kernel
theorem dX8_recordOf_8 : decode cX8_recordOf 8 = .ok (.ifCond .ne 9, 3) := by decide +kernel
theorem dX8_recordOf_11 : decode cX8_recordOf 11 = .ok (.iinc 2 1, 3) := by decide +kernel
theorem dX8_recordOf_14 : decode cX8_recordOf 14 = .ok (.goto (-12), 3) := by decide +kernel
theorem dX8_recordOf_17 : decode cX8_recordOf 17 = .ok (.iload_n 2, 1) := by decide +kernel
theorem dX8_recordOf_18 : decode cX8_recordOf 18 = .ok (.ireturn, 1) := by decide +kernel
theorem dX8_node_0 : decode cX8_node 0 = .ok (.aload_n 0, 1) := by decide +kernel
theorem dX8_node_1 : decode cX8_node 1 = .ok (.iconst 0, 1) := by decide +kernel
theorem dX8_node_2 : decode cX8_node 2 = .ok (.putfield 56, 3) := by decide +kernel
theorem dX8_node_5 : decode cX8_node 5 = .ok (.aload_n 0, 1) := by decide +kernel
theorem dX8_node_6 : decode cX8_node 6 = .ok (.iload_n 1, 1) := by decide +kernel
theorem dX8_node_7 : decode cX8_node 7 = .ok (.invokevirtual 162, 3) := by decide +kernel
theorem dX8_node_10 : decode cX8_node 10 = .ok (.ifCond .eq 12, 3) := by decide +kernel
theorem dX8_node_13 : decode cX8_node 13 = .ok (.iload_n 2, 1) := by decide +kernel
theorem dX8_node_14 : decode cX8_node 14 = .ok (.iconst 0, 1) := by decide +kernel
theorem dX8_node_15 : decode cX8_node 15 = .ok (.iconst 5, 1) := by decide +kernel
theorem dX8_node_16 : decode cX8_node 16 = .ok (.invokestatic 60, 3) := by decide +kernel
theorem dX8_node_19 : decode cX8_node 19 = .ok (.ifCond .ne 6, 3) := by decide +kernel
theorem dX8_node_22 : decode cX8_node 22 = .ok (.bipush (-2), 2) := by decide +kernel
theorem dX8_node_24 : decode cX8_node 24 = .ok (.ireturn, 1) := by decide +kernel
theorem dX8_node_25 : decode cX8_node 25 = .ok (.iload_n 2, 1) := by decide +kernel
theorem dX8_node_26 : decode cX8_node 26 = .ok (.iconst 3, 1) := by decide +kernel
theorem dX8_node_27 : decode cX8_node 27 = .ok (.if_icmp .ge 44, 3) := by decide +kernel
theorem dX8_node_30 : decode cX8_node 30 = .ok (.iload_n 2, 1) := by decide +kernel
theorem dX8_node_31 : decode cX8_node 31 = .ok (.ifCond .ne 14, 3) := by decide +kernel
theorem dX8_node_34 : decode cX8_node 34 = .ok (.aload_n 0, 1) := by decide +kernel
theorem dX8_node_35 : decode cX8_node 35 = .ok (.getfield 13, 3) := by decide +kernel
theorem dX8_node_38 : decode cX8_node 38 = .ok (.iconst 3, 1) := by decide +kernel
theorem dX8_node_39 : decode cX8_node 39 = .ok (.iload_n 1, 1) := by decide +kernel
theorem dX8_node_40 : decode cX8_node 40 = .ok (.iadd, 1) := by decide +kernel
theorem dX8_node_41 : decode cX8_node 41 = .ok (.iaload, 1) := by decide +kernel
theorem dX8_node_42 : decode cX8_node 42 = .ok (.goto 28, 3) := by decide +kernel
theorem dX8_node_45 : decode cX8_node 45 = .ok (.iload_n 2, 1) := by decide +kernel
theorem dX8_node_46 : decode cX8_node 46 = .ok (.iconst 1, 1) := by decide +kernel
theorem dX8_node_47 : decode cX8_node 47 = .ok (.if_icmp .ne 14, 3) := by decide +kernel
theorem dX8_node_50 : decode cX8_node 50 = .ok (.aload_n 0, 1) := by decide +kernel
theorem dX8_node_51 : decode cX8_node 51 = .ok (.getfield 22, 3) := by decide +kernel
theorem dX8_node_54 : decode cX8_node 54 = .ok (.iconst 0, 1) := by decide +kernel
theorem dX8_node_55 : decode cX8_node 55 = .ok (.iload_n 1, 1) := by decide +kernel
theorem dX8_node_56 : decode cX8_node 56 = .ok (.iadd, 1) := by decide +kernel
theorem dX8_node_57 : decode cX8_node 57 = .ok (.iaload, 1) := by decide +kernel
theorem dX8_node_58 : decode cX8_node 58 = .ok (.goto 12, 3) := by decide +kernel
theorem dX8_node_61 : decode cX8_node 61 = .ok (.aload_n 0, 1) := by decide +kernel
theorem dX8_node_62 : decode cX8_node 62 = .ok (.getfield 22, 3) := by decide +kernel
theorem dX8_node_65 : decode cX8_node 65 = .ok (.bipush 9, 2) := by decide +kernel
theorem dX8_node_67 : decode cX8_node 67 = .ok (.iload_n 1, 1) := by decide +kernel
theorem dX8_node_68 : decode cX8_node 68 = .ok (.iadd, 1) := by decide +kernel
theorem dX8_node_69 : decode cX8_node 69 = .ok (.iaload, 1) := by decide +kernel
theorem dX8_node_70 : decode cX8_node 70 = .ok (.ireturn, 1) := by decide +kernel
theorem dX8_node_71 : decode cX8_node 71 = .ok (.aload_n 0, 1) := by decide +kernel
theorem dX8_node_72 : decode cX8_node 72 = .ok (.invokevirtual 165, 3) := by decide +kernel
theorem dX8_node_75 : decode cX8_node 75 = .ok (.iload_n 2, 1) := by decide +kernel
theorem dX8_node_76 : decode cX8_node 76 = .ok (.iconst 3, 1) := by decide +kernel
theorem dX8_node_77 : decode cX8_node 77 = .ok (.if_icmp .ne 11, 3) := by decide +kernel
theorem dX8_node_80 : decode cX8_node 80 = .ok (.aload_n 0, 1) := by decide +kernel
theorem dX8_node_81 : decode cX8_node 81 = .ok (.iload_n 1, 1) := by decide +kernel
theorem dX8_node_82 : decode cX8_node 82 = .ok (.invokevirtual 143, 3) := by decide +kernel
theorem dX8_node_85 : decode cX8_node 85 = .ok (.goto 21, 3) := by decide +kernel
theorem dX8_node_88 : decode cX8_node 88 = .ok (.iload_n 2, 1) := by decide +kernel
theorem dX8_node_89 : decode cX8_node 89 = .ok (.iconst 4, 1) := by decide +kernel
theorem dX8_node_90 : decode cX8_node 90 = .ok (.if_icmp .ne 11, 3) := by decide +kernel
theorem dX8_node_93 : decode cX8_node 93 = .ok (.aload_n 0, 1) := by decide +kernel
theorem dX8_node_94 : decode cX8_node 94 = .ok (.iload_n 1, 1) := by decide +kernel
theorem dX8_node_95 : decode cX8_node 95 = .ok (.invokevirtual 168, 3) := by decide +kernel
theorem dX8_node_98 : decode cX8_node 98 = .ok (.goto 8, 3) := by decide +kernel
theorem dX8_node_101 : decode cX8_node 101 = .ok (.aload_n 0, 1) := by decide +kernel
theorem dX8_node_102 : decode cX8_node 102 = .ok (.iload_n 1, 1) := by decide +kernel
theorem dX8_node_103 : decode cX8_node 103 = .ok (.invokevirtual 171, 3) := by decide +kernel
theorem dX8_node_106 : decode cX8_node 106 = .ok (.ireturn, 1) := by decide +kernel
theorem dX8_rule_0 : decode cX8_rule 0 = .ok (.aload_n 0, 1) := by decide +kernel
theorem dX8_rule_1 : decode cX8_rule 1 = .ok (.iconst 0, 1) := by decide +kernel
theorem dX8_rule_2 : decode cX8_rule 2 = .ok (.putfield 56, 3) := by decide +kernel
theorem dX8_rule_5 : decode cX8_rule 5 = .ok (.aload_n 0, 1) := by decide +kernel
theorem dX8_rule_6 : decode cX8_rule 6 = .ok (.iload_n 1, 1) := by decide +kernel
theorem dX8_rule_7 : decode cX8_rule 7 = .ok (.invokevirtual 174, 3) := by decide +kernel
theorem dX8_rule_10 : decode cX8_rule 10 = .ok (.ifCond .eq 13, 3) := by decide +kernel
theorem dX8_rule_13 : decode cX8_rule 13 = .ok (.iload_n 2, 1) := by decide +kernel
theorem dX8_rule_14 : decode cX8_rule 14 = .ok (.iconst 0, 1) := by decide +kernel
theorem dX8_rule_15 : decode cX8_rule 15 = .ok (.bipush 6, 2) := by decide +kernel
theorem dX8_rule_17 : decode cX8_rule 17 = .ok (.invokestatic 60, 3) := by decide +kernel
theorem dX8_rule_20 : decode cX8_rule 20 = .ok (.ifCond .ne 6, 3) := by decide +kernel
theorem dX8_rule_23 : decode cX8_rule 23 = .ok (.bipush (-2), 2) := by decide +kernel
theorem dX8_rule_25 : decode cX8_rule 25 = .ok (.ireturn, 1) := by decide +kernel
theorem dX8_rule_26 : decode cX8_rule 26 = .ok (.iload_n 2, 1) := by decide +kernel
theorem dX8_rule_27 : decode cX8_rule 27 = .ok (.iconst 3, 1) := by decide +kernel
theorem dX8_rule_28 : decode cX8_rule 28 = .ok (.if_icmp .ge 43, 3) := by decide +kernel
theorem dX8_rule_31 : decode cX8_rule 31 = .ok (.iload_n 2, 1) := by decide +kernel
theorem dX8_rule_32 : decode cX8_rule 32 = .ok (.ifCond .ne 16, 3) := by decide +kernel
theorem dX8_rule_35 : decode cX8_rule 35 = .ok (.aload_n 0, 1) := by decide +kernel
theorem dX8_rule_36 : decode cX8_rule 36 = .ok (.getfield 13, 3) := by decide +kernel
theorem dX8_rule_39 : decode cX8_rule 39 = .ok (.iconst 2, 1) := by decide +kernel
theorem dX8_rule_40 : decode cX8_rule 40 = .ok (.iaload, 1) := by decide +kernel
theorem dX8_rule_41 : decode cX8_rule 41 = .ok (.iload_n 1, 1) := by decide +kernel
theorem dX8_rule_42 : decode cX8_rule 42 = .ok (.ishr, 1) := by decide +kernel
theorem dX8_rule_43 : decode cX8_rule 43 = .ok (.iconst 1, 1) := by decide +kernel
theorem dX8_rule_44 : decode cX8_rule 44 = .ok (.iand, 1) := by decide +kernel
theorem dX8_rule_45 : decode cX8_rule 45 = .ok (.goto 25, 3) := by decide +kernel
theorem dX8_rule_48 : decode cX8_rule 48 = .ok (.iload_n 2, 1) := by decide +kernel
theorem dX8_rule_49 : decode cX8_rule 49 = .ok (.iconst 1, 1) := by decide +kernel
theorem dX8_rule_50 : decode cX8_rule 50 = .ok (.if_icmp .ne 15, 3) := by decide +kernel
theorem dX8_rule_53 : decode cX8_rule 53 = .ok (.aload_n 0, 1) := by decide +kernel
theorem dX8_rule_54 : decode cX8_rule 54 = .ok (.getfield 13, 3) := by decide +kernel
theorem dX8_rule_57 : decode cX8_rule 57 = .ok (.bipush 12, 2) := by decide +kernel
theorem dX8_rule_59 : decode cX8_rule 59 = .ok (.iload_n 1, 1) := by decide +kernel
theorem dX8_rule_60 : decode cX8_rule 60 = .ok (.iadd, 1) := by decide +kernel
theorem dX8_rule_61 : decode cX8_rule 61 = .ok (.iaload, 1) := by decide +kernel
theorem dX8_rule_62 : decode cX8_rule 62 = .ok (.goto 8, 3) := by decide +kernel
theorem dX8_rule_65 : decode cX8_rule 65 = .ok (.aload_n 0, 1) := by decide +kernel
theorem dX8_rule_66 : decode cX8_rule 66 = .ok (.iload_n 1, 1) := by decide +kernel
theorem dX8_rule_67 : decode cX8_rule 67 = .ok (.invokevirtual 140, 3) := by decide +kernel
theorem dX8_rule_70 : decode cX8_rule 70 = .ok (.ireturn, 1) := by decide +kernel
theorem dX8_rule_71 : decode cX8_rule 71 = .ok (.iload_n 2, 1) := by decide +kernel
theorem dX8_rule_72 : decode cX8_rule 72 = .ok (.iconst 5, 1) := by decide +kernel
theorem dX8_rule_73 : decode cX8_rule 73 = .ok (.if_icmp .ge 30, 3) := by decide +kernel
theorem dX8_rule_76 : decode cX8_rule 76 = .ok (.iload_n 2, 1) := by decide +kernel
theorem dX8_rule_77 : decode cX8_rule 77 = .ok (.iconst 3, 1) := by decide +kernel
theorem dX8_rule_78 : decode cX8_rule 78 = .ok (.if_icmp .ne 15, 3) := by decide +kernel
theorem dX8_rule_81 : decode cX8_rule 81 = .ok (.aload_n 0, 1) := by decide +kernel
theorem dX8_rule_82 : decode cX8_rule 82 = .ok (.getfield 13, 3) := by decide +kernel
theorem dX8_rule_85 : decode cX8_rule 85 = .ok (.bipush 92, 2) := by decide +kernel
theorem dX8_rule_87 : decode cX8_rule 87 = .ok (.iload_n 1, 1) := by decide +kernel
theorem dX8_rule_88 : decode cX8_rule 88 = .ok (.iadd, 1) := by decide +kernel
theorem dX8_rule_89 : decode cX8_rule 89 = .ok (.iaload, 1) := by decide +kernel
theorem dX8_rule_90 : decode cX8_rule 90 = .ok (.goto 12, 3) := by decide +kernel
theorem dX8_rule_93 : decode cX8_rule 93 = .ok (.aload_n 0, 1) := by decide +kernel
theorem dX8_rule_94 : decode cX8_rule 94 = .ok (.getfield 13, 3) := by decide +kernel
theorem dX8_rule_97 : decode cX8_rule 97 = .ok (.bipush 100, 2) := by decide +kernel
theorem dX8_rule_99 : decode cX8_rule 99 = .ok (.iload_n 1, 1) := by decide +kernel
theorem dX8_rule_100 : decode cX8_rule 100 = .ok (.iadd, 1) := by decide +kernel
theorem dX8_rule_101 : decode cX8_rule 101 = .ok (.iaload, 1) := by decide +kernel
theorem dX8_rule_102 : decode cX8_rule 102 = .ok (.ireturn, 1) := by decide +kernel
theorem dX8_rule_103 : decode cX8_rule 103 = .ok (.aload_n 0, 1) := by decide +kernel
theorem dX8_rule_104 : decode cX8_rule 104 = .ok (.invokevirtual 165, 3) := by decide +kernel
theorem dX8_rule_107 : decode cX8_rule 107 = .ok (.iload_n 2, 1) := by decide +kernel
theorem dX8_rule_108 : decode cX8_rule 108 = .ok (.iconst 5, 1) := by decide +kernel
theorem dX8_rule_109 : decode cX8_rule 109 = .ok (.if_icmp .ne 17, 3) := by decide +kernel
theorem dX8_rule_112 : decode cX8_rule 112 = .ok (.aload_n 0, 1) := by decide +kernel
theorem dX8_rule_113 : decode cX8_rule 113 = .ok (.getfield 22, 3) := by decide +kernel
theorem dX8_rule_116 : decode cX8_rule 116 = .ok (.bipush 18, 2) := by decide +kernel
theorem dX8_rule_118 : decode cX8_rule 118 = .ok (.iaload, 1) := by decide +kernel
theorem dX8_rule_119 : decode cX8_rule 119 = .ok (.iload_n 1, 1) := by decide +kernel
theorem dX8_rule_120 : decode cX8_rule 120 = .ok (.ishr, 1) := by decide +kernel
theorem dX8_rule_121 : decode cX8_rule 121 = .ok (.iconst 1, 1) := by decide +kernel
theorem dX8_rule_122 : decode cX8_rule 122 = .ok (.iand, 1) := by decide +kernel
theorem dX8_rule_123 : decode cX8_rule 123 = .ok (.goto 9, 3) := by decide +kernel
theorem dX8_rule_126 : decode cX8_rule 126 = .ok (.aload_n 0, 1) := by decide +kernel
theorem dX8_rule_127 : decode cX8_rule 127 = .ok (.getfield 47, 3) := by decide +kernel
theorem dX8_rule_130 : decode cX8_rule 130 = .ok (.iload_n 1, 1) := by decide +kernel
theorem dX8_rule_131 : decode cX8_rule 131 = .ok (.iaload, 1) := by decide +kernel
theorem dX8_rule_132 : decode cX8_rule 132 = .ok (.ireturn, 1) := by decide +kernel
theorem dX8_notes_0 : decode cX8_notes 0 = .ok (.aload_n 0, 1) := by decide +kernel
theorem dX8_notes_1 : decode cX8_notes 1 = .ok (.getfield 127, 3) := by decide +kernel
theorem dX8_notes_4 : decode cX8_notes 4 = .ok (.bipush 10, 2) := by decide +kernel
theorem dX8_notes_6 : decode cX8_notes 6 = .ok (.if_icmp .ne 39, 3) := by decide +kernel
theorem dX8_notes_9 : decode cX8_notes 9 = .ok (.iconst 0, 1) := by decide +kernel
theorem dX8_notes_10 : decode cX8_notes 10 = .ok (.istore_n 1, 1) := by decide +kernel
theorem dX8_notes_11 : decode cX8_notes 11 = .ok (.iload_n 1, 1) := by decide +kernel
theorem dX8_notes_12 : decode cX8_notes 12 = .ok (.sipush 171, 3) := by decide +kernel
theorem dX8_notes_15 : decode cX8_notes 15 = .ok (.if_icmp .ge 24, 3) := by decide +kernel
theorem dX8_notes_18 : decode cX8_notes 18 = .ok (.aload_n 0, 1) := by decide +kernel
theorem dX8_notes_19 : decode cX8_notes 19 = .ok (.getfield 25, 3) := by decide +kernel
theorem dX8_notes_22 : decode cX8_notes 22 = .ok (.iload_n 1, 1) := by decide +kernel
theorem dX8_notes_23 : decode cX8_notes 23 = .ok (.aload_n 0, 1) := by decide +kernel
theorem dX8_notes_24 : decode cX8_notes 24 = .ok (.getfield 25, 3) := by decide +kernel
theorem dX8_notes_27 : decode cX8_notes 27 = .ok (.iload_n 1, 1) := by decide +kernel
theorem dX8_notes_28 : decode cX8_notes 28 = .ok (.bipush 19, 2) := by decide +kernel
theorem dX8_notes_30 : decode cX8_notes 30 = .ok (.iadd, 1) := by decide +kernel
theorem dX8_notes_31 : decode cX8_notes 31 = .ok (.iaload, 1) := by decide +kernel
theorem dX8_notes_32 : decode cX8_notes 32 = .ok (.iastore, 1) := by decide +kernel
theorem dX8_notes_33 : decode cX8_notes 33 = .ok (.iinc 1 1, 3) := by decide +kernel
theorem dX8_notes_36 : decode cX8_notes 36 = .ok (.goto (-25), 3) := by decide +kernel
theorem dX8_notes_39 : decode cX8_notes 39 = .ok (.aload_n 0, 1) := by decide +kernel
theorem dX8_notes_40 : decode cX8_notes 40 = .ok (.bipush 9, 2) := by decide +kernel
theorem dX8_notes_42 : decode cX8_notes 42 = .ok (.putfield 127, 3) := by decide +kernel
theorem dX8_notes_45 : decode cX8_notes 45 = .ok (.iconst 0, 1) := by decide +kernel
theorem dX8_notes_46 : decode cX8_notes 46 = .ok (.istore_n 1, 1) := by decide +kernel
theorem dX8_notes_47 : decode cX8_notes 47 = .ok (.iload_n 1, 1) := by decide +kernel
theorem dX8_notes_48 : decode cX8_notes 48 = .ok (.bipush 19, 2) := by decide +kernel
theorem dX8_notes_50 : decode cX8_notes 50 = .ok (.if_icmp .ge 29, 3) := by decide +kernel
theorem dX8_notes_53 : decode cX8_notes 53 = .ok (.aload_n 0, 1) := by decide +kernel
theorem dX8_notes_54 : decode cX8_notes 54 = .ok (.getfield 25, 3) := by decide +kernel
theorem dX8_notes_57 : decode cX8_notes 57 = .ok (.bipush 19, 2) := by decide +kernel
theorem dX8_notes_59 : decode cX8_notes 59 = .ok (.aload_n 0, 1) := by decide +kernel
theorem dX8_notes_60 : decode cX8_notes 60 = .ok (.getfield 127, 3) := by decide +kernel
theorem dX8_notes_63 : decode cX8_notes 63 = .ok (.imul, 1) := by decide +kernel
theorem dX8_notes_64 : decode cX8_notes 64 = .ok (.iload_n 1, 1) := by decide +kernel
theorem dX8_notes_65 : decode cX8_notes 65 = .ok (.iadd, 1) := by decide +kernel
theorem dX8_notes_66 : decode cX8_notes 66 = .ok (.aload_n 0, 1) := by decide +kernel
theorem dX8_notes_67 : decode cX8_notes 67 = .ok (.getfield 22, 3) := by decide +kernel
theorem dX8_notes_70 : decode cX8_notes 70 = .ok (.iload_n 1, 1) := by decide +kernel
theorem dX8_notes_71 : decode cX8_notes 71 = .ok (.iaload, 1) := by decide +kernel
theorem dX8_notes_72 : decode cX8_notes 72 = .ok (.iastore, 1) := by decide +kernel
theorem dX8_notes_73 : decode cX8_notes 73 = .ok (.iinc 1 1, 3) := by decide +kernel
theorem dX8_notes_76 : decode cX8_notes 76 = .ok (.goto (-29), 3) := by decide +kernel
theorem dX8_notes_79 : decode cX8_notes 79 = .ok (.aload_n 0, 1) := by decide +kernel
theorem dX8_notes_80 : decode cX8_notes 80 = .ok (.dup, 1) := by decide +kernel
theorem dX8_notes_81 : decode cX8_notes 81 = .ok (.getfield 127, 3) := by decide +kernel
theorem dX8_notes_84 : decode cX8_notes 84 = .ok (.iconst 1, 1) := by decide +kernel
theorem dX8_notes_85 : decode cX8_notes 85 = .ok (.iadd, 1) := by decide +kernel
theorem dX8_notes_86 : decode cX8_notes 86 = .ok (.putfield 127, 3) := by decide +kernel
theorem dX8_notes_89 : decode cX8_notes 89 = .ok (.return_, 1) := by decide +kernel
theorem dX8_toggles_0 : decode cX8_toggles 0 = .ok (.aload_n 0, 1) := by decide +kernel
theorem dX8_toggles_1 : decode cX8_toggles 1 = .ok (.iconst 0, 1) := by decide +kernel
theorem dX8_toggles_2 : decode cX8_toggles 2 = .ok (.putfield 56, 3) := by decide +kernel
theorem dX8_toggles_5 : decode cX8_toggles 5 = .ok (.aload_n 0, 1) := by decide +kernel
theorem dX8_toggles_6 : decode cX8_toggles 6 = .ok (.iload_n 1, 1) := by decide +kernel
theorem dX8_toggles_7 : decode cX8_toggles 7 = .ok (.invokevirtual 162, 3) := by decide +kernel
theorem dX8_toggles_10 : decode cX8_toggles 10 = .ok (.ifCond .eq 10, 3) := by decide +kernel
theorem dX8_toggles_13 : decode cX8_toggles 13 = .ok (.iload_n 2, 1) := by decide +kernel
theorem dX8_toggles_14 : decode cX8_toggles 14 = .ok (.invokestatic 177, 3) := by decide +kernel
theorem dX8_toggles_17 : decode cX8_toggles 17 = .ok (.ifCond .ne 6, 3) := by decide +kernel
theorem dX8_toggles_20 : decode cX8_toggles 20 = .ok (.bipush (-2), 2) := by decide +kernel
theorem dX8_toggles_22 : decode cX8_toggles 22 = .ok (.ireturn, 1) := by decide +kernel
theorem dX8_toggles_23 : decode cX8_toggles 23 = .ok (.aload_n 0, 1) := by decide +kernel
theorem dX8_toggles_24 : decode cX8_toggles 24 = .ok (.invokevirtual 180, 3) := by decide +kernel
theorem dX8_toggles_27 : decode cX8_toggles 27 = .ok (.aload_n 0, 1) := by decide +kernel
theorem dX8_toggles_28 : decode cX8_toggles 28 = .ok (.getfield 22, 3) := by decide +kernel
theorem dX8_toggles_31 : decode cX8_toggles 31 = .ok (.bipush 9, 2) := by decide +kernel
theorem dX8_toggles_33 : decode cX8_toggles 33 = .ok (.iload_n 1, 1) := by decide +kernel
theorem dX8_toggles_34 : decode cX8_toggles 34 = .ok (.iadd, 1) := by decide +kernel
theorem dX8_toggles_35 : decode cX8_toggles 35 = .ok (.dup2, 1) := by decide +kernel
theorem dX8_toggles_36 : decode cX8_toggles 36 = .ok (.iaload, 1) := by decide +kernel
theorem dX8_toggles_37 : decode cX8_toggles 37 = .ok (.iconst 1, 1) := by decide +kernel
theorem dX8_toggles_38 : decode cX8_toggles 38 = .ok (.iload_n 2, 1) := by decide +kernel
theorem dX8_toggles_39 : decode cX8_toggles 39 = .ok (.ishl, 1) := by decide +kernel
theorem dX8_toggles_40 : decode cX8_toggles 40 = .ok (.ixor, 1) := by decide +kernel
theorem dX8_toggles_41 : decode cX8_toggles 41 = .ok (.iastore, 1) := by decide +kernel
theorem dX8_toggles_42 : decode cX8_toggles 42 = .ok (.aload_n 0, 1) := by decide +kernel
theorem dX8_toggles_43 : decode cX8_toggles 43 = .ok (.getfield 22, 3) := by decide +kernel
theorem dX8_toggles_46 : decode cX8_toggles 46 = .ok (.bipush 9, 2) := by decide +kernel
theorem dX8_toggles_48 : decode cX8_toggles 48 = .ok (.iload_n 1, 1) := by decide +kernel
theorem dX8_toggles_49 : decode cX8_toggles 49 = .ok (.iadd, 1) := by decide +kernel
theorem dX8_toggles_50 : decode cX8_toggles 50 = .ok (.iaload, 1) := by decide +kernel
theorem dX8_toggles_51 : decode cX8_toggles 51 = .ok (.ireturn, 1) := by decide +kernel
theorem dX8_tags_0 : decode cX8_tags 0 = .ok (.aload_n 0, 1) := by decide +kernel
theorem dX8_tags_1 : decode cX8_tags 1 = .ok (.iconst 0, 1) := by decide +kernel
theorem dX8_tags_2 : decode cX8_tags 2 = .ok (.putfield 56, 3) := by decide +kernel
theorem dX8_tags_5 : decode cX8_tags 5 = .ok (.aload_n 0, 1) := by decide +kernel
theorem dX8_tags_6 : decode cX8_tags 6 = .ok (.iload_n 1, 1) := by decide +kernel
theorem dX8_tags_7 : decode cX8_tags 7 = .ok (.invokevirtual 162, 3) := by decide +kernel
theorem dX8_tags_10 : decode cX8_tags 10 = .ok (.ifCond .eq 10, 3) := by decide +kernel
theorem dX8_tags_13 : decode cX8_tags 13 = .ok (.iload_n 2, 1) := by decide +kernel
theorem dX8_tags_14 : decode cX8_tags 14 = .ok (.invokestatic 177, 3) := by decide +kernel
theorem dX8_tags_17 : decode cX8_tags 17 = .ok (.ifCond .ne 6, 3) := by decide +kernel
theorem dX8_tags_20 : decode cX8_tags 20 = .ok (.bipush (-2), 2) := by decide +kernel
theorem dX8_tags_22 : decode cX8_tags 22 = .ok (.ireturn, 1) := by decide +kernel
theorem dX8_tags_23 : decode cX8_tags 23 = .ok (.aload_n 0, 1) := by decide +kernel
theorem dX8_tags_24 : decode cX8_tags 24 = .ok (.getfield 22, 3) := by decide +kernel
theorem dX8_tags_27 : decode cX8_tags 27 = .ok (.iconst 0, 1) := by decide +kernel
theorem dX8_tags_28 : decode cX8_tags 28 = .ok (.iload_n 1, 1) := by decide +kernel
theorem dX8_tags_29 : decode cX8_tags 29 = .ok (.iadd, 1) := by decide +kernel
theorem dX8_tags_30 : decode cX8_tags 30 = .ok (.iaload, 1) := by decide +kernel
theorem dX8_tags_31 : decode cX8_tags 31 = .ok (.istore_n 3, 1) := by decide +kernel
theorem dX8_tags_32 : decode cX8_tags 32 = .ok (.iload_n 3, 1) := by decide +kernel
theorem dX8_tags_33 : decode cX8_tags 33 = .ok (.iload_n 2, 1) := by decide +kernel
theorem dX8_tags_34 : decode cX8_tags 34 = .ok (.if_icmp .ne 6, 3) := by decide +kernel
theorem dX8_tags_37 : decode cX8_tags 37 = .ok (.bipush (-3), 2) := by decide +kernel
theorem dX8_tags_39 : decode cX8_tags 39 = .ok (.ireturn, 1) := by decide +kernel
theorem dX8_tags_40 : decode cX8_tags 40 = .ok (.aload_n 0, 1) := by decide +kernel
theorem dX8_tags_41 : decode cX8_tags 41 = .ok (.invokevirtual 180, 3) := by decide +kernel
theorem dX8_tags_44 : decode cX8_tags 44 = .ok (.aload_n 0, 1) := by decide +kernel
theorem dX8_tags_45 : decode cX8_tags 45 = .ok (.getfield 22, 3) := by decide +kernel
theorem dX8_tags_48 : decode cX8_tags 48 = .ok (.iconst 0, 1) := by decide +kernel
theorem dX8_tags_49 : decode cX8_tags 49 = .ok (.iload_n 1, 1) := by decide +kernel
theorem dX8_tags_50 : decode cX8_tags 50 = .ok (.iadd, 1) := by decide +kernel
theorem dX8_tags_51 : decode cX8_tags 51 = .ok (.iload_n 2, 1) := by decide +kernel
theorem dX8_tags_52 : decode cX8_tags 52 = .ok (.iastore, 1) := by decide +kernel
theorem dX8_tags_53 : decode cX8_tags 53 = .ok (.iload_n 3, 1) := by decide +kernel
theorem dX8_tags_54 : decode cX8_tags 54 = .ok (.ireturn, 1) := by decide +kernel
theorem dX8_switches_0 : decode cX8_switches 0 = .ok (.aload_n 0, 1) := by decide +kernel
theorem dX8_switches_1 : decode cX8_switches 1 = .ok (.iconst 0, 1) := by decide +kernel
theorem dX8_switches_2 : decode cX8_switches 2 = .ok (.putfield 56, 3) := by decide +kernel
theorem dX8_switches_5 : decode cX8_switches 5 = .ok (.aload_n 0, 1) := by decide +kernel
theorem dX8_switches_6 : decode cX8_switches 6 = .ok (.iload_n 1, 1) := by decide +kernel
theorem dX8_switches_7 : decode cX8_switches 7 = .ok (.invokevirtual 174, 3) := by decide +kernel
theorem dX8_switches_10 : decode cX8_switches 10 = .ok (.ifCond .ne 6, 3) := by decide +kernel
theorem dX8_switches_13 : decode cX8_switches 13 = .ok (.bipush (-2), 2) := by decide +kernel
theorem dX8_switches_15 : decode cX8_switches 15 = .ok (.ireturn, 1) := by decide +kernel
theorem dX8_switches_16 : decode cX8_switches 16 = .ok (.aload_n 0, 1) := by decide +kernel
theorem dX8_switches_17 : decode cX8_switches 17 = .ok (.invokevirtual 180, 3) := by decide +kernel
theorem dX8_switches_20 : decode cX8_switches 20 = .ok (.aload_n 0, 1) := by decide +kernel
theorem dX8_switches_21 : decode cX8_switches 21 = .ok (.getfield 22, 3) := by decide +kernel
theorem dX8_switches_24 : decode cX8_switches 24 = .ok (.bipush 18, 2) := by decide +kernel
theorem dX8_switches_26 : decode cX8_switches 26 = .ok (.dup2, 1) := by decide +kernel
theorem dX8_switches_27 : decode cX8_switches 27 = .ok (.iaload, 1) := by decide +kernel
theorem dX8_switches_28 : decode cX8_switches 28 = .ok (.iconst 1, 1) := by decide +kernel
theorem dX8_switches_29 : decode cX8_switches 29 = .ok (.iload_n 1, 1) := by decide +kernel
theorem dX8_switches_30 : decode cX8_switches 30 = .ok (.ishl, 1) := by decide +kernel
theorem dX8_switches_31 : decode cX8_switches 31 = .ok (.ixor, 1) := by decide +kernel
theorem dX8_switches_32 : decode cX8_switches 32 = .ok (.iastore, 1) := by decide +kernel
theorem dX8_switches_33 : decode cX8_switches 33 = .ok (.aload_n 0, 1) := by decide +kernel
theorem dX8_switches_34 : decode cX8_switches 34 = .ok (.getfield 22, 3) := by decide +kernel
theorem dX8_switches_37 : decode cX8_switches 37 = .ok (.bipush 18, 2) := by decide +kernel
theorem dX8_switches_39 : decode cX8_switches 39 = .ok (.iaload, 1) := by decide +kernel
theorem dX8_switches_40 : decode cX8_switches 40 = .ok (.iload_n 1, 1) := by decide +kernel
theorem dX8_switches_41 : decode cX8_switches 41 = .ok (.ishr, 1) := by decide +kernel
theorem dX8_switches_42 : decode cX8_switches 42 = .ok (.iconst 1, 1) := by decide +kernel
theorem dX8_switches_43 : decode cX8_switches 43 = .ok (.iand, 1) := by decide +kernel
theorem dX8_switches_44 : decode cX8_switches 44 = .ok (.ireturn, 1) := by decide +kernel
theorem dX8_undo_0 : decode cX8_undo 0 = .ok (.aload_n 0, 1) := by decide +kernel
theorem dX8_undo_1 : decode cX8_undo 1 = .ok (.iconst 0, 1) := by decide +kernel
theorem dX8_undo_2 : decode cX8_undo 2 = .ok (.putfield 56, 3) := by decide +kernel
theorem dX8_undo_5 : decode cX8_undo 5 = .ok (.aload_n 0, 1) := by decide +kernel
theorem dX8_undo_6 : decode cX8_undo 6 = .ok (.getfield 127, 3) := by decide +kernel
theorem dX8_undo_9 : decode cX8_undo 9 = .ok (.ifCond .ne 6, 3) := by decide +kernel
theorem dX8_undo_12 : decode cX8_undo 12 = .ok (.bipush (-3), 2) := by decide +kernel
theorem dX8_undo_14 : decode cX8_undo 14 = .ok (.ireturn, 1) := by decide +kernel
theorem dX8_undo_15 : decode cX8_undo 15 = .ok (.aload_n 0, 1) := by decide +kernel
theorem dX8_undo_16 : decode cX8_undo 16 = .ok (.dup, 1) := by decide +kernel
theorem dX8_undo_17 : decode cX8_undo 17 = .ok (.getfield 127, 3) := by decide +kernel
theorem dX8_undo_20 : decode cX8_undo 20 = .ok (.iconst 1, 1) := by decide +kernel
theorem dX8_undo_21 : decode cX8_undo 21 = .ok (.isub, 1) := by decide +kernel
theorem dX8_undo_22 : decode cX8_undo 22 = .ok (.putfield 127, 3) := by decide +kernel
theorem dX8_undo_25 : decode cX8_undo 25 = .ok (.iconst 0, 1) := by decide +kernel
theorem dX8_undo_26 : decode cX8_undo 26 = .ok (.istore_n 1, 1) := by decide +kernel
theorem dX8_undo_27 : decode cX8_undo 27 = .ok (.iload_n 1, 1) := by decide +kernel
theorem dX8_undo_28 : decode cX8_undo 28 = .ok (.bipush 19, 2) := by decide +kernel
theorem dX8_undo_30 : decode cX8_undo 30 = .ok (.if_icmp .ge 29, 3) := by decide +kernel
theorem dX8_undo_33 : decode cX8_undo 33 = .ok (.aload_n 0, 1) := by decide +kernel
theorem dX8_undo_34 : decode cX8_undo 34 = .ok (.getfield 22, 3) := by decide +kernel
theorem dX8_undo_37 : decode cX8_undo 37 = .ok (.iload_n 1, 1) := by decide +kernel
theorem dX8_undo_38 : decode cX8_undo 38 = .ok (.aload_n 0, 1) := by decide +kernel
theorem dX8_undo_39 : decode cX8_undo 39 = .ok (.getfield 25, 3) := by decide +kernel
theorem dX8_undo_42 : decode cX8_undo 42 = .ok (.bipush 19, 2) := by decide +kernel
theorem dX8_undo_44 : decode cX8_undo 44 = .ok (.aload_n 0, 1) := by decide +kernel
theorem dX8_undo_45 : decode cX8_undo 45 = .ok (.getfield 127, 3) := by decide +kernel
theorem dX8_undo_48 : decode cX8_undo 48 = .ok (.imul, 1) := by decide +kernel
theorem dX8_undo_49 : decode cX8_undo 49 = .ok (.iload_n 1, 1) := by decide +kernel
theorem dX8_undo_50 : decode cX8_undo 50 = .ok (.iadd, 1) := by decide +kernel
theorem dX8_undo_51 : decode cX8_undo 51 = .ok (.iaload, 1) := by decide +kernel
theorem dX8_undo_52 : decode cX8_undo 52 = .ok (.iastore, 1) := by decide +kernel
theorem dX8_undo_53 : decode cX8_undo 53 = .ok (.iinc 1 1, 3) := by decide +kernel
theorem dX8_undo_56 : decode cX8_undo 56 = .ok (.goto (-29), 3) := by decide +kernel
theorem dX8_undo_59 : decode cX8_undo 59 = .ok (.aload_n 0, 1) := by decide +kernel
theorem dX8_undo_60 : decode cX8_undo 60 = .ok (.getfield 127, 3) := by decide +kernel
theorem dX8_undo_63 : decode cX8_undo 63 = .ok (.ireturn, 1) := by decide +kernel
theorem dX8_value_0 : decode cX8_value 0 = .ok (.aload_n 0, 1) := by decide +kernel
theorem dX8_value_1 : decode cX8_value 1 = .ok (.iconst 0, 1) := by decide +kernel
theorem dX8_value_2 : decode cX8_value 2 = .ok (.putfield 56, 3) := by decide +kernel
theorem dX8_value_5 : decode cX8_value 5 = .ok (.aload_n 0, 1) := by decide +kernel
theorem dX8_value_6 : decode cX8_value 6 = .ok (.invokevirtual 165, 3) := by decide +kernel
theorem dX8_value_9 : decode cX8_value 9 = .ok (.aload_n 0, 1) := by decide +kernel
theorem dX8_value_10 : decode cX8_value 10 = .ok (.iload_n 1, 1) := by decide +kernel
theorem dX8_value_11 : decode cX8_value 11 = .ok (.invokevirtual 162, 3) := by decide +kernel
theorem dX8_value_14 : decode cX8_value 14 = .ok (.ifCond .eq 19, 3) := by decide +kernel
theorem dX8_value_17 : decode cX8_value 17 = .ok (.iload_n 2, 1) := by decide +kernel
theorem dX8_value_18 : decode cX8_value 18 = .ok (.invokestatic 177, 3) := by decide +kernel
theorem dX8_value_21 : decode cX8_value 21 = .ok (.ifCond .eq 12, 3) := by decide +kernel
theorem dX8_value_24 : decode cX8_value 24 = .ok (.aload_n 0, 1) := by decide +kernel
theorem dX8_value_25 : decode cX8_value 25 = .ok (.iload_n 1, 1) := by decide +kernel
theorem dX8_value_26 : decode cX8_value 26 = .ok (.iload_n 2, 1) := by decide +kernel
theorem dX8_value_27 : decode cX8_value 27 = .ok (.invokevirtual 156, 3) := by decide +kernel
theorem dX8_value_30 : decode cX8_value 30 = .ok (.goto 5, 3) := by decide +kernel
theorem dX8_value_33 : decode cX8_value 33 = .ok (.bipush (-2), 2) := by decide +kernel
theorem dX8_value_35 : decode cX8_value 35 = .ok (.ireturn, 1) := by decide +kernel
theorem dX8_winner_0 : decode cX8_winner 0 = .ok (.aload_n 0, 1) := by decide +kernel
theorem dX8_winner_1 : decode cX8_winner 1 = .ok (.iconst 0, 1) := by decide +kernel
theorem dX8_winner_2 : decode cX8_winner 2 = .ok (.putfield 56, 3) := by decide +kernel
theorem dX8_winner_5 : decode cX8_winner 5 = .ok (.aload_n 0, 1) := by decide +kernel
theorem dX8_winner_6 : decode cX8_winner 6 = .ok (.invokevirtual 165, 3) := by decide +kernel
theorem dX8_winner_9 : decode cX8_winner 9 = .ok (.aload_n 0, 1) := by decide +kernel
theorem dX8_winner_10 : decode cX8_winner 10 = .ok (.iload_n 1, 1) := by decide +kernel
theorem dX8_winner_11 : decode cX8_winner 11 = .ok (.invokevirtual 162, 3) := by decide +kernel
theorem dX8_winner_14 : decode cX8_winner 14 = .ok (.ifCond .eq 24, 3) := by decide +kernel
theorem dX8_winner_17 : decode cX8_winner 17 = .ok (.iload_n 2, 1) := by decide +kernel
theorem dX8_winner_18 : decode cX8_winner 18 = .ok (.invokestatic 177, 3) := by decide +kernel
theorem dX8_winner_21 : decode cX8_winner 21 = .ok (.ifCond .eq 17, 3) := by decide +kernel
theorem dX8_winner_24 : decode cX8_winner 24 = .ok (.iload_n 3, 1) := by decide +kernel
theorem dX8_winner_25 : decode cX8_winner 25 = .ok (.ifCond .lt 13, 3) := by decide +kernel
theorem dX8_winner_28 : decode cX8_winner 28 = .ok (.aload_n 0, 1) := by decide +kernel
theorem dX8_winner_29 : decode cX8_winner 29 = .ok (.iload_n 1, 1) := by decide +kernel
theorem dX8_winner_30 : decode cX8_winner 30 = .ok (.iload_n 2, 1) := by decide +kernel
theorem dX8_winner_31 : decode cX8_winner 31 = .ok (.iload_n 3, 1) := by decide +kernel
theorem dX8_winner_32 : decode cX8_winner 32 = .ok (.invokevirtual 149, 3) := by decide +kernel
theorem dX8_winner_35 : decode cX8_winner 35 = .ok (.goto 5, 3) := by decide +kernel
theorem dX8_winner_38 : decode cX8_winner 38 = .ok (.bipush (-2), 2) := by decide +kernel
theorem dX8_winner_40 : decode cX8_winner 40 = .ok (.ireturn, 1) := by decide +kernel
theorem dX8_source_0 : decode cX8_source 0 = .ok (.aload_n 0, 1) := by decide +kernel
theorem dX8_source_1 : decode cX8_source 1 = .ok (.iconst 0, 1) := by decide +kernel
theorem dX8_source_2 : decode cX8_source 2 = .ok (.putfield 56, 3) := by decide +kernel
theorem dX8_source_5 : decode cX8_source 5 = .ok (.aload_n 0, 1) := by decide +kernel
theorem dX8_source_6 : decode cX8_source 6 = .ok (.invokevirtual 165, 3) := by decide +kernel
theorem dX8_source_9 : decode cX8_source 9 = .ok (.aload_n 0, 1) := by decide +kernel
theorem dX8_source_10 : decode cX8_source 10 = .ok (.iload_n 1, 1) := by decide +kernel
theorem dX8_source_11 : decode cX8_source 11 = .ok (.invokevirtual 162, 3) := by decide +kernel
theorem dX8_source_14 : decode cX8_source 14 = .ok (.ifCond .eq 19, 3) := by decide +kernel
theorem dX8_source_17 : decode cX8_source 17 = .ok (.iload_n 2, 1) := by decide +kernel
theorem dX8_source_18 : decode cX8_source 18 = .ok (.invokestatic 177, 3) := by decide +kernel
theorem dX8_source_21 : decode cX8_source 21 = .ok (.ifCond .eq 12, 3) := by decide +kernel
theorem dX8_source_24 : decode cX8_source 24 = .ok (.aload_n 0, 1) := by decide +kernel
theorem dX8_source_25 : decode cX8_source 25 = .ok (.iload_n 1, 1) := by decide +kernel
theorem dX8_source_26 : decode cX8_source 26 = .ok (.iload_n 2, 1) := by decide +kernel
theorem dX8_source_27 : decode cX8_source 27 = .ok (.invokevirtual 153, 3) := by decide +kernel
theorem dX8_source_30 : decode cX8_source 30 = .ok (.goto 5, 3) := by decide +kernel
theorem dX8_source_33 : decode cX8_source 33 = .ok (.bipush (-2), 2) := by decide +kernel
theorem dX8_source_35 : decode cX8_source 35 = .ok (.ireturn, 1) := by decide +kernel
theorem dX8_lookedAt_0 : decode cX8_lookedAt 0 = .ok (.iconst 0, 1) := by decide +kernel
theorem dX8_lookedAt_1 : decode cX8_lookedAt 1 = .ok (.istore_n 3, 1) := by decide +kernel
theorem dX8_lookedAt_2 : decode cX8_lookedAt 2 = .ok (.aload_n 0, 1) := by decide +kernel
theorem dX8_lookedAt_3 : decode cX8_lookedAt 3 = .ok (.iload_n 1, 1) := by decide +kernel
theorem dX8_lookedAt_4 : decode cX8_lookedAt 4 = .ok (.invokevirtual 171, 3) := by decide +kernel
theorem dX8_lookedAt_7 : decode cX8_lookedAt 7 = .ok (.istore 4, 2) := by decide +kernel
theorem dX8_lookedAt_9 : decode cX8_lookedAt 9 = .ok (.iconst 0, 1) := by decide +kernel
theorem dX8_lookedAt_10 : decode cX8_lookedAt 10 = .ok (.istore 5, 2) := by decide +kernel
theorem dX8_lookedAt_12 : decode cX8_lookedAt 12 = .ok (.iload 5, 2) := by decide +kernel
theorem dX8_lookedAt_14 : decode cX8_lookedAt 14 = .ok (.aload_n 0, 1) := by decide +kernel
theorem dX8_lookedAt_15 : decode cX8_lookedAt 15 = .ok (.getfield 13, 3) := by decide +kernel
theorem dX8_lookedAt_18 : decode cX8_lookedAt 18 = .ok (.iconst 1, 1) := by decide +kernel
theorem dX8_lookedAt_19 : decode cX8_lookedAt 19 = .ok (.iaload, 1) := by decide +kernel
theorem dX8_lookedAt_20 : decode cX8_lookedAt 20 = .ok (.if_icmp .ge 157, 3) := by decide +kernel
theorem dX8_lookedAt_23 : decode cX8_lookedAt 23 = .ok (.aload_n 0, 1) := by decide +kernel
theorem dX8_lookedAt_24 : decode cX8_lookedAt 24 = .ok (.getfield 13, 3) := by decide +kernel
theorem dX8_lookedAt_27 : decode cX8_lookedAt 27 = .ok (.bipush 12, 2) := by decide +kernel
theorem dX8_lookedAt_29 : decode cX8_lookedAt 29 = .ok (.iload 5, 2) := by decide +kernel
theorem dX8_lookedAt_31 : decode cX8_lookedAt 31 = .ok (.iadd, 1) := by decide +kernel
theorem dX8_lookedAt_32 : decode cX8_lookedAt 32 = .ok (.iaload, 1) := by decide +kernel
theorem dX8_lookedAt_33 : decode cX8_lookedAt 33 = .ok (.iconst 1, 1) := by decide +kernel
theorem dX8_lookedAt_34 : decode cX8_lookedAt 34 = .ok (.isub, 1) := by decide +kernel
theorem dX8_lookedAt_35 : decode cX8_lookedAt 35 = .ok (.istore 6, 2) := by decide +kernel
theorem dX8_lookedAt_37 : decode cX8_lookedAt 37 = .ok (.iconst 0, 1) := by decide +kernel
theorem dX8_lookedAt_38 : decode cX8_lookedAt 38 = .ok (.istore 7, 2) := by decide +kernel
theorem dX8_lookedAt_40 : decode cX8_lookedAt 40 = .ok (.iload 7, 2) := by decide +kernel
theorem dX8_lookedAt_42 : decode cX8_lookedAt 42 = .ok (.iload 6, 2) := by decide +kernel
theorem dX8_lookedAt_44 : decode cX8_lookedAt 44 = .ok (.if_icmp .gt 127, 3) := by decide +kernel
theorem dX8_lookedAt_47 : decode cX8_lookedAt 47 = .ok (.aload_n 0, 1) := by decide +kernel
theorem dX8_lookedAt_48 : decode cX8_lookedAt 48 = .ok (.getfield 22, 3) := by decide +kernel
theorem dX8_lookedAt_51 : decode cX8_lookedAt 51 = .ok (.bipush 18, 2) := by decide +kernel
theorem dX8_lookedAt_53 : decode cX8_lookedAt 53 = .ok (.iaload, 1) := by decide +kernel
theorem dX8_lookedAt_54 : decode cX8_lookedAt 54 = .ok (.iload 5, 2) := by decide +kernel
theorem dX8_lookedAt_56 : decode cX8_lookedAt 56 = .ok (.invokestatic 105, 3) := by decide +kernel
theorem dX8_lookedAt_59 : decode cX8_lookedAt 59 = .ok (.ifCond .eq 112, 3) := by decide +kernel
theorem dX8_lookedAt_62 : decode cX8_lookedAt 62 = .ok (.aload_n 0, 1) := by decide +kernel
theorem dX8_lookedAt_63 : decode cX8_lookedAt 63 = .ok (.getfield 13, 3) := by decide +kernel
theorem dX8_lookedAt_66 : decode cX8_lookedAt 66 = .ok (.bipush 44, 2) := by decide +kernel
theorem dX8_lookedAt_68 : decode cX8_lookedAt 68 = .ok (.iconst 3, 1) := by decide +kernel
theorem dX8_lookedAt_69 : decode cX8_lookedAt 69 = .ok (.iload 5, 2) := by decide +kernel
theorem dX8_lookedAt_71 : decode cX8_lookedAt 71 = .ok (.imul, 1) := by decide +kernel
theorem dX8_lookedAt_72 : decode cX8_lookedAt 72 = .ok (.iadd, 1) := by decide +kernel
theorem dX8_lookedAt_73 : decode cX8_lookedAt 73 = .ok (.iload 7, 2) := by decide +kernel
theorem dX8_lookedAt_75 : decode cX8_lookedAt 75 = .ok (.iadd, 1) := by decide +kernel
theorem dX8_lookedAt_76 : decode cX8_lookedAt 76 = .ok (.iaload, 1) := by decide +kernel
theorem dX8_lookedAt_77 : decode cX8_lookedAt 77 = .ok (.iload_n 2, 1) := by decide +kernel
theorem dX8_lookedAt_78 : decode cX8_lookedAt 78 = .ok (.invokestatic 105, 3) := by decide +kernel
theorem dX8_lookedAt_81 : decode cX8_lookedAt 81 = .ok (.ifCond .eq 84, 3) := by decide +kernel
theorem dX8_lookedAt_84 : decode cX8_lookedAt 84 = .ok (.iload_n 3, 1) := by decide +kernel
theorem dX8_lookedAt_85 : decode cX8_lookedAt 85 = .ok (.iload 7, 2) := by decide +kernel
theorem dX8_lookedAt_87 : decode cX8_lookedAt 87 = .ok (.iload 6, 2) := by decide +kernel
theorem dX8_lookedAt_89 : decode cX8_lookedAt 89 = .ok (.if_icmp .ne 9, 3) := by decide +kernel
theorem dX8_lookedAt_92 : decode cX8_lookedAt 92 = .ok (.iconst 1, 1) := by decide +kernel
theorem dX8_lookedAt_93 : decode cX8_lookedAt 93 = .ok (.iload_n 1, 1) := by decide +kernel
theorem dX8_lookedAt_94 : decode cX8_lookedAt 94 = .ok (.ishl, 1) := by decide +kernel
theorem dX8_lookedAt_95 : decode cX8_lookedAt 95 = .ok (.goto 4, 3) := by decide +kernel
theorem dX8_lookedAt_98 : decode cX8_lookedAt 98 = .ok (.iconst 0, 1) := by decide +kernel
theorem dX8_lookedAt_99 : decode cX8_lookedAt 99 = .ok (.ior, 1) := by decide +kernel
theorem dX8_lookedAt_100 : decode cX8_lookedAt 100 = .ok (.istore_n 3, 1) := by decide +kernel
theorem dX8_lookedAt_101 : decode cX8_lookedAt 101 = .ok (.iconst 0, 1) := by decide +kernel
theorem dX8_lookedAt_102 : decode cX8_lookedAt 102 = .ok (.istore 8, 2) := by decide +kernel
theorem dX8_lookedAt_104 : decode cX8_lookedAt 104 = .ok (.iload 8, 2) := by decide +kernel
theorem dX8_lookedAt_106 : decode cX8_lookedAt 106 = .ok (.aload_n 0, 1) := by decide +kernel
theorem dX8_lookedAt_107 : decode cX8_lookedAt 107 = .ok (.getfield 13, 3) := by decide +kernel
theorem dX8_lookedAt_110 : decode cX8_lookedAt 110 = .ok (.iconst 0, 1) := by decide +kernel
theorem dX8_lookedAt_111 : decode cX8_lookedAt 111 = .ok (.iaload, 1) := by decide +kernel
theorem dX8_lookedAt_112 : decode cX8_lookedAt 112 = .ok (.if_icmp .ge 53, 3) := by decide +kernel
theorem dX8_lookedAt_115 : decode cX8_lookedAt 115 = .ok (.iload_n 3, 1) := by decide +kernel
theorem dX8_lookedAt_116 : decode cX8_lookedAt 116 = .ok (.iload 7, 2) := by decide +kernel
theorem dX8_lookedAt_118 : decode cX8_lookedAt 118 = .ok (.iload 6, 2) := by decide +kernel
theorem dX8_lookedAt_120 : decode cX8_lookedAt 120 = .ok (.if_icmp .ge 36, 3) := by decide +kernel
theorem dX8_lookedAt_123 : decode cX8_lookedAt 123 = .ok (.iload 4, 2) := by decide +kernel
theorem dX8_lookedAt_125 : decode cX8_lookedAt 125 = .ok (.iload 8, 2) := by decide +kernel
theorem dX8_lookedAt_127 : decode cX8_lookedAt 127 = .ok (.invokestatic 105, 3) := by decide +kernel
theorem dX8_lookedAt_130 : decode cX8_lookedAt 130 = .ok (.ifCond .eq 26, 3) := by decide +kernel
theorem dX8_lookedAt_133 : decode cX8_lookedAt 133 = .ok (.aload_n 0, 1) := by decide +kernel
theorem dX8_lookedAt_134 : decode cX8_lookedAt 134 = .ok (.iconst 3, 1) := by decide +kernel
theorem dX8_lookedAt_135 : decode cX8_lookedAt 135 = .ok (.iload 5, 2) := by decide +kernel
theorem dX8_lookedAt_137 : decode cX8_lookedAt 137 = .ok (.imul, 1) := by decide +kernel
theorem dX8_lookedAt_138 : decode cX8_lookedAt 138 = .ok (.iload 6, 2) := by decide +kernel
theorem dX8_lookedAt_140 : decode cX8_lookedAt 140 = .ok (.iadd, 1) := by decide +kernel
theorem dX8_lookedAt_141 : decode cX8_lookedAt 141 = .ok (.iload 8, 2) := by decide +kernel
theorem dX8_lookedAt_143 : decode cX8_lookedAt 143 = .ok (.invokevirtual 130, 3) := by decide +kernel
theorem dX8_lookedAt_146 : decode cX8_lookedAt 146 = .ok (.ifCond .eq 10, 3) := by decide +kernel
theorem dX8_lookedAt_149 : decode cX8_lookedAt 149 = .ok (.iconst 1, 1) := by decide +kernel
theorem dX8_lookedAt_150 : decode cX8_lookedAt 150 = .ok (.iload 8, 2) := by decide +kernel
theorem dX8_lookedAt_152 : decode cX8_lookedAt 152 = .ok (.ishl, 1) := by decide +kernel
theorem dX8_lookedAt_153 : decode cX8_lookedAt 153 = .ok (.goto 4, 3) := by decide +kernel
theorem dX8_lookedAt_156 : decode cX8_lookedAt 156 = .ok (.iconst 0, 1) := by decide +kernel
theorem dX8_lookedAt_157 : decode cX8_lookedAt 157 = .ok (.ior, 1) := by decide +kernel
theorem dX8_lookedAt_158 : decode cX8_lookedAt 158 = .ok (.istore_n 3, 1) := by decide +kernel
end
section
theorem dX8_lookedAt_159 : decode cX8_lookedAt 159 = .ok (.iinc 8 1, 3) := by decide +kernel
theorem dX8_lookedAt_162 : decode cX8_lookedAt 162 = .ok (.goto (-58), 3) := by decide +kernel
theorem dX8_lookedAt_165 : decode cX8_lookedAt 165 = .ok (.iinc 7 1, 3) := by decide +kernel
theorem dX8_lookedAt_168 : decode cX8_lookedAt 168 = .ok (.goto (-128), 3) := by decide +kernel
theorem dX8_lookedAt_171 : decode cX8_lookedAt 171 = .ok (.iinc 5 1, 3) := by decide +kernel
theorem dX8_lookedAt_174 : decode cX8_lookedAt 174 = .ok (.goto (-162), 3) := by decide +kernel
theorem dX8_lookedAt_177 : decode cX8_lookedAt 177 = .ok (.iload_n 3, 1) := by decide +kernel
theorem dX8_lookedAt_178 : decode cX8_lookedAt 178 = .ok (.ireturn, 1) := by decide +kernel
theorem dX8_different_0 : decode cX8_different 0 = .ok (.aload_n 0, 1) := by decide +kernel
theorem dX8_different_1 : decode cX8_different 1 = .ok (.invokevirtual 165, 3) := by decide +kernel
theorem dX8_different_4 : decode cX8_different 4 = .ok (.iconst 0, 1) := by decide +kernel
theorem dX8_different_5 : decode cX8_different 5 = .ok (.istore_n 3, 1) := by decide +kernel
theorem dX8_different_6 : decode cX8_different 6 = .ok (.iload_n 3, 1) := by decide +kernel
theorem dX8_different_7 : decode cX8_different 7 = .ok (.iconst 4, 1) := by decide +kernel
theorem dX8_different_8 : decode cX8_different 8 = .ok (.aload_n 0, 1) := by decide +kernel
theorem dX8_different_9 : decode cX8_different 9 = .ok (.getfield 13, 3) := by decide +kernel
theorem dX8_different_12 : decode cX8_different 12 = .ok (.iconst 0, 1) := by decide +kernel
theorem dX8_different_13 : decode cX8_different 13 = .ok (.iaload, 1) := by decide +kernel
theorem dX8_different_14 : decode cX8_different 14 = .ok (.imul, 1) := by decide +kernel
theorem dX8_different_15 : decode cX8_different 15 = .ok (.if_icmp .ge 25, 3) := by decide +kernel
theorem dX8_different_18 : decode cX8_different 18 = .ok (.aload_n 0, 1) := by decide +kernel
theorem dX8_different_19 : decode cX8_different 19 = .ok (.getfield 44, 3) := by decide +kernel
theorem dX8_different_22 : decode cX8_different 22 = .ok (.iload_n 3, 1) := by decide +kernel
theorem dX8_different_23 : decode cX8_different 23 = .ok (.aload_n 0, 1) := by decide +kernel
theorem dX8_different_24 : decode cX8_different 24 = .ok (.iload_n 3, 1) := by decide +kernel
theorem dX8_different_25 : decode cX8_different 25 = .ok (.iconst 4, 1) := by decide +kernel
theorem dX8_different_26 : decode cX8_different 26 = .ok (.idiv, 1) := by decide +kernel
theorem dX8_different_27 : decode cX8_different 27 = .ok (.iload_n 3, 1) := by decide +kernel
theorem dX8_different_28 : decode cX8_different 28 = .ok (.iconst 4, 1) := by decide +kernel
theorem dX8_different_29 : decode cX8_different 29 = .ok (.irem, 1) := by decide +kernel
theorem dX8_different_30 : decode cX8_different 30 = .ok (.invokevirtual 156, 3) := by decide +kernel
theorem dX8_different_33 : decode cX8_different 33 = .ok (.iastore, 1) := by decide +kernel
theorem dX8_different_34 : decode cX8_different 34 = .ok (.iinc 3 1, 3) := by decide +kernel
theorem dX8_different_37 : decode cX8_different 37 = .ok (.goto (-31), 3) := by decide +kernel
theorem dX8_different_40 : decode cX8_different 40 = .ok (.aload_n 0, 1) := by decide +kernel
theorem dX8_different_41 : decode cX8_different 41 = .ok (.getfield 22, 3) := by decide +kernel
theorem dX8_different_44 : decode cX8_different 44 = .ok (.bipush 9, 2) := by decide +kernel
theorem dX8_different_46 : decode cX8_different 46 = .ok (.iload_n 1, 1) := by decide +kernel
theorem dX8_different_47 : decode cX8_different 47 = .ok (.iadd, 1) := by decide +kernel
theorem dX8_different_48 : decode cX8_different 48 = .ok (.dup2, 1) := by decide +kernel
theorem dX8_different_49 : decode cX8_different 49 = .ok (.iaload, 1) := by decide +kernel
theorem dX8_different_50 : decode cX8_different 50 = .ok (.iconst 1, 1) := by decide +kernel
theorem dX8_different_51 : decode cX8_different 51 = .ok (.iload_n 2, 1) := by decide +kernel
theorem dX8_different_52 : decode cX8_different 52 = .ok (.ishl, 1) := by decide +kernel
theorem dX8_different_53 : decode cX8_different 53 = .ok (.ixor, 1) := by decide +kernel
theorem dX8_different_54 : decode cX8_different 54 = .ok (.iastore, 1) := by decide +kernel
theorem dX8_different_55 : decode cX8_different 55 = .ok (.aload_n 0, 1) := by decide +kernel
theorem dX8_different_56 : decode cX8_different 56 = .ok (.invokevirtual 165, 3) := by decide +kernel
theorem dX8_different_59 : decode cX8_different 59 = .ok (.iconst 0, 1) := by decide +kernel
theorem dX8_different_60 : decode cX8_different 60 = .ok (.istore_n 3, 1) := by decide +kernel
theorem dX8_different_61 : decode cX8_different 61 = .ok (.iconst 0, 1) := by decide +kernel
theorem dX8_different_62 : decode cX8_different 62 = .ok (.istore 4, 2) := by decide +kernel
theorem dX8_different_64 : decode cX8_different 64 = .ok (.iload 4, 2) := by decide +kernel
theorem dX8_different_66 : decode cX8_different 66 = .ok (.iconst 4, 1) := by decide +kernel
theorem dX8_different_67 : decode cX8_different 67 = .ok (.aload_n 0, 1) := by decide +kernel
theorem dX8_different_68 : decode cX8_different 68 = .ok (.getfield 13, 3) := by decide +kernel
theorem dX8_different_71 : decode cX8_different 71 = .ok (.iconst 0, 1) := by decide +kernel
theorem dX8_different_72 : decode cX8_different 72 = .ok (.iaload, 1) := by decide +kernel
theorem dX8_different_73 : decode cX8_different 73 = .ok (.imul, 1) := by decide +kernel
theorem dX8_different_74 : decode cX8_different 74 = .ok (.if_icmp .ge 44, 3) := by decide +kernel
theorem dX8_different_77 : decode cX8_different 77 = .ok (.iload_n 3, 1) := by decide +kernel
theorem dX8_different_78 : decode cX8_different 78 = .ok (.aload_n 0, 1) := by decide +kernel
theorem dX8_different_79 : decode cX8_different 79 = .ok (.iload 4, 2) := by decide +kernel
theorem dX8_different_81 : decode cX8_different 81 = .ok (.iconst 4, 1) := by decide +kernel
theorem dX8_different_82 : decode cX8_different 82 = .ok (.idiv, 1) := by decide +kernel
theorem dX8_different_83 : decode cX8_different 83 = .ok (.iload 4, 2) := by decide +kernel
theorem dX8_different_85 : decode cX8_different 85 = .ok (.iconst 4, 1) := by decide +kernel
theorem dX8_different_86 : decode cX8_different 86 = .ok (.irem, 1) := by decide +kernel
theorem dX8_different_87 : decode cX8_different 87 = .ok (.invokevirtual 156, 3) := by decide +kernel
theorem dX8_different_90 : decode cX8_different 90 = .ok (.aload_n 0, 1) := by decide +kernel
theorem dX8_different_91 : decode cX8_different 91 = .ok (.getfield 44, 3) := by decide +kernel
theorem dX8_different_94 : decode cX8_different 94 = .ok (.iload 4, 2) := by decide +kernel
theorem dX8_different_96 : decode cX8_different 96 = .ok (.iaload, 1) := by decide +kernel
theorem dX8_different_97 : decode cX8_different 97 = .ok (.if_icmp .eq 12, 3) := by decide +kernel
theorem dX8_different_100 : decode cX8_different 100 = .ok (.iconst 1, 1) := by decide +kernel
theorem dX8_different_101 : decode cX8_different 101 = .ok (.iload 4, 2) := by decide +kernel
theorem dX8_different_103 : decode cX8_different 103 = .ok (.iconst 4, 1) := by decide +kernel
theorem dX8_different_104 : decode cX8_different 104 = .ok (.idiv, 1) := by decide +kernel
theorem dX8_different_105 : decode cX8_different 105 = .ok (.ishl, 1) := by decide +kernel
theorem dX8_different_106 : decode cX8_different 106 = .ok (.goto 4, 3) := by decide +kernel
theorem dX8_different_109 : decode cX8_different 109 = .ok (.iconst 0, 1) := by decide +kernel
theorem dX8_different_110 : decode cX8_different 110 = .ok (.ior, 1) := by decide +kernel
theorem dX8_different_111 : decode cX8_different 111 = .ok (.istore_n 3, 1) := by decide +kernel
theorem dX8_different_112 : decode cX8_different 112 = .ok (.iinc 4 1, 3) := by decide +kernel
theorem dX8_different_115 : decode cX8_different 115 = .ok (.goto (-51), 3) := by decide +kernel
theorem dX8_different_118 : decode cX8_different 118 = .ok (.aload_n 0, 1) := by decide +kernel
theorem dX8_different_119 : decode cX8_different 119 = .ok (.getfield 22, 3) := by decide +kernel
theorem dX8_different_122 : decode cX8_different 122 = .ok (.bipush 9, 2) := by decide +kernel
theorem dX8_different_124 : decode cX8_different 124 = .ok (.iload_n 1, 1) := by decide +kernel
theorem dX8_different_125 : decode cX8_different 125 = .ok (.iadd, 1) := by decide +kernel
theorem dX8_different_126 : decode cX8_different 126 = .ok (.dup2, 1) := by decide +kernel
theorem dX8_different_127 : decode cX8_different 127 = .ok (.iaload, 1) := by decide +kernel
theorem dX8_different_128 : decode cX8_different 128 = .ok (.iconst 1, 1) := by decide +kernel
theorem dX8_different_129 : decode cX8_different 129 = .ok (.iload_n 2, 1) := by decide +kernel
theorem dX8_different_130 : decode cX8_different 130 = .ok (.ishl, 1) := by decide +kernel
theorem dX8_different_131 : decode cX8_different 131 = .ok (.ixor, 1) := by decide +kernel
theorem dX8_different_132 : decode cX8_different 132 = .ok (.iastore, 1) := by decide +kernel
theorem dX8_different_133 : decode cX8_different 133 = .ok (.iload_n 3, 1) := by decide +kernel
theorem dX8_different_134 : decode cX8_different 134 = .ok (.ireturn, 1) := by decide +kernel
theorem dX8_change_0 : decode cX8_change 0 = .ok (.aload_n 0, 1) := by decide +kernel
theorem dX8_change_1 : decode cX8_change 1 = .ok (.iconst 0, 1) := by decide +kernel
theorem dX8_change_2 : decode cX8_change 2 = .ok (.putfield 56, 3) := by decide +kernel
theorem dX8_change_5 : decode cX8_change 5 = .ok (.aload_n 0, 1) := by decide +kernel
theorem dX8_change_6 : decode cX8_change 6 = .ok (.iload_n 1, 1) := by decide +kernel
theorem dX8_change_7 : decode cX8_change 7 = .ok (.invokevirtual 162, 3) := by decide +kernel
theorem dX8_change_10 : decode cX8_change 10 = .ok (.ifCond .eq 19, 3) := by decide +kernel
theorem dX8_change_13 : decode cX8_change 13 = .ok (.iload_n 2, 1) := by decide +kernel
theorem dX8_change_14 : decode cX8_change 14 = .ok (.invokestatic 177, 3) := by decide +kernel
theorem dX8_change_17 : decode cX8_change 17 = .ok (.ifCond .eq 12, 3) := by decide +kernel
theorem dX8_change_20 : decode cX8_change 20 = .ok (.iload_n 3, 1) := by decide +kernel
theorem dX8_change_21 : decode cX8_change 21 = .ok (.iconst 0, 1) := by decide +kernel
theorem dX8_change_22 : decode cX8_change 22 = .ok (.iconst 1, 1) := by decide +kernel
theorem dX8_change_23 : decode cX8_change 23 = .ok (.invokestatic 60, 3) := by decide +kernel
theorem dX8_change_26 : decode cX8_change 26 = .ok (.ifCond .ne 6, 3) := by decide +kernel
theorem dX8_change_29 : decode cX8_change 29 = .ok (.bipush (-2), 2) := by decide +kernel
theorem dX8_change_31 : decode cX8_change 31 = .ok (.ireturn, 1) := by decide +kernel
theorem dX8_change_32 : decode cX8_change 32 = .ok (.iload_n 3, 1) := by decide +kernel
theorem dX8_change_33 : decode cX8_change 33 = .ok (.ifCond .ne 12, 3) := by decide +kernel
theorem dX8_change_36 : decode cX8_change 36 = .ok (.aload_n 0, 1) := by decide +kernel
theorem dX8_change_37 : decode cX8_change 37 = .ok (.iload_n 1, 1) := by decide +kernel
theorem dX8_change_38 : decode cX8_change 38 = .ok (.iload_n 2, 1) := by decide +kernel
theorem dX8_change_39 : decode cX8_change 39 = .ok (.invokevirtual 183, 3) := by decide +kernel
theorem dX8_change_42 : decode cX8_change 42 = .ok (.goto 9, 3) := by decide +kernel
theorem dX8_change_45 : decode cX8_change 45 = .ok (.aload_n 0, 1) := by decide +kernel
theorem dX8_change_46 : decode cX8_change 46 = .ok (.iload_n 1, 1) := by decide +kernel
theorem dX8_change_47 : decode cX8_change 47 = .ok (.iload_n 2, 1) := by decide +kernel
theorem dX8_change_48 : decode cX8_change 48 = .ok (.invokevirtual 186, 3) := by decide +kernel
theorem dX8_change_51 : decode cX8_change 51 = .ok (.ireturn, 1) := by decide +kernel
theorem dX8_valueBy_0 : decode cX8_valueBy 0 = .ok (.aload_n 0, 1) := by decide +kernel
theorem dX8_valueBy_1 : decode cX8_valueBy 1 = .ok (.getfield 22, 3) := by decide +kernel
theorem dX8_valueBy_4 : decode cX8_valueBy 4 = .ok (.bipush 18, 2) := by decide +kernel
theorem dX8_valueBy_6 : decode cX8_valueBy 6 = .ok (.dup2, 1) := by decide +kernel
theorem dX8_valueBy_7 : decode cX8_valueBy 7 = .ok (.iaload, 1) := by decide +kernel
theorem dX8_valueBy_8 : decode cX8_valueBy 8 = .ok (.iconst 1, 1) := by decide +kernel
theorem dX8_valueBy_9 : decode cX8_valueBy 9 = .ok (.iload_n 1, 1) := by decide +kernel
theorem dX8_valueBy_10 : decode cX8_valueBy 10 = .ok (.ishl, 1) := by decide +kernel
theorem dX8_valueBy_11 : decode cX8_valueBy 11 = .ok (.ixor, 1) := by decide +kernel
theorem dX8_valueBy_12 : decode cX8_valueBy 12 = .ok (.iastore, 1) := by decide +kernel
theorem dX8_valueBy_13 : decode cX8_valueBy 13 = .ok (.aload_n 0, 1) := by decide +kernel
theorem dX8_valueBy_14 : decode cX8_valueBy 14 = .ok (.invokevirtual 165, 3) := by decide +kernel
theorem dX8_valueBy_17 : decode cX8_valueBy 17 = .ok (.aload_n 0, 1) := by decide +kernel
theorem dX8_valueBy_18 : decode cX8_valueBy 18 = .ok (.iload_n 2, 1) := by decide +kernel
theorem dX8_valueBy_19 : decode cX8_valueBy 19 = .ok (.iload_n 3, 1) := by decide +kernel
theorem dX8_valueBy_20 : decode cX8_valueBy 20 = .ok (.invokevirtual 156, 3) := by decide +kernel
theorem dX8_valueBy_23 : decode cX8_valueBy 23 = .ok (.istore 4, 2) := by decide +kernel
theorem dX8_valueBy_25 : decode cX8_valueBy 25 = .ok (.aload_n 0, 1) := by decide +kernel
theorem dX8_valueBy_26 : decode cX8_valueBy 26 = .ok (.getfield 22, 3) := by decide +kernel
theorem dX8_valueBy_29 : decode cX8_valueBy 29 = .ok (.bipush 18, 2) := by decide +kernel
theorem dX8_valueBy_31 : decode cX8_valueBy 31 = .ok (.dup2, 1) := by decide +kernel
theorem dX8_valueBy_32 : decode cX8_valueBy 32 = .ok (.iaload, 1) := by decide +kernel
theorem dX8_valueBy_33 : decode cX8_valueBy 33 = .ok (.iconst 1, 1) := by decide +kernel
theorem dX8_valueBy_34 : decode cX8_valueBy 34 = .ok (.iload_n 1, 1) := by decide +kernel
theorem dX8_valueBy_35 : decode cX8_valueBy 35 = .ok (.ishl, 1) := by decide +kernel
theorem dX8_valueBy_36 : decode cX8_valueBy 36 = .ok (.ixor, 1) := by decide +kernel
theorem dX8_valueBy_37 : decode cX8_valueBy 37 = .ok (.iastore, 1) := by decide +kernel
theorem dX8_valueBy_38 : decode cX8_valueBy 38 = .ok (.iload 4, 2) := by decide +kernel
theorem dX8_valueBy_40 : decode cX8_valueBy 40 = .ok (.ireturn, 1) := by decide +kernel
theorem dX8_wanted_0 : decode cX8_wanted 0 = .ok (.aload_n 0, 1) := by decide +kernel
theorem dX8_wanted_1 : decode cX8_wanted 1 = .ok (.iconst 0, 1) := by decide +kernel
theorem dX8_wanted_2 : decode cX8_wanted 2 = .ok (.putfield 56, 3) := by decide +kernel
theorem dX8_wanted_5 : decode cX8_wanted 5 = .ok (.aload_n 0, 1) := by decide +kernel
theorem dX8_wanted_6 : decode cX8_wanted 6 = .ok (.iload_n 1, 1) := by decide +kernel
theorem dX8_wanted_7 : decode cX8_wanted 7 = .ok (.invokevirtual 162, 3) := by decide +kernel
theorem dX8_wanted_10 : decode cX8_wanted 10 = .ok (.ifCond .eq 20, 3) := by decide +kernel
theorem dX8_wanted_13 : decode cX8_wanted 13 = .ok (.iload_n 2, 1) := by decide +kernel
theorem dX8_wanted_14 : decode cX8_wanted 14 = .ok (.invokestatic 177, 3) := by decide +kernel
theorem dX8_wanted_17 : decode cX8_wanted 17 = .ok (.ifCond .eq 13, 3) := by decide +kernel
theorem dX8_wanted_20 : decode cX8_wanted 20 = .ok (.iload_n 3, 1) := by decide +kernel
theorem dX8_wanted_21 : decode cX8_wanted 21 = .ok (.iconst 0, 1) := by decide +kernel
theorem dX8_wanted_22 : decode cX8_wanted 22 = .ok (.bipush 9, 2) := by decide +kernel
theorem dX8_wanted_24 : decode cX8_wanted 24 = .ok (.invokestatic 60, 3) := by decide +kernel
theorem dX8_wanted_27 : decode cX8_wanted 27 = .ok (.ifCond .ne 6, 3) := by decide +kernel
theorem dX8_wanted_30 : decode cX8_wanted 30 = .ok (.bipush (-2), 2) := by decide +kernel
theorem dX8_wanted_32 : decode cX8_wanted 32 = .ok (.ireturn, 1) := by decide +kernel
theorem dX8_wanted_33 : decode cX8_wanted 33 = .ok (.aload_n 0, 1) := by decide +kernel
theorem dX8_wanted_34 : decode cX8_wanted 34 = .ok (.invokevirtual 165, 3) := by decide +kernel
theorem dX8_wanted_37 : decode cX8_wanted 37 = .ok (.aload_n 0, 1) := by decide +kernel
theorem dX8_wanted_38 : decode cX8_wanted 38 = .ok (.iload_n 1, 1) := by decide +kernel
theorem dX8_wanted_39 : decode cX8_wanted 39 = .ok (.iload_n 2, 1) := by decide +kernel
theorem dX8_wanted_40 : decode cX8_wanted 40 = .ok (.invokevirtual 156, 3) := by decide +kernel
theorem dX8_wanted_43 : decode cX8_wanted 43 = .ok (.iload_n 3, 1) := by decide +kernel
theorem dX8_wanted_44 : decode cX8_wanted 44 = .ok (.if_icmp .ne 5, 3) := by decide +kernel
theorem dX8_wanted_47 : decode cX8_wanted 47 = .ok (.iconst (-1), 1) := by decide +kernel
theorem dX8_wanted_48 : decode cX8_wanted 48 = .ok (.ireturn, 1) := by decide +kernel
theorem dX8_wanted_49 : decode cX8_wanted 49 = .ok (.bipush (-9), 2) := by decide +kernel
theorem dX8_wanted_51 : decode cX8_wanted 51 = .ok (.istore 4, 2) := by decide +kernel
theorem dX8_wanted_53 : decode cX8_wanted 53 = .ok (.iconst 4, 1) := by decide +kernel
theorem dX8_wanted_54 : decode cX8_wanted 54 = .ok (.aload_n 0, 1) := by decide +kernel
theorem dX8_wanted_55 : decode cX8_wanted 55 = .ok (.getfield 13, 3) := by decide +kernel
theorem dX8_wanted_58 : decode cX8_wanted 58 = .ok (.iconst 0, 1) := by decide +kernel
theorem dX8_wanted_59 : decode cX8_wanted 59 = .ok (.iaload, 1) := by decide +kernel
theorem dX8_wanted_60 : decode cX8_wanted 60 = .ok (.imul, 1) := by decide +kernel
theorem dX8_wanted_61 : decode cX8_wanted 61 = .ok (.iconst 1, 1) := by decide +kernel
theorem dX8_wanted_62 : decode cX8_wanted 62 = .ok (.isub, 1) := by decide +kernel
theorem dX8_wanted_63 : decode cX8_wanted 63 = .ok (.istore 5, 2) := by decide +kernel
theorem dX8_wanted_65 : decode cX8_wanted 65 = .ok (.iload 5, 2) := by decide +kernel
theorem dX8_wanted_67 : decode cX8_wanted 67 = .ok (.ifCond .lt 74, 3) := by decide +kernel
theorem dX8_wanted_70 : decode cX8_wanted 70 = .ok (.aload_n 0, 1) := by decide +kernel
theorem dX8_wanted_71 : decode cX8_wanted 71 = .ok (.getfield 22, 3) := by decide +kernel
theorem dX8_wanted_74 : decode cX8_wanted 74 = .ok (.bipush 9, 2) := by decide +kernel
theorem dX8_wanted_76 : decode cX8_wanted 76 = .ok (.iload 5, 2) := by decide +kernel
theorem dX8_wanted_78 : decode cX8_wanted 78 = .ok (.iconst 4, 1) := by decide +kernel
theorem dX8_wanted_79 : decode cX8_wanted 79 = .ok (.idiv, 1) := by decide +kernel
theorem dX8_wanted_80 : decode cX8_wanted 80 = .ok (.iadd, 1) := by decide +kernel
theorem dX8_wanted_81 : decode cX8_wanted 81 = .ok (.dup2, 1) := by decide +kernel
theorem dX8_wanted_82 : decode cX8_wanted 82 = .ok (.iaload, 1) := by decide +kernel
theorem dX8_wanted_83 : decode cX8_wanted 83 = .ok (.iconst 1, 1) := by decide +kernel
theorem dX8_wanted_84 : decode cX8_wanted 84 = .ok (.iload 5, 2) := by decide +kernel
theorem dX8_wanted_86 : decode cX8_wanted 86 = .ok (.iconst 4, 1) := by decide +kernel
theorem dX8_wanted_87 : decode cX8_wanted 87 = .ok (.irem, 1) := by decide +kernel
theorem dX8_wanted_88 : decode cX8_wanted 88 = .ok (.ishl, 1) := by decide +kernel
theorem dX8_wanted_89 : decode cX8_wanted 89 = .ok (.ixor, 1) := by decide +kernel
theorem dX8_wanted_90 : decode cX8_wanted 90 = .ok (.iastore, 1) := by decide +kernel
theorem dX8_wanted_91 : decode cX8_wanted 91 = .ok (.aload_n 0, 1) := by decide +kernel
theorem dX8_wanted_92 : decode cX8_wanted 92 = .ok (.invokevirtual 165, 3) := by decide +kernel
theorem dX8_wanted_95 : decode cX8_wanted 95 = .ok (.aload_n 0, 1) := by decide +kernel
theorem dX8_wanted_96 : decode cX8_wanted 96 = .ok (.iload_n 1, 1) := by decide +kernel
theorem dX8_wanted_97 : decode cX8_wanted 97 = .ok (.iload_n 2, 1) := by decide +kernel
theorem dX8_wanted_98 : decode cX8_wanted 98 = .ok (.invokevirtual 156, 3) := by decide +kernel
theorem dX8_wanted_101 : decode cX8_wanted 101 = .ok (.iload_n 3, 1) := by decide +kernel
theorem dX8_wanted_102 : decode cX8_wanted 102 = .ok (.if_icmp .ne 8, 3) := by decide +kernel
theorem dX8_wanted_105 : decode cX8_wanted 105 = .ok (.iload 5, 2) := by decide +kernel
theorem dX8_wanted_107 : decode cX8_wanted 107 = .ok (.goto 5, 3) := by decide +kernel
theorem dX8_wanted_110 : decode cX8_wanted 110 = .ok (.iload 4, 2) := by decide +kernel
theorem dX8_wanted_112 : decode cX8_wanted 112 = .ok (.istore 4, 2) := by decide +kernel
theorem dX8_wanted_114 : decode cX8_wanted 114 = .ok (.aload_n 0, 1) := by decide +kernel
theorem dX8_wanted_115 : decode cX8_wanted 115 = .ok (.getfield 22, 3) := by decide +kernel
theorem dX8_wanted_118 : decode cX8_wanted 118 = .ok (.bipush 9, 2) := by decide +kernel
theorem dX8_wanted_120 : decode cX8_wanted 120 = .ok (.iload 5, 2) := by decide +kernel
theorem dX8_wanted_122 : decode cX8_wanted 122 = .ok (.iconst 4, 1) := by decide +kernel
theorem dX8_wanted_123 : decode cX8_wanted 123 = .ok (.idiv, 1) := by decide +kernel
theorem dX8_wanted_124 : decode cX8_wanted 124 = .ok (.iadd, 1) := by decide +kernel
theorem dX8_wanted_125 : decode cX8_wanted 125 = .ok (.dup2, 1) := by decide +kernel
theorem dX8_wanted_126 : decode cX8_wanted 126 = .ok (.iaload, 1) := by decide +kernel
theorem dX8_wanted_127 : decode cX8_wanted 127 = .ok (.iconst 1, 1) := by decide +kernel
theorem dX8_wanted_128 : decode cX8_wanted 128 = .ok (.iload 5, 2) := by decide +kernel
theorem dX8_wanted_130 : decode cX8_wanted 130 = .ok (.iconst 4, 1) := by decide +kernel
theorem dX8_wanted_131 : decode cX8_wanted 131 = .ok (.irem, 1) := by decide +kernel
theorem dX8_wanted_132 : decode cX8_wanted 132 = .ok (.ishl, 1) := by decide +kernel
theorem dX8_wanted_133 : decode cX8_wanted 133 = .ok (.ixor, 1) := by decide +kernel
theorem dX8_wanted_134 : decode cX8_wanted 134 = .ok (.iastore, 1) := by decide +kernel
theorem dX8_wanted_135 : decode cX8_wanted 135 = .ok (.iinc 5 (-1), 3) := by decide +kernel
theorem dX8_wanted_138 : decode cX8_wanted 138 = .ok (.goto (-73), 3) := by decide +kernel
theorem dX8_wanted_141 : decode cX8_wanted 141 = .ok (.iconst 0, 1) := by decide +kernel
theorem dX8_wanted_142 : decode cX8_wanted 142 = .ok (.istore 5, 2) := by decide +kernel
theorem dX8_wanted_144 : decode cX8_wanted 144 = .ok (.iload 5, 2) := by decide +kernel
theorem dX8_wanted_146 : decode cX8_wanted 146 = .ok (.aload_n 0, 1) := by decide +kernel
theorem dX8_wanted_147 : decode cX8_wanted 147 = .ok (.getfield 13, 3) := by decide +kernel
theorem dX8_wanted_150 : decode cX8_wanted 150 = .ok (.iconst 1, 1) := by decide +kernel
theorem dX8_wanted_151 : decode cX8_wanted 151 = .ok (.iaload, 1) := by decide +kernel
theorem dX8_wanted_152 : decode cX8_wanted 152 = .ok (.if_icmp .ge 40, 3) := by decide +kernel
theorem dX8_wanted_155 : decode cX8_wanted 155 = .ok (.iload 4, 2) := by decide +kernel
theorem dX8_wanted_157 : decode cX8_wanted 157 = .ok (.bipush (-9), 2) := by decide +kernel
theorem dX8_wanted_159 : decode cX8_wanted 159 = .ok (.if_icmp .ne 33, 3) := by decide +kernel
theorem dX8_wanted_162 : decode cX8_wanted 162 = .ok (.aload_n 0, 1) := by decide +kernel
theorem dX8_wanted_163 : decode cX8_wanted 163 = .ok (.iload 5, 2) := by decide +kernel
theorem dX8_wanted_165 : decode cX8_wanted 165 = .ok (.iload_n 1, 1) := by decide +kernel
theorem dX8_wanted_166 : decode cX8_wanted 166 = .ok (.iload_n 2, 1) := by decide +kernel
theorem dX8_wanted_167 : decode cX8_wanted 167 = .ok (.invokevirtual 189, 3) := by decide +kernel
theorem dX8_wanted_170 : decode cX8_wanted 170 = .ok (.iload_n 3, 1) := by decide +kernel
theorem dX8_wanted_171 : decode cX8_wanted 171 = .ok (.if_icmp .ne 11, 3) := by decide +kernel
theorem dX8_wanted_174 : decode cX8_wanted 174 = .ok (.bipush 100, 2) := by decide +kernel
theorem dX8_wanted_176 : decode cX8_wanted 176 = .ok (.iload 5, 2) := by decide +kernel
theorem dX8_wanted_178 : decode cX8_wanted 178 = .ok (.iadd, 1) := by decide +kernel
theorem dX8_wanted_179 : decode cX8_wanted 179 = .ok (.goto 5, 3) := by decide +kernel
theorem dX8_wanted_182 : decode cX8_wanted 182 = .ok (.iload 4, 2) := by decide +kernel
theorem dX8_wanted_184 : decode cX8_wanted 184 = .ok (.istore 4, 2) := by decide +kernel
theorem dX8_wanted_186 : decode cX8_wanted 186 = .ok (.iinc 5 1, 3) := by decide +kernel
theorem dX8_wanted_189 : decode cX8_wanted 189 = .ok (.goto (-45), 3) := by decide +kernel
theorem dX8_wanted_192 : decode cX8_wanted 192 = .ok (.iload 4, 2) := by decide +kernel
theorem dX8_wanted_194 : decode cX8_wanted 194 = .ok (.ireturn, 1) := by decide +kernel
theorem dX8_sees_0 : decode cX8_sees 0 = .ok (.aload_n 0, 1) := by decide +kernel
theorem dX8_sees_1 : decode cX8_sees 1 = .ok (.iconst 0, 1) := by decide +kernel
theorem dX8_sees_2 : decode cX8_sees 2 = .ok (.putfield 56, 3) := by decide +kernel
theorem dX8_sees_5 : decode cX8_sees 5 = .ok (.aload_n 0, 1) := by decide +kernel
theorem dX8_sees_6 : decode cX8_sees 6 = .ok (.iload_n 1, 1) := by decide +kernel
theorem dX8_sees_7 : decode cX8_sees 7 = .ok (.invokevirtual 162, 3) := by decide +kernel
theorem dX8_sees_10 : decode cX8_sees 10 = .ok (.ifCond .eq 20, 3) := by decide +kernel
theorem dX8_sees_13 : decode cX8_sees 13 = .ok (.iload_n 2, 1) := by decide +kernel
theorem dX8_sees_14 : decode cX8_sees 14 = .ok (.invokestatic 177, 3) := by decide +kernel
theorem dX8_sees_17 : decode cX8_sees 17 = .ok (.ifCond .eq 13, 3) := by decide +kernel
theorem dX8_sees_20 : decode cX8_sees 20 = .ok (.iload_n 3, 1) := by decide +kernel
theorem dX8_sees_21 : decode cX8_sees 21 = .ok (.iconst 0, 1) := by decide +kernel
theorem dX8_sees_22 : decode cX8_sees 22 = .ok (.bipush 9, 2) := by decide +kernel
theorem dX8_sees_24 : decode cX8_sees 24 = .ok (.invokestatic 60, 3) := by decide +kernel
theorem dX8_sees_27 : decode cX8_sees 27 = .ok (.ifCond .ne 6, 3) := by decide +kernel
theorem dX8_sees_30 : decode cX8_sees 30 = .ok (.bipush (-2), 2) := by decide +kernel
theorem dX8_sees_32 : decode cX8_sees 32 = .ok (.ireturn, 1) := by decide +kernel
theorem dX8_sees_33 : decode cX8_sees 33 = .ok (.aload_n 0, 1) := by decide +kernel
theorem dX8_sees_34 : decode cX8_sees 34 = .ok (.getfield 124, 3) := by decide +kernel
theorem dX8_sees_37 : decode cX8_sees 37 = .ok (.bipush 6, 2) := by decide +kernel
theorem dX8_sees_39 : decode cX8_sees 39 = .ok (.if_icmp .ne 6, 3) := by decide +kernel
theorem dX8_sees_42 : decode cX8_sees 42 = .ok (.bipush (-4), 2) := by decide +kernel
theorem dX8_sees_44 : decode cX8_sees 44 = .ok (.ireturn, 1) := by decide +kernel
theorem dX8_sees_45 : decode cX8_sees 45 = .ok (.aload_n 0, 1) := by decide +kernel
theorem dX8_sees_46 : decode cX8_sees 46 = .ok (.getfield 35, 3) := by decide +kernel
theorem dX8_sees_49 : decode cX8_sees 49 = .ok (.aload_n 0, 1) := by decide +kernel
theorem dX8_sees_50 : decode cX8_sees 50 = .ok (.getfield 124, 3) := by decide +kernel
theorem dX8_sees_53 : decode cX8_sees 53 = .ok (.iload_n 1, 1) := by decide +kernel
theorem dX8_sees_54 : decode cX8_sees 54 = .ok (.iastore, 1) := by decide +kernel
theorem dX8_sees_55 : decode cX8_sees 55 = .ok (.aload_n 0, 1) := by decide +kernel
theorem dX8_sees_56 : decode cX8_sees 56 = .ok (.getfield 38, 3) := by decide +kernel
theorem dX8_sees_59 : decode cX8_sees 59 = .ok (.aload_n 0, 1) := by decide +kernel
theorem dX8_sees_60 : decode cX8_sees 60 = .ok (.getfield 124, 3) := by decide +kernel
theorem dX8_sees_63 : decode cX8_sees 63 = .ok (.iload_n 2, 1) := by decide +kernel
theorem dX8_sees_64 : decode cX8_sees 64 = .ok (.iastore, 1) := by decide +kernel
theorem dX8_sees_65 : decode cX8_sees 65 = .ok (.aload_n 0, 1) := by decide +kernel
theorem dX8_sees_66 : decode cX8_sees 66 = .ok (.getfield 41, 3) := by decide +kernel
theorem dX8_sees_69 : decode cX8_sees 69 = .ok (.aload_n 0, 1) := by decide +kernel
theorem dX8_sees_70 : decode cX8_sees 70 = .ok (.getfield 124, 3) := by decide +kernel
theorem dX8_sees_73 : decode cX8_sees 73 = .ok (.iload_n 3, 1) := by decide +kernel
theorem dX8_sees_74 : decode cX8_sees 74 = .ok (.iastore, 1) := by decide +kernel
theorem dX8_sees_75 : decode cX8_sees 75 = .ok (.aload_n 0, 1) := by decide +kernel
theorem dX8_sees_76 : decode cX8_sees 76 = .ok (.dup, 1) := by decide +kernel
theorem dX8_sees_77 : decode cX8_sees 77 = .ok (.getfield 124, 3) := by decide +kernel
theorem dX8_sees_80 : decode cX8_sees 80 = .ok (.iconst 1, 1) := by decide +kernel
theorem dX8_sees_81 : decode cX8_sees 81 = .ok (.iadd, 1) := by decide +kernel
theorem dX8_sees_82 : decode cX8_sees 82 = .ok (.putfield 124, 3) := by decide +kernel
theorem dX8_sees_85 : decode cX8_sees 85 = .ok (.aload_n 0, 1) := by decide +kernel
theorem dX8_sees_86 : decode cX8_sees 86 = .ok (.getfield 124, 3) := by decide +kernel
theorem dX8_sees_89 : decode cX8_sees 89 = .ok (.ireturn, 1) := by decide +kernel
theorem dX8_forget_0 : decode cX8_forget 0 = .ok (.aload_n 0, 1) := by decide +kernel
theorem dX8_forget_1 : decode cX8_forget 1 = .ok (.iconst 0, 1) := by decide +kernel
theorem dX8_forget_2 : decode cX8_forget 2 = .ok (.putfield 56, 3) := by decide +kernel
theorem dX8_forget_5 : decode cX8_forget 5 = .ok (.aload_n 0, 1) := by decide +kernel
theorem dX8_forget_6 : decode cX8_forget 6 = .ok (.getfield 124, 3) := by decide +kernel
theorem dX8_forget_9 : decode cX8_forget 9 = .ok (.istore_n 1, 1) := by decide +kernel
theorem dX8_forget_10 : decode cX8_forget 10 = .ok (.aload_n 0, 1) := by decide +kernel
theorem dX8_forget_11 : decode cX8_forget 11 = .ok (.iconst 0, 1) := by decide +kernel
theorem dX8_forget_12 : decode cX8_forget 12 = .ok (.putfield 124, 3) := by decide +kernel
theorem dX8_forget_15 : decode cX8_forget 15 = .ok (.iload_n 1, 1) := by decide +kernel
theorem dX8_forget_16 : decode cX8_forget 16 = .ok (.ireturn, 1) := by decide +kernel
theorem dX8_unseenSet_0 : decode cX8_unseenSet 0 = .ok (.iconst 0, 1) := by decide +kernel
theorem dX8_unseenSet_1 : decode cX8_unseenSet 1 = .ok (.istore_n 1, 1) := by decide +kernel
theorem dX8_unseenSet_2 : decode cX8_unseenSet 2 = .ok (.iconst 0, 1) := by decide +kernel
theorem dX8_unseenSet_3 : decode cX8_unseenSet 3 = .ok (.istore_n 2, 1) := by decide +kernel
theorem dX8_unseenSet_4 : decode cX8_unseenSet 4 = .ok (.iload_n 2, 1) := by decide +kernel
theorem dX8_unseenSet_5 : decode cX8_unseenSet 5 = .ok (.aload_n 0, 1) := by decide +kernel
theorem dX8_unseenSet_6 : decode cX8_unseenSet 6 = .ok (.getfield 13, 3) := by decide +kernel
theorem dX8_unseenSet_9 : decode cX8_unseenSet 9 = .ok (.iconst 1, 1) := by decide +kernel
theorem dX8_unseenSet_10 : decode cX8_unseenSet 10 = .ok (.iaload, 1) := by decide +kernel
theorem dX8_unseenSet_11 : decode cX8_unseenSet 11 = .ok (.if_icmp .ge 82, 3) := by decide +kernel
theorem dX8_unseenSet_14 : decode cX8_unseenSet 14 = .ok (.iconst 1, 1) := by decide +kernel
theorem dX8_unseenSet_15 : decode cX8_unseenSet 15 = .ok (.istore_n 3, 1) := by decide +kernel
theorem dX8_unseenSet_16 : decode cX8_unseenSet 16 = .ok (.iconst 0, 1) := by decide +kernel
theorem dX8_unseenSet_17 : decode cX8_unseenSet 17 = .ok (.istore 4, 2) := by decide +kernel
theorem dX8_unseenSet_19 : decode cX8_unseenSet 19 = .ok (.iload 4, 2) := by decide +kernel
theorem dX8_unseenSet_21 : decode cX8_unseenSet 21 = .ok (.aload_n 0, 1) := by decide +kernel
theorem dX8_unseenSet_22 : decode cX8_unseenSet 22 = .ok (.getfield 124, 3) := by decide +kernel
theorem dX8_unseenSet_25 : decode cX8_unseenSet 25 = .ok (.if_icmp .ge 48, 3) := by decide +kernel
theorem dX8_unseenSet_28 : decode cX8_unseenSet 28 = .ok (.iload_n 3, 1) := by decide +kernel
theorem dX8_unseenSet_29 : decode cX8_unseenSet 29 = .ok (.ifCond .eq 36, 3) := by decide +kernel
theorem dX8_unseenSet_32 : decode cX8_unseenSet 32 = .ok (.aload_n 0, 1) := by decide +kernel
theorem dX8_unseenSet_33 : decode cX8_unseenSet 33 = .ok (.iload_n 2, 1) := by decide +kernel
theorem dX8_unseenSet_34 : decode cX8_unseenSet 34 = .ok (.aload_n 0, 1) := by decide +kernel
theorem dX8_unseenSet_35 : decode cX8_unseenSet 35 = .ok (.getfield 35, 3) := by decide +kernel
theorem dX8_unseenSet_38 : decode cX8_unseenSet 38 = .ok (.iload 4, 2) := by decide +kernel
theorem dX8_unseenSet_40 : decode cX8_unseenSet 40 = .ok (.iaload, 1) := by decide +kernel
theorem dX8_unseenSet_41 : decode cX8_unseenSet 41 = .ok (.aload_n 0, 1) := by decide +kernel
theorem dX8_unseenSet_42 : decode cX8_unseenSet 42 = .ok (.getfield 38, 3) := by decide +kernel
theorem dX8_unseenSet_45 : decode cX8_unseenSet 45 = .ok (.iload 4, 2) := by decide +kernel
theorem dX8_unseenSet_47 : decode cX8_unseenSet 47 = .ok (.iaload, 1) := by decide +kernel
theorem dX8_unseenSet_48 : decode cX8_unseenSet 48 = .ok (.invokevirtual 189, 3) := by decide +kernel
theorem dX8_unseenSet_51 : decode cX8_unseenSet 51 = .ok (.aload_n 0, 1) := by decide +kernel
theorem dX8_unseenSet_52 : decode cX8_unseenSet 52 = .ok (.getfield 41, 3) := by decide +kernel
theorem dX8_unseenSet_55 : decode cX8_unseenSet 55 = .ok (.iload 4, 2) := by decide +kernel
theorem dX8_unseenSet_57 : decode cX8_unseenSet 57 = .ok (.iaload, 1) := by decide +kernel
theorem dX8_unseenSet_58 : decode cX8_unseenSet 58 = .ok (.if_icmp .ne 7, 3) := by decide +kernel
theorem dX8_unseenSet_61 : decode cX8_unseenSet 61 = .ok (.iconst 1, 1) := by decide +kernel
theorem dX8_unseenSet_62 : decode cX8_unseenSet 62 = .ok (.goto 4, 3) := by decide +kernel
theorem dX8_unseenSet_65 : decode cX8_unseenSet 65 = .ok (.iconst 0, 1) := by decide +kernel
theorem dX8_unseenSet_66 : decode cX8_unseenSet 66 = .ok (.istore_n 3, 1) := by decide +kernel
theorem dX8_unseenSet_67 : decode cX8_unseenSet 67 = .ok (.iinc 4 1, 3) := by decide +kernel
theorem dX8_unseenSet_70 : decode cX8_unseenSet 70 = .ok (.goto (-51), 3) := by decide +kernel
theorem dX8_unseenSet_73 : decode cX8_unseenSet 73 = .ok (.iload_n 1, 1) := by decide +kernel
theorem dX8_unseenSet_74 : decode cX8_unseenSet 74 = .ok (.iload_n 3, 1) := by decide +kernel
theorem dX8_unseenSet_75 : decode cX8_unseenSet 75 = .ok (.ifCond .eq 9, 3) := by decide +kernel
theorem dX8_unseenSet_78 : decode cX8_unseenSet 78 = .ok (.iconst 1, 1) := by decide +kernel
theorem dX8_unseenSet_79 : decode cX8_unseenSet 79 = .ok (.iload_n 2, 1) := by decide +kernel
theorem dX8_unseenSet_80 : decode cX8_unseenSet 80 = .ok (.ishl, 1) := by decide +kernel
theorem dX8_unseenSet_81 : decode cX8_unseenSet 81 = .ok (.goto 4, 3) := by decide +kernel
theorem dX8_unseenSet_84 : decode cX8_unseenSet 84 = .ok (.iconst 0, 1) := by decide +kernel
theorem dX8_unseenSet_85 : decode cX8_unseenSet 85 = .ok (.ior, 1) := by decide +kernel
theorem dX8_unseenSet_86 : decode cX8_unseenSet 86 = .ok (.istore_n 1, 1) := by decide +kernel
theorem dX8_unseenSet_87 : decode cX8_unseenSet 87 = .ok (.iinc 2 1, 3) := by decide +kernel
theorem dX8_unseenSet_90 : decode cX8_unseenSet 90 = .ok (.goto (-86), 3) := by decide +kernel
theorem dX8_unseenSet_93 : decode cX8_unseenSet 93 = .ok (.iload_n 1, 1) := by decide +kernel
theorem dX8_unseenSet_94 : decode cX8_unseenSet 94 = .ok (.ireturn, 1) := by decide +kernel
theorem dX8_unseen_0 : decode cX8_unseen 0 = .ok (.aload_n 0, 1) := by decide +kernel
theorem dX8_unseen_1 : decode cX8_unseen 1 = .ok (.iconst 0, 1) := by decide +kernel
theorem dX8_unseen_2 : decode cX8_unseen 2 = .ok (.putfield 56, 3) := by decide +kernel
theorem dX8_unseen_5 : decode cX8_unseen 5 = .ok (.aload_n 0, 1) := by decide +kernel
theorem dX8_unseen_6 : decode cX8_unseen 6 = .ok (.invokevirtual 192, 3) := by decide +kernel
theorem dX8_unseen_9 : decode cX8_unseen 9 = .ok (.ireturn, 1) := by decide +kernel
theorem dX8_ask_0 : decode cX8_ask 0 = .ok (.aload_n 0, 1) := by decide +kernel
theorem dX8_ask_1 : decode cX8_ask 1 = .ok (.iconst 0, 1) := by decide +kernel
theorem dX8_ask_2 : decode cX8_ask 2 = .ok (.putfield 56, 3) := by decide +kernel
theorem dX8_ask_5 : decode cX8_ask 5 = .ok (.aload_n 0, 1) := by decide +kernel
theorem dX8_ask_6 : decode cX8_ask 6 = .ok (.invokevirtual 192, 3) := by decide +kernel
theorem dX8_ask_9 : decode cX8_ask 9 = .ok (.istore_n 1, 1) := by decide +kernel
theorem dX8_ask_10 : decode cX8_ask 10 = .ok (.bipush (-9), 2) := by decide +kernel
theorem dX8_ask_12 : decode cX8_ask 12 = .ok (.istore_n 2, 1) := by decide +kernel
theorem dX8_ask_13 : decode cX8_ask 13 = .ok (.iconst 0, 1) := by decide +kernel
theorem dX8_ask_14 : decode cX8_ask 14 = .ok (.istore_n 3, 1) := by decide +kernel
theorem dX8_ask_15 : decode cX8_ask 15 = .ok (.iconst 0, 1) := by decide +kernel
theorem dX8_ask_16 : decode cX8_ask 16 = .ok (.istore 4, 2) := by decide +kernel
theorem dX8_ask_18 : decode cX8_ask 18 = .ok (.iload 4, 2) := by decide +kernel
theorem dX8_ask_20 : decode cX8_ask 20 = .ok (.iconst 4, 1) := by decide +kernel
theorem dX8_ask_21 : decode cX8_ask 21 = .ok (.aload_n 0, 1) := by decide +kernel
theorem dX8_ask_22 : decode cX8_ask 22 = .ok (.getfield 13, 3) := by decide +kernel
theorem dX8_ask_25 : decode cX8_ask 25 = .ok (.iconst 0, 1) := by decide +kernel
theorem dX8_ask_26 : decode cX8_ask 26 = .ok (.iaload, 1) := by decide +kernel
theorem dX8_ask_27 : decode cX8_ask 27 = .ok (.imul, 1) := by decide +kernel
theorem dX8_ask_28 : decode cX8_ask 28 = .ok (.if_icmp .ge 109, 3) := by decide +kernel
theorem dX8_ask_31 : decode cX8_ask 31 = .ok (.iload_n 1, 1) := by decide +kernel
theorem dX8_ask_32 : decode cX8_ask 32 = .ok (.invokestatic 137, 3) := by decide +kernel
theorem dX8_ask_35 : decode cX8_ask 35 = .ok (.iconst 1, 1) := by decide +kernel
theorem dX8_ask_36 : decode cX8_ask 36 = .ok (.if_icmp .le 101, 3) := by decide +kernel
theorem dX8_ask_39 : decode cX8_ask 39 = .ok (.iconst 0, 1) := by decide +kernel
theorem dX8_ask_40 : decode cX8_ask 40 = .ok (.istore 5, 2) := by decide +kernel
theorem dX8_ask_42 : decode cX8_ask 42 = .ok (.iconst 0, 1) := by decide +kernel
theorem dX8_ask_43 : decode cX8_ask 43 = .ok (.istore 6, 2) := by decide +kernel
theorem dX8_ask_45 : decode cX8_ask 45 = .ok (.iload 6, 2) := by decide +kernel
theorem dX8_ask_47 : decode cX8_ask 47 = .ok (.aload_n 0, 1) := by decide +kernel
theorem dX8_ask_48 : decode cX8_ask 48 = .ok (.getfield 13, 3) := by decide +kernel
theorem dX8_ask_51 : decode cX8_ask 51 = .ok (.iconst 1, 1) := by decide +kernel
theorem dX8_ask_52 : decode cX8_ask 52 = .ok (.iaload, 1) := by decide +kernel
theorem dX8_ask_53 : decode cX8_ask 53 = .ok (.if_icmp .ge 43, 3) := by decide +kernel
theorem dX8_ask_56 : decode cX8_ask 56 = .ok (.iload 5, 2) := by decide +kernel
theorem dX8_ask_58 : decode cX8_ask 58 = .ok (.iload_n 1, 1) := by decide +kernel
theorem dX8_ask_59 : decode cX8_ask 59 = .ok (.iload 6, 2) := by decide +kernel
theorem dX8_ask_61 : decode cX8_ask 61 = .ok (.invokestatic 105, 3) := by decide +kernel
theorem dX8_ask_64 : decode cX8_ask 64 = .ok (.ifCond .eq 22, 3) := by decide +kernel
theorem dX8_ask_67 : decode cX8_ask 67 = .ok (.iconst 1, 1) := by decide +kernel
theorem dX8_ask_68 : decode cX8_ask 68 = .ok (.aload_n 0, 1) := by decide +kernel
theorem dX8_ask_69 : decode cX8_ask 69 = .ok (.iload 6, 2) := by decide +kernel
theorem dX8_ask_71 : decode cX8_ask 71 = .ok (.iload 4, 2) := by decide +kernel
theorem dX8_ask_73 : decode cX8_ask 73 = .ok (.iconst 4, 1) := by decide +kernel
theorem dX8_ask_74 : decode cX8_ask 74 = .ok (.idiv, 1) := by decide +kernel
theorem dX8_ask_75 : decode cX8_ask 75 = .ok (.iload 4, 2) := by decide +kernel
theorem dX8_ask_77 : decode cX8_ask 77 = .ok (.iconst 4, 1) := by decide +kernel
theorem dX8_ask_78 : decode cX8_ask 78 = .ok (.irem, 1) := by decide +kernel
theorem dX8_ask_79 : decode cX8_ask 79 = .ok (.invokevirtual 189, 3) := by decide +kernel
theorem dX8_ask_82 : decode cX8_ask 82 = .ok (.ishl, 1) := by decide +kernel
theorem dX8_ask_83 : decode cX8_ask 83 = .ok (.goto 4, 3) := by decide +kernel
theorem dX8_ask_86 : decode cX8_ask 86 = .ok (.iconst 0, 1) := by decide +kernel
theorem dX8_ask_87 : decode cX8_ask 87 = .ok (.ior, 1) := by decide +kernel
theorem dX8_ask_88 : decode cX8_ask 88 = .ok (.istore 5, 2) := by decide +kernel
theorem dX8_ask_90 : decode cX8_ask 90 = .ok (.iinc 6 1, 3) := by decide +kernel
theorem dX8_ask_93 : decode cX8_ask 93 = .ok (.goto (-48), 3) := by decide +kernel
theorem dX8_ask_96 : decode cX8_ask 96 = .ok (.iload 5, 2) := by decide +kernel
theorem dX8_ask_98 : decode cX8_ask 98 = .ok (.invokestatic 137, 3) := by decide +kernel
theorem dX8_ask_101 : decode cX8_ask 101 = .ok (.iload_n 3, 1) := by decide +kernel
theorem dX8_ask_102 : decode cX8_ask 102 = .ok (.if_icmp .le 8, 3) := by decide +kernel
theorem dX8_ask_105 : decode cX8_ask 105 = .ok (.iload 4, 2) := by decide +kernel
theorem dX8_ask_107 : decode cX8_ask 107 = .ok (.goto 4, 3) := by decide +kernel
theorem dX8_ask_110 : decode cX8_ask 110 = .ok (.iload_n 2, 1) := by decide +kernel
theorem dX8_ask_111 : decode cX8_ask 111 = .ok (.istore_n 2, 1) := by decide +kernel
theorem dX8_ask_112 : decode cX8_ask 112 = .ok (.iload 5, 2) := by decide +kernel
theorem dX8_ask_114 : decode cX8_ask 114 = .ok (.invokestatic 137, 3) := by decide +kernel
theorem dX8_ask_117 : decode cX8_ask 117 = .ok (.iload_n 3, 1) := by decide +kernel
theorem dX8_ask_118 : decode cX8_ask 118 = .ok (.if_icmp .le 11, 3) := by decide +kernel
theorem dX8_ask_121 : decode cX8_ask 121 = .ok (.iload 5, 2) := by decide +kernel
theorem dX8_ask_123 : decode cX8_ask 123 = .ok (.invokestatic 137, 3) := by decide +kernel
theorem dX8_ask_126 : decode cX8_ask 126 = .ok (.goto 4, 3) := by decide +kernel
theorem dX8_ask_129 : decode cX8_ask 129 = .ok (.iload_n 3, 1) := by decide +kernel
theorem dX8_ask_130 : decode cX8_ask 130 = .ok (.istore_n 3, 1) := by decide +kernel
theorem dX8_ask_131 : decode cX8_ask 131 = .ok (.iinc 4 1, 3) := by decide +kernel
theorem dX8_ask_134 : decode cX8_ask 134 = .ok (.goto (-116), 3) := by decide +kernel
theorem dX8_ask_137 : decode cX8_ask 137 = .ok (.iload_n 2, 1) := by decide +kernel
theorem dX8_ask_138 : decode cX8_ask 138 = .ok (.ireturn, 1) := by decide +kernel
theorem dX8_keep_0 : decode cX8_keep 0 = .ok (.aload_n 0, 1) := by decide +kernel
theorem dX8_keep_1 : decode cX8_keep 1 = .ok (.iconst 0, 1) := by decide +kernel
theorem dX8_keep_2 : decode cX8_keep 2 = .ok (.putfield 56, 3) := by decide +kernel
theorem dX8_keep_5 : decode cX8_keep 5 = .ok (.iload_n 1, 1) := by decide +kernel
theorem dX8_keep_6 : decode cX8_keep 6 = .ok (.iconst 0, 1) := by decide +kernel
theorem dX8_keep_7 : decode cX8_keep 7 = .ok (.iconst 1, 1) := by decide +kernel
theorem dX8_keep_8 : decode cX8_keep 8 = .ok (.invokestatic 60, 3) := by decide +kernel
theorem dX8_keep_11 : decode cX8_keep 11 = .ok (.ifCond .ne 6, 3) := by decide +kernel
theorem dX8_keep_14 : decode cX8_keep 14 = .ok (.bipush (-2), 2) := by decide +kernel
theorem dX8_keep_16 : decode cX8_keep 16 = .ok (.ireturn, 1) := by decide +kernel
theorem dX8_keep_17 : decode cX8_keep 17 = .ok (.iconst 0, 1) := by decide +kernel
theorem dX8_keep_18 : decode cX8_keep 18 = .ok (.istore_n 2, 1) := by decide +kernel
theorem dX8_keep_19 : decode cX8_keep 19 = .ok (.iload_n 2, 1) := by decide +kernel
theorem dX8_keep_20 : decode cX8_keep 20 = .ok (.bipush 19, 2) := by decide +kernel
theorem dX8_keep_22 : decode cX8_keep 22 = .ok (.if_icmp .ge 26, 3) := by decide +kernel
theorem dX8_keep_25 : decode cX8_keep 25 = .ok (.aload_n 0, 1) := by decide +kernel
theorem dX8_keep_26 : decode cX8_keep 26 = .ok (.getfield 28, 3) := by decide +kernel
theorem dX8_keep_29 : decode cX8_keep 29 = .ok (.bipush 19, 2) := by decide +kernel
theorem dX8_keep_31 : decode cX8_keep 31 = .ok (.iload_n 1, 1) := by decide +kernel
theorem dX8_keep_32 : decode cX8_keep 32 = .ok (.imul, 1) := by decide +kernel
theorem dX8_keep_33 : decode cX8_keep 33 = .ok (.iload_n 2, 1) := by decide +kernel
theorem dX8_keep_34 : decode cX8_keep 34 = .ok (.iadd, 1) := by decide +kernel
theorem dX8_keep_35 : decode cX8_keep 35 = .ok (.aload_n 0, 1) := by decide +kernel
theorem dX8_keep_36 : decode cX8_keep 36 = .ok (.getfield 22, 3) := by decide +kernel
theorem dX8_keep_39 : decode cX8_keep 39 = .ok (.iload_n 2, 1) := by decide +kernel
theorem dX8_keep_40 : decode cX8_keep 40 = .ok (.iaload, 1) := by decide +kernel
theorem dX8_keep_41 : decode cX8_keep 41 = .ok (.iastore, 1) := by decide +kernel
theorem dX8_keep_42 : decode cX8_keep 42 = .ok (.iinc 2 1, 3) := by decide +kernel
theorem dX8_keep_45 : decode cX8_keep 45 = .ok (.goto (-26), 3) := by decide +kernel
theorem dX8_keep_48 : decode cX8_keep 48 = .ok (.aload_n 0, 1) := by decide +kernel
theorem dX8_keep_49 : decode cX8_keep 49 = .ok (.getfield 31, 3) := by decide +kernel
theorem dX8_keep_52 : decode cX8_keep 52 = .ok (.iload_n 1, 1) := by decide +kernel
theorem dX8_keep_53 : decode cX8_keep 53 = .ok (.iconst 1, 1) := by decide +kernel
theorem dX8_keep_54 : decode cX8_keep 54 = .ok (.bastore, 1) := by decide +kernel
theorem dX8_keep_55 : decode cX8_keep 55 = .ok (.aload_n 0, 1) := by decide +kernel
theorem dX8_keep_56 : decode cX8_keep 56 = .ok (.getfield 13, 3) := by decide +kernel
theorem dX8_keep_59 : decode cX8_keep 59 = .ok (.iconst 0, 1) := by decide +kernel
theorem dX8_keep_60 : decode cX8_keep 60 = .ok (.iaload, 1) := by decide +kernel
theorem dX8_keep_61 : decode cX8_keep 61 = .ok (.ireturn, 1) := by decide +kernel
theorem dX8_back_0 : decode cX8_back 0 = .ok (.aload_n 0, 1) := by decide +kernel
theorem dX8_back_1 : decode cX8_back 1 = .ok (.iconst 0, 1) := by decide +kernel
theorem dX8_back_2 : decode cX8_back 2 = .ok (.putfield 56, 3) := by decide +kernel
theorem dX8_back_5 : decode cX8_back 5 = .ok (.iload_n 1, 1) := by decide +kernel
theorem dX8_back_6 : decode cX8_back 6 = .ok (.iconst 0, 1) := by decide +kernel
theorem dX8_back_7 : decode cX8_back 7 = .ok (.iconst 1, 1) := by decide +kernel
theorem dX8_back_8 : decode cX8_back 8 = .ok (.invokestatic 60, 3) := by decide +kernel
theorem dX8_back_11 : decode cX8_back 11 = .ok (.ifCond .ne 6, 3) := by decide +kernel
theorem dX8_back_14 : decode cX8_back 14 = .ok (.bipush (-2), 2) := by decide +kernel
theorem dX8_back_16 : decode cX8_back 16 = .ok (.ireturn, 1) := by decide +kernel
theorem dX8_back_17 : decode cX8_back 17 = .ok (.aload_n 0, 1) := by decide +kernel
theorem dX8_back_18 : decode cX8_back 18 = .ok (.getfield 31, 3) := by decide +kernel
theorem dX8_back_21 : decode cX8_back 21 = .ok (.iload_n 1, 1) := by decide +kernel
theorem dX8_back_22 : decode cX8_back 22 = .ok (.baload, 1) := by decide +kernel
theorem dX8_back_23 : decode cX8_back 23 = .ok (.ifCond .ne 6, 3) := by decide +kernel
theorem dX8_back_26 : decode cX8_back 26 = .ok (.bipush (-3), 2) := by decide +kernel
theorem dX8_back_28 : decode cX8_back 28 = .ok (.ireturn, 1) := by decide +kernel
theorem dX8_back_29 : decode cX8_back 29 = .ok (.iconst 0, 1) := by decide +kernel
theorem dX8_back_30 : decode cX8_back 30 = .ok (.istore_n 2, 1) := by decide +kernel
theorem dX8_back_31 : decode cX8_back 31 = .ok (.iload_n 2, 1) := by decide +kernel
theorem dX8_back_32 : decode cX8_back 32 = .ok (.bipush 19, 2) := by decide +kernel
theorem dX8_back_34 : decode cX8_back 34 = .ok (.if_icmp .ge 26, 3) := by decide +kernel
theorem dX8_back_37 : decode cX8_back 37 = .ok (.aload_n 0, 1) := by decide +kernel
theorem dX8_back_38 : decode cX8_back 38 = .ok (.getfield 22, 3) := by decide +kernel
theorem dX8_back_41 : decode cX8_back 41 = .ok (.iload_n 2, 1) := by decide +kernel
theorem dX8_back_42 : decode cX8_back 42 = .ok (.aload_n 0, 1) := by decide +kernel
theorem dX8_back_43 : decode cX8_back 43 = .ok (.getfield 28, 3) := by decide +kernel
theorem dX8_back_46 : decode cX8_back 46 = .ok (.bipush 19, 2) := by decide +kernel
theorem dX8_back_48 : decode cX8_back 48 = .ok (.iload_n 1, 1) := by decide +kernel
theorem dX8_back_49 : decode cX8_back 49 = .ok (.imul, 1) := by decide +kernel
theorem dX8_back_50 : decode cX8_back 50 = .ok (.iload_n 2, 1) := by decide +kernel
theorem dX8_back_51 : decode cX8_back 51 = .ok (.iadd, 1) := by decide +kernel
theorem dX8_back_52 : decode cX8_back 52 = .ok (.iaload, 1) := by decide +kernel
theorem dX8_back_53 : decode cX8_back 53 = .ok (.iastore, 1) := by decide +kernel
theorem dX8_back_54 : decode cX8_back 54 = .ok (.iinc 2 1, 3) := by decide +kernel
theorem dX8_back_57 : decode cX8_back 57 = .ok (.goto (-26), 3) := by decide +kernel
theorem dX8_back_60 : decode cX8_back 60 = .ok (.aload_n 0, 1) := by decide +kernel
theorem dX8_back_61 : decode cX8_back 61 = .ok (.iconst 0, 1) := by decide +kernel
theorem dX8_back_62 : decode cX8_back 62 = .ok (.putfield 127, 3) := by decide +kernel
theorem dX8_back_65 : decode cX8_back 65 = .ok (.aload_n 0, 1) := by decide +kernel
theorem dX8_back_66 : decode cX8_back 66 = .ok (.getfield 13, 3) := by decide +kernel
theorem dX8_back_69 : decode cX8_back 69 = .ok (.iconst 0, 1) := by decide +kernel
theorem dX8_back_70 : decode cX8_back 70 = .ok (.iaload, 1) := by decide +kernel
theorem dX8_back_71 : decode cX8_back 71 = .ok (.ireturn, 1) := by decide +kernel
theorem dX8_styles_0 : decode cX8_styles 0 = .ok (.aload_n 0, 1) := by decide +kernel
theorem dX8_styles_1 : decode cX8_styles 1 = .ok (.invokevirtual 165, 3) := by decide +kernel
theorem dX8_styles_4 : decode cX8_styles 4 = .ok (.iconst 0, 1) := by decide +kernel
theorem dX8_styles_5 : decode cX8_styles 5 = .ok (.istore_n 1, 1) := by decide +kernel
theorem dX8_styles_6 : decode cX8_styles 6 = .ok (.iconst 0, 1) := by decide +kernel
theorem dX8_styles_7 : decode cX8_styles 7 = .ok (.istore_n 2, 1) := by decide +kernel
theorem dX8_styles_8 : decode cX8_styles 8 = .ok (.iload_n 2, 1) := by decide +kernel
theorem dX8_styles_9 : decode cX8_styles 9 = .ok (.aload_n 0, 1) := by decide +kernel
theorem dX8_styles_10 : decode cX8_styles 10 = .ok (.getfield 13, 3) := by decide +kernel
theorem dX8_styles_13 : decode cX8_styles 13 = .ok (.iconst 0, 1) := by decide +kernel
theorem dX8_styles_14 : decode cX8_styles 14 = .ok (.iaload, 1) := by decide +kernel
theorem dX8_styles_15 : decode cX8_styles 15 = .ok (.if_icmp .ge 26, 3) := by decide +kernel
theorem dX8_styles_18 : decode cX8_styles 18 = .ok (.iload_n 1, 1) := by decide +kernel
theorem dX8_styles_19 : decode cX8_styles 19 = .ok (.aload_n 0, 1) := by decide +kernel
theorem dX8_styles_20 : decode cX8_styles 20 = .ok (.iload_n 2, 1) := by decide +kernel
theorem dX8_styles_21 : decode cX8_styles 21 = .ok (.invokevirtual 168, 3) := by decide +kernel
theorem dX8_styles_24 : decode cX8_styles 24 = .ok (.iload_n 2, 1) := by decide +kernel
theorem dX8_styles_25 : decode cX8_styles 25 = .ok (.if_icmp .ne 7, 3) := by decide +kernel
theorem dX8_styles_28 : decode cX8_styles 28 = .ok (.iconst 1, 1) := by decide +kernel
theorem dX8_styles_29 : decode cX8_styles 29 = .ok (.goto 4, 3) := by decide +kernel
theorem dX8_styles_32 : decode cX8_styles 32 = .ok (.iconst 0, 1) := by decide +kernel
theorem dX8_styles_33 : decode cX8_styles 33 = .ok (.iadd, 1) := by decide +kernel
theorem dX8_styles_34 : decode cX8_styles 34 = .ok (.istore_n 1, 1) := by decide +kernel
theorem dX8_styles_35 : decode cX8_styles 35 = .ok (.iinc 2 1, 3) := by decide +kernel
theorem dX8_styles_38 : decode cX8_styles 38 = .ok (.goto (-30), 3) := by decide +kernel
theorem dX8_styles_41 : decode cX8_styles 41 = .ok (.iload_n 1, 1) := by decide +kernel
theorem dX8_styles_42 : decode cX8_styles 42 = .ok (.ireturn, 1) := by decide +kernel
theorem dX8_count_0 : decode cX8_count 0 = .ok (.aload_n 0, 1) := by decide +kernel
theorem dX8_count_1 : decode cX8_count 1 = .ok (.iconst 0, 1) := by decide +kernel
theorem dX8_count_2 : decode cX8_count 2 = .ok (.putfield 56, 3) := by decide +kernel
theorem dX8_count_5 : decode cX8_count 5 = .ok (.iload_n 1, 1) := by decide +kernel
theorem dX8_count_6 : decode cX8_count 6 = .ok (.iconst 0, 1) := by decide +kernel
theorem dX8_count_7 : decode cX8_count 7 = .ok (.bipush 6, 2) := by decide +kernel
theorem dX8_count_9 : decode cX8_count 9 = .ok (.invokestatic 60, 3) := by decide +kernel
theorem dX8_count_12 : decode cX8_count 12 = .ok (.ifCond .ne 6, 3) := by decide +kernel
theorem dX8_count_15 : decode cX8_count 15 = .ok (.bipush (-2), 2) := by decide +kernel
theorem dX8_count_17 : decode cX8_count 17 = .ok (.ireturn, 1) := by decide +kernel
theorem dX8_count_18 : decode cX8_count 18 = .ok (.iload_n 1, 1) := by decide +kernel
theorem dX8_count_19 : decode cX8_count 19 = .ok (.iconst 3, 1) := by decide +kernel
theorem dX8_count_20 : decode cX8_count 20 = .ok (.if_icmp .ge 25, 3) := by decide +kernel
theorem dX8_count_23 : decode cX8_count 23 = .ok (.iload_n 1, 1) := by decide +kernel
theorem dX8_count_24 : decode cX8_count 24 = .ok (.iconst 2, 1) := by decide +kernel
theorem dX8_count_25 : decode cX8_count 25 = .ok (.if_icmp .ne 13, 3) := by decide +kernel
theorem dX8_count_28 : decode cX8_count 28 = .ok (.aload_n 0, 1) := by decide +kernel
theorem dX8_count_29 : decode cX8_count 29 = .ok (.getfield 22, 3) := by decide +kernel
theorem dX8_count_32 : decode cX8_count 32 = .ok (.bipush 18, 2) := by decide +kernel
theorem dX8_count_34 : decode cX8_count 34 = .ok (.iaload, 1) := by decide +kernel
theorem dX8_count_35 : decode cX8_count 35 = .ok (.goto 9, 3) := by decide +kernel
theorem dX8_count_38 : decode cX8_count 38 = .ok (.aload_n 0, 1) := by decide +kernel
theorem dX8_count_39 : decode cX8_count 39 = .ok (.getfield 13, 3) := by decide +kernel
theorem dX8_count_42 : decode cX8_count 42 = .ok (.iload_n 1, 1) := by decide +kernel
theorem dX8_count_43 : decode cX8_count 43 = .ok (.iaload, 1) := by decide +kernel
theorem dX8_count_44 : decode cX8_count 44 = .ok (.ireturn, 1) := by decide +kernel
theorem dX8_count_45 : decode cX8_count 45 = .ok (.iload_n 1, 1) := by decide +kernel
theorem dX8_count_46 : decode cX8_count 46 = .ok (.iconst 3, 1) := by decide +kernel
theorem dX8_count_47 : decode cX8_count 47 = .ok (.if_icmp .ne 10, 3) := by decide +kernel
theorem dX8_count_50 : decode cX8_count 50 = .ok (.aload_n 0, 1) := by decide +kernel
theorem dX8_count_51 : decode cX8_count 51 = .ok (.invokevirtual 196, 3) := by decide +kernel
theorem dX8_count_54 : decode cX8_count 54 = .ok (.goto 31, 3) := by decide +kernel
theorem dX8_count_57 : decode cX8_count 57 = .ok (.iload_n 1, 1) := by decide +kernel
theorem dX8_count_58 : decode cX8_count 58 = .ok (.iconst 4, 1) := by decide +kernel
theorem dX8_count_59 : decode cX8_count 59 = .ok (.if_icmp .ne 10, 3) := by decide +kernel
theorem dX8_count_62 : decode cX8_count 62 = .ok (.aload_n 0, 1) := by decide +kernel
theorem dX8_count_63 : decode cX8_count 63 = .ok (.getfield 124, 3) := by decide +kernel
theorem dX8_count_66 : decode cX8_count 66 = .ok (.goto 19, 3) := by decide +kernel
theorem dX8_count_69 : decode cX8_count 69 = .ok (.iload_n 1, 1) := by decide +kernel
theorem dX8_count_70 : decode cX8_count 70 = .ok (.iconst 5, 1) := by decide +kernel
theorem dX8_count_71 : decode cX8_count 71 = .ok (.if_icmp .ne 10, 3) := by decide +kernel
theorem dX8_count_74 : decode cX8_count 74 = .ok (.aload_n 0, 1) := by decide +kernel
theorem dX8_count_75 : decode cX8_count 75 = .ok (.getfield 64, 3) := by decide +kernel
theorem dX8_count_78 : decode cX8_count 78 = .ok (.goto 7, 3) := by decide +kernel
theorem dX8_count_81 : decode cX8_count 81 = .ok (.aload_n 0, 1) := by decide +kernel
theorem dX8_count_82 : decode cX8_count 82 = .ok (.getfield 127, 3) := by decide +kernel
theorem dX8_count_85 : decode cX8_count 85 = .ok (.ireturn, 1) := by decide +kernel
theorem dJ6_bitCount_0f7a4_0 : decode cJ6_bitCount_0f7a4 0 = .ok (.iload_n 0, 1) := by decide +kernel
theorem dJ6_bitCount_0f7a4_1 : decode cJ6_bitCount_0f7a4 1 = .ok (.iload_n 0, 1) := by decide +kernel
theorem dJ6_bitCount_0f7a4_2 : decode cJ6_bitCount_0f7a4 2 = .ok (.iconst 1, 1) := by decide +kernel
theorem dJ6_bitCount_0f7a4_3 : decode cJ6_bitCount_0f7a4 3 = .ok (.iushr, 1) := by decide +kernel
theorem dJ6_bitCount_0f7a4_4 : decode cJ6_bitCount_0f7a4 4 = .ok (.ldc_w 265, 3) := by decide +kernel
theorem dJ6_bitCount_0f7a4_7 : decode cJ6_bitCount_0f7a4 7 = .ok (.iand, 1) := by decide +kernel
theorem dJ6_bitCount_0f7a4_8 : decode cJ6_bitCount_0f7a4 8 = .ok (.isub, 1) := by decide +kernel
theorem dJ6_bitCount_0f7a4_9 : decode cJ6_bitCount_0f7a4 9 = .ok (.istore_n 0, 1) := by decide +kernel
theorem dJ6_bitCount_0f7a4_10 : decode cJ6_bitCount_0f7a4 10 = .ok (.iload_n 0, 1) := by decide +kernel
theorem dJ6_bitCount_0f7a4_11 : decode cJ6_bitCount_0f7a4 11 = .ok (.ldc_w 266, 3) := by decide +kernel
theorem dJ6_bitCount_0f7a4_14 : decode cJ6_bitCount_0f7a4 14 = .ok (.iand, 1) := by decide +kernel
theorem dJ6_bitCount_0f7a4_15 : decode cJ6_bitCount_0f7a4 15 = .ok (.iload_n 0, 1) := by decide +kernel
theorem dJ6_bitCount_0f7a4_16 : decode cJ6_bitCount_0f7a4 16 = .ok (.iconst 2, 1) := by decide +kernel
theorem dJ6_bitCount_0f7a4_17 : decode cJ6_bitCount_0f7a4 17 = .ok (.iushr, 1) := by decide +kernel
theorem dJ6_bitCount_0f7a4_18 : decode cJ6_bitCount_0f7a4 18 = .ok (.ldc_w 266, 3) := by decide +kernel
theorem dJ6_bitCount_0f7a4_21 : decode cJ6_bitCount_0f7a4 21 = .ok (.iand, 1) := by decide +kernel
theorem dJ6_bitCount_0f7a4_22 : decode cJ6_bitCount_0f7a4 22 = .ok (.iadd, 1) := by decide +kernel
theorem dJ6_bitCount_0f7a4_23 : decode cJ6_bitCount_0f7a4 23 = .ok (.istore_n 0, 1) := by decide +kernel
theorem dJ6_bitCount_0f7a4_24 : decode cJ6_bitCount_0f7a4 24 = .ok (.iload_n 0, 1) := by decide +kernel
theorem dJ6_bitCount_0f7a4_25 : decode cJ6_bitCount_0f7a4 25 = .ok (.iload_n 0, 1) := by decide +kernel
theorem dJ6_bitCount_0f7a4_26 : decode cJ6_bitCount_0f7a4 26 = .ok (.iconst 4, 1) := by decide +kernel
theorem dJ6_bitCount_0f7a4_27 : decode cJ6_bitCount_0f7a4 27 = .ok (.iushr, 1) := by decide +kernel
theorem dJ6_bitCount_0f7a4_28 : decode cJ6_bitCount_0f7a4 28 = .ok (.iadd, 1) := by decide +kernel
theorem dJ6_bitCount_0f7a4_29 : decode cJ6_bitCount_0f7a4 29 = .ok (.ldc_w 267, 3) := by decide +kernel
theorem dJ6_bitCount_0f7a4_32 : decode cJ6_bitCount_0f7a4 32 = .ok (.iand, 1) := by decide +kernel
theorem dJ6_bitCount_0f7a4_33 : decode cJ6_bitCount_0f7a4 33 = .ok (.istore_n 0, 1) := by decide +kernel
theorem dJ6_bitCount_0f7a4_34 : decode cJ6_bitCount_0f7a4 34 = .ok (.iload_n 0, 1) := by decide +kernel
theorem dJ6_bitCount_0f7a4_35 : decode cJ6_bitCount_0f7a4 35 = .ok (.iload_n 0, 1) := by decide +kernel
theorem dJ6_bitCount_0f7a4_36 : decode cJ6_bitCount_0f7a4 36 = .ok (.bipush 8, 2) := by decide +kernel
theorem dJ6_bitCount_0f7a4_38 : decode cJ6_bitCount_0f7a4 38 = .ok (.iushr, 1) := by decide +kernel
theorem dJ6_bitCount_0f7a4_39 : decode cJ6_bitCount_0f7a4 39 = .ok (.iadd, 1) := by decide +kernel
theorem dJ6_bitCount_0f7a4_40 : decode cJ6_bitCount_0f7a4 40 = .ok (.istore_n 0, 1) := by decide +kernel
theorem dJ6_bitCount_0f7a4_41 : decode cJ6_bitCount_0f7a4 41 = .ok (.iload_n 0, 1) := by decide +kernel
theorem dJ6_bitCount_0f7a4_42 : decode cJ6_bitCount_0f7a4 42 = .ok (.iload_n 0, 1) := by decide +kernel
theorem dJ6_bitCount_0f7a4_43 : decode cJ6_bitCount_0f7a4 43 = .ok (.bipush 16, 2) := by decide +kernel
theorem dJ6_bitCount_0f7a4_45 : decode cJ6_bitCount_0f7a4 45 = .ok (.iushr, 1) := by decide +kernel
theorem dJ6_bitCount_0f7a4_46 : decode cJ6_bitCount_0f7a4 46 = .ok (.iadd, 1) := by decide +kernel
theorem dJ6_bitCount_0f7a4_47 : decode cJ6_bitCount_0f7a4 47 = .ok (.istore_n 0, 1) := by decide +kernel
theorem dJ6_bitCount_0f7a4_48 : decode cJ6_bitCount_0f7a4 48 = .ok (.iload_n 0, 1) := by decide +kernel
theorem dJ6_bitCount_0f7a4_49 : decode cJ6_bitCount_0f7a4 49 = .ok (.bipush 63, 2) := by decide +kernel
theorem dJ6_bitCount_0f7a4_51 : decode cJ6_bitCount_0f7a4 51 = .ok (.iand, 1) := by decide +kernel
theorem dJ6_bitCount_0f7a4_52 : decode cJ6_bitCount_0f7a4 52 = .ok (.ireturn, 1) := by decide +kernel
theorem dJ9_min_7cf53_0 : decode cJ9_min_7cf53 0 = .ok (.iload_n 0, 1) := by decide +kernel
theorem dJ9_min_7cf53_1 : decode cJ9_min_7cf53 1 = .ok (.iload_n 1, 1) := by decide +kernel
theorem dJ9_min_7cf53_2 : decode cJ9_min_7cf53 2 = .ok (.if_icmp .gt 7, 3) := by decide +kernel
theorem dJ9_min_7cf53_5 : decode cJ9_min_7cf53 5 = .ok (.iload_n 0, 1) := by decide +kernel
theorem dJ9_min_7cf53_6 : decode cJ9_min_7cf53 6 = .ok (.goto 4, 3) := by decide +kernel
theorem dJ9_min_7cf53_9 : decode cJ9_min_7cf53 9 = .ok (.iload_n 1, 1) := by decide +kernel
theorem dJ9_min_7cf53_10 : decode cJ9_min_7cf53 10 = .ok (.ireturn, 1) := by decide +kernel
theorem dL_law_0 : decode cL_law 0 = .ok (.new 7, 3) := by decide +kernel
theorem dL_law_3 : decode cL_law 3 = .ok (.dup, 1) := by decide +kernel
theorem dL_law_4 : decode cL_law 4 = .ok (.invokespecial 9, 3) := by decide +kernel
theorem dL_law_7 : decode cL_law 7 = .ok (.astore_n 1, 1) := by decide +kernel
theorem dL_law_8 : decode cL_law 8 = .ok (.new 10, 3) := by decide +kernel
theorem dL_law_11 : decode cL_law 11 = .ok (.dup, 1) := by decide +kernel
theorem dL_law_12 : decode cL_law 12 = .ok (.invokespecial 12, 3) := by decide +kernel
theorem dL_law_15 : decode cL_law 15 = .ok (.astore_n 2, 1) := by decide +kernel
theorem dL_law_16 : decode cL_law 16 = .ok (.iconst 0, 1) := by decide +kernel
theorem dL_law_17 : decode cL_law 17 = .ok (.istore_n 3, 1) := by decide +kernel
theorem dL_law_18 : decode cL_law 18 = .ok (.iload_n 3, 1) := by decide +kernel
theorem dL_law_19 : decode cL_law 19 = .ok (.aload_n 0, 1) := by decide +kernel
theorem dL_law_20 : decode cL_law 20 = .ok (.arraylength, 1) := by decide +kernel
theorem dL_law_21 : decode cL_law 21 = .ok (.iconst 4, 1) := by decide +kernel
theorem dL_law_22 : decode cL_law 22 = .ok (.isub, 1) := by decide +kernel
theorem dL_law_23 : decode cL_law 23 = .ok (.if_icmp .gt 678, 3) := by decide +kernel
theorem dL_law_26 : decode cL_law 26 = .ok (.aload_n 0, 1) := by decide +kernel
theorem dL_law_27 : decode cL_law 27 = .ok (.iload_n 3, 1) := by decide +kernel
theorem dL_law_28 : decode cL_law 28 = .ok (.iaload, 1) := by decide +kernel
theorem dL_law_29 : decode cL_law 29 = .ok (.bipush 31, 2) := by decide +kernel
theorem dL_law_31 : decode cL_law 31 = .ok (.iand, 1) := by decide +kernel
theorem dL_law_32 : decode cL_law 32 = .ok (.tableswitch 663 0 20 #[100, 123, 136, 149, 182, 215, 248, 281, 304, 317, 350, 393, 426, 469, 512, 555, 568, 581, 594, 617, 640], 100) := by decide +kernel
theorem dL_law_132 : decode cL_law 132 = .ok (.aload_n 1, 1) := by decide +kernel
theorem dL_law_133 : decode cL_law 133 = .ok (.aload_n 0, 1) := by decide +kernel
theorem dL_law_134 : decode cL_law 134 = .ok (.iload_n 3, 1) := by decide +kernel
theorem dL_law_135 : decode cL_law 135 = .ok (.iconst 1, 1) := by decide +kernel
theorem dL_law_136 : decode cL_law 136 = .ok (.iadd, 1) := by decide +kernel
theorem dL_law_137 : decode cL_law 137 = .ok (.iaload, 1) := by decide +kernel
theorem dL_law_138 : decode cL_law 138 = .ok (.invokevirtual 13, 3) := by decide +kernel
theorem dL_law_141 : decode cL_law 141 = .ok (.aload_n 2, 1) := by decide +kernel
theorem dL_law_142 : decode cL_law 142 = .ok (.aload_n 0, 1) := by decide +kernel
theorem dL_law_143 : decode cL_law 143 = .ok (.iload_n 3, 1) := by decide +kernel
theorem dL_law_144 : decode cL_law 144 = .ok (.iconst 1, 1) := by decide +kernel
theorem dL_law_145 : decode cL_law 145 = .ok (.iadd, 1) := by decide +kernel
theorem dL_law_146 : decode cL_law 146 = .ok (.iaload, 1) := by decide +kernel
theorem dL_law_147 : decode cL_law 147 = .ok (.invokevirtual 17, 3) := by decide +kernel
theorem dL_law_150 : decode cL_law 150 = .ok (.if_icmp .eq 545, 3) := by decide +kernel
theorem dL_law_153 : decode cL_law 153 = .ok (.iconst 0, 1) := by decide +kernel
theorem dL_law_154 : decode cL_law 154 = .ok (.ireturn, 1) := by decide +kernel
theorem dL_law_155 : decode cL_law 155 = .ok (.aload_n 1, 1) := by decide +kernel
theorem dL_law_156 : decode cL_law 156 = .ok (.invokevirtual 18, 3) := by decide +kernel
theorem dL_law_159 : decode cL_law 159 = .ok (.aload_n 2, 1) := by decide +kernel
theorem dL_law_160 : decode cL_law 160 = .ok (.invokevirtual 22, 3) := by decide +kernel
theorem dL_law_163 : decode cL_law 163 = .ok (.if_icmp .eq 532, 3) := by decide +kernel
theorem dL_law_166 : decode cL_law 166 = .ok (.iconst 0, 1) := by decide +kernel
theorem dL_law_167 : decode cL_law 167 = .ok (.ireturn, 1) := by decide +kernel
theorem dL_law_168 : decode cL_law 168 = .ok (.aload_n 1, 1) := by decide +kernel
theorem dL_law_169 : decode cL_law 169 = .ok (.invokevirtual 23, 3) := by decide +kernel
theorem dL_law_172 : decode cL_law 172 = .ok (.aload_n 2, 1) := by decide +kernel
theorem dL_law_173 : decode cL_law 173 = .ok (.invokevirtual 26, 3) := by decide +kernel
theorem dL_law_176 : decode cL_law 176 = .ok (.if_icmp .eq 519, 3) := by decide +kernel
theorem dL_law_179 : decode cL_law 179 = .ok (.iconst 0, 1) := by decide +kernel
theorem dL_law_180 : decode cL_law 180 = .ok (.ireturn, 1) := by decide +kernel
theorem dL_law_181 : decode cL_law 181 = .ok (.aload_n 1, 1) := by decide +kernel
theorem dL_law_182 : decode cL_law 182 = .ok (.aload_n 0, 1) := by decide +kernel
theorem dL_law_183 : decode cL_law 183 = .ok (.iload_n 3, 1) := by decide +kernel
theorem dL_law_184 : decode cL_law 184 = .ok (.iconst 1, 1) := by decide +kernel
theorem dL_law_185 : decode cL_law 185 = .ok (.iadd, 1) := by decide +kernel
theorem dL_law_186 : decode cL_law 186 = .ok (.iaload, 1) := by decide +kernel
theorem dL_law_187 : decode cL_law 187 = .ok (.aload_n 0, 1) := by decide +kernel
theorem dL_law_188 : decode cL_law 188 = .ok (.iload_n 3, 1) := by decide +kernel
theorem dL_law_189 : decode cL_law 189 = .ok (.iconst 2, 1) := by decide +kernel
theorem dL_law_190 : decode cL_law 190 = .ok (.iadd, 1) := by decide +kernel
theorem dL_law_191 : decode cL_law 191 = .ok (.iaload, 1) := by decide +kernel
theorem dL_law_192 : decode cL_law 192 = .ok (.invokevirtual 27, 3) := by decide +kernel
theorem dL_law_195 : decode cL_law 195 = .ok (.aload_n 2, 1) := by decide +kernel
theorem dL_law_196 : decode cL_law 196 = .ok (.aload_n 0, 1) := by decide +kernel
theorem dL_law_197 : decode cL_law 197 = .ok (.iload_n 3, 1) := by decide +kernel
theorem dL_law_198 : decode cL_law 198 = .ok (.iconst 1, 1) := by decide +kernel
theorem dL_law_199 : decode cL_law 199 = .ok (.iadd, 1) := by decide +kernel
theorem dL_law_200 : decode cL_law 200 = .ok (.iaload, 1) := by decide +kernel
theorem dL_law_201 : decode cL_law 201 = .ok (.aload_n 0, 1) := by decide +kernel
theorem dL_law_202 : decode cL_law 202 = .ok (.iload_n 3, 1) := by decide +kernel
theorem dL_law_203 : decode cL_law 203 = .ok (.iconst 2, 1) := by decide +kernel
theorem dL_law_204 : decode cL_law 204 = .ok (.iadd, 1) := by decide +kernel
theorem dL_law_205 : decode cL_law 205 = .ok (.iaload, 1) := by decide +kernel
theorem dL_law_206 : decode cL_law 206 = .ok (.invokevirtual 31, 3) := by decide +kernel
theorem dL_law_209 : decode cL_law 209 = .ok (.if_icmp .eq 486, 3) := by decide +kernel
theorem dL_law_212 : decode cL_law 212 = .ok (.iconst 0, 1) := by decide +kernel
theorem dL_law_213 : decode cL_law 213 = .ok (.ireturn, 1) := by decide +kernel
theorem dL_law_214 : decode cL_law 214 = .ok (.aload_n 1, 1) := by decide +kernel
theorem dL_law_215 : decode cL_law 215 = .ok (.aload_n 0, 1) := by decide +kernel
theorem dL_law_216 : decode cL_law 216 = .ok (.iload_n 3, 1) := by decide +kernel
theorem dL_law_217 : decode cL_law 217 = .ok (.iconst 1, 1) := by decide +kernel
theorem dL_law_218 : decode cL_law 218 = .ok (.iadd, 1) := by decide +kernel
theorem dL_law_219 : decode cL_law 219 = .ok (.iaload, 1) := by decide +kernel
theorem dL_law_220 : decode cL_law 220 = .ok (.aload_n 0, 1) := by decide +kernel
theorem dL_law_221 : decode cL_law 221 = .ok (.iload_n 3, 1) := by decide +kernel
theorem dL_law_222 : decode cL_law 222 = .ok (.iconst 2, 1) := by decide +kernel
theorem dL_law_223 : decode cL_law 223 = .ok (.iadd, 1) := by decide +kernel
theorem dL_law_224 : decode cL_law 224 = .ok (.iaload, 1) := by decide +kernel
theorem dL_law_225 : decode cL_law 225 = .ok (.invokevirtual 32, 3) := by decide +kernel
theorem dL_law_228 : decode cL_law 228 = .ok (.aload_n 2, 1) := by decide +kernel
theorem dL_law_229 : decode cL_law 229 = .ok (.aload_n 0, 1) := by decide +kernel
theorem dL_law_230 : decode cL_law 230 = .ok (.iload_n 3, 1) := by decide +kernel
theorem dL_law_231 : decode cL_law 231 = .ok (.iconst 1, 1) := by decide +kernel
theorem dL_law_232 : decode cL_law 232 = .ok (.iadd, 1) := by decide +kernel
theorem dL_law_233 : decode cL_law 233 = .ok (.iaload, 1) := by decide +kernel
theorem dL_law_234 : decode cL_law 234 = .ok (.aload_n 0, 1) := by decide +kernel
theorem dL_law_235 : decode cL_law 235 = .ok (.iload_n 3, 1) := by decide +kernel
theorem dL_law_236 : decode cL_law 236 = .ok (.iconst 2, 1) := by decide +kernel
theorem dL_law_237 : decode cL_law 237 = .ok (.iadd, 1) := by decide +kernel
theorem dL_law_238 : decode cL_law 238 = .ok (.iaload, 1) := by decide +kernel
theorem dL_law_239 : decode cL_law 239 = .ok (.invokevirtual 35, 3) := by decide +kernel
theorem dL_law_242 : decode cL_law 242 = .ok (.if_icmp .eq 453, 3) := by decide +kernel
theorem dL_law_245 : decode cL_law 245 = .ok (.iconst 0, 1) := by decide +kernel
theorem dL_law_246 : decode cL_law 246 = .ok (.ireturn, 1) := by decide +kernel
theorem dL_law_247 : decode cL_law 247 = .ok (.aload_n 1, 1) := by decide +kernel
theorem dL_law_248 : decode cL_law 248 = .ok (.aload_n 0, 1) := by decide +kernel
theorem dL_law_249 : decode cL_law 249 = .ok (.iload_n 3, 1) := by decide +kernel
theorem dL_law_250 : decode cL_law 250 = .ok (.iconst 1, 1) := by decide +kernel
theorem dL_law_251 : decode cL_law 251 = .ok (.iadd, 1) := by decide +kernel
theorem dL_law_252 : decode cL_law 252 = .ok (.iaload, 1) := by decide +kernel
theorem dL_law_253 : decode cL_law 253 = .ok (.aload_n 0, 1) := by decide +kernel
theorem dL_law_254 : decode cL_law 254 = .ok (.iload_n 3, 1) := by decide +kernel
theorem dL_law_255 : decode cL_law 255 = .ok (.iconst 2, 1) := by decide +kernel
theorem dL_law_256 : decode cL_law 256 = .ok (.iadd, 1) := by decide +kernel
theorem dL_law_257 : decode cL_law 257 = .ok (.iaload, 1) := by decide +kernel
theorem dL_law_258 : decode cL_law 258 = .ok (.invokevirtual 36, 3) := by decide +kernel
theorem dL_law_261 : decode cL_law 261 = .ok (.aload_n 2, 1) := by decide +kernel
theorem dL_law_262 : decode cL_law 262 = .ok (.aload_n 0, 1) := by decide +kernel
theorem dL_law_263 : decode cL_law 263 = .ok (.iload_n 3, 1) := by decide +kernel
theorem dL_law_264 : decode cL_law 264 = .ok (.iconst 1, 1) := by decide +kernel
theorem dL_law_265 : decode cL_law 265 = .ok (.iadd, 1) := by decide +kernel
theorem dL_law_266 : decode cL_law 266 = .ok (.iaload, 1) := by decide +kernel
theorem dL_law_267 : decode cL_law 267 = .ok (.aload_n 0, 1) := by decide +kernel
theorem dL_law_268 : decode cL_law 268 = .ok (.iload_n 3, 1) := by decide +kernel
theorem dL_law_269 : decode cL_law 269 = .ok (.iconst 2, 1) := by decide +kernel
theorem dL_law_270 : decode cL_law 270 = .ok (.iadd, 1) := by decide +kernel
theorem dL_law_271 : decode cL_law 271 = .ok (.iaload, 1) := by decide +kernel
theorem dL_law_272 : decode cL_law 272 = .ok (.invokevirtual 39, 3) := by decide +kernel
theorem dL_law_275 : decode cL_law 275 = .ok (.if_icmp .eq 420, 3) := by decide +kernel
theorem dL_law_278 : decode cL_law 278 = .ok (.iconst 0, 1) := by decide +kernel
theorem dL_law_279 : decode cL_law 279 = .ok (.ireturn, 1) := by decide +kernel
theorem dL_law_280 : decode cL_law 280 = .ok (.aload_n 1, 1) := by decide +kernel
theorem dL_law_281 : decode cL_law 281 = .ok (.aload_n 0, 1) := by decide +kernel
theorem dL_law_282 : decode cL_law 282 = .ok (.iload_n 3, 1) := by decide +kernel
theorem dL_law_283 : decode cL_law 283 = .ok (.iconst 1, 1) := by decide +kernel
theorem dL_law_284 : decode cL_law 284 = .ok (.iadd, 1) := by decide +kernel
theorem dL_law_285 : decode cL_law 285 = .ok (.iaload, 1) := by decide +kernel
theorem dL_law_286 : decode cL_law 286 = .ok (.aload_n 0, 1) := by decide +kernel
theorem dL_law_287 : decode cL_law 287 = .ok (.iload_n 3, 1) := by decide +kernel
theorem dL_law_288 : decode cL_law 288 = .ok (.iconst 2, 1) := by decide +kernel
theorem dL_law_289 : decode cL_law 289 = .ok (.iadd, 1) := by decide +kernel
theorem dL_law_290 : decode cL_law 290 = .ok (.iaload, 1) := by decide +kernel
theorem dL_law_291 : decode cL_law 291 = .ok (.invokevirtual 40, 3) := by decide +kernel
theorem dL_law_294 : decode cL_law 294 = .ok (.aload_n 2, 1) := by decide +kernel
theorem dL_law_295 : decode cL_law 295 = .ok (.aload_n 0, 1) := by decide +kernel
theorem dL_law_296 : decode cL_law 296 = .ok (.iload_n 3, 1) := by decide +kernel
theorem dL_law_297 : decode cL_law 297 = .ok (.iconst 1, 1) := by decide +kernel
theorem dL_law_298 : decode cL_law 298 = .ok (.iadd, 1) := by decide +kernel
theorem dL_law_299 : decode cL_law 299 = .ok (.iaload, 1) := by decide +kernel
theorem dL_law_300 : decode cL_law 300 = .ok (.aload_n 0, 1) := by decide +kernel
theorem dL_law_301 : decode cL_law 301 = .ok (.iload_n 3, 1) := by decide +kernel
theorem dL_law_302 : decode cL_law 302 = .ok (.iconst 2, 1) := by decide +kernel
theorem dL_law_303 : decode cL_law 303 = .ok (.iadd, 1) := by decide +kernel
theorem dL_law_304 : decode cL_law 304 = .ok (.iaload, 1) := by decide +kernel
theorem dL_law_305 : decode cL_law 305 = .ok (.invokevirtual 43, 3) := by decide +kernel
theorem dL_law_308 : decode cL_law 308 = .ok (.if_icmp .eq 387, 3) := by decide +kernel
theorem dL_law_311 : decode cL_law 311 = .ok (.iconst 0, 1) := by decide +kernel
theorem dL_law_312 : decode cL_law 312 = .ok (.ireturn, 1) := by decide +kernel
theorem dL_law_313 : decode cL_law 313 = .ok (.aload_n 1, 1) := by decide +kernel
theorem dL_law_314 : decode cL_law 314 = .ok (.aload_n 0, 1) := by decide +kernel
theorem dL_law_315 : decode cL_law 315 = .ok (.iload_n 3, 1) := by decide +kernel
theorem dL_law_316 : decode cL_law 316 = .ok (.iconst 1, 1) := by decide +kernel
theorem dL_law_317 : decode cL_law 317 = .ok (.iadd, 1) := by decide +kernel
theorem dL_law_318 : decode cL_law 318 = .ok (.iaload, 1) := by decide +kernel
theorem dL_law_319 : decode cL_law 319 = .ok (.invokevirtual 44, 3) := by decide +kernel
theorem dL_law_322 : decode cL_law 322 = .ok (.aload_n 2, 1) := by decide +kernel
theorem dL_law_323 : decode cL_law 323 = .ok (.aload_n 0, 1) := by decide +kernel
theorem dL_law_324 : decode cL_law 324 = .ok (.iload_n 3, 1) := by decide +kernel
theorem dL_law_325 : decode cL_law 325 = .ok (.iconst 1, 1) := by decide +kernel
theorem dL_law_326 : decode cL_law 326 = .ok (.iadd, 1) := by decide +kernel
theorem dL_law_327 : decode cL_law 327 = .ok (.iaload, 1) := by decide +kernel
theorem dL_law_328 : decode cL_law 328 = .ok (.invokevirtual 47, 3) := by decide +kernel
theorem dL_law_331 : decode cL_law 331 = .ok (.if_icmp .eq 364, 3) := by decide +kernel
theorem dL_law_334 : decode cL_law 334 = .ok (.iconst 0, 1) := by decide +kernel
theorem dL_law_335 : decode cL_law 335 = .ok (.ireturn, 1) := by decide +kernel
theorem dL_law_336 : decode cL_law 336 = .ok (.aload_n 1, 1) := by decide +kernel
theorem dL_law_337 : decode cL_law 337 = .ok (.invokevirtual 48, 3) := by decide +kernel
theorem dL_law_340 : decode cL_law 340 = .ok (.aload_n 2, 1) := by decide +kernel
theorem dL_law_341 : decode cL_law 341 = .ok (.invokevirtual 51, 3) := by decide +kernel
theorem dL_law_344 : decode cL_law 344 = .ok (.if_icmp .eq 351, 3) := by decide +kernel
theorem dL_law_347 : decode cL_law 347 = .ok (.iconst 0, 1) := by decide +kernel
theorem dL_law_348 : decode cL_law 348 = .ok (.ireturn, 1) := by decide +kernel
theorem dL_law_349 : decode cL_law 349 = .ok (.aload_n 1, 1) := by decide +kernel
theorem dL_law_350 : decode cL_law 350 = .ok (.aload_n 0, 1) := by decide +kernel
theorem dL_law_351 : decode cL_law 351 = .ok (.iload_n 3, 1) := by decide +kernel
theorem dL_law_352 : decode cL_law 352 = .ok (.iconst 1, 1) := by decide +kernel
theorem dL_law_353 : decode cL_law 353 = .ok (.iadd, 1) := by decide +kernel
theorem dL_law_354 : decode cL_law 354 = .ok (.iaload, 1) := by decide +kernel
theorem dL_law_355 : decode cL_law 355 = .ok (.aload_n 0, 1) := by decide +kernel
theorem dL_law_356 : decode cL_law 356 = .ok (.iload_n 3, 1) := by decide +kernel
theorem dL_law_357 : decode cL_law 357 = .ok (.iconst 2, 1) := by decide +kernel
theorem dL_law_358 : decode cL_law 358 = .ok (.iadd, 1) := by decide +kernel
theorem dL_law_359 : decode cL_law 359 = .ok (.iaload, 1) := by decide +kernel
theorem dL_law_360 : decode cL_law 360 = .ok (.invokevirtual 52, 3) := by decide +kernel
theorem dL_law_363 : decode cL_law 363 = .ok (.aload_n 2, 1) := by decide +kernel
theorem dL_law_364 : decode cL_law 364 = .ok (.aload_n 0, 1) := by decide +kernel
theorem dL_law_365 : decode cL_law 365 = .ok (.iload_n 3, 1) := by decide +kernel
theorem dL_law_366 : decode cL_law 366 = .ok (.iconst 1, 1) := by decide +kernel
theorem dL_law_367 : decode cL_law 367 = .ok (.iadd, 1) := by decide +kernel
theorem dL_law_368 : decode cL_law 368 = .ok (.iaload, 1) := by decide +kernel
theorem dL_law_369 : decode cL_law 369 = .ok (.aload_n 0, 1) := by decide +kernel
theorem dL_law_370 : decode cL_law 370 = .ok (.iload_n 3, 1) := by decide +kernel
theorem dL_law_371 : decode cL_law 371 = .ok (.iconst 2, 1) := by decide +kernel
theorem dL_law_372 : decode cL_law 372 = .ok (.iadd, 1) := by decide +kernel
theorem dL_law_373 : decode cL_law 373 = .ok (.iaload, 1) := by decide +kernel
theorem dL_law_374 : decode cL_law 374 = .ok (.invokevirtual 55, 3) := by decide +kernel
theorem dL_law_377 : decode cL_law 377 = .ok (.if_icmp .eq 318, 3) := by decide +kernel
theorem dL_law_380 : decode cL_law 380 = .ok (.iconst 0, 1) := by decide +kernel
theorem dL_law_381 : decode cL_law 381 = .ok (.ireturn, 1) := by decide +kernel
theorem dL_law_382 : decode cL_law 382 = .ok (.aload_n 1, 1) := by decide +kernel
theorem dL_law_383 : decode cL_law 383 = .ok (.aload_n 0, 1) := by decide +kernel
theorem dL_law_384 : decode cL_law 384 = .ok (.iload_n 3, 1) := by decide +kernel
theorem dL_law_385 : decode cL_law 385 = .ok (.iconst 1, 1) := by decide +kernel
theorem dL_law_386 : decode cL_law 386 = .ok (.iadd, 1) := by decide +kernel
theorem dL_law_387 : decode cL_law 387 = .ok (.iaload, 1) := by decide +kernel
theorem dL_law_388 : decode cL_law 388 = .ok (.aload_n 0, 1) := by decide +kernel
theorem dL_law_389 : decode cL_law 389 = .ok (.iload_n 3, 1) := by decide +kernel
theorem dL_law_390 : decode cL_law 390 = .ok (.iconst 2, 1) := by decide +kernel
theorem dL_law_391 : decode cL_law 391 = .ok (.iadd, 1) := by decide +kernel
theorem dL_law_392 : decode cL_law 392 = .ok (.iaload, 1) := by decide +kernel
theorem dL_law_393 : decode cL_law 393 = .ok (.aload_n 0, 1) := by decide +kernel
theorem dL_law_394 : decode cL_law 394 = .ok (.iload_n 3, 1) := by decide +kernel
theorem dL_law_395 : decode cL_law 395 = .ok (.iconst 3, 1) := by decide +kernel
theorem dL_law_396 : decode cL_law 396 = .ok (.iadd, 1) := by decide +kernel
theorem dL_law_397 : decode cL_law 397 = .ok (.iaload, 1) := by decide +kernel
theorem dL_law_398 : decode cL_law 398 = .ok (.invokevirtual 56, 3) := by decide +kernel
theorem dL_law_401 : decode cL_law 401 = .ok (.aload_n 2, 1) := by decide +kernel
theorem dL_law_402 : decode cL_law 402 = .ok (.aload_n 0, 1) := by decide +kernel
theorem dL_law_403 : decode cL_law 403 = .ok (.iload_n 3, 1) := by decide +kernel
theorem dL_law_404 : decode cL_law 404 = .ok (.iconst 1, 1) := by decide +kernel
theorem dL_law_405 : decode cL_law 405 = .ok (.iadd, 1) := by decide +kernel
theorem dL_law_406 : decode cL_law 406 = .ok (.iaload, 1) := by decide +kernel
theorem dL_law_407 : decode cL_law 407 = .ok (.aload_n 0, 1) := by decide +kernel
theorem dL_law_408 : decode cL_law 408 = .ok (.iload_n 3, 1) := by decide +kernel
theorem dL_law_409 : decode cL_law 409 = .ok (.iconst 2, 1) := by decide +kernel
theorem dL_law_410 : decode cL_law 410 = .ok (.iadd, 1) := by decide +kernel
theorem dL_law_411 : decode cL_law 411 = .ok (.iaload, 1) := by decide +kernel
theorem dL_law_412 : decode cL_law 412 = .ok (.aload_n 0, 1) := by decide +kernel
theorem dL_law_413 : decode cL_law 413 = .ok (.iload_n 3, 1) := by decide +kernel
theorem dL_law_414 : decode cL_law 414 = .ok (.iconst 3, 1) := by decide +kernel
theorem dL_law_415 : decode cL_law 415 = .ok (.iadd, 1) := by decide +kernel
theorem dL_law_416 : decode cL_law 416 = .ok (.iaload, 1) := by decide +kernel
theorem dL_law_417 : decode cL_law 417 = .ok (.invokevirtual 60, 3) := by decide +kernel
theorem dL_law_420 : decode cL_law 420 = .ok (.if_icmp .eq 275, 3) := by decide +kernel
theorem dL_law_423 : decode cL_law 423 = .ok (.iconst 0, 1) := by decide +kernel
theorem dL_law_424 : decode cL_law 424 = .ok (.ireturn, 1) := by decide +kernel
theorem dL_law_425 : decode cL_law 425 = .ok (.aload_n 1, 1) := by decide +kernel
theorem dL_law_426 : decode cL_law 426 = .ok (.aload_n 0, 1) := by decide +kernel
theorem dL_law_427 : decode cL_law 427 = .ok (.iload_n 3, 1) := by decide +kernel
theorem dL_law_428 : decode cL_law 428 = .ok (.iconst 1, 1) := by decide +kernel
theorem dL_law_429 : decode cL_law 429 = .ok (.iadd, 1) := by decide +kernel
theorem dL_law_430 : decode cL_law 430 = .ok (.iaload, 1) := by decide +kernel
theorem dL_law_431 : decode cL_law 431 = .ok (.aload_n 0, 1) := by decide +kernel
theorem dL_law_432 : decode cL_law 432 = .ok (.iload_n 3, 1) := by decide +kernel
theorem dL_law_433 : decode cL_law 433 = .ok (.iconst 2, 1) := by decide +kernel
theorem dL_law_434 : decode cL_law 434 = .ok (.iadd, 1) := by decide +kernel
theorem dL_law_435 : decode cL_law 435 = .ok (.iaload, 1) := by decide +kernel
theorem dL_law_436 : decode cL_law 436 = .ok (.invokevirtual 61, 3) := by decide +kernel
theorem dL_law_439 : decode cL_law 439 = .ok (.aload_n 2, 1) := by decide +kernel
theorem dL_law_440 : decode cL_law 440 = .ok (.aload_n 0, 1) := by decide +kernel
theorem dL_law_441 : decode cL_law 441 = .ok (.iload_n 3, 1) := by decide +kernel
theorem dL_law_442 : decode cL_law 442 = .ok (.iconst 1, 1) := by decide +kernel
theorem dL_law_443 : decode cL_law 443 = .ok (.iadd, 1) := by decide +kernel
theorem dL_law_444 : decode cL_law 444 = .ok (.iaload, 1) := by decide +kernel
theorem dL_law_445 : decode cL_law 445 = .ok (.aload_n 0, 1) := by decide +kernel
theorem dL_law_446 : decode cL_law 446 = .ok (.iload_n 3, 1) := by decide +kernel
theorem dL_law_447 : decode cL_law 447 = .ok (.iconst 2, 1) := by decide +kernel
theorem dL_law_448 : decode cL_law 448 = .ok (.iadd, 1) := by decide +kernel
theorem dL_law_449 : decode cL_law 449 = .ok (.iaload, 1) := by decide +kernel
theorem dL_law_450 : decode cL_law 450 = .ok (.invokevirtual 64, 3) := by decide +kernel
theorem dL_law_453 : decode cL_law 453 = .ok (.if_icmp .eq 242, 3) := by decide +kernel
theorem dL_law_456 : decode cL_law 456 = .ok (.iconst 0, 1) := by decide +kernel
theorem dL_law_457 : decode cL_law 457 = .ok (.ireturn, 1) := by decide +kernel
theorem dL_law_458 : decode cL_law 458 = .ok (.aload_n 1, 1) := by decide +kernel
theorem dL_law_459 : decode cL_law 459 = .ok (.aload_n 0, 1) := by decide +kernel
theorem dL_law_460 : decode cL_law 460 = .ok (.iload_n 3, 1) := by decide +kernel
theorem dL_law_461 : decode cL_law 461 = .ok (.iconst 1, 1) := by decide +kernel
theorem dL_law_462 : decode cL_law 462 = .ok (.iadd, 1) := by decide +kernel
theorem dL_law_463 : decode cL_law 463 = .ok (.iaload, 1) := by decide +kernel
theorem dL_law_464 : decode cL_law 464 = .ok (.aload_n 0, 1) := by decide +kernel
theorem dL_law_465 : decode cL_law 465 = .ok (.iload_n 3, 1) := by decide +kernel
theorem dL_law_466 : decode cL_law 466 = .ok (.iconst 2, 1) := by decide +kernel
theorem dL_law_467 : decode cL_law 467 = .ok (.iadd, 1) := by decide +kernel
theorem dL_law_468 : decode cL_law 468 = .ok (.iaload, 1) := by decide +kernel
theorem dL_law_469 : decode cL_law 469 = .ok (.aload_n 0, 1) := by decide +kernel
theorem dL_law_470 : decode cL_law 470 = .ok (.iload_n 3, 1) := by decide +kernel
theorem dL_law_471 : decode cL_law 471 = .ok (.iconst 3, 1) := by decide +kernel
theorem dL_law_472 : decode cL_law 472 = .ok (.iadd, 1) := by decide +kernel
theorem dL_law_473 : decode cL_law 473 = .ok (.iaload, 1) := by decide +kernel
theorem dL_law_474 : decode cL_law 474 = .ok (.invokevirtual 65, 3) := by decide +kernel
theorem dL_law_477 : decode cL_law 477 = .ok (.aload_n 2, 1) := by decide +kernel
theorem dL_law_478 : decode cL_law 478 = .ok (.aload_n 0, 1) := by decide +kernel
theorem dL_law_479 : decode cL_law 479 = .ok (.iload_n 3, 1) := by decide +kernel
theorem dL_law_480 : decode cL_law 480 = .ok (.iconst 1, 1) := by decide +kernel
theorem dL_law_481 : decode cL_law 481 = .ok (.iadd, 1) := by decide +kernel
theorem dL_law_482 : decode cL_law 482 = .ok (.iaload, 1) := by decide +kernel
theorem dL_law_483 : decode cL_law 483 = .ok (.aload_n 0, 1) := by decide +kernel
theorem dL_law_484 : decode cL_law 484 = .ok (.iload_n 3, 1) := by decide +kernel
theorem dL_law_485 : decode cL_law 485 = .ok (.iconst 2, 1) := by decide +kernel
theorem dL_law_486 : decode cL_law 486 = .ok (.iadd, 1) := by decide +kernel
theorem dL_law_487 : decode cL_law 487 = .ok (.iaload, 1) := by decide +kernel
theorem dL_law_488 : decode cL_law 488 = .ok (.aload_n 0, 1) := by decide +kernel
theorem dL_law_489 : decode cL_law 489 = .ok (.iload_n 3, 1) := by decide +kernel
theorem dL_law_490 : decode cL_law 490 = .ok (.iconst 3, 1) := by decide +kernel
theorem dL_law_491 : decode cL_law 491 = .ok (.iadd, 1) := by decide +kernel
theorem dL_law_492 : decode cL_law 492 = .ok (.iaload, 1) := by decide +kernel
theorem dL_law_493 : decode cL_law 493 = .ok (.invokevirtual 68, 3) := by decide +kernel
theorem dL_law_496 : decode cL_law 496 = .ok (.if_icmp .eq 199, 3) := by decide +kernel
theorem dL_law_499 : decode cL_law 499 = .ok (.iconst 0, 1) := by decide +kernel
theorem dL_law_500 : decode cL_law 500 = .ok (.ireturn, 1) := by decide +kernel
theorem dL_law_501 : decode cL_law 501 = .ok (.aload_n 1, 1) := by decide +kernel
theorem dL_law_502 : decode cL_law 502 = .ok (.aload_n 0, 1) := by decide +kernel
theorem dL_law_503 : decode cL_law 503 = .ok (.iload_n 3, 1) := by decide +kernel
theorem dL_law_504 : decode cL_law 504 = .ok (.iconst 1, 1) := by decide +kernel
theorem dL_law_505 : decode cL_law 505 = .ok (.iadd, 1) := by decide +kernel
theorem dL_law_506 : decode cL_law 506 = .ok (.iaload, 1) := by decide +kernel
theorem dL_law_507 : decode cL_law 507 = .ok (.aload_n 0, 1) := by decide +kernel
theorem dL_law_508 : decode cL_law 508 = .ok (.iload_n 3, 1) := by decide +kernel
theorem dL_law_509 : decode cL_law 509 = .ok (.iconst 2, 1) := by decide +kernel
theorem dL_law_510 : decode cL_law 510 = .ok (.iadd, 1) := by decide +kernel
theorem dL_law_511 : decode cL_law 511 = .ok (.iaload, 1) := by decide +kernel
theorem dL_law_512 : decode cL_law 512 = .ok (.aload_n 0, 1) := by decide +kernel
theorem dL_law_513 : decode cL_law 513 = .ok (.iload_n 3, 1) := by decide +kernel
theorem dL_law_514 : decode cL_law 514 = .ok (.iconst 3, 1) := by decide +kernel
theorem dL_law_515 : decode cL_law 515 = .ok (.iadd, 1) := by decide +kernel
theorem dL_law_516 : decode cL_law 516 = .ok (.iaload, 1) := by decide +kernel
theorem dL_law_517 : decode cL_law 517 = .ok (.invokevirtual 69, 3) := by decide +kernel
theorem dL_law_520 : decode cL_law 520 = .ok (.aload_n 2, 1) := by decide +kernel
theorem dL_law_521 : decode cL_law 521 = .ok (.aload_n 0, 1) := by decide +kernel
theorem dL_law_522 : decode cL_law 522 = .ok (.iload_n 3, 1) := by decide +kernel
theorem dL_law_523 : decode cL_law 523 = .ok (.iconst 1, 1) := by decide +kernel
theorem dL_law_524 : decode cL_law 524 = .ok (.iadd, 1) := by decide +kernel
theorem dL_law_525 : decode cL_law 525 = .ok (.iaload, 1) := by decide +kernel
theorem dL_law_526 : decode cL_law 526 = .ok (.aload_n 0, 1) := by decide +kernel
theorem dL_law_527 : decode cL_law 527 = .ok (.iload_n 3, 1) := by decide +kernel
theorem dL_law_528 : decode cL_law 528 = .ok (.iconst 2, 1) := by decide +kernel
theorem dL_law_529 : decode cL_law 529 = .ok (.iadd, 1) := by decide +kernel
theorem dL_law_530 : decode cL_law 530 = .ok (.iaload, 1) := by decide +kernel
theorem dL_law_531 : decode cL_law 531 = .ok (.aload_n 0, 1) := by decide +kernel
theorem dL_law_532 : decode cL_law 532 = .ok (.iload_n 3, 1) := by decide +kernel
theorem dL_law_533 : decode cL_law 533 = .ok (.iconst 3, 1) := by decide +kernel
theorem dL_law_534 : decode cL_law 534 = .ok (.iadd, 1) := by decide +kernel
theorem dL_law_535 : decode cL_law 535 = .ok (.iaload, 1) := by decide +kernel
theorem dL_law_536 : decode cL_law 536 = .ok (.invokevirtual 72, 3) := by decide +kernel
theorem dL_law_539 : decode cL_law 539 = .ok (.if_icmp .eq 156, 3) := by decide +kernel
theorem dL_law_542 : decode cL_law 542 = .ok (.iconst 0, 1) := by decide +kernel
theorem dL_law_543 : decode cL_law 543 = .ok (.ireturn, 1) := by decide +kernel
theorem dL_law_544 : decode cL_law 544 = .ok (.aload_n 1, 1) := by decide +kernel
theorem dL_law_545 : decode cL_law 545 = .ok (.aload_n 0, 1) := by decide +kernel
theorem dL_law_546 : decode cL_law 546 = .ok (.iload_n 3, 1) := by decide +kernel
theorem dL_law_547 : decode cL_law 547 = .ok (.iconst 1, 1) := by decide +kernel
theorem dL_law_548 : decode cL_law 548 = .ok (.iadd, 1) := by decide +kernel
theorem dL_law_549 : decode cL_law 549 = .ok (.iaload, 1) := by decide +kernel
theorem dL_law_550 : decode cL_law 550 = .ok (.aload_n 0, 1) := by decide +kernel
theorem dL_law_551 : decode cL_law 551 = .ok (.iload_n 3, 1) := by decide +kernel
theorem dL_law_552 : decode cL_law 552 = .ok (.iconst 2, 1) := by decide +kernel
theorem dL_law_553 : decode cL_law 553 = .ok (.iadd, 1) := by decide +kernel
theorem dL_law_554 : decode cL_law 554 = .ok (.iaload, 1) := by decide +kernel
theorem dL_law_555 : decode cL_law 555 = .ok (.aload_n 0, 1) := by decide +kernel
theorem dL_law_556 : decode cL_law 556 = .ok (.iload_n 3, 1) := by decide +kernel
theorem dL_law_557 : decode cL_law 557 = .ok (.iconst 3, 1) := by decide +kernel
theorem dL_law_558 : decode cL_law 558 = .ok (.iadd, 1) := by decide +kernel
theorem dL_law_559 : decode cL_law 559 = .ok (.iaload, 1) := by decide +kernel
theorem dL_law_560 : decode cL_law 560 = .ok (.invokevirtual 73, 3) := by decide +kernel
theorem dL_law_563 : decode cL_law 563 = .ok (.aload_n 2, 1) := by decide +kernel
theorem dL_law_564 : decode cL_law 564 = .ok (.aload_n 0, 1) := by decide +kernel
theorem dL_law_565 : decode cL_law 565 = .ok (.iload_n 3, 1) := by decide +kernel
theorem dL_law_566 : decode cL_law 566 = .ok (.iconst 1, 1) := by decide +kernel
theorem dL_law_567 : decode cL_law 567 = .ok (.iadd, 1) := by decide +kernel
theorem dL_law_568 : decode cL_law 568 = .ok (.iaload, 1) := by decide +kernel
theorem dL_law_569 : decode cL_law 569 = .ok (.aload_n 0, 1) := by decide +kernel
theorem dL_law_570 : decode cL_law 570 = .ok (.iload_n 3, 1) := by decide +kernel
theorem dL_law_571 : decode cL_law 571 = .ok (.iconst 2, 1) := by decide +kernel
theorem dL_law_572 : decode cL_law 572 = .ok (.iadd, 1) := by decide +kernel
theorem dL_law_573 : decode cL_law 573 = .ok (.iaload, 1) := by decide +kernel
theorem dL_law_574 : decode cL_law 574 = .ok (.aload_n 0, 1) := by decide +kernel
theorem dL_law_575 : decode cL_law 575 = .ok (.iload_n 3, 1) := by decide +kernel
theorem dL_law_576 : decode cL_law 576 = .ok (.iconst 3, 1) := by decide +kernel
theorem dL_law_577 : decode cL_law 577 = .ok (.iadd, 1) := by decide +kernel
theorem dL_law_578 : decode cL_law 578 = .ok (.iaload, 1) := by decide +kernel
theorem dL_law_579 : decode cL_law 579 = .ok (.invokevirtual 76, 3) := by decide +kernel
theorem dL_law_582 : decode cL_law 582 = .ok (.if_icmp .eq 113, 3) := by decide +kernel
theorem dL_law_585 : decode cL_law 585 = .ok (.iconst 0, 1) := by decide +kernel
theorem dL_law_586 : decode cL_law 586 = .ok (.ireturn, 1) := by decide +kernel
theorem dL_law_587 : decode cL_law 587 = .ok (.aload_n 1, 1) := by decide +kernel
theorem dL_law_588 : decode cL_law 588 = .ok (.invokevirtual 77, 3) := by decide +kernel
theorem dL_law_591 : decode cL_law 591 = .ok (.aload_n 2, 1) := by decide +kernel
theorem dL_law_592 : decode cL_law 592 = .ok (.invokevirtual 80, 3) := by decide +kernel
theorem dL_law_595 : decode cL_law 595 = .ok (.if_icmp .eq 100, 3) := by decide +kernel
theorem dL_law_598 : decode cL_law 598 = .ok (.iconst 0, 1) := by decide +kernel
theorem dL_law_599 : decode cL_law 599 = .ok (.ireturn, 1) := by decide +kernel
theorem dL_law_600 : decode cL_law 600 = .ok (.aload_n 1, 1) := by decide +kernel
theorem dL_law_601 : decode cL_law 601 = .ok (.invokevirtual 81, 3) := by decide +kernel
theorem dL_law_604 : decode cL_law 604 = .ok (.aload_n 2, 1) := by decide +kernel
theorem dL_law_605 : decode cL_law 605 = .ok (.invokevirtual 84, 3) := by decide +kernel
theorem dL_law_608 : decode cL_law 608 = .ok (.if_icmp .eq 87, 3) := by decide +kernel
theorem dL_law_611 : decode cL_law 611 = .ok (.iconst 0, 1) := by decide +kernel
theorem dL_law_612 : decode cL_law 612 = .ok (.ireturn, 1) := by decide +kernel
theorem dL_law_613 : decode cL_law 613 = .ok (.aload_n 1, 1) := by decide +kernel
theorem dL_law_614 : decode cL_law 614 = .ok (.invokevirtual 85, 3) := by decide +kernel
theorem dL_law_617 : decode cL_law 617 = .ok (.aload_n 2, 1) := by decide +kernel
theorem dL_law_618 : decode cL_law 618 = .ok (.invokevirtual 88, 3) := by decide +kernel
theorem dL_law_621 : decode cL_law 621 = .ok (.if_icmp .eq 74, 3) := by decide +kernel
theorem dL_law_624 : decode cL_law 624 = .ok (.iconst 0, 1) := by decide +kernel
theorem dL_law_625 : decode cL_law 625 = .ok (.ireturn, 1) := by decide +kernel
theorem dL_law_626 : decode cL_law 626 = .ok (.aload_n 1, 1) := by decide +kernel
theorem dL_law_627 : decode cL_law 627 = .ok (.aload_n 0, 1) := by decide +kernel
theorem dL_law_628 : decode cL_law 628 = .ok (.iload_n 3, 1) := by decide +kernel
theorem dL_law_629 : decode cL_law 629 = .ok (.iconst 1, 1) := by decide +kernel
theorem dL_law_630 : decode cL_law 630 = .ok (.iadd, 1) := by decide +kernel
theorem dL_law_631 : decode cL_law 631 = .ok (.iaload, 1) := by decide +kernel
theorem dL_law_632 : decode cL_law 632 = .ok (.invokevirtual 89, 3) := by decide +kernel
theorem dL_law_635 : decode cL_law 635 = .ok (.aload_n 2, 1) := by decide +kernel
theorem dL_law_636 : decode cL_law 636 = .ok (.aload_n 0, 1) := by decide +kernel
theorem dL_law_637 : decode cL_law 637 = .ok (.iload_n 3, 1) := by decide +kernel
theorem dL_law_638 : decode cL_law 638 = .ok (.iconst 1, 1) := by decide +kernel
theorem dL_law_639 : decode cL_law 639 = .ok (.iadd, 1) := by decide +kernel
theorem dL_law_640 : decode cL_law 640 = .ok (.iaload, 1) := by decide +kernel
theorem dL_law_641 : decode cL_law 641 = .ok (.invokevirtual 92, 3) := by decide +kernel
theorem dL_law_644 : decode cL_law 644 = .ok (.if_icmp .eq 51, 3) := by decide +kernel
theorem dL_law_647 : decode cL_law 647 = .ok (.iconst 0, 1) := by decide +kernel
theorem dL_law_648 : decode cL_law 648 = .ok (.ireturn, 1) := by decide +kernel
theorem dL_law_649 : decode cL_law 649 = .ok (.aload_n 1, 1) := by decide +kernel
theorem dL_law_650 : decode cL_law 650 = .ok (.aload_n 0, 1) := by decide +kernel
theorem dL_law_651 : decode cL_law 651 = .ok (.iload_n 3, 1) := by decide +kernel
theorem dL_law_652 : decode cL_law 652 = .ok (.iconst 1, 1) := by decide +kernel
theorem dL_law_653 : decode cL_law 653 = .ok (.iadd, 1) := by decide +kernel
theorem dL_law_654 : decode cL_law 654 = .ok (.iaload, 1) := by decide +kernel
theorem dL_law_655 : decode cL_law 655 = .ok (.invokevirtual 93, 3) := by decide +kernel
theorem dL_law_658 : decode cL_law 658 = .ok (.aload_n 2, 1) := by decide +kernel
theorem dL_law_659 : decode cL_law 659 = .ok (.aload_n 0, 1) := by decide +kernel
theorem dL_law_660 : decode cL_law 660 = .ok (.iload_n 3, 1) := by decide +kernel
theorem dL_law_661 : decode cL_law 661 = .ok (.iconst 1, 1) := by decide +kernel
theorem dL_law_662 : decode cL_law 662 = .ok (.iadd, 1) := by decide +kernel
theorem dL_law_663 : decode cL_law 663 = .ok (.iaload, 1) := by decide +kernel
theorem dL_law_664 : decode cL_law 664 = .ok (.invokevirtual 96, 3) := by decide +kernel
theorem dL_law_667 : decode cL_law 667 = .ok (.if_icmp .eq 28, 3) := by decide +kernel
theorem dL_law_670 : decode cL_law 670 = .ok (.iconst 0, 1) := by decide +kernel
theorem dL_law_671 : decode cL_law 671 = .ok (.ireturn, 1) := by decide +kernel
theorem dL_law_672 : decode cL_law 672 = .ok (.aload_n 1, 1) := by decide +kernel
theorem dL_law_673 : decode cL_law 673 = .ok (.aload_n 0, 1) := by decide +kernel
theorem dL_law_674 : decode cL_law 674 = .ok (.iload_n 3, 1) := by decide +kernel
theorem dL_law_675 : decode cL_law 675 = .ok (.iconst 1, 1) := by decide +kernel
theorem dL_law_676 : decode cL_law 676 = .ok (.iadd, 1) := by decide +kernel
theorem dL_law_677 : decode cL_law 677 = .ok (.iaload, 1) := by decide +kernel
theorem dL_law_678 : decode cL_law 678 = .ok (.invokevirtual 97, 3) := by decide +kernel
theorem dL_law_681 : decode cL_law 681 = .ok (.aload_n 2, 1) := by decide +kernel
theorem dL_law_682 : decode cL_law 682 = .ok (.aload_n 0, 1) := by decide +kernel
theorem dL_law_683 : decode cL_law 683 = .ok (.iload_n 3, 1) := by decide +kernel
theorem dL_law_684 : decode cL_law 684 = .ok (.iconst 1, 1) := by decide +kernel
theorem dL_law_685 : decode cL_law 685 = .ok (.iadd, 1) := by decide +kernel
theorem dL_law_686 : decode cL_law 686 = .ok (.iaload, 1) := by decide +kernel
theorem dL_law_687 : decode cL_law 687 = .ok (.invokevirtual 100, 3) := by decide +kernel
theorem dL_law_690 : decode cL_law 690 = .ok (.if_icmp .eq 5, 3) := by decide +kernel
theorem dL_law_693 : decode cL_law 693 = .ok (.iconst 0, 1) := by decide +kernel
theorem dL_law_694 : decode cL_law 694 = .ok (.ireturn, 1) := by decide +kernel
theorem dL_law_695 : decode cL_law 695 = .ok (.iinc 3 4, 3) := by decide +kernel
theorem dL_law_698 : decode cL_law 698 = .ok (.goto (-680), 3) := by decide +kernel
theorem dL_law_701 : decode cL_law 701 = .ok (.iconst 1, 1) := by decide +kernel
theorem dL_law_702 : decode cL_law 702 = .ok (.ireturn, 1) := by decide +kernel
end
section
/-! ===== the words that hold at every state of the run; the nest mates' links ===== -/
def gw : List Cond := lw_tbl.filter goodWord
theorem gwm {w : Cond} (i : Nat) (h : lw_tbl[i]? = some w) (hg : goodWord w = true) : w ∈ gw := List.mem_filter.mpr ⟨List.mem_of_getElem? h, hg⟩
theorem gw_good {ws : List Cond} (h : ∀ w ∈ ws, w ∈ gw) : GoodIn gw ws := fun w hw => ⟨h w hw, good_of_word (List.mem_filter.mp (h w hw)).2⟩
theorem tw_0 : Cond.selects RX2 yX2_advance yX2_advance ∈ gw := gwm 0 (by decide +kernel) rfl
theorem tw_1 : Cond.selects RX2 yX2_isDigitAt yX2_isDigitAt ∈ gw := gwm 1 (by decide +kernel) rfl
theorem tw_2 : Cond.selects RX2 yX2_readNode yX2_readNode ∈ gw := gwm 2 (by decide +kernel) rfl
theorem tw_3 : Cond.selects RX2 yX2_isDigit yX2_isDigit ∈ gw := gwm 3 (by decide +kernel) rfl
theorem tw_4 : Cond.selects RX2 yX2_isTag yX2_isTag ∈ gw := gwm 4 (by decide +kernel) rfl
theorem tw_5 : Cond.selects RX2 yX2_isClass yX2_isClass ∈ gw := gwm 5 (by decide +kernel) rfl
theorem tw_6 : Cond.selects RX2 yX2_take yX2_take ∈ gw := gwm 6 (by decide +kernel) rfl
theorem tw_7 : Cond.selects RX2 yX2_readRule yX2_readRule ∈ gw := gwm 7 (by decide +kernel) rfl
theorem tw_8 : Cond.selects RX2 yX2_readSelector yX2_readSelector ∈ gw := gwm 8 (by decide +kernel) rfl
theorem tw_9 : Cond.selects RX2 yX2_readCompound yX2_readCompound ∈ gw := gwm 9 (by decide +kernel) rfl
theorem tw_10 : Cond.selects RX2 yX2_isJoint yX2_isJoint ∈ gw := gwm 10 (by decide +kernel) rfl
theorem tw_11 : Cond.selects RX2 yX2_readDeclarations yX2_readDeclarations ∈ gw := gwm 11 (by decide +kernel) rfl
theorem tw_12 : Cond.selects RX2 yX2_readDeclaration yX2_readDeclaration ∈ gw := gwm 12 (by decide +kernel) rfl
theorem tw_13 : Cond.selects RX2 yX2_isProperty yX2_isProperty ∈ gw := gwm 13 (by decide +kernel) rfl
theorem tw_14 : Cond.selects RX3 yX3_level yX3_level ∈ gw := gwm 14 (by decide +kernel) rfl
theorem tw_15 : Cond.selects RX7 yX7_refresh yX7_refresh ∈ gw := gwm 15 (by decide +kernel) rfl
theorem tw_16 : Cond.selects RX4 yX4_under yX4_under ∈ gw := gwm 16 (by decide +kernel) rfl
theorem tw_17 : Cond.selects RX6 yX6_noteRule yX6_noteRule ∈ gw := gwm 17 (by decide +kernel) rfl
theorem tw_18 : Cond.selects RX6 yX6_settle yX6_settle ∈ gw := gwm 18 (by decide +kernel) rfl
theorem tw_19 : Cond.selects RX6 yX6_styleOf yX6_styleOf ∈ gw := gwm 19 (by decide +kernel) rfl
theorem tw_20 : Cond.selects RX7 yX7_perform yX7_perform ∈ gw := gwm 20 (by decide +kernel) rfl
theorem tw_21 : Cond.selects RX1 yX1_putTag yX1_putTag ∈ gw := gwm 21 (by decide +kernel) rfl
theorem tw_22 : Cond.selects RX1 yX1_flipClass yX1_flipClass ∈ gw := gwm 22 (by decide +kernel) rfl
theorem tw_23 : Cond.selects RX7 yX7_isPlace yX7_isPlace ∈ gw := gwm 23 (by decide +kernel) rfl
theorem tw_24 : Cond.selects RX4 yX4_lookedAtBy yX4_lookedAtBy ∈ gw := gwm 24 (by decide +kernel) rfl
theorem tw_25 : Cond.selects RX7 yX7_tryOut yX7_tryOut ∈ gw := gwm 25 (by decide +kernel) rfl
theorem tw_26 : Cond.selects RX7 yX7_gatherAnswers yX7_gatherAnswers ∈ gw := gwm 26 (by decide +kernel) rfl
theorem tw_27 : Cond.selects RX7 yX7_addAnswers yX7_addAnswers ∈ gw := gwm 27 (by decide +kernel) rfl
theorem tw_28 : Cond.selects RX8 yX8_begins yX8_begins ∈ gw := gwm 28 (by decide +kernel) rfl
theorem tw_29 : Cond.selects RX8 yX8_settles yX8_settles ∈ gw := gwm 29 (by decide +kernel) rfl
theorem tw_30 : Cond.selects RX8 yX8_advances yX8_advances ∈ gw := gwm 30 (by decide +kernel) rfl
theorem tw_31 : Cond.selects RX8 yX8_letterAt yX8_letterAt ∈ gw := gwm 31 (by decide +kernel) rfl
theorem tw_32 : Cond.selects RX8 yX8_isWell yX8_isWell ∈ gw := gwm 32 (by decide +kernel) rfl
theorem tw_33 : Cond.selects RX8 yX8_isThis yX8_isThis ∈ gw := gwm 33 (by decide +kernel) rfl
theorem tw_34 : Cond.selects RX8 yX8_takes yX8_takes ∈ gw := gwm 34 (by decide +kernel) rfl
theorem tw_35 : Cond.selects RX8 yX8_readsNode yX8_readsNode ∈ gw := gwm 35 (by decide +kernel) rfl
theorem tw_36 : Cond.selects RX8 yX8_isFrom yX8_isFrom ∈ gw := gwm 36 (by decide +kernel) rfl
theorem tw_37 : Cond.selects RX8 yX8_readsRule yX8_readsRule ∈ gw := gwm 37 (by decide +kernel) rfl
theorem tw_38 : Cond.selects RX8 yX8_readsCompound yX8_readsCompound ∈ gw := gwm 38 (by decide +kernel) rfl
theorem tw_39 : Cond.selects RX8 yX8_readsDeclarations yX8_readsDeclarations ∈ gw := gwm 39 (by decide +kernel) rfl
theorem tw_40 : Cond.selects RX8 yX8_isNode yX8_isNode ∈ gw := gwm 40 (by decide +kernel) rfl
theorem tw_41 : Cond.selects RX8 yX8_fills yX8_fills ∈ gw := gwm 41 (by decide +kernel) rfl
theorem tw_42 : Cond.selects RX8 yX8_matching yX8_matching ∈ gw := gwm 42 (by decide +kernel) rfl
theorem tw_43 : Cond.selects RX8 yX8_fits yX8_fits ∈ gw := gwm 43 (by decide +kernel) rfl
theorem tw_44 : Cond.selects RX8 yX8_rulesOf yX8_rulesOf ∈ gw := gwm 44 (by decide +kernel) rfl
theorem tw_45 : Cond.selects RX8 yX8_recordOf yX8_recordOf ∈ gw := gwm 45 (by decide +kernel) rfl
theorem tw_46 : Cond.selects RX8 yX8_isLike yX8_isLike ∈ gw := gwm 46 (by decide +kernel) rfl
theorem tw_47 : Cond.selects RX8 yX8_valueOf yX8_valueOf ∈ gw := gwm 47 (by decide +kernel) rfl
theorem tw_48 : Cond.selects RX8 yX8_sourceOf yX8_sourceOf ∈ gw := gwm 48 (by decide +kernel) rfl
theorem tw_49 : Cond.selects RX8 yX8_winnerOf yX8_winnerOf ∈ gw := gwm 49 (by decide +kernel) rfl
theorem tw_50 : Cond.selects RX8 yX8_heightOf yX8_heightOf ∈ gw := gwm 50 (by decide +kernel) rfl
theorem tw_51 : Cond.selects RX8 yX8_specific yX8_specific ∈ gw := gwm 51 (by decide +kernel) rfl
theorem tw_52 : Cond.selects RX8 yX8_below yX8_below ∈ gw := gwm 52 (by decide +kernel) rfl
theorem tw_53 : Cond.selects RX8 yX8_isRule yX8_isRule ∈ gw := gwm 53 (by decide +kernel) rfl
theorem tw_54 : Cond.selects RX8 yX8_notes yX8_notes ∈ gw := gwm 54 (by decide +kernel) rfl
theorem tw_55 : Cond.selects RX8 yX8_lookedAt yX8_lookedAt ∈ gw := gwm 55 (by decide +kernel) rfl
theorem tw_56 : Cond.selects RX8 yX8_different yX8_different ∈ gw := gwm 56 (by decide +kernel) rfl
theorem tw_57 : Cond.selects RX8 yX8_valueBy yX8_valueBy ∈ gw := gwm 57 (by decide +kernel) rfl
theorem tw_58 : Cond.selects RX8 yX8_unseenSet yX8_unseenSet ∈ gw := gwm 58 (by decide +kernel) rfl
theorem tw_59 : Cond.selects RX8 yX8_styles yX8_styles ∈ gw := gwm 59 (by decide +kernel) rfl
theorem tw_60 : Cond.initialized RL ∈ gw := gwm 60 (by decide +kernel) rfl
theorem tw_61 : Cond.initialized RX7 ∈ gw := gwm 61 (by decide +kernel) rfl
theorem tw_62 : Cond.initialized RX2 ∈ gw := gwm 62 (by decide +kernel) rfl
theorem tw_63 : Cond.initialized RX4 ∈ gw := gwm 63 (by decide +kernel) rfl
theorem tw_64 : Cond.initialized RX1 ∈ gw := gwm 64 (by decide +kernel) rfl
theorem tw_65 : Cond.initialized RX3 ∈ gw := gwm 65 (by decide +kernel) rfl
theorem tw_66 : Cond.initialized RX6 ∈ gw := gwm 66 (by decide +kernel) rfl
theorem tw_67 : Cond.initialized RX0 ∈ gw := gwm 67 (by decide +kernel) rfl
theorem tw_68 : Cond.initialized RX5 ∈ gw := gwm 68 (by decide +kernel) rfl
theorem tw_69 : Cond.initialized RX8 ∈ gw := gwm 69 (by decide +kernel) rfl
theorem tw_70 : Cond.initialized RJ9 ∈ gw := gwm 70 (by decide +kernel) rfl
theorem tw_71 : Cond.initialized RJ6 ∈ gw := gwm 71 (by decide +kernel) rfl
theorem tw_72 : Cond.initialized RJ10 ∈ gw := gwm 72 (by decide +kernel) rfl
theorem tw_73 : Cond.classLink RL 7 RX7 ∈ gw := gwm 73 (by decide +kernel) rfl
theorem tw_74 : Cond.instantiable RX7 13 ∈ gw := gwm 74 (by decide +kernel) rfl
theorem tw_75 : Cond.methodLink RL 9 yX7_init ∈ gw := gwm 75 (by decide +kernel) rfl
theorem tw_76 : Cond.instanceMethod yX7_init ∈ gw := gwm 76 (by decide +kernel) rfl
theorem tw_77 : Cond.code yX7_init cX7_init 2 none ∈ gw := gwm 77 (by decide +kernel) rfl
theorem tw_78 : Cond.methodLink RX7 1 objectInit ∈ gw := gwm 78 (by decide +kernel) rfl
theorem tw_79 : Cond.instanceMethod objectInit ∈ gw := gwm 79 (by decide +kernel) rfl
theorem tw_80 : Cond.code objectInit ⟨#[0xb1]⟩ 1 none ∈ gw := gwm 80 (by decide +kernel) rfl
theorem tw_81 : Cond.classLink RX7 17 RX2 ∈ gw := gwm 81 (by decide +kernel) rfl
theorem tw_82 : Cond.instantiable RX2 6 ∈ gw := gwm 82 (by decide +kernel) rfl
theorem tw_84 : Cond.instanceMethod yX2_init ∈ gw := gwm 84 (by decide +kernel) rfl
theorem tw_85 : Cond.code yX2_init cX2_init 1 none ∈ gw := gwm 85 (by decide +kernel) rfl
theorem tw_86 : Cond.methodLink RX2 3 objectInit ∈ gw := gwm 86 (by decide +kernel) rfl
theorem tw_87 : Cond.classLink RX2 28 RX4 ∈ gw := gwm 87 (by decide +kernel) rfl
theorem tw_88 : Cond.instantiable RX4 6 ∈ gw := gwm 88 (by decide +kernel) rfl
theorem tw_89 : Cond.methodLink RX2 30 yX4_init ∈ gw := gwm 89 (by decide +kernel) rfl
theorem tw_90 : Cond.instanceMethod yX4_init ∈ gw := gwm 90 (by decide +kernel) rfl
theorem tw_91 : Cond.code yX4_init cX4_init 2 none ∈ gw := gwm 91 (by decide +kernel) rfl
theorem tw_92 : Cond.methodLink RX4 3 objectInit ∈ gw := gwm 92 (by decide +kernel) rfl
theorem tw_93 : Cond.classLink RX4 25 RX1 ∈ gw := gwm 93 (by decide +kernel) rfl
theorem tw_94 : Cond.instantiable RX1 3 ∈ gw := gwm 94 (by decide +kernel) rfl
theorem tw_96 : Cond.instanceMethod yX1_init ∈ gw := gwm 96 (by decide +kernel) rfl
theorem tw_97 : Cond.code yX1_init cX1_init 1 none ∈ gw := gwm 97 (by decide +kernel) rfl
theorem tw_98 : Cond.methodLink RX1 3 objectInit ∈ gw := gwm 98 (by decide +kernel) rfl
theorem tw_99 : Cond.fieldLink RX1 9 "StyleTree$Look" "tags" "[I" ∈ gw := gwm 99 (by decide +kernel) rfl
theorem tw_100 : Cond.fieldLink RX4 46 "StyleTree$Look" "tags" "[I" ∈ gw := gwm 100 (by decide +kernel) rfl
theorem tw_101 : Cond.fieldLink RX7 112 "StyleTree$Look" "tags" "[I" ∈ gw := gwm 101 (by decide +kernel) rfl
theorem tw_102 : Cond.fieldLink RX1 15 "StyleTree$Look" "classes" "[I" ∈ gw := gwm 102 (by decide +kernel) rfl
theorem tw_103 : Cond.fieldLink RX4 49 "StyleTree$Look" "classes" "[I" ∈ gw := gwm 103 (by decide +kernel) rfl
theorem tw_104 : Cond.fieldLink RX7 115 "StyleTree$Look" "classes" "[I" ∈ gw := gwm 104 (by decide +kernel) rfl
theorem tw_105 : Cond.fieldLink RX1 18 "StyleTree$Look" "on" "I" ∈ gw := gwm 105 (by decide +kernel) rfl
theorem tw_106 : Cond.fieldLink RX4 39 "StyleTree$Look" "on" "I" ∈ gw := gwm 106 (by decide +kernel) rfl
theorem tw_107 : Cond.fieldLink RX7 226 "StyleTree$Look" "on" "I" ∈ gw := gwm 107 (by decide +kernel) rfl
theorem tw_115 : Cond.arrayClass .char ∈ gw := gwm 115 (by decide +kernel) rfl
theorem tw_116 : Cond.arrayClass .int ∈ gw := gwm 116 (by decide +kernel) rfl
theorem tw_117 : Cond.classLink RX4 32 RX3 ∈ gw := gwm 117 (by decide +kernel) rfl
theorem tw_119 : Cond.instantiable RX3 10 ∈ gw := gwm 119 (by decide +kernel) rfl
theorem tw_121 : Cond.instanceMethod yX3_init ∈ gw := gwm 121 (by decide +kernel) rfl
theorem tw_122 : Cond.code yX3_init cX3_init 1 none ∈ gw := gwm 122 (by decide +kernel) rfl
theorem tw_123 : Cond.methodLink RX3 3 objectInit ∈ gw := gwm 123 (by decide +kernel) rfl
theorem tw_124 : Cond.fieldLink RX3 28 "StyleTree$Rule" "user" "Z" ∈ gw := gwm 124 (by decide +kernel) rfl
theorem tw_125 : Cond.fieldLink RX7 135 "StyleTree$Rule" "user" "Z" ∈ gw := gwm 125 (by decide +kernel) rfl
theorem tw_126 : Cond.fieldLink RX3 32 "StyleTree$Rule" "compounds" "I" ∈ gw := gwm 126 (by decide +kernel) rfl
theorem tw_127 : Cond.fieldLink RX7 141 "StyleTree$Rule" "compounds" "I" ∈ gw := gwm 127 (by decide +kernel) rfl
theorem tw_128 : Cond.fieldLink RX4 63 "StyleTree$Rule" "compounds" "I" ∈ gw := gwm 128 (by decide +kernel) rfl
theorem tw_129 : Cond.fieldLink RX3 36 "StyleTree$Rule" "specific" "I" ∈ gw := gwm 129 (by decide +kernel) rfl
theorem tw_130 : Cond.fieldLink RX7 144 "StyleTree$Rule" "specific" "I" ∈ gw := gwm 130 (by decide +kernel) rfl
theorem tw_131 : Cond.fieldLink RX3 39 "StyleTree$Rule" "declared" "I" ∈ gw := gwm 131 (by decide +kernel) rfl
theorem tw_132 : Cond.fieldLink RX7 147 "StyleTree$Rule" "declared" "I" ∈ gw := gwm 132 (by decide +kernel) rfl
theorem tw_133 : Cond.fieldLink RX4 74 "StyleTree$Rule" "declared" "I" ∈ gw := gwm 133 (by decide +kernel) rfl
theorem tw_134 : Cond.fieldLink RX2 121 "StyleTree$Rule" "declared" "I" ∈ gw := gwm 134 (by decide +kernel) rfl
theorem tw_135 : Cond.fieldLink RX3 42 "StyleTree$Rule" "strong" "I" ∈ gw := gwm 135 (by decide +kernel) rfl
theorem tw_136 : Cond.fieldLink RX7 150 "StyleTree$Rule" "strong" "I" ∈ gw := gwm 136 (by decide +kernel) rfl
theorem tw_137 : Cond.fieldLink RX3 9 "StyleTree$Rule" "tags" "[I" ∈ gw := gwm 137 (by decide +kernel) rfl
theorem tw_138 : Cond.fieldLink RX3 15 "StyleTree$Rule" "classes" "[I" ∈ gw := gwm 138 (by decide +kernel) rfl
theorem tw_139 : Cond.fieldLink RX4 88 "StyleTree$Rule" "classes" "[I" ∈ gw := gwm 139 (by decide +kernel) rfl
theorem tw_140 : Cond.fieldLink RX3 18 "StyleTree$Rule" "isChild" "[Z" ∈ gw := gwm 140 (by decide +kernel) rfl
theorem tw_141 : Cond.fieldLink RX4 66 "StyleTree$Rule" "isChild" "[Z" ∈ gw := gwm 141 (by decide +kernel) rfl
theorem tw_142 : Cond.fieldLink RX3 22 "StyleTree$Rule" "values" "[I" ∈ gw := gwm 142 (by decide +kernel) rfl
theorem tw_143 : Cond.fieldLink RX6 70 "StyleTree$Rule" "values" "[I" ∈ gw := gwm 143 (by decide +kernel) rfl
theorem tw_144 : Cond.fieldLink RX3 25 "StyleTree$Rule" "weights" "[I" ∈ gw := gwm 144 (by decide +kernel) rfl
theorem tw_145 : Cond.fieldLink RX4 77 "StyleTree$Rule" "weights" "[I" ∈ gw := gwm 145 (by decide +kernel) rfl
theorem tw_167 : Cond.arrayClass .boolean ∈ gw := gwm 167 (by decide +kernel) rfl
theorem tw_168 : Cond.fieldLink RX4 9 "StyleTree$Sheet" "nodes" "I" ∈ gw := gwm 168 (by decide +kernel) rfl
theorem tw_169 : Cond.fieldLink RX6 28 "StyleTree$Sheet" "nodes" "I" ∈ gw := gwm 169 (by decide +kernel) rfl
theorem tw_170 : Cond.fieldLink RX7 106 "StyleTree$Sheet" "nodes" "I" ∈ gw := gwm 170 (by decide +kernel) rfl
theorem tw_171 : Cond.fieldLink RX2 58 "StyleTree$Sheet" "nodes" "I" ∈ gw := gwm 171 (by decide +kernel) rfl
theorem tw_172 : Cond.fieldLink RX4 15 "StyleTree$Sheet" "rules" "I" ∈ gw := gwm 172 (by decide +kernel) rfl
theorem tw_173 : Cond.fieldLink RX6 31 "StyleTree$Sheet" "rules" "I" ∈ gw := gwm 173 (by decide +kernel) rfl
theorem tw_174 : Cond.fieldLink RX7 128 "StyleTree$Sheet" "rules" "I" ∈ gw := gwm 174 (by decide +kernel) rfl
theorem tw_175 : Cond.fieldLink RX2 77 "StyleTree$Sheet" "rules" "I" ∈ gw := gwm 175 (by decide +kernel) rfl
theorem tw_176 : Cond.fieldLink RX4 18 "StyleTree$Sheet" "parents" "[I" ∈ gw := gwm 176 (by decide +kernel) rfl
theorem tw_177 : Cond.fieldLink RX6 64 "StyleTree$Sheet" "parents" "[I" ∈ gw := gwm 177 (by decide +kernel) rfl
theorem tw_178 : Cond.fieldLink RX7 109 "StyleTree$Sheet" "parents" "[I" ∈ gw := gwm 178 (by decide +kernel) rfl
theorem tw_179 : Cond.fieldLink RX4 22 "StyleTree$Sheet" "above" "[I" ∈ gw := gwm 179 (by decide +kernel) rfl
theorem tw_180 : Cond.fieldLink RX4 28 "StyleTree$Sheet" "told" "LStyleTree$Look;" ∈ gw := gwm 180 (by decide +kernel) rfl
theorem tw_181 : Cond.fieldLink RX7 92 "StyleTree$Sheet" "told" "LStyleTree$Look;" ∈ gw := gwm 181 (by decide +kernel) rfl
theorem tw_182 : Cond.fieldLink RX4 34 "StyleTree$Sheet" "rows" "[LStyleTree$Rule;" ∈ gw := gwm 182 (by decide +kernel) rfl
theorem tw_183 : Cond.fieldLink RX6 40 "StyleTree$Sheet" "rows" "[LStyleTree$Rule;" ∈ gw := gwm 183 (by decide +kernel) rfl
theorem tw_184 : Cond.fieldLink RX7 131 "StyleTree$Sheet" "rows" "[LStyleTree$Rule;" ∈ gw := gwm 184 (by decide +kernel) rfl
theorem tw_185 : Cond.fieldLink RX2 84 "StyleTree$Sheet" "rows" "[LStyleTree$Rule;" ∈ gw := gwm 185 (by decide +kernel) rfl
theorem tw_199 : Cond.fieldLink RX2 9 "StyleTree$Reader" "letters" "[C" ∈ gw := gwm 199 (by decide +kernel) rfl
theorem tw_200 : Cond.fieldLink RX2 15 "StyleTree$Reader" "length" "I" ∈ gw := gwm 200 (by decide +kernel) rfl
theorem tw_201 : Cond.fieldLink RX2 19 "StyleTree$Reader" "next" "I" ∈ gw := gwm 201 (by decide +kernel) rfl
theorem tw_202 : Cond.fieldLink RX2 22 "StyleTree$Reader" "start" "I" ∈ gw := gwm 202 (by decide +kernel) rfl
theorem tw_203 : Cond.fieldLink RX2 25 "StyleTree$Reader" "token" "I" ∈ gw := gwm 203 (by decide +kernel) rfl
theorem tw_204 : Cond.fieldLink RX2 31 "StyleTree$Reader" "sheet" "LStyleTree$Sheet;" ∈ gw := gwm 204 (by decide +kernel) rfl
theorem tw_218 : Cond.classLink RX7 24 RX4 ∈ gw := gwm 218 (by decide +kernel) rfl
theorem tw_219 : Cond.methodLink RX7 26 yX4_init ∈ gw := gwm 219 (by decide +kernel) rfl
theorem tw_220 : Cond.classLink RX7 31 RX1 ∈ gw := gwm 220 (by decide +kernel) rfl
theorem tw_222 : Cond.classLink RX7 41 RX6 ∈ gw := gwm 222 (by decide +kernel) rfl
theorem tw_223 : Cond.instantiable RX6 5 ∈ gw := gwm 223 (by decide +kernel) rfl
theorem tw_225 : Cond.instanceMethod yX6_init ∈ gw := gwm 225 (by decide +kernel) rfl
theorem tw_226 : Cond.code yX6_init cX6_init 1 none ∈ gw := gwm 226 (by decide +kernel) rfl
theorem tw_227 : Cond.methodLink RX6 3 objectInit ∈ gw := gwm 227 (by decide +kernel) rfl
theorem tw_228 : Cond.fieldLink RX6 9 "StyleTree$Styles" "nodes" "I" ∈ gw := gwm 228 (by decide +kernel) rfl
theorem tw_229 : Cond.fieldLink RX6 15 "StyleTree$Styles" "nodesOfRule" "[I" ∈ gw := gwm 229 (by decide +kernel) rfl
theorem tw_230 : Cond.fieldLink RX6 19 "StyleTree$Styles" "rulesOfNode" "[I" ∈ gw := gwm 230 (by decide +kernel) rfl
theorem tw_231 : Cond.fieldLink RX6 22 "StyleTree$Styles" "values" "[I" ∈ gw := gwm 231 (by decide +kernel) rfl
theorem tw_232 : Cond.fieldLink RX6 25 "StyleTree$Styles" "sources" "[I" ∈ gw := gwm 232 (by decide +kernel) rfl
theorem tw_244 : Cond.classLink RX7 51 RX0 ∈ gw := gwm 244 (by decide +kernel) rfl
theorem tw_245 : Cond.instantiable RX0 2 ∈ gw := gwm 245 (by decide +kernel) rfl
theorem tw_247 : Cond.instanceMethod yX0_init ∈ gw := gwm 247 (by decide +kernel) rfl
theorem tw_248 : Cond.code yX0_init cX0_init 1 none ∈ gw := gwm 248 (by decide +kernel) rfl
theorem tw_249 : Cond.methodLink RX0 3 objectInit ∈ gw := gwm 249 (by decide +kernel) rfl
theorem tw_250 : Cond.fieldLink RX0 9 "StyleTree$History" "remedies" "[I" ∈ gw := gwm 250 (by decide +kernel) rfl
theorem tw_251 : Cond.fieldLink RX0 15 "StyleTree$History" "size" "I" ∈ gw := gwm 251 (by decide +kernel) rfl
theorem tw_252 : Cond.fieldLink RX7 171 "StyleTree$History" "size" "I" ∈ gw := gwm 252 (by decide +kernel) rfl
theorem tw_258 : Cond.classLink RX7 58 RX5 ∈ gw := gwm 258 (by decide +kernel) rfl
theorem tw_259 : Cond.instantiable RX5 4 ∈ gw := gwm 259 (by decide +kernel) rfl
theorem tw_261 : Cond.instanceMethod yX5_init ∈ gw := gwm 261 (by decide +kernel) rfl
theorem tw_262 : Cond.code yX5_init cX5_init 1 none ∈ gw := gwm 262 (by decide +kernel) rfl
theorem tw_263 : Cond.methodLink RX5 3 objectInit ∈ gw := gwm 263 (by decide +kernel) rfl
theorem tw_264 : Cond.fieldLink RX5 9 "StyleTree$Sightings" "nodes" "[I" ∈ gw := gwm 264 (by decide +kernel) rfl
theorem tw_265 : Cond.fieldLink RX5 15 "StyleTree$Sightings" "properties" "[I" ∈ gw := gwm 265 (by decide +kernel) rfl
theorem tw_266 : Cond.fieldLink RX5 18 "StyleTree$Sightings" "values" "[I" ∈ gw := gwm 266 (by decide +kernel) rfl
theorem tw_267 : Cond.fieldLink RX5 21 "StyleTree$Sightings" "size" "I" ∈ gw := gwm 267 (by decide +kernel) rfl
theorem tw_268 : Cond.fieldLink RX7 207 "StyleTree$Sightings" "size" "I" ∈ gw := gwm 268 (by decide +kernel) rfl
theorem tw_279 : Cond.fieldLink RX7 9 "StyleTree" "letters" "[C" ∈ gw := gwm 279 (by decide +kernel) rfl
theorem tw_280 : Cond.fieldLink RX7 13 "StyleTree" "length" "I" ∈ gw := gwm 280 (by decide +kernel) rfl
theorem tw_281 : Cond.fieldLink RX7 20 "StyleTree" "reader" "LStyleTree$Reader;" ∈ gw := gwm 281 (by decide +kernel) rfl
theorem tw_282 : Cond.fieldLink RX7 27 "StyleTree" "sheet" "LStyleTree$Sheet;" ∈ gw := gwm 282 (by decide +kernel) rfl
theorem tw_283 : Cond.fieldLink RX7 34 "StyleTree" "look" "LStyleTree$Look;" ∈ gw := gwm 283 (by decide +kernel) rfl
theorem tw_284 : Cond.fieldLink RX7 38 "StyleTree" "trial" "LStyleTree$Look;" ∈ gw := gwm 284 (by decide +kernel) rfl
theorem tw_285 : Cond.fieldLink RX7 44 "StyleTree" "now" "LStyleTree$Styles;" ∈ gw := gwm 285 (by decide +kernel) rfl
theorem tw_286 : Cond.fieldLink RX7 48 "StyleTree" "then" "LStyleTree$Styles;" ∈ gw := gwm 286 (by decide +kernel) rfl
theorem tw_287 : Cond.fieldLink RX7 54 "StyleTree" "history" "LStyleTree$History;" ∈ gw := gwm 287 (by decide +kernel) rfl
theorem tw_288 : Cond.fieldLink RX7 61 "StyleTree" "sightings" "LStyleTree$Sightings;" ∈ gw := gwm 288 (by decide +kernel) rfl
theorem tw_289 : Cond.fieldLink RX7 65 "StyleTree" "images" "[LStyleTree$Look;" ∈ gw := gwm 289 (by decide +kernel) rfl
theorem tw_290 : Cond.fieldLink RX7 69 "StyleTree" "keptImages" "I" ∈ gw := gwm 290 (by decide +kernel) rfl
theorem tw_291 : Cond.fieldLink RX7 72 "StyleTree" "answers" "[I" ∈ gw := gwm 291 (by decide +kernel) rfl
theorem tw_319 : Cond.methodLink RL 13 yX7_type ∈ gw := gwm 319 (by decide +kernel) rfl
theorem tw_320 : Cond.instanceMethod yX7_type ∈ gw := gwm 320 (by decide +kernel) rfl
theorem tw_321 : Cond.selects RX7 yX7_type yX7_type ∈ gw := gwm 321 (by decide +kernel) rfl
theorem tw_322 : Cond.code yX7_type cX7_type 2 (some .int) ∈ gw := gwm 322 (by decide +kernel) rfl
theorem tw_323 : Cond.methodLink RX7 76 yX7_within ∈ gw := gwm 323 (by decide +kernel) rfl
theorem tw_324 : Cond.static yX7_within ∈ gw := gwm 324 (by decide +kernel) rfl
theorem tw_325 : Cond.code yX7_within cX7_within 2 (some .boolean) ∈ gw := gwm 325 (by decide +kernel) rfl
theorem tw_326 : Cond.methodLink RL 18 yX7_clear ∈ gw := gwm 326 (by decide +kernel) rfl
theorem tw_327 : Cond.instanceMethod yX7_clear ∈ gw := gwm 327 (by decide +kernel) rfl
theorem tw_328 : Cond.selects RX7 yX7_clear yX7_clear ∈ gw := gwm 328 (by decide +kernel) rfl
theorem tw_329 : Cond.code yX7_clear cX7_clear 2 (some .int) ∈ gw := gwm 329 (by decide +kernel) rfl
theorem tw_330 : Cond.methodLink RL 23 yX7_page ∈ gw := gwm 330 (by decide +kernel) rfl
theorem tw_331 : Cond.instanceMethod yX7_page ∈ gw := gwm 331 (by decide +kernel) rfl
theorem tw_332 : Cond.selects RX7 yX7_page yX7_page ∈ gw := gwm 332 (by decide +kernel) rfl
theorem tw_333 : Cond.code yX7_page cX7_page 2 (some .int) ∈ gw := gwm 333 (by decide +kernel) rfl
theorem tw_334 : Cond.methodLink RX7 80 yX2_readAll ∈ gw := gwm 334 (by decide +kernel) rfl
theorem tw_335 : Cond.instanceMethod yX2_readAll ∈ gw := gwm 335 (by decide +kernel) rfl
theorem tw_336 : Cond.selects RX2 yX2_readAll yX2_readAll ∈ gw := gwm 336 (by decide +kernel) rfl
theorem tw_337 : Cond.code yX2_readAll cX2_readAll 5 (some .int) ∈ gw := gwm 337 (by decide +kernel) rfl
theorem tw_338 : Cond.methodLink RX2 35 yJ9_min_7cf53 ∈ gw := gwm 338 (by decide +kernel) rfl
theorem tw_339 : Cond.static yJ9_min_7cf53 ∈ gw := gwm 339 (by decide +kernel) rfl
theorem tw_340 : Cond.code yJ9_min_7cf53 cJ9_min_7cf53 2 (some .int) ∈ gw := gwm 340 (by decide +kernel) rfl
theorem tw_341 : Cond.methodLink RX2 41 yX4_empty ∈ gw := gwm 341 (by decide +kernel) rfl
theorem tw_342 : Cond.instanceMethod yX4_empty ∈ gw := gwm 342 (by decide +kernel) rfl
theorem tw_343 : Cond.selects RX4 yX4_empty yX4_empty ∈ gw := gwm 343 (by decide +kernel) rfl
theorem tw_344 : Cond.code yX4_empty cX4_empty 1 none ∈ gw := gwm 344 (by decide +kernel) rfl
theorem tw_345 : Cond.methodLink RX2 44 yX2_advance ∈ gw := gwm 345 (by decide +kernel) rfl
theorem tw_347 : Cond.instanceMethod yX2_advance ∈ gw := gwm 347 (by decide +kernel) rfl
theorem tw_348 : Cond.code yX2_advance cX2_advance 1 none ∈ gw := gwm 348 (by decide +kernel) rfl
theorem tw_349 : Cond.methodLink RX2 54 yX2_isDigitAt ∈ gw := gwm 349 (by decide +kernel) rfl
theorem tw_351 : Cond.instanceMethod yX2_isDigitAt ∈ gw := gwm 351 (by decide +kernel) rfl
theorem tw_352 : Cond.code yX2_isDigitAt cX2_isDigitAt 2 (some .boolean) ∈ gw := gwm 352 (by decide +kernel) rfl
theorem tw_353 : Cond.methodLink RX2 47 yX2_readNode ∈ gw := gwm 353 (by decide +kernel) rfl
theorem tw_355 : Cond.instanceMethod yX2_readNode ∈ gw := gwm 355 (by decide +kernel) rfl
theorem tw_356 : Cond.code yX2_readNode cX2_readNode 6 (some .boolean) ∈ gw := gwm 356 (by decide +kernel) rfl
theorem tw_357 : Cond.methodLink RX2 61 yX2_isDigit ∈ gw := gwm 357 (by decide +kernel) rfl
theorem tw_359 : Cond.instanceMethod yX2_isDigit ∈ gw := gwm 359 (by decide +kernel) rfl
theorem tw_360 : Cond.code yX2_isDigit cX2_isDigit 1 (some .boolean) ∈ gw := gwm 360 (by decide +kernel) rfl
theorem tw_361 : Cond.methodLink RX2 64 yX2_isTag ∈ gw := gwm 361 (by decide +kernel) rfl
theorem tw_363 : Cond.instanceMethod yX2_isTag ∈ gw := gwm 363 (by decide +kernel) rfl
theorem tw_364 : Cond.code yX2_isTag cX2_isTag 1 (some .boolean) ∈ gw := gwm 364 (by decide +kernel) rfl
theorem tw_365 : Cond.methodLink RX2 67 yX2_isClass ∈ gw := gwm 365 (by decide +kernel) rfl
theorem tw_367 : Cond.instanceMethod yX2_isClass ∈ gw := gwm 367 (by decide +kernel) rfl
theorem tw_368 : Cond.code yX2_isClass cX2_isClass 1 (some .boolean) ∈ gw := gwm 368 (by decide +kernel) rfl
theorem tw_369 : Cond.methodLink RX2 70 yX2_take ∈ gw := gwm 369 (by decide +kernel) rfl
theorem tw_371 : Cond.instanceMethod yX2_take ∈ gw := gwm 371 (by decide +kernel) rfl
theorem tw_372 : Cond.code yX2_take cX2_take 2 (some .boolean) ∈ gw := gwm 372 (by decide +kernel) rfl
theorem tw_373 : Cond.methodLink RX2 73 yX4_addNode ∈ gw := gwm 373 (by decide +kernel) rfl
theorem tw_374 : Cond.instanceMethod yX4_addNode ∈ gw := gwm 374 (by decide +kernel) rfl
theorem tw_375 : Cond.selects RX4 yX4_addNode yX4_addNode ∈ gw := gwm 375 (by decide +kernel) rfl
theorem tw_376 : Cond.code yX4_addNode cX4_addNode 4 none ∈ gw := gwm 376 (by decide +kernel) rfl
theorem tw_378 : Cond.methodLink RX2 51 yX2_readRule ∈ gw := gwm 378 (by decide +kernel) rfl
theorem tw_380 : Cond.instanceMethod yX2_readRule ∈ gw := gwm 380 (by decide +kernel) rfl
theorem tw_381 : Cond.code yX2_readRule cX2_readRule 2 (some .boolean) ∈ gw := gwm 381 (by decide +kernel) rfl
theorem tw_383 : Cond.methodLink RX2 88 yX3_begin ∈ gw := gwm 383 (by decide +kernel) rfl
theorem tw_384 : Cond.instanceMethod yX3_begin ∈ gw := gwm 384 (by decide +kernel) rfl
theorem tw_385 : Cond.selects RX3 yX3_begin yX3_begin ∈ gw := gwm 385 (by decide +kernel) rfl
theorem tw_386 : Cond.code yX3_begin cX3_begin 2 none ∈ gw := gwm 386 (by decide +kernel) rfl
theorem tw_387 : Cond.methodLink RX2 94 yX2_readSelector ∈ gw := gwm 387 (by decide +kernel) rfl
theorem tw_389 : Cond.instanceMethod yX2_readSelector ∈ gw := gwm 389 (by decide +kernel) rfl
theorem tw_390 : Cond.code yX2_readSelector cX2_readSelector 4 (some .boolean) ∈ gw := gwm 390 (by decide +kernel) rfl
theorem tw_391 : Cond.methodLink RX2 104 yX2_readCompound ∈ gw := gwm 391 (by decide +kernel) rfl
theorem tw_393 : Cond.instanceMethod yX2_readCompound ∈ gw := gwm 393 (by decide +kernel) rfl
theorem tw_394 : Cond.code yX2_readCompound cX2_readCompound 7 (some .boolean) ∈ gw := gwm 394 (by decide +kernel) rfl
theorem tw_395 : Cond.methodLink RX2 111 yX3_addCompound ∈ gw := gwm 395 (by decide +kernel) rfl
theorem tw_396 : Cond.instanceMethod yX3_addCompound ∈ gw := gwm 396 (by decide +kernel) rfl
theorem tw_397 : Cond.selects RX3 yX3_addCompound yX3_addCompound ∈ gw := gwm 397 (by decide +kernel) rfl
theorem tw_398 : Cond.code yX3_addCompound cX3_addCompound 4 none ∈ gw := gwm 398 (by decide +kernel) rfl
theorem tw_400 : Cond.methodLink RX3 49 yJ6_bitCount_0f7a4 ∈ gw := gwm 400 (by decide +kernel) rfl
theorem tw_401 : Cond.static yJ6_bitCount_0f7a4 ∈ gw := gwm 401 (by decide +kernel) rfl
theorem tw_402 : Cond.code yJ6_bitCount_0f7a4 cJ6_bitCount_0f7a4 1 (some .int) ∈ gw := gwm 402 (by decide +kernel) rfl
theorem tw_403 : Cond.constant RJ6 265 1431655765 ∈ gw := gwm 403 (by decide +kernel) rfl
theorem tw_404 : Cond.constant RJ6 266 858993459 ∈ gw := gwm 404 (by decide +kernel) rfl
theorem tw_405 : Cond.constant RJ6 267 252645135 ∈ gw := gwm 405 (by decide +kernel) rfl
theorem tw_406 : Cond.methodLink RX2 108 yX2_isJoint ∈ gw := gwm 406 (by decide +kernel) rfl
theorem tw_408 : Cond.instanceMethod yX2_isJoint ∈ gw := gwm 408 (by decide +kernel) rfl
theorem tw_409 : Cond.code yX2_isJoint cX2_isJoint 1 (some .boolean) ∈ gw := gwm 409 (by decide +kernel) rfl
theorem tw_410 : Cond.methodLink RX2 98 yX2_readDeclarations ∈ gw := gwm 410 (by decide +kernel) rfl
theorem tw_412 : Cond.instanceMethod yX2_readDeclarations ∈ gw := gwm 412 (by decide +kernel) rfl
theorem tw_413 : Cond.code yX2_readDeclarations cX2_readDeclarations 3 (some .boolean) ∈ gw := gwm 413 (by decide +kernel) rfl
theorem tw_414 : Cond.methodLink RX2 115 yX2_readDeclaration ∈ gw := gwm 414 (by decide +kernel) rfl
theorem tw_416 : Cond.instanceMethod yX2_readDeclaration ∈ gw := gwm 416 (by decide +kernel) rfl
theorem tw_417 : Cond.code yX2_readDeclaration cX2_readDeclaration 4 (some .boolean) ∈ gw := gwm 417 (by decide +kernel) rfl
theorem tw_418 : Cond.methodLink RX2 118 yX2_isProperty ∈ gw := gwm 418 (by decide +kernel) rfl
theorem tw_420 : Cond.instanceMethod yX2_isProperty ∈ gw := gwm 420 (by decide +kernel) rfl
theorem tw_421 : Cond.code yX2_isProperty cX2_isProperty 1 (some .boolean) ∈ gw := gwm 421 (by decide +kernel) rfl
theorem tw_423 : Cond.static yX7_hasBit ∈ gw := gwm 423 (by decide +kernel) rfl
theorem tw_424 : Cond.code yX7_hasBit cX7_hasBit 2 (some .boolean) ∈ gw := gwm 424 (by decide +kernel) rfl
theorem tw_425 : Cond.methodLink RX2 127 yX3_declare ∈ gw := gwm 425 (by decide +kernel) rfl
theorem tw_426 : Cond.instanceMethod yX3_declare ∈ gw := gwm 426 (by decide +kernel) rfl
theorem tw_427 : Cond.selects RX3 yX3_declare yX3_declare ∈ gw := gwm 427 (by decide +kernel) rfl
theorem tw_428 : Cond.code yX3_declare cX3_declare 4 none ∈ gw := gwm 428 (by decide +kernel) rfl
theorem tw_429 : Cond.methodLink RX3 55 yX3_level ∈ gw := gwm 429 (by decide +kernel) rfl
theorem tw_431 : Cond.instanceMethod yX3_level ∈ gw := gwm 431 (by decide +kernel) rfl
theorem tw_432 : Cond.code yX3_level cX3_level 2 (some .int) ∈ gw := gwm 432 (by decide +kernel) rfl
theorem tw_433 : Cond.methodLink RX2 101 yX4_addRule ∈ gw := gwm 433 (by decide +kernel) rfl
theorem tw_434 : Cond.instanceMethod yX4_addRule ∈ gw := gwm 434 (by decide +kernel) rfl
theorem tw_435 : Cond.selects RX4 yX4_addRule yX4_addRule ∈ gw := gwm 435 (by decide +kernel) rfl
theorem tw_436 : Cond.code yX4_addRule cX4_addRule 1 none ∈ gw := gwm 436 (by decide +kernel) rfl
theorem tw_437 : Cond.methodLink RX7 84 yX2_fault ∈ gw := gwm 437 (by decide +kernel) rfl
theorem tw_438 : Cond.instanceMethod yX2_fault ∈ gw := gwm 438 (by decide +kernel) rfl
theorem tw_439 : Cond.selects RX2 yX2_fault yX2_fault ∈ gw := gwm 439 (by decide +kernel) rfl
theorem tw_440 : Cond.code yX2_fault cX2_fault 1 (some .int) ∈ gw := gwm 440 (by decide +kernel) rfl
theorem tw_441 : Cond.methodLink RX7 88 yX2_exchange ∈ gw := gwm 441 (by decide +kernel) rfl
theorem tw_442 : Cond.instanceMethod yX2_exchange ∈ gw := gwm 442 (by decide +kernel) rfl
theorem tw_443 : Cond.selects RX2 yX2_exchange yX2_exchange ∈ gw := gwm 443 (by decide +kernel) rfl
theorem tw_444 : Cond.code yX2_exchange cX2_exchange 3 (some (.object "StyleTree$Sheet")) ∈ gw := gwm 444 (by decide +kernel) rfl
theorem tw_445 : Cond.methodLink RX7 95 yX1_copyFrom ∈ gw := gwm 445 (by decide +kernel) rfl
theorem tw_446 : Cond.instanceMethod yX1_copyFrom ∈ gw := gwm 446 (by decide +kernel) rfl
theorem tw_447 : Cond.selects RX1 yX1_copyFrom yX1_copyFrom ∈ gw := gwm 447 (by decide +kernel) rfl
theorem tw_448 : Cond.code yX1_copyFrom cX1_copyFrom 2 none ∈ gw := gwm 448 (by decide +kernel) rfl
theorem tw_449 : Cond.methodLink RX1 22 arraycopyName ∈ gw := gwm 449 (by decide +kernel) rfl
theorem tw_450 : Cond.static arraycopyName ∈ gw := gwm 450 (by decide +kernel) rfl
theorem tw_451 : Cond.native arraycopyName ∈ gw := gwm 451 (by decide +kernel) rfl
theorem tw_452 : Cond.methodLink RX7 99 yX0_empty ∈ gw := gwm 452 (by decide +kernel) rfl
theorem tw_453 : Cond.instanceMethod yX0_empty ∈ gw := gwm 453 (by decide +kernel) rfl
theorem tw_454 : Cond.selects RX0 yX0_empty yX0_empty ∈ gw := gwm 454 (by decide +kernel) rfl
theorem tw_455 : Cond.code yX0_empty cX0_empty 1 none ∈ gw := gwm 455 (by decide +kernel) rfl
theorem tw_456 : Cond.methodLink RX7 102 yX5_empty ∈ gw := gwm 456 (by decide +kernel) rfl
theorem tw_457 : Cond.instanceMethod yX5_empty ∈ gw := gwm 457 (by decide +kernel) rfl
theorem tw_458 : Cond.selects RX5 yX5_empty yX5_empty ∈ gw := gwm 458 (by decide +kernel) rfl
theorem tw_459 : Cond.code yX5_empty cX5_empty 1 none ∈ gw := gwm 459 (by decide +kernel) rfl
theorem tw_460 : Cond.methodLink RX7 103 yX7_refresh ∈ gw := gwm 460 (by decide +kernel) rfl
theorem tw_462 : Cond.instanceMethod yX7_refresh ∈ gw := gwm 462 (by decide +kernel) rfl
theorem tw_463 : Cond.code yX7_refresh cX7_refresh 1 none ∈ gw := gwm 463 (by decide +kernel) rfl
theorem tw_464 : Cond.methodLink RX7 232 yX6_resolve ∈ gw := gwm 464 (by decide +kernel) rfl
theorem tw_465 : Cond.instanceMethod yX6_resolve ∈ gw := gwm 465 (by decide +kernel) rfl
theorem tw_466 : Cond.selects RX6 yX6_resolve yX6_resolve ∈ gw := gwm 466 (by decide +kernel) rfl
theorem tw_467 : Cond.code yX6_resolve cX6_resolve 5 none ∈ gw := gwm 467 (by decide +kernel) rfl
theorem tw_468 : Cond.methodLink RX6 34 yX1_hasOn ∈ gw := gwm 468 (by decide +kernel) rfl
theorem tw_469 : Cond.instanceMethod yX1_hasOn ∈ gw := gwm 469 (by decide +kernel) rfl
theorem tw_470 : Cond.selects RX1 yX1_hasOn yX1_hasOn ∈ gw := gwm 470 (by decide +kernel) rfl
theorem tw_471 : Cond.code yX1_hasOn cX1_hasOn 2 (some .boolean) ∈ gw := gwm 471 (by decide +kernel) rfl
theorem tw_473 : Cond.methodLink RX6 44 yX4_reached ∈ gw := gwm 473 (by decide +kernel) rfl
theorem tw_474 : Cond.instanceMethod yX4_reached ∈ gw := gwm 474 (by decide +kernel) rfl
theorem tw_475 : Cond.selects RX4 yX4_reached yX4_reached ∈ gw := gwm 475 (by decide +kernel) rfl
theorem tw_476 : Cond.code yX4_reached cX4_reached 5 (some .int) ∈ gw := gwm 476 (by decide +kernel) rfl
theorem tw_477 : Cond.methodLink RX4 59 yX4_fitted ∈ gw := gwm 477 (by decide +kernel) rfl
theorem tw_478 : Cond.instanceMethod yX4_fitted ∈ gw := gwm 478 (by decide +kernel) rfl
theorem tw_479 : Cond.selects RX4 yX4_fitted yX4_fitted ∈ gw := gwm 479 (by decide +kernel) rfl
theorem tw_480 : Cond.code yX4_fitted cX4_fitted 6 (some .int) ∈ gw := gwm 480 (by decide +kernel) rfl
theorem tw_481 : Cond.methodLink RX4 55 yX3_fits ∈ gw := gwm 481 (by decide +kernel) rfl
theorem tw_482 : Cond.instanceMethod yX3_fits ∈ gw := gwm 482 (by decide +kernel) rfl
theorem tw_483 : Cond.selects RX3 yX3_fits yX3_fits ∈ gw := gwm 483 (by decide +kernel) rfl
theorem tw_484 : Cond.code yX3_fits cX3_fits 5 (some .boolean) ∈ gw := gwm 484 (by decide +kernel) rfl
theorem tw_485 : Cond.methodLink RX4 70 yX4_under ∈ gw := gwm 485 (by decide +kernel) rfl
theorem tw_487 : Cond.instanceMethod yX4_under ∈ gw := gwm 487 (by decide +kernel) rfl
theorem tw_488 : Cond.code yX4_under cX4_under 6 (some .int) ∈ gw := gwm 488 (by decide +kernel) rfl
theorem tw_489 : Cond.methodLink RX6 48 yX6_noteRule ∈ gw := gwm 489 (by decide +kernel) rfl
theorem tw_491 : Cond.instanceMethod yX6_noteRule ∈ gw := gwm 491 (by decide +kernel) rfl
theorem tw_492 : Cond.code yX6_noteRule cX6_noteRule 3 none ∈ gw := gwm 492 (by decide +kernel) rfl
theorem tw_494 : Cond.methodLink RX6 52 yX6_settle ∈ gw := gwm 494 (by decide +kernel) rfl
theorem tw_496 : Cond.instanceMethod yX6_settle ∈ gw := gwm 496 (by decide +kernel) rfl
theorem tw_497 : Cond.code yX6_settle cX6_settle 7 none ∈ gw := gwm 497 (by decide +kernel) rfl
theorem tw_498 : Cond.methodLink RX6 60 yX4_strongest ∈ gw := gwm 498 (by decide +kernel) rfl
theorem tw_499 : Cond.instanceMethod yX4_strongest ∈ gw := gwm 499 (by decide +kernel) rfl
theorem tw_500 : Cond.selects RX4 yX4_strongest yX4_strongest ∈ gw := gwm 500 (by decide +kernel) rfl
theorem tw_501 : Cond.code yX4_strongest cX4_strongest 7 (some .int) ∈ gw := gwm 501 (by decide +kernel) rfl
theorem tw_504 : Cond.methodLink RL 27 yX7_node ∈ gw := gwm 504 (by decide +kernel) rfl
theorem tw_505 : Cond.instanceMethod yX7_node ∈ gw := gwm 505 (by decide +kernel) rfl
theorem tw_506 : Cond.selects RX7 yX7_node yX7_node ∈ gw := gwm 506 (by decide +kernel) rfl
theorem tw_507 : Cond.code yX7_node cX7_node 3 (some .int) ∈ gw := gwm 507 (by decide +kernel) rfl
theorem tw_508 : Cond.methodLink RX7 118 yX6_rulesOf ∈ gw := gwm 508 (by decide +kernel) rfl
theorem tw_509 : Cond.instanceMethod yX6_rulesOf ∈ gw := gwm 509 (by decide +kernel) rfl
theorem tw_510 : Cond.selects RX6 yX6_rulesOf yX6_rulesOf ∈ gw := gwm 510 (by decide +kernel) rfl
theorem tw_511 : Cond.code yX6_rulesOf cX6_rulesOf 2 (some .int) ∈ gw := gwm 511 (by decide +kernel) rfl
theorem tw_512 : Cond.methodLink RX7 122 yX6_recordOf ∈ gw := gwm 512 (by decide +kernel) rfl
theorem tw_513 : Cond.instanceMethod yX6_recordOf ∈ gw := gwm 513 (by decide +kernel) rfl
theorem tw_514 : Cond.selects RX6 yX6_recordOf yX6_recordOf ∈ gw := gwm 514 (by decide +kernel) rfl
theorem tw_515 : Cond.code yX6_recordOf cX6_recordOf 4 (some .int) ∈ gw := gwm 515 (by decide +kernel) rfl
theorem tw_516 : Cond.methodLink RX6 76 yX6_styleOf ∈ gw := gwm 516 (by decide +kernel) rfl
theorem tw_518 : Cond.instanceMethod yX6_styleOf ∈ gw := gwm 518 (by decide +kernel) rfl
theorem tw_519 : Cond.code yX6_styleOf cX6_styleOf 4 (some .int) ∈ gw := gwm 519 (by decide +kernel) rfl
theorem tw_520 : Cond.methodLink RX6 73 yX6_valueAt ∈ gw := gwm 520 (by decide +kernel) rfl
theorem tw_521 : Cond.instanceMethod yX6_valueAt ∈ gw := gwm 521 (by decide +kernel) rfl
theorem tw_522 : Cond.selects RX6 yX6_valueAt yX6_valueAt ∈ gw := gwm 522 (by decide +kernel) rfl
theorem tw_523 : Cond.code yX6_valueAt cX6_valueAt 3 (some .int) ∈ gw := gwm 523 (by decide +kernel) rfl
theorem tw_524 : Cond.methodLink RX7 125 yX4_below ∈ gw := gwm 524 (by decide +kernel) rfl
theorem tw_525 : Cond.instanceMethod yX4_below ∈ gw := gwm 525 (by decide +kernel) rfl
theorem tw_526 : Cond.selects RX4 yX4_below yX4_below ∈ gw := gwm 526 (by decide +kernel) rfl
theorem tw_527 : Cond.code yX4_below cX4_below 4 (some .int) ∈ gw := gwm 527 (by decide +kernel) rfl
theorem tw_528 : Cond.methodLink RL 32 yX7_rule ∈ gw := gwm 528 (by decide +kernel) rfl
theorem tw_529 : Cond.instanceMethod yX7_rule ∈ gw := gwm 529 (by decide +kernel) rfl
theorem tw_530 : Cond.selects RX7 yX7_rule yX7_rule ∈ gw := gwm 530 (by decide +kernel) rfl
theorem tw_531 : Cond.code yX7_rule cX7_rule 4 (some .int) ∈ gw := gwm 531 (by decide +kernel) rfl
theorem tw_532 : Cond.methodLink RX7 153 yX1_hasOn ∈ gw := gwm 532 (by decide +kernel) rfl
theorem tw_533 : Cond.methodLink RX7 157 yX6_nodesOf ∈ gw := gwm 533 (by decide +kernel) rfl
theorem tw_534 : Cond.instanceMethod yX6_nodesOf ∈ gw := gwm 534 (by decide +kernel) rfl
theorem tw_535 : Cond.selects RX6 yX6_nodesOf yX6_nodesOf ∈ gw := gwm 535 (by decide +kernel) rfl
theorem tw_536 : Cond.code yX6_nodesOf cX6_nodesOf 2 (some .int) ∈ gw := gwm 536 (by decide +kernel) rfl
theorem tw_537 : Cond.methodLink RL 36 yX7_toggles ∈ gw := gwm 537 (by decide +kernel) rfl
theorem tw_538 : Cond.instanceMethod yX7_toggles ∈ gw := gwm 538 (by decide +kernel) rfl
theorem tw_539 : Cond.selects RX7 yX7_toggles yX7_toggles ∈ gw := gwm 539 (by decide +kernel) rfl
theorem tw_540 : Cond.code yX7_toggles cX7_toggles 4 (some .int) ∈ gw := gwm 540 (by decide +kernel) rfl
theorem tw_541 : Cond.methodLink RX7 160 yX7_perform ∈ gw := gwm 541 (by decide +kernel) rfl
theorem tw_543 : Cond.instanceMethod yX7_perform ∈ gw := gwm 543 (by decide +kernel) rfl
theorem tw_544 : Cond.code yX7_perform cX7_perform 3 none ∈ gw := gwm 544 (by decide +kernel) rfl
theorem tw_545 : Cond.methodLink RX7 167 yX1_apply ∈ gw := gwm 545 (by decide +kernel) rfl
theorem tw_546 : Cond.instanceMethod yX1_apply ∈ gw := gwm 546 (by decide +kernel) rfl
theorem tw_547 : Cond.selects RX1 yX1_apply yX1_apply ∈ gw := gwm 547 (by decide +kernel) rfl
theorem tw_548 : Cond.code yX1_apply cX1_apply 2 none ∈ gw := gwm 548 (by decide +kernel) rfl
theorem tw_549 : Cond.methodLink RX1 32 yX1_putTag ∈ gw := gwm 549 (by decide +kernel) rfl
theorem tw_551 : Cond.instanceMethod yX1_putTag ∈ gw := gwm 551 (by decide +kernel) rfl
theorem tw_552 : Cond.code yX1_putTag cX1_putTag 3 none ∈ gw := gwm 552 (by decide +kernel) rfl
theorem tw_554 : Cond.methodLink RX1 36 yX1_flipClass ∈ gw := gwm 554 (by decide +kernel) rfl
theorem tw_556 : Cond.instanceMethod yX1_flipClass ∈ gw := gwm 556 (by decide +kernel) rfl
theorem tw_557 : Cond.code yX1_flipClass cX1_flipClass 3 none ∈ gw := gwm 557 (by decide +kernel) rfl
theorem tw_558 : Cond.methodLink RX7 236 yX0_add ∈ gw := gwm 558 (by decide +kernel) rfl
theorem tw_559 : Cond.instanceMethod yX0_add ∈ gw := gwm 559 (by decide +kernel) rfl
theorem tw_560 : Cond.selects RX0 yX0_add yX0_add ∈ gw := gwm 560 (by decide +kernel) rfl
theorem tw_561 : Cond.code yX0_add cX0_add 2 none ∈ gw := gwm 561 (by decide +kernel) rfl
theorem tw_562 : Cond.methodLink RX0 19 arraycopyName ∈ gw := gwm 562 (by decide +kernel) rfl
theorem tw_564 : Cond.methodLink RL 40 yX7_tags ∈ gw := gwm 564 (by decide +kernel) rfl
theorem tw_565 : Cond.instanceMethod yX7_tags ∈ gw := gwm 565 (by decide +kernel) rfl
theorem tw_566 : Cond.selects RX7 yX7_tags yX7_tags ∈ gw := gwm 566 (by decide +kernel) rfl
theorem tw_567 : Cond.code yX7_tags cX7_tags 5 (some .int) ∈ gw := gwm 567 (by decide +kernel) rfl
theorem tw_568 : Cond.methodLink RL 44 yX7_switches ∈ gw := gwm 568 (by decide +kernel) rfl
theorem tw_569 : Cond.instanceMethod yX7_switches ∈ gw := gwm 569 (by decide +kernel) rfl
theorem tw_570 : Cond.selects RX7 yX7_switches yX7_switches ∈ gw := gwm 570 (by decide +kernel) rfl
theorem tw_571 : Cond.code yX7_switches cX7_switches 3 (some .int) ∈ gw := gwm 571 (by decide +kernel) rfl
theorem tw_572 : Cond.methodLink RL 48 yX7_undo ∈ gw := gwm 572 (by decide +kernel) rfl
theorem tw_573 : Cond.instanceMethod yX7_undo ∈ gw := gwm 573 (by decide +kernel) rfl
theorem tw_574 : Cond.selects RX7 yX7_undo yX7_undo ∈ gw := gwm 574 (by decide +kernel) rfl
theorem tw_575 : Cond.code yX7_undo cX7_undo 2 (some .int) ∈ gw := gwm 575 (by decide +kernel) rfl
theorem tw_576 : Cond.methodLink RX7 164 yX0_takeLatest ∈ gw := gwm 576 (by decide +kernel) rfl
theorem tw_577 : Cond.instanceMethod yX0_takeLatest ∈ gw := gwm 577 (by decide +kernel) rfl
theorem tw_578 : Cond.selects RX0 yX0_takeLatest yX0_takeLatest ∈ gw := gwm 578 (by decide +kernel) rfl
theorem tw_579 : Cond.code yX0_takeLatest cX0_takeLatest 1 (some .int) ∈ gw := gwm 579 (by decide +kernel) rfl
theorem tw_580 : Cond.methodLink RL 52 yX7_value ∈ gw := gwm 580 (by decide +kernel) rfl
theorem tw_581 : Cond.instanceMethod yX7_value ∈ gw := gwm 581 (by decide +kernel) rfl
theorem tw_582 : Cond.selects RX7 yX7_value yX7_value ∈ gw := gwm 582 (by decide +kernel) rfl
theorem tw_583 : Cond.code yX7_value cX7_value 3 (some .int) ∈ gw := gwm 583 (by decide +kernel) rfl
theorem tw_584 : Cond.methodLink RX7 174 yX7_isPlace ∈ gw := gwm 584 (by decide +kernel) rfl
theorem tw_586 : Cond.instanceMethod yX7_isPlace ∈ gw := gwm 586 (by decide +kernel) rfl
theorem tw_587 : Cond.code yX7_isPlace cX7_isPlace 3 (some .boolean) ∈ gw := gwm 587 (by decide +kernel) rfl
theorem tw_588 : Cond.methodLink RX7 177 yX6_valueAt ∈ gw := gwm 588 (by decide +kernel) rfl
theorem tw_589 : Cond.methodLink RL 56 yX7_winner ∈ gw := gwm 589 (by decide +kernel) rfl
theorem tw_590 : Cond.instanceMethod yX7_winner ∈ gw := gwm 590 (by decide +kernel) rfl
theorem tw_591 : Cond.selects RX7 yX7_winner yX7_winner ∈ gw := gwm 591 (by decide +kernel) rfl
theorem tw_592 : Cond.code yX7_winner cX7_winner 7 (some .int) ∈ gw := gwm 592 (by decide +kernel) rfl
theorem tw_593 : Cond.methodLink RX7 181 yX4_strongest ∈ gw := gwm 593 (by decide +kernel) rfl
theorem tw_594 : Cond.methodLink RX7 184 yJ9_min_7cf53 ∈ gw := gwm 594 (by decide +kernel) rfl
theorem tw_595 : Cond.methodLink RL 61 yX7_source ∈ gw := gwm 595 (by decide +kernel) rfl
theorem tw_596 : Cond.instanceMethod yX7_source ∈ gw := gwm 596 (by decide +kernel) rfl
theorem tw_597 : Cond.selects RX7 yX7_source yX7_source ∈ gw := gwm 597 (by decide +kernel) rfl
theorem tw_598 : Cond.code yX7_source cX7_source 3 (some .int) ∈ gw := gwm 598 (by decide +kernel) rfl
theorem tw_599 : Cond.methodLink RX7 189 yX6_sourceAt ∈ gw := gwm 599 (by decide +kernel) rfl
theorem tw_600 : Cond.instanceMethod yX6_sourceAt ∈ gw := gwm 600 (by decide +kernel) rfl
theorem tw_601 : Cond.selects RX6 yX6_sourceAt yX6_sourceAt ∈ gw := gwm 601 (by decide +kernel) rfl
theorem tw_602 : Cond.code yX6_sourceAt cX6_sourceAt 3 (some .int) ∈ gw := gwm 602 (by decide +kernel) rfl
theorem tw_603 : Cond.methodLink RL 65 yX7_change ∈ gw := gwm 603 (by decide +kernel) rfl
theorem tw_604 : Cond.instanceMethod yX7_change ∈ gw := gwm 604 (by decide +kernel) rfl
theorem tw_605 : Cond.selects RX7 yX7_change yX7_change ∈ gw := gwm 605 (by decide +kernel) rfl
theorem tw_606 : Cond.code yX7_change cX7_change 4 (some .int) ∈ gw := gwm 606 (by decide +kernel) rfl
theorem tw_607 : Cond.methodLink RX7 192 yX4_lookedAt ∈ gw := gwm 607 (by decide +kernel) rfl
theorem tw_608 : Cond.instanceMethod yX4_lookedAt ∈ gw := gwm 608 (by decide +kernel) rfl
theorem tw_609 : Cond.selects RX4 yX4_lookedAt yX4_lookedAt ∈ gw := gwm 609 (by decide +kernel) rfl
theorem tw_610 : Cond.code yX4_lookedAt cX4_lookedAt 6 (some .int) ∈ gw := gwm 610 (by decide +kernel) rfl
theorem tw_611 : Cond.methodLink RX4 80 yX1_hasOn ∈ gw := gwm 611 (by decide +kernel) rfl
theorem tw_612 : Cond.methodLink RX4 84 yX4_lookedAtBy ∈ gw := gwm 612 (by decide +kernel) rfl
theorem tw_614 : Cond.instanceMethod yX4_lookedAtBy ∈ gw := gwm 614 (by decide +kernel) rfl
theorem tw_615 : Cond.code yX4_lookedAtBy cX4_lookedAtBy 8 (some .int) ∈ gw := gwm 615 (by decide +kernel) rfl
theorem tw_616 : Cond.methodLink RX4 89 yX4_below ∈ gw := gwm 616 (by decide +kernel) rfl
theorem tw_617 : Cond.methodLink RX7 196 yX7_tryOut ∈ gw := gwm 617 (by decide +kernel) rfl
theorem tw_619 : Cond.instanceMethod yX7_tryOut ∈ gw := gwm 619 (by decide +kernel) rfl
theorem tw_620 : Cond.code yX7_tryOut cX7_tryOut 2 none ∈ gw := gwm 620 (by decide +kernel) rfl
theorem tw_621 : Cond.methodLink RX7 199 yX6_differences ∈ gw := gwm 621 (by decide +kernel) rfl
theorem tw_622 : Cond.instanceMethod yX6_differences ∈ gw := gwm 622 (by decide +kernel) rfl
theorem tw_623 : Cond.selects RX6 yX6_differences yX6_differences ∈ gw := gwm 623 (by decide +kernel) rfl
theorem tw_624 : Cond.code yX6_differences cX6_differences 4 (some .int) ∈ gw := gwm 624 (by decide +kernel) rfl
theorem tw_625 : Cond.methodLink RL 69 yX7_wanted ∈ gw := gwm 625 (by decide +kernel) rfl
theorem tw_626 : Cond.instanceMethod yX7_wanted ∈ gw := gwm 626 (by decide +kernel) rfl
theorem tw_627 : Cond.selects RX7 yX7_wanted yX7_wanted ∈ gw := gwm 627 (by decide +kernel) rfl
theorem tw_628 : Cond.code yX7_wanted cX7_wanted 5 (some .int) ∈ gw := gwm 628 (by decide +kernel) rfl
theorem tw_629 : Cond.methodLink RL 73 yX7_sees ∈ gw := gwm 629 (by decide +kernel) rfl
theorem tw_630 : Cond.instanceMethod yX7_sees ∈ gw := gwm 630 (by decide +kernel) rfl
theorem tw_631 : Cond.selects RX7 yX7_sees yX7_sees ∈ gw := gwm 631 (by decide +kernel) rfl
theorem tw_632 : Cond.code yX7_sees cX7_sees 4 (some .int) ∈ gw := gwm 632 (by decide +kernel) rfl
theorem tw_633 : Cond.methodLink RX7 203 yX5_add ∈ gw := gwm 633 (by decide +kernel) rfl
theorem tw_634 : Cond.instanceMethod yX5_add ∈ gw := gwm 634 (by decide +kernel) rfl
theorem tw_635 : Cond.selects RX5 yX5_add yX5_add ∈ gw := gwm 635 (by decide +kernel) rfl
theorem tw_636 : Cond.code yX5_add cX5_add 4 (some .boolean) ∈ gw := gwm 636 (by decide +kernel) rfl
theorem tw_638 : Cond.methodLink RL 77 yX7_forget ∈ gw := gwm 638 (by decide +kernel) rfl
theorem tw_639 : Cond.instanceMethod yX7_forget ∈ gw := gwm 639 (by decide +kernel) rfl
theorem tw_640 : Cond.selects RX7 yX7_forget yX7_forget ∈ gw := gwm 640 (by decide +kernel) rfl
theorem tw_641 : Cond.code yX7_forget cX7_forget 2 (some .int) ∈ gw := gwm 641 (by decide +kernel) rfl
theorem tw_642 : Cond.methodLink RL 81 yX7_unseen ∈ gw := gwm 642 (by decide +kernel) rfl
theorem tw_643 : Cond.instanceMethod yX7_unseen ∈ gw := gwm 643 (by decide +kernel) rfl
theorem tw_644 : Cond.selects RX7 yX7_unseen yX7_unseen ∈ gw := gwm 644 (by decide +kernel) rfl
theorem tw_645 : Cond.code yX7_unseen cX7_unseen 3 (some .int) ∈ gw := gwm 645 (by decide +kernel) rfl
theorem tw_646 : Cond.methodLink RX7 208 yX5_holdIn ∈ gw := gwm 646 (by decide +kernel) rfl
theorem tw_647 : Cond.instanceMethod yX5_holdIn ∈ gw := gwm 647 (by decide +kernel) rfl
theorem tw_648 : Cond.selects RX5 yX5_holdIn yX5_holdIn ∈ gw := gwm 648 (by decide +kernel) rfl
theorem tw_649 : Cond.code yX5_holdIn cX5_holdIn 3 (some .boolean) ∈ gw := gwm 649 (by decide +kernel) rfl
theorem tw_650 : Cond.methodLink RX5 29 yX6_valueAt ∈ gw := gwm 650 (by decide +kernel) rfl
theorem tw_651 : Cond.methodLink RL 85 yX7_ask ∈ gw := gwm 651 (by decide +kernel) rfl
theorem tw_652 : Cond.instanceMethod yX7_ask ∈ gw := gwm 652 (by decide +kernel) rfl
theorem tw_653 : Cond.selects RX7 yX7_ask yX7_ask ∈ gw := gwm 653 (by decide +kernel) rfl
theorem tw_654 : Cond.code yX7_ask cX7_ask 5 (some .int) ∈ gw := gwm 654 (by decide +kernel) rfl
theorem tw_655 : Cond.methodLink RX7 212 yX7_unseen ∈ gw := gwm 655 (by decide +kernel) rfl
theorem tw_656 : Cond.methodLink RX7 215 yX7_gatherAnswers ∈ gw := gwm 656 (by decide +kernel) rfl
theorem tw_658 : Cond.instanceMethod yX7_gatherAnswers ∈ gw := gwm 658 (by decide +kernel) rfl
theorem tw_659 : Cond.code yX7_gatherAnswers cX7_gatherAnswers 3 none ∈ gw := gwm 659 (by decide +kernel) rfl
theorem tw_660 : Cond.methodLink RX7 223 yX7_hasBit ∈ gw := gwm 660 (by decide +kernel) rfl
theorem tw_661 : Cond.methodLink RX7 238 yX7_addAnswers ∈ gw := gwm 661 (by decide +kernel) rfl
theorem tw_663 : Cond.instanceMethod yX7_addAnswers ∈ gw := gwm 663 (by decide +kernel) rfl
theorem tw_664 : Cond.code yX7_addAnswers cX7_addAnswers 3 none ∈ gw := gwm 664 (by decide +kernel) rfl
theorem tw_665 : Cond.methodLink RX7 218 yJ6_bitCount_0f7a4 ∈ gw := gwm 665 (by decide +kernel) rfl
theorem tw_666 : Cond.methodLink RL 89 yX7_keep ∈ gw := gwm 666 (by decide +kernel) rfl
theorem tw_667 : Cond.instanceMethod yX7_keep ∈ gw := gwm 667 (by decide +kernel) rfl
theorem tw_668 : Cond.selects RX7 yX7_keep yX7_keep ∈ gw := gwm 668 (by decide +kernel) rfl
theorem tw_669 : Cond.code yX7_keep cX7_keep 2 (some .int) ∈ gw := gwm 669 (by decide +kernel) rfl
theorem tw_670 : Cond.methodLink RL 93 yX7_back ∈ gw := gwm 670 (by decide +kernel) rfl
theorem tw_671 : Cond.instanceMethod yX7_back ∈ gw := gwm 671 (by decide +kernel) rfl
theorem tw_672 : Cond.selects RX7 yX7_back yX7_back ∈ gw := gwm 672 (by decide +kernel) rfl
theorem tw_673 : Cond.code yX7_back cX7_back 2 (some .int) ∈ gw := gwm 673 (by decide +kernel) rfl
theorem tw_674 : Cond.methodLink RL 97 yX7_count ∈ gw := gwm 674 (by decide +kernel) rfl
theorem tw_675 : Cond.instanceMethod yX7_count ∈ gw := gwm 675 (by decide +kernel) rfl
theorem tw_676 : Cond.selects RX7 yX7_count yX7_count ∈ gw := gwm 676 (by decide +kernel) rfl
theorem tw_677 : Cond.code yX7_count cX7_count 2 (some .int) ∈ gw := gwm 677 (by decide +kernel) rfl
theorem tw_678 : Cond.methodLink RX7 229 yX6_unlikeStyles ∈ gw := gwm 678 (by decide +kernel) rfl
theorem tw_679 : Cond.instanceMethod yX6_unlikeStyles ∈ gw := gwm 679 (by decide +kernel) rfl
theorem tw_680 : Cond.selects RX6 yX6_unlikeStyles yX6_unlikeStyles ∈ gw := gwm 680 (by decide +kernel) rfl
theorem tw_681 : Cond.code yX6_unlikeStyles cX6_unlikeStyles 3 (some .int) ∈ gw := gwm 681 (by decide +kernel) rfl
theorem tw_682 : Cond.methodLink RX6 80 yX6_recordOf ∈ gw := gwm 682 (by decide +kernel) rfl
theorem tw_683 : Cond.classLink RL 10 RX8 ∈ gw := gwm 683 (by decide +kernel) rfl
theorem tw_684 : Cond.instantiable RX8 22 ∈ gw := gwm 684 (by decide +kernel) rfl
theorem tw_685 : Cond.methodLink RL 12 yX8_init ∈ gw := gwm 685 (by decide +kernel) rfl
theorem tw_686 : Cond.instanceMethod yX8_init ∈ gw := gwm 686 (by decide +kernel) rfl
theorem tw_687 : Cond.code yX8_init cX8_init 1 none ∈ gw := gwm 687 (by decide +kernel) rfl
theorem tw_688 : Cond.methodLink RX8 1 objectInit ∈ gw := gwm 688 (by decide +kernel) rfl
theorem tw_689 : Cond.methodLink RX8 50 yX8_begins ∈ gw := gwm 689 (by decide +kernel) rfl
theorem tw_691 : Cond.instanceMethod yX8_begins ∈ gw := gwm 691 (by decide +kernel) rfl
theorem tw_692 : Cond.code yX8_begins cX8_begins 2 none ∈ gw := gwm 692 (by decide +kernel) rfl
theorem tw_693 : Cond.methodLink RX8 53 yX8_settles ∈ gw := gwm 693 (by decide +kernel) rfl
theorem tw_695 : Cond.instanceMethod yX8_settles ∈ gw := gwm 695 (by decide +kernel) rfl
theorem tw_696 : Cond.code yX8_settles cX8_settles 2 none ∈ gw := gwm 696 (by decide +kernel) rfl
theorem tw_697 : Cond.fieldLink RX8 56 "StyleTreeModel" "thrown" "I" ∈ gw := gwm 697 (by decide +kernel) rfl
theorem tw_698 : Cond.fieldLink RX8 7 "StyleTreeModel" "text" "[I" ∈ gw := gwm 698 (by decide +kernel) rfl
theorem tw_699 : Cond.fieldLink RX8 64 "StyleTreeModel" "typed" "I" ∈ gw := gwm 699 (by decide +kernel) rfl
theorem tw_700 : Cond.fieldLink RX8 67 "StyleTreeModel" "at" "I" ∈ gw := gwm 700 (by decide +kernel) rfl
theorem tw_701 : Cond.fieldLink RX8 77 "StyleTreeModel" "token" "I" ∈ gw := gwm 701 (by decide +kernel) rfl
theorem tw_702 : Cond.fieldLink RX8 74 "StyleTreeModel" "place" "I" ∈ gw := gwm 702 (by decide +kernel) rfl
theorem tw_703 : Cond.fieldLink RX8 80 "StyleTreeModel" "value" "I" ∈ gw := gwm 703 (by decide +kernel) rfl
theorem tw_704 : Cond.fieldLink RX8 87 "StyleTreeModel" "fault" "I" ∈ gw := gwm 704 (by decide +kernel) rfl
theorem tw_705 : Cond.fieldLink RX8 13 "StyleTreeModel" "told" "[I" ∈ gw := gwm 705 (by decide +kernel) rfl
theorem tw_706 : Cond.fieldLink RX8 16 "StyleTreeModel" "draft" "[I" ∈ gw := gwm 706 (by decide +kernel) rfl
theorem tw_707 : Cond.fieldLink RX8 19 "StyleTreeModel" "draftNow" "[I" ∈ gw := gwm 707 (by decide +kernel) rfl
theorem tw_708 : Cond.fieldLink RX8 22 "StyleTreeModel" "s" "[I" ∈ gw := gwm 708 (by decide +kernel) rfl
theorem tw_709 : Cond.fieldLink RX8 25 "StyleTreeModel" "undos" "[I" ∈ gw := gwm 709 (by decide +kernel) rfl
theorem tw_710 : Cond.fieldLink RX8 127 "StyleTreeModel" "undoMany" "I" ∈ gw := gwm 710 (by decide +kernel) rfl
theorem tw_711 : Cond.fieldLink RX8 28 "StyleTreeModel" "kept" "[I" ∈ gw := gwm 711 (by decide +kernel) rfl
theorem tw_712 : Cond.fieldLink RX8 31 "StyleTreeModel" "isKept" "[Z" ∈ gw := gwm 712 (by decide +kernel) rfl
theorem tw_713 : Cond.fieldLink RX8 35 "StyleTreeModel" "seenNode" "[I" ∈ gw := gwm 713 (by decide +kernel) rfl
theorem tw_714 : Cond.fieldLink RX8 38 "StyleTreeModel" "seenProperty" "[I" ∈ gw := gwm 714 (by decide +kernel) rfl
theorem tw_715 : Cond.fieldLink RX8 41 "StyleTreeModel" "seenValue" "[I" ∈ gw := gwm 715 (by decide +kernel) rfl
theorem tw_716 : Cond.fieldLink RX8 124 "StyleTreeModel" "seenMany" "I" ∈ gw := gwm 716 (by decide +kernel) rfl
theorem tw_717 : Cond.fieldLink RX8 44 "StyleTreeModel" "was" "[I" ∈ gw := gwm 717 (by decide +kernel) rfl
theorem tw_718 : Cond.fieldLink RX8 47 "StyleTreeModel" "matched" "[I" ∈ gw := gwm 718 (by decide +kernel) rfl
theorem tw_764 : Cond.methodLink RL 17 yX8_type ∈ gw := gwm 764 (by decide +kernel) rfl
theorem tw_765 : Cond.instanceMethod yX8_type ∈ gw := gwm 765 (by decide +kernel) rfl
theorem tw_766 : Cond.selects RX8 yX8_type yX8_type ∈ gw := gwm 766 (by decide +kernel) rfl
theorem tw_767 : Cond.code yX8_type cX8_type 2 (some .int) ∈ gw := gwm 767 (by decide +kernel) rfl
theorem tw_768 : Cond.methodLink RX8 60 yX8_in ∈ gw := gwm 768 (by decide +kernel) rfl
theorem tw_769 : Cond.static yX8_in ∈ gw := gwm 769 (by decide +kernel) rfl
theorem tw_770 : Cond.code yX8_in cX8_in 3 (some .boolean) ∈ gw := gwm 770 (by decide +kernel) rfl
theorem tw_771 : Cond.methodLink RL 22 yX8_clear ∈ gw := gwm 771 (by decide +kernel) rfl
theorem tw_772 : Cond.instanceMethod yX8_clear ∈ gw := gwm 772 (by decide +kernel) rfl
theorem tw_773 : Cond.selects RX8 yX8_clear yX8_clear ∈ gw := gwm 773 (by decide +kernel) rfl
theorem tw_774 : Cond.code yX8_clear cX8_clear 2 (some .int) ∈ gw := gwm 774 (by decide +kernel) rfl
theorem tw_775 : Cond.methodLink RL 26 yX8_page ∈ gw := gwm 775 (by decide +kernel) rfl
theorem tw_776 : Cond.instanceMethod yX8_page ∈ gw := gwm 776 (by decide +kernel) rfl
theorem tw_777 : Cond.selects RX8 yX8_page yX8_page ∈ gw := gwm 777 (by decide +kernel) rfl
theorem tw_778 : Cond.code yX8_page cX8_page 3 (some .int) ∈ gw := gwm 778 (by decide +kernel) rfl
theorem tw_779 : Cond.methodLink RX8 94 yX8_advances ∈ gw := gwm 779 (by decide +kernel) rfl
theorem tw_781 : Cond.instanceMethod yX8_advances ∈ gw := gwm 781 (by decide +kernel) rfl
theorem tw_782 : Cond.code yX8_advances cX8_advances 2 none ∈ gw := gwm 782 (by decide +kernel) rfl
theorem tw_783 : Cond.methodLink RX8 70 yX8_letterAt ∈ gw := gwm 783 (by decide +kernel) rfl
theorem tw_785 : Cond.instanceMethod yX8_letterAt ∈ gw := gwm 785 (by decide +kernel) rfl
theorem tw_786 : Cond.code yX8_letterAt cX8_letterAt 2 (some .int) ∈ gw := gwm 786 (by decide +kernel) rfl
theorem tw_787 : Cond.methodLink RX8 83 yX8_isSign ∈ gw := gwm 787 (by decide +kernel) rfl
theorem tw_788 : Cond.static yX8_isSign ∈ gw := gwm 788 (by decide +kernel) rfl
theorem tw_789 : Cond.code yX8_isSign cX8_isSign 1 (some .boolean) ∈ gw := gwm 789 (by decide +kernel) rfl
theorem tw_790 : Cond.methodLink RX8 90 yX8_isWell ∈ gw := gwm 790 (by decide +kernel) rfl
theorem tw_792 : Cond.instanceMethod yX8_isWell ∈ gw := gwm 792 (by decide +kernel) rfl
theorem tw_793 : Cond.code yX8_isWell cX8_isWell 1 (some .boolean) ∈ gw := gwm 793 (by decide +kernel) rfl
theorem tw_794 : Cond.methodLink RX8 108 yX8_isThis ∈ gw := gwm 794 (by decide +kernel) rfl
theorem tw_796 : Cond.instanceMethod yX8_isThis ∈ gw := gwm 796 (by decide +kernel) rfl
theorem tw_797 : Cond.code yX8_isThis cX8_isThis 2 (some .boolean) ∈ gw := gwm 797 (by decide +kernel) rfl
theorem tw_798 : Cond.methodLink RX8 97 yX8_takes ∈ gw := gwm 798 (by decide +kernel) rfl
theorem tw_800 : Cond.instanceMethod yX8_takes ∈ gw := gwm 800 (by decide +kernel) rfl
theorem tw_801 : Cond.code yX8_takes cX8_takes 3 (some .int) ∈ gw := gwm 801 (by decide +kernel) rfl
theorem tw_802 : Cond.methodLink RX8 118 yX8_readsNode ∈ gw := gwm 802 (by decide +kernel) rfl
theorem tw_804 : Cond.instanceMethod yX8_readsNode ∈ gw := gwm 804 (by decide +kernel) rfl
theorem tw_805 : Cond.code yX8_readsNode cX8_readsNode 3 none ∈ gw := gwm 805 (by decide +kernel) rfl
theorem tw_806 : Cond.methodLink RX8 101 yX8_isFrom ∈ gw := gwm 806 (by decide +kernel) rfl
theorem tw_808 : Cond.instanceMethod yX8_isFrom ∈ gw := gwm 808 (by decide +kernel) rfl
theorem tw_809 : Cond.code yX8_isFrom cX8_isFrom 3 (some .boolean) ∈ gw := gwm 809 (by decide +kernel) rfl
theorem tw_810 : Cond.methodLink RX8 105 yX8_has ∈ gw := gwm 810 (by decide +kernel) rfl
theorem tw_811 : Cond.static yX8_has ∈ gw := gwm 811 (by decide +kernel) rfl
theorem tw_812 : Cond.code yX8_has cX8_has 2 (some .boolean) ∈ gw := gwm 812 (by decide +kernel) rfl
theorem tw_813 : Cond.methodLink RX8 121 yX8_readsRule ∈ gw := gwm 813 (by decide +kernel) rfl
theorem tw_815 : Cond.instanceMethod yX8_readsRule ∈ gw := gwm 815 (by decide +kernel) rfl
theorem tw_816 : Cond.code yX8_readsRule cX8_readsRule 4 none ∈ gw := gwm 816 (by decide +kernel) rfl
theorem tw_817 : Cond.methodLink RX8 111 yX8_readsCompound ∈ gw := gwm 817 (by decide +kernel) rfl
theorem tw_819 : Cond.instanceMethod yX8_readsCompound ∈ gw := gwm 819 (by decide +kernel) rfl
theorem tw_820 : Cond.code yX8_readsCompound cX8_readsCompound 4 none ∈ gw := gwm 820 (by decide +kernel) rfl
theorem tw_821 : Cond.methodLink RX8 115 yX8_readsDeclarations ∈ gw := gwm 821 (by decide +kernel) rfl
theorem tw_823 : Cond.instanceMethod yX8_readsDeclarations ∈ gw := gwm 823 (by decide +kernel) rfl
theorem tw_824 : Cond.code yX8_readsDeclarations cX8_readsDeclarations 4 none ∈ gw := gwm 824 (by decide +kernel) rfl
theorem tw_825 : Cond.methodLink RL 31 yX8_node ∈ gw := gwm 825 (by decide +kernel) rfl
theorem tw_826 : Cond.instanceMethod yX8_node ∈ gw := gwm 826 (by decide +kernel) rfl
theorem tw_827 : Cond.selects RX8 yX8_node yX8_node ∈ gw := gwm 827 (by decide +kernel) rfl
theorem tw_828 : Cond.code yX8_node cX8_node 3 (some .int) ∈ gw := gwm 828 (by decide +kernel) rfl
theorem tw_829 : Cond.methodLink RX8 162 yX8_isNode ∈ gw := gwm 829 (by decide +kernel) rfl
theorem tw_831 : Cond.instanceMethod yX8_isNode ∈ gw := gwm 831 (by decide +kernel) rfl
theorem tw_832 : Cond.code yX8_isNode cX8_isNode 2 (some .boolean) ∈ gw := gwm 832 (by decide +kernel) rfl
theorem tw_833 : Cond.methodLink RX8 165 yX8_fills ∈ gw := gwm 833 (by decide +kernel) rfl
theorem tw_835 : Cond.instanceMethod yX8_fills ∈ gw := gwm 835 (by decide +kernel) rfl
theorem tw_836 : Cond.code yX8_fills cX8_fills 2 none ∈ gw := gwm 836 (by decide +kernel) rfl
theorem tw_837 : Cond.methodLink RX8 133 yX8_matching ∈ gw := gwm 837 (by decide +kernel) rfl
theorem tw_839 : Cond.instanceMethod yX8_matching ∈ gw := gwm 839 (by decide +kernel) rfl
theorem tw_840 : Cond.code yX8_matching cX8_matching 9 (some .int) ∈ gw := gwm 840 (by decide +kernel) rfl
theorem tw_841 : Cond.methodLink RX8 130 yX8_fits ∈ gw := gwm 841 (by decide +kernel) rfl
theorem tw_843 : Cond.instanceMethod yX8_fits ∈ gw := gwm 843 (by decide +kernel) rfl
theorem tw_844 : Cond.code yX8_fits cX8_fits 4 (some .boolean) ∈ gw := gwm 844 (by decide +kernel) rfl
theorem tw_845 : Cond.methodLink RX8 143 yX8_rulesOf ∈ gw := gwm 845 (by decide +kernel) rfl
theorem tw_847 : Cond.instanceMethod yX8_rulesOf ∈ gw := gwm 847 (by decide +kernel) rfl
theorem tw_848 : Cond.code yX8_rulesOf cX8_rulesOf 4 (some .int) ∈ gw := gwm 848 (by decide +kernel) rfl
theorem tw_849 : Cond.methodLink RX8 168 yX8_recordOf ∈ gw := gwm 849 (by decide +kernel) rfl
theorem tw_851 : Cond.instanceMethod yX8_recordOf ∈ gw := gwm 851 (by decide +kernel) rfl
theorem tw_852 : Cond.code yX8_recordOf cX8_recordOf 3 (some .int) ∈ gw := gwm 852 (by decide +kernel) rfl
theorem tw_853 : Cond.methodLink RX8 159 yX8_isLike ∈ gw := gwm 853 (by decide +kernel) rfl
theorem tw_855 : Cond.instanceMethod yX8_isLike ∈ gw := gwm 855 (by decide +kernel) rfl
theorem tw_856 : Cond.code yX8_isLike cX8_isLike 5 (some .boolean) ∈ gw := gwm 856 (by decide +kernel) rfl
theorem tw_857 : Cond.methodLink RX8 156 yX8_valueOf ∈ gw := gwm 857 (by decide +kernel) rfl
theorem tw_859 : Cond.instanceMethod yX8_valueOf ∈ gw := gwm 859 (by decide +kernel) rfl
theorem tw_860 : Cond.code yX8_valueOf cX8_valueOf 4 (some .int) ∈ gw := gwm 860 (by decide +kernel) rfl
theorem tw_861 : Cond.methodLink RX8 153 yX8_sourceOf ∈ gw := gwm 861 (by decide +kernel) rfl
theorem tw_863 : Cond.instanceMethod yX8_sourceOf ∈ gw := gwm 863 (by decide +kernel) rfl
theorem tw_864 : Cond.code yX8_sourceOf cX8_sourceOf 4 (some .int) ∈ gw := gwm 864 (by decide +kernel) rfl
theorem tw_865 : Cond.methodLink RX8 149 yX8_winnerOf ∈ gw := gwm 865 (by decide +kernel) rfl
theorem tw_867 : Cond.instanceMethod yX8_winnerOf ∈ gw := gwm 867 (by decide +kernel) rfl
theorem tw_868 : Cond.code yX8_winnerOf cX8_winnerOf 9 (some .int) ∈ gw := gwm 868 (by decide +kernel) rfl
theorem tw_869 : Cond.methodLink RX8 146 yX8_heightOf ∈ gw := gwm 869 (by decide +kernel) rfl
theorem tw_871 : Cond.instanceMethod yX8_heightOf ∈ gw := gwm 871 (by decide +kernel) rfl
theorem tw_872 : Cond.code yX8_heightOf cX8_heightOf 5 (some .int) ∈ gw := gwm 872 (by decide +kernel) rfl
theorem tw_873 : Cond.methodLink RX8 140 yX8_specific ∈ gw := gwm 873 (by decide +kernel) rfl
theorem tw_875 : Cond.instanceMethod yX8_specific ∈ gw := gwm 875 (by decide +kernel) rfl
theorem tw_876 : Cond.code yX8_specific cX8_specific 4 (some .int) ∈ gw := gwm 876 (by decide +kernel) rfl
theorem tw_877 : Cond.methodLink RX8 137 yX8_ones ∈ gw := gwm 877 (by decide +kernel) rfl
theorem tw_878 : Cond.static yX8_ones ∈ gw := gwm 878 (by decide +kernel) rfl
theorem tw_879 : Cond.code yX8_ones cX8_ones 3 (some .int) ∈ gw := gwm 879 (by decide +kernel) rfl
theorem tw_880 : Cond.methodLink RX8 171 yX8_below ∈ gw := gwm 880 (by decide +kernel) rfl
theorem tw_882 : Cond.instanceMethod yX8_below ∈ gw := gwm 882 (by decide +kernel) rfl
theorem tw_883 : Cond.code yX8_below cX8_below 5 (some .int) ∈ gw := gwm 883 (by decide +kernel) rfl
theorem tw_884 : Cond.methodLink RL 35 yX8_rule ∈ gw := gwm 884 (by decide +kernel) rfl
theorem tw_885 : Cond.instanceMethod yX8_rule ∈ gw := gwm 885 (by decide +kernel) rfl
theorem tw_886 : Cond.selects RX8 yX8_rule yX8_rule ∈ gw := gwm 886 (by decide +kernel) rfl
theorem tw_887 : Cond.code yX8_rule cX8_rule 3 (some .int) ∈ gw := gwm 887 (by decide +kernel) rfl
theorem tw_888 : Cond.methodLink RX8 174 yX8_isRule ∈ gw := gwm 888 (by decide +kernel) rfl
theorem tw_890 : Cond.instanceMethod yX8_isRule ∈ gw := gwm 890 (by decide +kernel) rfl
theorem tw_891 : Cond.code yX8_isRule cX8_isRule 2 (some .boolean) ∈ gw := gwm 891 (by decide +kernel) rfl
theorem tw_892 : Cond.methodLink RL 39 yX8_toggles ∈ gw := gwm 892 (by decide +kernel) rfl
theorem tw_893 : Cond.instanceMethod yX8_toggles ∈ gw := gwm 893 (by decide +kernel) rfl
theorem tw_894 : Cond.selects RX8 yX8_toggles yX8_toggles ∈ gw := gwm 894 (by decide +kernel) rfl
theorem tw_895 : Cond.code yX8_toggles cX8_toggles 3 (some .int) ∈ gw := gwm 895 (by decide +kernel) rfl
theorem tw_896 : Cond.methodLink RX8 177 yX8_isFour ∈ gw := gwm 896 (by decide +kernel) rfl
theorem tw_897 : Cond.static yX8_isFour ∈ gw := gwm 897 (by decide +kernel) rfl
theorem tw_898 : Cond.code yX8_isFour cX8_isFour 1 (some .boolean) ∈ gw := gwm 898 (by decide +kernel) rfl
theorem tw_899 : Cond.methodLink RX8 180 yX8_notes ∈ gw := gwm 899 (by decide +kernel) rfl
theorem tw_901 : Cond.instanceMethod yX8_notes ∈ gw := gwm 901 (by decide +kernel) rfl
theorem tw_902 : Cond.code yX8_notes cX8_notes 2 none ∈ gw := gwm 902 (by decide +kernel) rfl
theorem tw_903 : Cond.methodLink RL 43 yX8_tags ∈ gw := gwm 903 (by decide +kernel) rfl
theorem tw_904 : Cond.instanceMethod yX8_tags ∈ gw := gwm 904 (by decide +kernel) rfl
theorem tw_905 : Cond.selects RX8 yX8_tags yX8_tags ∈ gw := gwm 905 (by decide +kernel) rfl
theorem tw_906 : Cond.code yX8_tags cX8_tags 4 (some .int) ∈ gw := gwm 906 (by decide +kernel) rfl
theorem tw_907 : Cond.methodLink RL 47 yX8_switches ∈ gw := gwm 907 (by decide +kernel) rfl
theorem tw_908 : Cond.instanceMethod yX8_switches ∈ gw := gwm 908 (by decide +kernel) rfl
theorem tw_909 : Cond.selects RX8 yX8_switches yX8_switches ∈ gw := gwm 909 (by decide +kernel) rfl
theorem tw_910 : Cond.code yX8_switches cX8_switches 2 (some .int) ∈ gw := gwm 910 (by decide +kernel) rfl
theorem tw_911 : Cond.methodLink RL 51 yX8_undo ∈ gw := gwm 911 (by decide +kernel) rfl
theorem tw_912 : Cond.instanceMethod yX8_undo ∈ gw := gwm 912 (by decide +kernel) rfl
theorem tw_913 : Cond.selects RX8 yX8_undo yX8_undo ∈ gw := gwm 913 (by decide +kernel) rfl
theorem tw_914 : Cond.code yX8_undo cX8_undo 2 (some .int) ∈ gw := gwm 914 (by decide +kernel) rfl
theorem tw_915 : Cond.methodLink RL 55 yX8_value ∈ gw := gwm 915 (by decide +kernel) rfl
theorem tw_916 : Cond.instanceMethod yX8_value ∈ gw := gwm 916 (by decide +kernel) rfl
theorem tw_917 : Cond.selects RX8 yX8_value yX8_value ∈ gw := gwm 917 (by decide +kernel) rfl
theorem tw_918 : Cond.code yX8_value cX8_value 3 (some .int) ∈ gw := gwm 918 (by decide +kernel) rfl
theorem tw_919 : Cond.methodLink RL 60 yX8_winner ∈ gw := gwm 919 (by decide +kernel) rfl
theorem tw_920 : Cond.instanceMethod yX8_winner ∈ gw := gwm 920 (by decide +kernel) rfl
theorem tw_921 : Cond.selects RX8 yX8_winner yX8_winner ∈ gw := gwm 921 (by decide +kernel) rfl
theorem tw_922 : Cond.code yX8_winner cX8_winner 4 (some .int) ∈ gw := gwm 922 (by decide +kernel) rfl
theorem tw_923 : Cond.methodLink RL 64 yX8_source ∈ gw := gwm 923 (by decide +kernel) rfl
theorem tw_924 : Cond.instanceMethod yX8_source ∈ gw := gwm 924 (by decide +kernel) rfl
theorem tw_925 : Cond.selects RX8 yX8_source yX8_source ∈ gw := gwm 925 (by decide +kernel) rfl
theorem tw_926 : Cond.code yX8_source cX8_source 3 (some .int) ∈ gw := gwm 926 (by decide +kernel) rfl
theorem tw_927 : Cond.methodLink RL 68 yX8_change ∈ gw := gwm 927 (by decide +kernel) rfl
theorem tw_928 : Cond.instanceMethod yX8_change ∈ gw := gwm 928 (by decide +kernel) rfl
theorem tw_929 : Cond.selects RX8 yX8_change yX8_change ∈ gw := gwm 929 (by decide +kernel) rfl
theorem tw_930 : Cond.code yX8_change cX8_change 4 (some .int) ∈ gw := gwm 930 (by decide +kernel) rfl
theorem tw_931 : Cond.methodLink RX8 183 yX8_lookedAt ∈ gw := gwm 931 (by decide +kernel) rfl
theorem tw_933 : Cond.instanceMethod yX8_lookedAt ∈ gw := gwm 933 (by decide +kernel) rfl
theorem tw_934 : Cond.code yX8_lookedAt cX8_lookedAt 9 (some .int) ∈ gw := gwm 934 (by decide +kernel) rfl
theorem tw_935 : Cond.methodLink RX8 186 yX8_different ∈ gw := gwm 935 (by decide +kernel) rfl
theorem tw_937 : Cond.instanceMethod yX8_different ∈ gw := gwm 937 (by decide +kernel) rfl
theorem tw_938 : Cond.code yX8_different cX8_different 5 (some .int) ∈ gw := gwm 938 (by decide +kernel) rfl
theorem tw_939 : Cond.methodLink RL 72 yX8_wanted ∈ gw := gwm 939 (by decide +kernel) rfl
theorem tw_940 : Cond.instanceMethod yX8_wanted ∈ gw := gwm 940 (by decide +kernel) rfl
theorem tw_941 : Cond.selects RX8 yX8_wanted yX8_wanted ∈ gw := gwm 941 (by decide +kernel) rfl
theorem tw_942 : Cond.code yX8_wanted cX8_wanted 6 (some .int) ∈ gw := gwm 942 (by decide +kernel) rfl
theorem tw_943 : Cond.methodLink RX8 189 yX8_valueBy ∈ gw := gwm 943 (by decide +kernel) rfl
theorem tw_945 : Cond.instanceMethod yX8_valueBy ∈ gw := gwm 945 (by decide +kernel) rfl
theorem tw_946 : Cond.code yX8_valueBy cX8_valueBy 5 (some .int) ∈ gw := gwm 946 (by decide +kernel) rfl
theorem tw_947 : Cond.methodLink RL 76 yX8_sees ∈ gw := gwm 947 (by decide +kernel) rfl
theorem tw_948 : Cond.instanceMethod yX8_sees ∈ gw := gwm 948 (by decide +kernel) rfl
theorem tw_949 : Cond.selects RX8 yX8_sees yX8_sees ∈ gw := gwm 949 (by decide +kernel) rfl
theorem tw_950 : Cond.code yX8_sees cX8_sees 4 (some .int) ∈ gw := gwm 950 (by decide +kernel) rfl
theorem tw_951 : Cond.methodLink RL 80 yX8_forget ∈ gw := gwm 951 (by decide +kernel) rfl
theorem tw_952 : Cond.instanceMethod yX8_forget ∈ gw := gwm 952 (by decide +kernel) rfl
theorem tw_953 : Cond.selects RX8 yX8_forget yX8_forget ∈ gw := gwm 953 (by decide +kernel) rfl
theorem tw_954 : Cond.code yX8_forget cX8_forget 2 (some .int) ∈ gw := gwm 954 (by decide +kernel) rfl
theorem tw_955 : Cond.methodLink RL 84 yX8_unseen ∈ gw := gwm 955 (by decide +kernel) rfl
theorem tw_956 : Cond.instanceMethod yX8_unseen ∈ gw := gwm 956 (by decide +kernel) rfl
theorem tw_957 : Cond.selects RX8 yX8_unseen yX8_unseen ∈ gw := gwm 957 (by decide +kernel) rfl
theorem tw_958 : Cond.code yX8_unseen cX8_unseen 1 (some .int) ∈ gw := gwm 958 (by decide +kernel) rfl
theorem tw_959 : Cond.methodLink RX8 192 yX8_unseenSet ∈ gw := gwm 959 (by decide +kernel) rfl
theorem tw_961 : Cond.instanceMethod yX8_unseenSet ∈ gw := gwm 961 (by decide +kernel) rfl
theorem tw_962 : Cond.code yX8_unseenSet cX8_unseenSet 5 (some .int) ∈ gw := gwm 962 (by decide +kernel) rfl
theorem tw_963 : Cond.methodLink RL 88 yX8_ask ∈ gw := gwm 963 (by decide +kernel) rfl
theorem tw_964 : Cond.instanceMethod yX8_ask ∈ gw := gwm 964 (by decide +kernel) rfl
theorem tw_965 : Cond.selects RX8 yX8_ask yX8_ask ∈ gw := gwm 965 (by decide +kernel) rfl
theorem tw_966 : Cond.code yX8_ask cX8_ask 7 (some .int) ∈ gw := gwm 966 (by decide +kernel) rfl
theorem tw_967 : Cond.methodLink RL 92 yX8_keep ∈ gw := gwm 967 (by decide +kernel) rfl
theorem tw_968 : Cond.instanceMethod yX8_keep ∈ gw := gwm 968 (by decide +kernel) rfl
theorem tw_969 : Cond.selects RX8 yX8_keep yX8_keep ∈ gw := gwm 969 (by decide +kernel) rfl
theorem tw_970 : Cond.code yX8_keep cX8_keep 3 (some .int) ∈ gw := gwm 970 (by decide +kernel) rfl
theorem tw_971 : Cond.methodLink RL 96 yX8_back ∈ gw := gwm 971 (by decide +kernel) rfl
theorem tw_972 : Cond.instanceMethod yX8_back ∈ gw := gwm 972 (by decide +kernel) rfl
theorem tw_973 : Cond.selects RX8 yX8_back yX8_back ∈ gw := gwm 973 (by decide +kernel) rfl
theorem tw_974 : Cond.code yX8_back cX8_back 3 (some .int) ∈ gw := gwm 974 (by decide +kernel) rfl
theorem tw_975 : Cond.methodLink RL 100 yX8_count ∈ gw := gwm 975 (by decide +kernel) rfl
theorem tw_976 : Cond.instanceMethod yX8_count ∈ gw := gwm 976 (by decide +kernel) rfl
theorem tw_977 : Cond.selects RX8 yX8_count yX8_count ∈ gw := gwm 977 (by decide +kernel) rfl
theorem tw_978 : Cond.code yX8_count cX8_count 2 (some .int) ∈ gw := gwm 978 (by decide +kernel) rfl
theorem tw_979 : Cond.methodLink RX8 196 yX8_styles ∈ gw := gwm 979 (by decide +kernel) rfl
theorem tw_981 : Cond.instanceMethod yX8_styles ∈ gw := gwm 981 (by decide +kernel) rfl
theorem tw_982 : Cond.code yX8_styles cX8_styles 3 (some .int) ∈ gw := gwm 982 (by decide +kernel) rfl
def nst : List Cond := [Cond.methodLinkNest RX7 19 yX2_init RX7, Cond.methodLinkNest RX4 27 yX1_init RX7, Cond.arrayOver (.object "StyleTree$Rule"), Cond.methodLinkNest RX4 38 yX3_init RX7, Cond.methodLinkNest RX7 33 yX1_init RX7, Cond.methodLinkNest RX7 43 yX6_init RX7, Cond.methodLinkNest RX7 53 yX0_init RX7, Cond.methodLinkNest RX7 60 yX5_init RX7, Cond.arrayOver (.object "StyleTree$Look"), Cond.methodLinkNest RX4 42 yX7_within RX7, Cond.methodLinkNest RX2 80 yX7_within RX7, Cond.methodLinkNest RX3 45 yX7_within RX7, Cond.methodLinkNest RX2 124 yX7_hasBit RX7, Cond.methodLinkNest RX1 28 yX7_hasBit RX7, Cond.methodLinkNest RX6 56 yX7_hasBit RX7, Cond.methodLinkNest RX4 52 yX7_hasBit RX7, Cond.methodLinkNest RX6 67 yX7_within RX7, Cond.methodLinkNest RX1 39 yX7_within RX7, Cond.methodLinkNest RX0 25 yX7_within RX7, Cond.methodLinkNest RX5 25 yX7_within RX7]
theorem tn_83 : Cond.methodLinkNest RX7 19 yX2_init RX7 ∈ nst := List.mem_of_getElem? (i := 0) rfl
theorem tn_95 : Cond.methodLinkNest RX4 27 yX1_init RX7 ∈ nst := List.mem_of_getElem? (i := 1) rfl
theorem tn_118 : Cond.arrayOver (.object "StyleTree$Rule") ∈ nst := List.mem_of_getElem? (i := 2) rfl
theorem tn_120 : Cond.methodLinkNest RX4 38 yX3_init RX7 ∈ nst := List.mem_of_getElem? (i := 3) rfl
theorem tn_221 : Cond.methodLinkNest RX7 33 yX1_init RX7 ∈ nst := List.mem_of_getElem? (i := 4) rfl
theorem tn_224 : Cond.methodLinkNest RX7 43 yX6_init RX7 ∈ nst := List.mem_of_getElem? (i := 5) rfl
theorem tn_246 : Cond.methodLinkNest RX7 53 yX0_init RX7 ∈ nst := List.mem_of_getElem? (i := 6) rfl
theorem tn_260 : Cond.methodLinkNest RX7 60 yX5_init RX7 ∈ nst := List.mem_of_getElem? (i := 7) rfl
theorem tn_278 : Cond.arrayOver (.object "StyleTree$Look") ∈ nst := List.mem_of_getElem? (i := 8) rfl
theorem tn_377 : Cond.methodLinkNest RX4 42 yX7_within RX7 ∈ nst := List.mem_of_getElem? (i := 9) rfl
theorem tn_382 : Cond.methodLinkNest RX2 80 yX7_within RX7 ∈ nst := List.mem_of_getElem? (i := 10) rfl
theorem tn_399 : Cond.methodLinkNest RX3 45 yX7_within RX7 ∈ nst := List.mem_of_getElem? (i := 11) rfl
theorem tn_422 : Cond.methodLinkNest RX2 124 yX7_hasBit RX7 ∈ nst := List.mem_of_getElem? (i := 12) rfl
theorem tn_472 : Cond.methodLinkNest RX1 28 yX7_hasBit RX7 ∈ nst := List.mem_of_getElem? (i := 13) rfl
theorem tn_493 : Cond.methodLinkNest RX6 56 yX7_hasBit RX7 ∈ nst := List.mem_of_getElem? (i := 14) rfl
theorem tn_502 : Cond.methodLinkNest RX4 52 yX7_hasBit RX7 ∈ nst := List.mem_of_getElem? (i := 15) rfl
theorem tn_503 : Cond.methodLinkNest RX6 67 yX7_within RX7 ∈ nst := List.mem_of_getElem? (i := 16) rfl
theorem tn_553 : Cond.methodLinkNest RX1 39 yX7_within RX7 ∈ nst := List.mem_of_getElem? (i := 17) rfl
theorem tn_563 : Cond.methodLinkNest RX0 25 yX7_within RX7 ∈ nst := List.mem_of_getElem? (i := 18) rfl
theorem tn_637 : Cond.methodLinkNest RX5 25 yX7_within RX7 ∈ nst := List.mem_of_getElem? (i := 19) rfl
theorem nst_tbl : ∀ w ∈ nst, w ∈ lw_tbl := by
  intro w hw
  simp only [nst, List.mem_cons, List.not_mem_nil, or_false] at hw
  rcases hw with rfl | rfl | rfl | rfl | rfl | rfl | rfl | rfl | rfl | rfl | rfl | rfl | rfl | rfl | rfl | rfl | rfl | rfl | rfl | rfl
  · exact List.mem_of_getElem? (i := 83) (by decide +kernel)
  · exact List.mem_of_getElem? (i := 95) (by decide +kernel)
  · exact List.mem_of_getElem? (i := 118) (by decide +kernel)
  · exact List.mem_of_getElem? (i := 120) (by decide +kernel)
  · exact List.mem_of_getElem? (i := 221) (by decide +kernel)
  · exact List.mem_of_getElem? (i := 224) (by decide +kernel)
  · exact List.mem_of_getElem? (i := 246) (by decide +kernel)
  · exact List.mem_of_getElem? (i := 260) (by decide +kernel)
  · exact List.mem_of_getElem? (i := 278) (by decide +kernel)
  · exact List.mem_of_getElem? (i := 377) (by decide +kernel)
  · exact List.mem_of_getElem? (i := 382) (by decide +kernel)
  · exact List.mem_of_getElem? (i := 399) (by decide +kernel)
  · exact List.mem_of_getElem? (i := 422) (by decide +kernel)
  · exact List.mem_of_getElem? (i := 472) (by decide +kernel)
  · exact List.mem_of_getElem? (i := 493) (by decide +kernel)
  · exact List.mem_of_getElem? (i := 502) (by decide +kernel)
  · exact List.mem_of_getElem? (i := 503) (by decide +kernel)
  · exact List.mem_of_getElem? (i := 553) (by decide +kernel)
  · exact List.mem_of_getElem? (i := 563) (by decide +kernel)
  · exact List.mem_of_getElem? (i := 637) (by decide +kernel)
theorem nst_moved {s U : State} (hW : s.WarmedH U.vm) (h : ∀ w ∈ nst, va_Nw w s) : ∀ w ∈ nst, va_Nw w U := by
  intro w hw
  have h0 := h w hw
  simp only [nst, List.mem_cons, List.not_mem_nil, or_false] at hw
  rcases hw with rfl | rfl | rfl | rfl | rfl | rfl | rfl | rfl | rfl | rfl | rfl | rfl | rfl | rfl | rfl | rfl | rfl | rfl | rfl | rfl
  · exact va_Nw.warmM hW h0
  · exact va_Nw.warmM hW h0
  · exact va_AO.moved hW.alike h0
  · exact va_Nw.warmM hW h0
  · exact va_Nw.warmM hW h0
  · exact va_Nw.warmM hW h0
  · exact va_Nw.warmM hW h0
  · exact va_Nw.warmM hW h0
  · exact va_AO.moved hW.alike h0
  · exact va_Nw.warmM hW h0
  · exact va_Nw.warmM hW h0
  · exact va_Nw.warmM hW h0
  · exact va_Nw.warmM hW h0
  · exact va_Nw.warmM hW h0
  · exact va_Nw.warmM hW h0
  · exact va_Nw.warmM hW h0
  · exact va_Nw.warmM hW h0
  · exact va_Nw.warmM hW h0
  · exact va_Nw.warmM hW h0
  · exact va_Nw.warmM hW h0
theorem nst_calling {U : State} {g : JFrame} {mk : MethodId} {a : Array Value} (h : ∀ w ∈ nst, va_Nw w U) : ∀ w ∈ nst, va_Nw w (U.calling g mk a) := by
  intro w hw
  have h0 := h w hw
  simp only [nst, List.mem_cons, List.not_mem_nil, or_false] at hw
  rcases hw with rfl | rfl | rfl | rfl | rfl | rfl | rfl | rfl | rfl | rfl | rfl | rfl | rfl | rfl | rfl | rfl | rfl | rfl | rfl | rfl
  · exact va_Nw.same (u := U) rfl rfl h0
  · exact va_Nw.same (u := U) rfl rfl h0
  · exact va_AO.moved (u := U) (U := U.calling g mk a) (Vm.Alike.refl U.vm) h0
  · exact va_Nw.same (u := U) rfl rfl h0
  · exact va_Nw.same (u := U) rfl rfl h0
  · exact va_Nw.same (u := U) rfl rfl h0
  · exact va_Nw.same (u := U) rfl rfl h0
  · exact va_Nw.same (u := U) rfl rfl h0
  · exact va_AO.moved (u := U) (U := U.calling g mk a) (Vm.Alike.refl U.vm) h0
  · exact va_Nw.same (u := U) rfl rfl h0
  · exact va_Nw.same (u := U) rfl rfl h0
  · exact va_Nw.same (u := U) rfl rfl h0
  · exact va_Nw.same (u := U) rfl rfl h0
  · exact va_Nw.same (u := U) rfl rfl h0
  · exact va_Nw.same (u := U) rfl rfl h0
  · exact va_Nw.same (u := U) rfl rfl h0
  · exact va_Nw.same (u := U) rfl rfl h0
  · exact va_Nw.same (u := U) rfl rfl h0
  · exact va_Nw.same (u := U) rfl rfl h0
  · exact va_Nw.same (u := U) rfl rfl h0
theorem hinX0 : ∀ w ∈ u_ws RX0 TX0 2, w ∈ gw := by
  intro w hw
  obtain ⟨k, hk, rfl⟩ := List.mem_map.mp hw
  have hk := List.mem_range.mp hk
  rcases (show k = 0 ∨ k = 1 by omega) with rfl | rfl
  · exact gwm 253 (by decide +kernel) rfl
  · exact gwm 255 (by decide +kernel) rfl
theorem hinX1 : ∀ w ∈ u_ws RX1 TX1 3, w ∈ gw := by
  intro w hw
  obtain ⟨k, hk, rfl⟩ := List.mem_map.mp hw
  have hk := List.mem_range.mp hk
  rcases (show k = 0 ∨ k = 1 ∨ k = 2 by omega) with rfl | rfl | rfl
  · exact gwm 108 (by decide +kernel) rfl
  · exact gwm 110 (by decide +kernel) rfl
  · exact gwm 112 (by decide +kernel) rfl
theorem hinX2 : ∀ w ∈ u_ws RX2 TX2 6, w ∈ gw := by
  intro w hw
  obtain ⟨k, hk, rfl⟩ := List.mem_map.mp hw
  have hk := List.mem_range.mp hk
  rcases (show k = 0 ∨ k = 1 ∨ k = 2 ∨ k = 3 ∨ k = 4 ∨ k = 5 by omega) with rfl | rfl | rfl | rfl | rfl | rfl
  · exact gwm 205 (by decide +kernel) rfl
  · exact gwm 207 (by decide +kernel) rfl
  · exact gwm 209 (by decide +kernel) rfl
  · exact gwm 211 (by decide +kernel) rfl
  · exact gwm 213 (by decide +kernel) rfl
  · exact gwm 215 (by decide +kernel) rfl
theorem hinX3 : ∀ w ∈ u_ws RX3 TX3 10, w ∈ gw := by
  intro w hw
  obtain ⟨k, hk, rfl⟩ := List.mem_map.mp hw
  have hk := List.mem_range.mp hk
  rcases (show k = 0 ∨ k = 1 ∨ k = 2 ∨ k = 3 ∨ k = 4 ∨ k = 5 ∨ k = 6 ∨ k = 7 ∨ k = 8 ∨ k = 9 by omega) with rfl | rfl | rfl | rfl | rfl | rfl | rfl | rfl | rfl | rfl
  · exact gwm 146 (by decide +kernel) rfl
  · exact gwm 148 (by decide +kernel) rfl
  · exact gwm 150 (by decide +kernel) rfl
  · exact gwm 152 (by decide +kernel) rfl
  · exact gwm 154 (by decide +kernel) rfl
  · exact gwm 156 (by decide +kernel) rfl
  · exact gwm 158 (by decide +kernel) rfl
  · exact gwm 160 (by decide +kernel) rfl
  · exact gwm 162 (by decide +kernel) rfl
  · exact gwm 164 (by decide +kernel) rfl
theorem hinX4 : ∀ w ∈ u_ws RX4 TX4 6, w ∈ gw := by
  intro w hw
  obtain ⟨k, hk, rfl⟩ := List.mem_map.mp hw
  have hk := List.mem_range.mp hk
  rcases (show k = 0 ∨ k = 1 ∨ k = 2 ∨ k = 3 ∨ k = 4 ∨ k = 5 by omega) with rfl | rfl | rfl | rfl | rfl | rfl
  · exact gwm 186 (by decide +kernel) rfl
  · exact gwm 188 (by decide +kernel) rfl
  · exact gwm 190 (by decide +kernel) rfl
  · exact gwm 192 (by decide +kernel) rfl
  · exact gwm 194 (by decide +kernel) rfl
  · exact gwm 196 (by decide +kernel) rfl
theorem hinX5 : ∀ w ∈ u_ws RX5 TX5 4, w ∈ gw := by
  intro w hw
  obtain ⟨k, hk, rfl⟩ := List.mem_map.mp hw
  have hk := List.mem_range.mp hk
  rcases (show k = 0 ∨ k = 1 ∨ k = 2 ∨ k = 3 by omega) with rfl | rfl | rfl | rfl
  · exact gwm 269 (by decide +kernel) rfl
  · exact gwm 271 (by decide +kernel) rfl
  · exact gwm 273 (by decide +kernel) rfl
  · exact gwm 275 (by decide +kernel) rfl
theorem hinX6 : ∀ w ∈ u_ws RX6 TX6 5, w ∈ gw := by
  intro w hw
  obtain ⟨k, hk, rfl⟩ := List.mem_map.mp hw
  have hk := List.mem_range.mp hk
  rcases (show k = 0 ∨ k = 1 ∨ k = 2 ∨ k = 3 ∨ k = 4 by omega) with rfl | rfl | rfl | rfl | rfl
  · exact gwm 233 (by decide +kernel) rfl
  · exact gwm 235 (by decide +kernel) rfl
  · exact gwm 237 (by decide +kernel) rfl
  · exact gwm 239 (by decide +kernel) rfl
  · exact gwm 241 (by decide +kernel) rfl
theorem hinX7 : ∀ w ∈ u_ws RX7 TX7 13, w ∈ gw := by
  intro w hw
  obtain ⟨k, hk, rfl⟩ := List.mem_map.mp hw
  have hk := List.mem_range.mp hk
  rcases (show k = 0 ∨ k = 1 ∨ k = 2 ∨ k = 3 ∨ k = 4 ∨ k = 5 ∨ k = 6 ∨ k = 7 ∨ k = 8 ∨ k = 9 ∨ k = 10 ∨ k = 11 ∨ k = 12 by omega) with rfl | rfl | rfl | rfl | rfl | rfl | rfl | rfl | rfl | rfl | rfl | rfl | rfl
  · exact gwm 292 (by decide +kernel) rfl
  · exact gwm 294 (by decide +kernel) rfl
  · exact gwm 296 (by decide +kernel) rfl
  · exact gwm 298 (by decide +kernel) rfl
  · exact gwm 300 (by decide +kernel) rfl
  · exact gwm 302 (by decide +kernel) rfl
  · exact gwm 304 (by decide +kernel) rfl
  · exact gwm 306 (by decide +kernel) rfl
  · exact gwm 308 (by decide +kernel) rfl
  · exact gwm 310 (by decide +kernel) rfl
  · exact gwm 312 (by decide +kernel) rfl
  · exact gwm 314 (by decide +kernel) rfl
  · exact gwm 316 (by decide +kernel) rfl
theorem hinX8 : ∀ w ∈ u_ws RX8 TX8 22, w ∈ gw := by
  intro w hw
  obtain ⟨k, hk, rfl⟩ := List.mem_map.mp hw
  have hk := List.mem_range.mp hk
  rcases (show k = 0 ∨ k = 1 ∨ k = 2 ∨ k = 3 ∨ k = 4 ∨ k = 5 ∨ k = 6 ∨ k = 7 ∨ k = 8 ∨ k = 9 ∨ k = 10 ∨ k = 11 ∨ k = 12 ∨ k = 13 ∨ k = 14 ∨ k = 15 ∨ k = 16 ∨ k = 17 ∨ k = 18 ∨ k = 19 ∨ k = 20 ∨ k = 21 by omega) with rfl | rfl | rfl | rfl | rfl | rfl | rfl | rfl | rfl | rfl | rfl | rfl | rfl | rfl | rfl | rfl | rfl | rfl | rfl | rfl | rfl | rfl
  · exact gwm 719 (by decide +kernel) rfl
  · exact gwm 721 (by decide +kernel) rfl
  · exact gwm 723 (by decide +kernel) rfl
  · exact gwm 725 (by decide +kernel) rfl
  · exact gwm 727 (by decide +kernel) rfl
  · exact gwm 729 (by decide +kernel) rfl
  · exact gwm 731 (by decide +kernel) rfl
  · exact gwm 733 (by decide +kernel) rfl
  · exact gwm 735 (by decide +kernel) rfl
  · exact gwm 737 (by decide +kernel) rfl
  · exact gwm 739 (by decide +kernel) rfl
  · exact gwm 741 (by decide +kernel) rfl
  · exact gwm 743 (by decide +kernel) rfl
  · exact gwm 745 (by decide +kernel) rfl
  · exact gwm 747 (by decide +kernel) rfl
  · exact gwm 749 (by decide +kernel) rfl
  · exact gwm 751 (by decide +kernel) rfl
  · exact gwm 753 (by decide +kernel) rfl
  · exact gwm 755 (by decide +kernel) rfl
  · exact gwm 757 (by decide +kernel) rfl
  · exact gwm 759 (by decide +kernel) rfl
  · exact gwm 761 (by decide +kernel) rfl
end
section
/-! ===== the memory: for each index a row of references and a row of ints; its kind and length are fixed ===== -/
abbrev Mem : Type := (Nat → Nat → Option Nat) × (Nat → Nat → Int32)
def kds : List Nat := [8, 11, 3, 11, 5, 10, 10, 2, 10, 10, 14, 4, 10, 10, 12, 10, 10, 4, 10, 10, 12, 10, 10, 4, 10, 10, 12, 10, 10, 4, 10, 10, 12, 10, 10, 4, 10, 10, 12, 10, 10, 4, 10, 10, 12, 10, 10, 4, 10, 10, 12, 10, 10, 4, 10, 10, 12, 10, 10, 5, 10, 10, 2, 10, 10, 14, 4, 10, 10, 12, 10, 10, 4, 10, 10, 12, 10, 10, 4, 10, 10, 12, 10, 10, 4, 10, 10, 12, 10, 10, 4, 10, 10, 12, 10, 10, 4, 10, 10, 12, 10, 10, 4, 10, 10, 12, 10, 10, 4, 10, 10, 12, 10, 10, 2, 10, 10, 2, 10, 10, 7, 10, 10, 10, 10, 7, 10, 10, 10, 10, 1, 10, 6, 10, 10, 10, 13, 10, 2, 10, 10, 2, 10, 10, 9, 10, 10, 10, 10, 10, 10, 10, 12, 10, 10, 10, 10, 10]
def lns : List Nat := [0, 120, 0, 0, 0, 9, 9, 0, 9, 9, 8, 0, 3, 3, 3, 4, 4, 0, 3, 3, 3, 4, 4, 0, 3, 3, 3, 4, 4, 0, 3, 3, 3, 4, 4, 0, 3, 3, 3, 4, 4, 0, 3, 3, 3, 4, 4, 0, 3, 3, 3, 4, 4, 0, 3, 3, 3, 4, 4, 0, 9, 9, 0, 9, 9, 8, 0, 3, 3, 3, 4, 4, 0, 3, 3, 3, 4, 4, 0, 3, 3, 3, 4, 4, 0, 3, 3, 3, 4, 4, 0, 3, 3, 3, 4, 4, 0, 3, 3, 3, 4, 4, 0, 3, 3, 3, 4, 4, 0, 3, 3, 3, 4, 4, 0, 9, 9, 0, 9, 9, 0, 8, 9, 36, 36, 0, 8, 9, 36, 36, 0, 10, 0, 6, 6, 6, 2, 36, 0, 9, 9, 0, 9, 9, 0, 120, 140, 140, 19, 19, 190, 38, 2, 6, 6, 6, 36, 8]
def NN : Nat := 158
def kd (k : Nat) : Nat := kds.getD k 0
def ln (k : Nat) : Nat := lns.getD k 0
def tys (cy : Nat → ClassId) : List (ClassId × FieldType) := [(cy 0, .int), (cy 1, .char), (cy 2, .boolean), (cy 3, .object "StyleTree$Look"), (cy 4, .object "StyleTree$Rule")]
def fsOf (Λ : Nat → Nat) (M : Mem) (a : Nat) : Nat → List Value
  | 0 => [va_re Λ (M.1 a 0), .int (M.2 a 1)]
  | 1 => [va_re Λ (M.1 a 0), va_re Λ (M.1 a 1), .int (M.2 a 2)]
  | 2 => [va_re Λ (M.1 a 0), .int (M.2 a 1), .int (M.2 a 2), .int (M.2 a 3), .int (M.2 a 4), va_re Λ (M.1 a 5)]
  | 3 => [.int (M.2 a 0), .int (M.2 a 1), .int (M.2 a 2), .int (M.2 a 3), .int (M.2 a 4), va_re Λ (M.1 a 5), va_re Λ (M.1 a 6), va_re Λ (M.1 a 7), va_re Λ (M.1 a 8), va_re Λ (M.1 a 9)]
  | 4 => [.int (M.2 a 0), .int (M.2 a 1), va_re Λ (M.1 a 2), va_re Λ (M.1 a 3), va_re Λ (M.1 a 4), va_re Λ (M.1 a 5)]
  | 5 => [va_re Λ (M.1 a 0), va_re Λ (M.1 a 1), va_re Λ (M.1 a 2), .int (M.2 a 3)]
  | 6 => [.int (M.2 a 0), va_re Λ (M.1 a 1), va_re Λ (M.1 a 2), va_re Λ (M.1 a 3), va_re Λ (M.1 a 4)]
  | 7 => [va_re Λ (M.1 a 0), .int (M.2 a 1), va_re Λ (M.1 a 2), va_re Λ (M.1 a 3), va_re Λ (M.1 a 4), va_re Λ (M.1 a 5), va_re Λ (M.1 a 6), va_re Λ (M.1 a 7), va_re Λ (M.1 a 8), va_re Λ (M.1 a 9), va_re Λ (M.1 a 10), .int (M.2 a 11), va_re Λ (M.1 a 12)]
  | _ => [.int (M.2 a 0), va_re Λ (M.1 a 1), .int (M.2 a 2), .int (M.2 a 3), .int (M.2 a 4), .int (M.2 a 5), .int (M.2 a 6), .int (M.2 a 7), va_re Λ (M.1 a 8), va_re Λ (M.1 a 9), va_re Λ (M.1 a 10), va_re Λ (M.1 a 11), va_re Λ (M.1 a 12), .int (M.2 a 13), va_re Λ (M.1 a 14), va_re Λ (M.1 a 15), va_re Λ (M.1 a 16), va_re Λ (M.1 a 17), va_re Λ (M.1 a 18), .int (M.2 a 19), va_re Λ (M.1 a 20), va_re Λ (M.1 a 21)]
def cellA (cy : Nat → ClassId) (Λ : Nat → Nat) (M : Mem) (a : Nat) : va_E := if kd a = 10 then .inl (cy 0, ln a, .inl (M.2 a)) else if kd a = 11 then .inl (cy 1, ln a, .inl (M.2 a)) else if kd a = 12 then .inl (cy 2, ln a, .inl (M.2 a)) else if kd a = 13 then .inl (cy 3, ln a, .inr (.inr (.inr (.inr (fun j => (M.1 a j).map Λ))))) else if kd a = 14 then .inl (cy 4, ln a, .inr (.inr (.inr (.inr (fun j => (M.1 a j).map Λ))))) else .inr (kd a - 1, fsOf Λ M a (kd a - 1))
theorem cell_a0 {cy : Nat → ClassId} {Λ : Nat → Nat} {M : Mem} {a : Nat} (h : kd a = 10) : cellA cy Λ M a = .inl (cy 0, ln a, .inl (M.2 a)) := by simp [cellA, h]
theorem cell_a1 {cy : Nat → ClassId} {Λ : Nat → Nat} {M : Mem} {a : Nat} (h : kd a = 11) : cellA cy Λ M a = .inl (cy 1, ln a, .inl (M.2 a)) := by simp [cellA, h]
theorem cell_a2 {cy : Nat → ClassId} {Λ : Nat → Nat} {M : Mem} {a : Nat} (h : kd a = 12) : cellA cy Λ M a = .inl (cy 2, ln a, .inl (M.2 a)) := by simp [cellA, h]
theorem cell_a3 {cy : Nat → ClassId} {Λ : Nat → Nat} {M : Mem} {a : Nat} (h : kd a = 13) : cellA cy Λ M a = .inl (cy 3, ln a, .inr (.inr (.inr (.inr (fun j => (M.1 a j).map Λ))))) := by simp [cellA, h]
theorem cell_a4 {cy : Nat → ClassId} {Λ : Nat → Nat} {M : Mem} {a : Nat} (h : kd a = 14) : cellA cy Λ M a = .inl (cy 4, ln a, .inr (.inr (.inr (.inr (fun j => (M.1 a j).map Λ))))) := by simp [cellA, h]
theorem cell_o {cy : Nat → ClassId} {Λ : Nat → Nat} {M : Mem} {a ci : Nat} (hc : ci < 9) (h : kd a = ci + 1) : cellA cy Λ M a = .inr (ci, fsOf Λ M a ci) := by
  unfold cellA
  rw [if_neg (by omega)]
  rw [if_neg (by omega)]
  rw [if_neg (by omega)]
  rw [if_neg (by omega)]
  rw [if_neg (by omega)]
  rw [h]; rfl
theorem fs_congr {Λ : Nat → Nat} {M M2 : Mem} {a : Nat} (h1 : M2.1 a = M.1 a) (h2 : M2.2 a = M.2 a) (ci : Nat) : fsOf Λ M2 a ci = fsOf Λ M a ci := by
  unfold fsOf
  split <;> simp only [h1, h2]
theorem cell_congr {cy : Nat → ClassId} {Λ : Nat → Nat} {M M2 : Mem} {a : Nat} (h1 : M2.1 a = M.1 a) (h2 : M2.2 a = M.2 a) : cellA cy Λ M2 a = cellA cy Λ M a := by
  unfold cellA
  rw [fs_congr h1 h2, h1, h2]
def up2 {α : Type} (f : Nat → Nat → α) (k j : Nat) (v : α) : Nat → Nat → α := fun a => if a = k then (fun b => if b = j then v else f a b) else f a
theorem up2_ne {α : Type} {f : Nat → Nat → α} {k j a : Nat} {v : α} (h : a ≠ k) : up2 f k j v a = f a := by simp [up2, h]
theorem up2_at {α : Type} {f : Nat → Nat → α} {k j : Nat} {v : α} : up2 f k j v k = fun b => if b = j then v else f k b := by simp [up2]
def wI (M : Mem) (a j : Nat) (v : Int32) : Mem := (M.1, up2 M.2 a j v)
def wR (M : Mem) (a j : Nat) (b : Nat) : Mem := (up2 M.1 a j (some b), M.2)
def al (M : Mem) (n : Nat) : Mem := (fun a => if a = n then (fun _ => none) else M.1 a, fun a => if a = n then (fun _ => 0) else M.2 a)
theorem stX0_0 {Λ : Nat → Nat} {M : Mem} {a b : Nat} : (fsOf Λ M a 0).set 0 (.ref (Λ b)) = fsOf Λ (wR M a 0 b) a 0 := by simp [fsOf, wR, up2, va_re, va_rf]
theorem stX0_1 {Λ : Nat → Nat} {M : Mem} {a : Nat} {v : Int32} : (fsOf Λ M a 0).set 1 (.int v) = fsOf Λ (wI M a 1 v) a 0 := by simp [fsOf, wI, up2]
theorem dfX0 {Λ : Nat → Nat} {M : Mem} {n : Nat} : ∀ j, j < 2 → defaultValue (tyX0 j) = vp_V (fsOf Λ (al M n) n 0) j := by
  intro j hj
  rcases (show j = 0 ∨ j = 1 by omega) with rfl | rfl <;> simp [tyX0, fsOf, al, vp_V, va_re, va_rf, defaultValue]
theorem stX1_0 {Λ : Nat → Nat} {M : Mem} {a b : Nat} : (fsOf Λ M a 1).set 0 (.ref (Λ b)) = fsOf Λ (wR M a 0 b) a 1 := by simp [fsOf, wR, up2, va_re, va_rf]
theorem stX1_1 {Λ : Nat → Nat} {M : Mem} {a b : Nat} : (fsOf Λ M a 1).set 1 (.ref (Λ b)) = fsOf Λ (wR M a 1 b) a 1 := by simp [fsOf, wR, up2, va_re, va_rf]
theorem stX1_2 {Λ : Nat → Nat} {M : Mem} {a : Nat} {v : Int32} : (fsOf Λ M a 1).set 2 (.int v) = fsOf Λ (wI M a 2 v) a 1 := by simp [fsOf, wI, up2]
theorem dfX1 {Λ : Nat → Nat} {M : Mem} {n : Nat} : ∀ j, j < 3 → defaultValue (tyX1 j) = vp_V (fsOf Λ (al M n) n 1) j := by
  intro j hj
  rcases (show j = 0 ∨ j = 1 ∨ j = 2 by omega) with rfl | rfl | rfl <;> simp [tyX1, fsOf, al, vp_V, va_re, va_rf, defaultValue]
theorem stX2_0 {Λ : Nat → Nat} {M : Mem} {a b : Nat} : (fsOf Λ M a 2).set 0 (.ref (Λ b)) = fsOf Λ (wR M a 0 b) a 2 := by simp [fsOf, wR, up2, va_re, va_rf]
theorem stX2_1 {Λ : Nat → Nat} {M : Mem} {a : Nat} {v : Int32} : (fsOf Λ M a 2).set 1 (.int v) = fsOf Λ (wI M a 1 v) a 2 := by simp [fsOf, wI, up2]
theorem stX2_2 {Λ : Nat → Nat} {M : Mem} {a : Nat} {v : Int32} : (fsOf Λ M a 2).set 2 (.int v) = fsOf Λ (wI M a 2 v) a 2 := by simp [fsOf, wI, up2]
theorem stX2_3 {Λ : Nat → Nat} {M : Mem} {a : Nat} {v : Int32} : (fsOf Λ M a 2).set 3 (.int v) = fsOf Λ (wI M a 3 v) a 2 := by simp [fsOf, wI, up2]
theorem stX2_4 {Λ : Nat → Nat} {M : Mem} {a : Nat} {v : Int32} : (fsOf Λ M a 2).set 4 (.int v) = fsOf Λ (wI M a 4 v) a 2 := by simp [fsOf, wI, up2]
theorem stX2_5 {Λ : Nat → Nat} {M : Mem} {a b : Nat} : (fsOf Λ M a 2).set 5 (.ref (Λ b)) = fsOf Λ (wR M a 5 b) a 2 := by simp [fsOf, wR, up2, va_re, va_rf]
theorem dfX2 {Λ : Nat → Nat} {M : Mem} {n : Nat} : ∀ j, j < 6 → defaultValue (tyX2 j) = vp_V (fsOf Λ (al M n) n 2) j := by
  intro j hj
  rcases (show j = 0 ∨ j = 1 ∨ j = 2 ∨ j = 3 ∨ j = 4 ∨ j = 5 by omega) with rfl | rfl | rfl | rfl | rfl | rfl <;> simp [tyX2, fsOf, al, vp_V, va_re, va_rf, defaultValue]
theorem stX3_0 {Λ : Nat → Nat} {M : Mem} {a : Nat} {v : Int32} : (fsOf Λ M a 3).set 0 (.int v) = fsOf Λ (wI M a 0 v) a 3 := by simp [fsOf, wI, up2]
theorem stX3_1 {Λ : Nat → Nat} {M : Mem} {a : Nat} {v : Int32} : (fsOf Λ M a 3).set 1 (.int v) = fsOf Λ (wI M a 1 v) a 3 := by simp [fsOf, wI, up2]
theorem stX3_2 {Λ : Nat → Nat} {M : Mem} {a : Nat} {v : Int32} : (fsOf Λ M a 3).set 2 (.int v) = fsOf Λ (wI M a 2 v) a 3 := by simp [fsOf, wI, up2]
theorem stX3_3 {Λ : Nat → Nat} {M : Mem} {a : Nat} {v : Int32} : (fsOf Λ M a 3).set 3 (.int v) = fsOf Λ (wI M a 3 v) a 3 := by simp [fsOf, wI, up2]
theorem stX3_4 {Λ : Nat → Nat} {M : Mem} {a : Nat} {v : Int32} : (fsOf Λ M a 3).set 4 (.int v) = fsOf Λ (wI M a 4 v) a 3 := by simp [fsOf, wI, up2]
theorem stX3_5 {Λ : Nat → Nat} {M : Mem} {a b : Nat} : (fsOf Λ M a 3).set 5 (.ref (Λ b)) = fsOf Λ (wR M a 5 b) a 3 := by simp [fsOf, wR, up2, va_re, va_rf]
theorem stX3_6 {Λ : Nat → Nat} {M : Mem} {a b : Nat} : (fsOf Λ M a 3).set 6 (.ref (Λ b)) = fsOf Λ (wR M a 6 b) a 3 := by simp [fsOf, wR, up2, va_re, va_rf]
theorem stX3_7 {Λ : Nat → Nat} {M : Mem} {a b : Nat} : (fsOf Λ M a 3).set 7 (.ref (Λ b)) = fsOf Λ (wR M a 7 b) a 3 := by simp [fsOf, wR, up2, va_re, va_rf]
theorem stX3_8 {Λ : Nat → Nat} {M : Mem} {a b : Nat} : (fsOf Λ M a 3).set 8 (.ref (Λ b)) = fsOf Λ (wR M a 8 b) a 3 := by simp [fsOf, wR, up2, va_re, va_rf]
theorem stX3_9 {Λ : Nat → Nat} {M : Mem} {a b : Nat} : (fsOf Λ M a 3).set 9 (.ref (Λ b)) = fsOf Λ (wR M a 9 b) a 3 := by simp [fsOf, wR, up2, va_re, va_rf]
theorem dfX3 {Λ : Nat → Nat} {M : Mem} {n : Nat} : ∀ j, j < 10 → defaultValue (tyX3 j) = vp_V (fsOf Λ (al M n) n 3) j := by
  intro j hj
  rcases (show j = 0 ∨ j = 1 ∨ j = 2 ∨ j = 3 ∨ j = 4 ∨ j = 5 ∨ j = 6 ∨ j = 7 ∨ j = 8 ∨ j = 9 by omega) with rfl | rfl | rfl | rfl | rfl | rfl | rfl | rfl | rfl | rfl <;> simp [tyX3, fsOf, al, vp_V, va_re, va_rf, defaultValue]
theorem stX4_0 {Λ : Nat → Nat} {M : Mem} {a : Nat} {v : Int32} : (fsOf Λ M a 4).set 0 (.int v) = fsOf Λ (wI M a 0 v) a 4 := by simp [fsOf, wI, up2]
theorem stX4_1 {Λ : Nat → Nat} {M : Mem} {a : Nat} {v : Int32} : (fsOf Λ M a 4).set 1 (.int v) = fsOf Λ (wI M a 1 v) a 4 := by simp [fsOf, wI, up2]
theorem stX4_2 {Λ : Nat → Nat} {M : Mem} {a b : Nat} : (fsOf Λ M a 4).set 2 (.ref (Λ b)) = fsOf Λ (wR M a 2 b) a 4 := by simp [fsOf, wR, up2, va_re, va_rf]
theorem stX4_3 {Λ : Nat → Nat} {M : Mem} {a b : Nat} : (fsOf Λ M a 4).set 3 (.ref (Λ b)) = fsOf Λ (wR M a 3 b) a 4 := by simp [fsOf, wR, up2, va_re, va_rf]
theorem stX4_4 {Λ : Nat → Nat} {M : Mem} {a b : Nat} : (fsOf Λ M a 4).set 4 (.ref (Λ b)) = fsOf Λ (wR M a 4 b) a 4 := by simp [fsOf, wR, up2, va_re, va_rf]
theorem stX4_5 {Λ : Nat → Nat} {M : Mem} {a b : Nat} : (fsOf Λ M a 4).set 5 (.ref (Λ b)) = fsOf Λ (wR M a 5 b) a 4 := by simp [fsOf, wR, up2, va_re, va_rf]
theorem dfX4 {Λ : Nat → Nat} {M : Mem} {n : Nat} : ∀ j, j < 6 → defaultValue (tyX4 j) = vp_V (fsOf Λ (al M n) n 4) j := by
  intro j hj
  rcases (show j = 0 ∨ j = 1 ∨ j = 2 ∨ j = 3 ∨ j = 4 ∨ j = 5 by omega) with rfl | rfl | rfl | rfl | rfl | rfl <;> simp [tyX4, fsOf, al, vp_V, va_re, va_rf, defaultValue]
theorem stX5_0 {Λ : Nat → Nat} {M : Mem} {a b : Nat} : (fsOf Λ M a 5).set 0 (.ref (Λ b)) = fsOf Λ (wR M a 0 b) a 5 := by simp [fsOf, wR, up2, va_re, va_rf]
theorem stX5_1 {Λ : Nat → Nat} {M : Mem} {a b : Nat} : (fsOf Λ M a 5).set 1 (.ref (Λ b)) = fsOf Λ (wR M a 1 b) a 5 := by simp [fsOf, wR, up2, va_re, va_rf]
theorem stX5_2 {Λ : Nat → Nat} {M : Mem} {a b : Nat} : (fsOf Λ M a 5).set 2 (.ref (Λ b)) = fsOf Λ (wR M a 2 b) a 5 := by simp [fsOf, wR, up2, va_re, va_rf]
theorem stX5_3 {Λ : Nat → Nat} {M : Mem} {a : Nat} {v : Int32} : (fsOf Λ M a 5).set 3 (.int v) = fsOf Λ (wI M a 3 v) a 5 := by simp [fsOf, wI, up2]
theorem dfX5 {Λ : Nat → Nat} {M : Mem} {n : Nat} : ∀ j, j < 4 → defaultValue (tyX5 j) = vp_V (fsOf Λ (al M n) n 5) j := by
  intro j hj
  rcases (show j = 0 ∨ j = 1 ∨ j = 2 ∨ j = 3 by omega) with rfl | rfl | rfl | rfl <;> simp [tyX5, fsOf, al, vp_V, va_re, va_rf, defaultValue]
theorem stX6_0 {Λ : Nat → Nat} {M : Mem} {a : Nat} {v : Int32} : (fsOf Λ M a 6).set 0 (.int v) = fsOf Λ (wI M a 0 v) a 6 := by simp [fsOf, wI, up2]
theorem stX6_1 {Λ : Nat → Nat} {M : Mem} {a b : Nat} : (fsOf Λ M a 6).set 1 (.ref (Λ b)) = fsOf Λ (wR M a 1 b) a 6 := by simp [fsOf, wR, up2, va_re, va_rf]
theorem stX6_2 {Λ : Nat → Nat} {M : Mem} {a b : Nat} : (fsOf Λ M a 6).set 2 (.ref (Λ b)) = fsOf Λ (wR M a 2 b) a 6 := by simp [fsOf, wR, up2, va_re, va_rf]
theorem stX6_3 {Λ : Nat → Nat} {M : Mem} {a b : Nat} : (fsOf Λ M a 6).set 3 (.ref (Λ b)) = fsOf Λ (wR M a 3 b) a 6 := by simp [fsOf, wR, up2, va_re, va_rf]
theorem stX6_4 {Λ : Nat → Nat} {M : Mem} {a b : Nat} : (fsOf Λ M a 6).set 4 (.ref (Λ b)) = fsOf Λ (wR M a 4 b) a 6 := by simp [fsOf, wR, up2, va_re, va_rf]
theorem dfX6 {Λ : Nat → Nat} {M : Mem} {n : Nat} : ∀ j, j < 5 → defaultValue (tyX6 j) = vp_V (fsOf Λ (al M n) n 6) j := by
  intro j hj
  rcases (show j = 0 ∨ j = 1 ∨ j = 2 ∨ j = 3 ∨ j = 4 by omega) with rfl | rfl | rfl | rfl | rfl <;> simp [tyX6, fsOf, al, vp_V, va_re, va_rf, defaultValue]
theorem stX7_0 {Λ : Nat → Nat} {M : Mem} {a b : Nat} : (fsOf Λ M a 7).set 0 (.ref (Λ b)) = fsOf Λ (wR M a 0 b) a 7 := by simp [fsOf, wR, up2, va_re, va_rf]
theorem stX7_1 {Λ : Nat → Nat} {M : Mem} {a : Nat} {v : Int32} : (fsOf Λ M a 7).set 1 (.int v) = fsOf Λ (wI M a 1 v) a 7 := by simp [fsOf, wI, up2]
theorem stX7_2 {Λ : Nat → Nat} {M : Mem} {a b : Nat} : (fsOf Λ M a 7).set 2 (.ref (Λ b)) = fsOf Λ (wR M a 2 b) a 7 := by simp [fsOf, wR, up2, va_re, va_rf]
theorem stX7_3 {Λ : Nat → Nat} {M : Mem} {a b : Nat} : (fsOf Λ M a 7).set 3 (.ref (Λ b)) = fsOf Λ (wR M a 3 b) a 7 := by simp [fsOf, wR, up2, va_re, va_rf]
theorem stX7_4 {Λ : Nat → Nat} {M : Mem} {a b : Nat} : (fsOf Λ M a 7).set 4 (.ref (Λ b)) = fsOf Λ (wR M a 4 b) a 7 := by simp [fsOf, wR, up2, va_re, va_rf]
theorem stX7_5 {Λ : Nat → Nat} {M : Mem} {a b : Nat} : (fsOf Λ M a 7).set 5 (.ref (Λ b)) = fsOf Λ (wR M a 5 b) a 7 := by simp [fsOf, wR, up2, va_re, va_rf]
theorem stX7_6 {Λ : Nat → Nat} {M : Mem} {a b : Nat} : (fsOf Λ M a 7).set 6 (.ref (Λ b)) = fsOf Λ (wR M a 6 b) a 7 := by simp [fsOf, wR, up2, va_re, va_rf]
theorem stX7_7 {Λ : Nat → Nat} {M : Mem} {a b : Nat} : (fsOf Λ M a 7).set 7 (.ref (Λ b)) = fsOf Λ (wR M a 7 b) a 7 := by simp [fsOf, wR, up2, va_re, va_rf]
theorem stX7_8 {Λ : Nat → Nat} {M : Mem} {a b : Nat} : (fsOf Λ M a 7).set 8 (.ref (Λ b)) = fsOf Λ (wR M a 8 b) a 7 := by simp [fsOf, wR, up2, va_re, va_rf]
theorem stX7_9 {Λ : Nat → Nat} {M : Mem} {a b : Nat} : (fsOf Λ M a 7).set 9 (.ref (Λ b)) = fsOf Λ (wR M a 9 b) a 7 := by simp [fsOf, wR, up2, va_re, va_rf]
theorem stX7_10 {Λ : Nat → Nat} {M : Mem} {a b : Nat} : (fsOf Λ M a 7).set 10 (.ref (Λ b)) = fsOf Λ (wR M a 10 b) a 7 := by simp [fsOf, wR, up2, va_re, va_rf]
theorem stX7_11 {Λ : Nat → Nat} {M : Mem} {a : Nat} {v : Int32} : (fsOf Λ M a 7).set 11 (.int v) = fsOf Λ (wI M a 11 v) a 7 := by simp [fsOf, wI, up2]
theorem stX7_12 {Λ : Nat → Nat} {M : Mem} {a b : Nat} : (fsOf Λ M a 7).set 12 (.ref (Λ b)) = fsOf Λ (wR M a 12 b) a 7 := by simp [fsOf, wR, up2, va_re, va_rf]
theorem dfX7 {Λ : Nat → Nat} {M : Mem} {n : Nat} : ∀ j, j < 13 → defaultValue (tyX7 j) = vp_V (fsOf Λ (al M n) n 7) j := by
  intro j hj
  rcases (show j = 0 ∨ j = 1 ∨ j = 2 ∨ j = 3 ∨ j = 4 ∨ j = 5 ∨ j = 6 ∨ j = 7 ∨ j = 8 ∨ j = 9 ∨ j = 10 ∨ j = 11 ∨ j = 12 by omega) with rfl | rfl | rfl | rfl | rfl | rfl | rfl | rfl | rfl | rfl | rfl | rfl | rfl <;> simp [tyX7, fsOf, al, vp_V, va_re, va_rf, defaultValue]
theorem stX8_0 {Λ : Nat → Nat} {M : Mem} {a : Nat} {v : Int32} : (fsOf Λ M a 8).set 0 (.int v) = fsOf Λ (wI M a 0 v) a 8 := by simp [fsOf, wI, up2]
theorem stX8_1 {Λ : Nat → Nat} {M : Mem} {a b : Nat} : (fsOf Λ M a 8).set 1 (.ref (Λ b)) = fsOf Λ (wR M a 1 b) a 8 := by simp [fsOf, wR, up2, va_re, va_rf]
theorem stX8_2 {Λ : Nat → Nat} {M : Mem} {a : Nat} {v : Int32} : (fsOf Λ M a 8).set 2 (.int v) = fsOf Λ (wI M a 2 v) a 8 := by simp [fsOf, wI, up2]
theorem stX8_3 {Λ : Nat → Nat} {M : Mem} {a : Nat} {v : Int32} : (fsOf Λ M a 8).set 3 (.int v) = fsOf Λ (wI M a 3 v) a 8 := by simp [fsOf, wI, up2]
theorem stX8_4 {Λ : Nat → Nat} {M : Mem} {a : Nat} {v : Int32} : (fsOf Λ M a 8).set 4 (.int v) = fsOf Λ (wI M a 4 v) a 8 := by simp [fsOf, wI, up2]
theorem stX8_5 {Λ : Nat → Nat} {M : Mem} {a : Nat} {v : Int32} : (fsOf Λ M a 8).set 5 (.int v) = fsOf Λ (wI M a 5 v) a 8 := by simp [fsOf, wI, up2]
theorem stX8_6 {Λ : Nat → Nat} {M : Mem} {a : Nat} {v : Int32} : (fsOf Λ M a 8).set 6 (.int v) = fsOf Λ (wI M a 6 v) a 8 := by simp [fsOf, wI, up2]
theorem stX8_7 {Λ : Nat → Nat} {M : Mem} {a : Nat} {v : Int32} : (fsOf Λ M a 8).set 7 (.int v) = fsOf Λ (wI M a 7 v) a 8 := by simp [fsOf, wI, up2]
theorem stX8_8 {Λ : Nat → Nat} {M : Mem} {a b : Nat} : (fsOf Λ M a 8).set 8 (.ref (Λ b)) = fsOf Λ (wR M a 8 b) a 8 := by simp [fsOf, wR, up2, va_re, va_rf]
theorem stX8_9 {Λ : Nat → Nat} {M : Mem} {a b : Nat} : (fsOf Λ M a 8).set 9 (.ref (Λ b)) = fsOf Λ (wR M a 9 b) a 8 := by simp [fsOf, wR, up2, va_re, va_rf]
theorem stX8_10 {Λ : Nat → Nat} {M : Mem} {a b : Nat} : (fsOf Λ M a 8).set 10 (.ref (Λ b)) = fsOf Λ (wR M a 10 b) a 8 := by simp [fsOf, wR, up2, va_re, va_rf]
theorem stX8_11 {Λ : Nat → Nat} {M : Mem} {a b : Nat} : (fsOf Λ M a 8).set 11 (.ref (Λ b)) = fsOf Λ (wR M a 11 b) a 8 := by simp [fsOf, wR, up2, va_re, va_rf]
theorem stX8_12 {Λ : Nat → Nat} {M : Mem} {a b : Nat} : (fsOf Λ M a 8).set 12 (.ref (Λ b)) = fsOf Λ (wR M a 12 b) a 8 := by simp [fsOf, wR, up2, va_re, va_rf]
theorem stX8_13 {Λ : Nat → Nat} {M : Mem} {a : Nat} {v : Int32} : (fsOf Λ M a 8).set 13 (.int v) = fsOf Λ (wI M a 13 v) a 8 := by simp [fsOf, wI, up2]
theorem stX8_14 {Λ : Nat → Nat} {M : Mem} {a b : Nat} : (fsOf Λ M a 8).set 14 (.ref (Λ b)) = fsOf Λ (wR M a 14 b) a 8 := by simp [fsOf, wR, up2, va_re, va_rf]
theorem stX8_15 {Λ : Nat → Nat} {M : Mem} {a b : Nat} : (fsOf Λ M a 8).set 15 (.ref (Λ b)) = fsOf Λ (wR M a 15 b) a 8 := by simp [fsOf, wR, up2, va_re, va_rf]
theorem stX8_16 {Λ : Nat → Nat} {M : Mem} {a b : Nat} : (fsOf Λ M a 8).set 16 (.ref (Λ b)) = fsOf Λ (wR M a 16 b) a 8 := by simp [fsOf, wR, up2, va_re, va_rf]
theorem stX8_17 {Λ : Nat → Nat} {M : Mem} {a b : Nat} : (fsOf Λ M a 8).set 17 (.ref (Λ b)) = fsOf Λ (wR M a 17 b) a 8 := by simp [fsOf, wR, up2, va_re, va_rf]
theorem stX8_18 {Λ : Nat → Nat} {M : Mem} {a b : Nat} : (fsOf Λ M a 8).set 18 (.ref (Λ b)) = fsOf Λ (wR M a 18 b) a 8 := by simp [fsOf, wR, up2, va_re, va_rf]
theorem stX8_19 {Λ : Nat → Nat} {M : Mem} {a : Nat} {v : Int32} : (fsOf Λ M a 8).set 19 (.int v) = fsOf Λ (wI M a 19 v) a 8 := by simp [fsOf, wI, up2]
theorem stX8_20 {Λ : Nat → Nat} {M : Mem} {a b : Nat} : (fsOf Λ M a 8).set 20 (.ref (Λ b)) = fsOf Λ (wR M a 20 b) a 8 := by simp [fsOf, wR, up2, va_re, va_rf]
theorem stX8_21 {Λ : Nat → Nat} {M : Mem} {a b : Nat} : (fsOf Λ M a 8).set 21 (.ref (Λ b)) = fsOf Λ (wR M a 21 b) a 8 := by simp [fsOf, wR, up2, va_re, va_rf]
theorem dfX8 {Λ : Nat → Nat} {M : Mem} {n : Nat} : ∀ j, j < 22 → defaultValue (tyX8 j) = vp_V (fsOf Λ (al M n) n 8) j := by
  intro j hj
  rcases (show j = 0 ∨ j = 1 ∨ j = 2 ∨ j = 3 ∨ j = 4 ∨ j = 5 ∨ j = 6 ∨ j = 7 ∨ j = 8 ∨ j = 9 ∨ j = 10 ∨ j = 11 ∨ j = 12 ∨ j = 13 ∨ j = 14 ∨ j = 15 ∨ j = 16 ∨ j = 17 ∨ j = 18 ∨ j = 19 ∨ j = 20 ∨ j = 21 by omega) with rfl | rfl | rfl | rfl | rfl | rfl | rfl | rfl | rfl | rfl | rfl | rfl | rfl | rfl | rfl | rfl | rfl | rfl | rfl | rfl | rfl | rfl <;> simp [tyX8, fsOf, al, vp_V, va_re, va_rf, defaultValue]
/-- what a field access needs of the tables -/
def FG (own : String) (index ci j : Nat) : Prop := ∃ (C : String) (T : u_T) (N : Nat), vwCl[ci]? = some (C, T, N) ∧ (∀ w ∈ u_ws C T N, w ∈ gw) ∧ j < N ∧ Cond.fieldLink own index (T j).1 (T j).2.1 (T j).2.2.1 ∈ gw
def FP (own : String) (index ci j : Nat) (ty : FieldType) (fin : Bool) : Prop := ∃ (C : String) (T : u_T) (N : Nat) (ty0 : Nat → FieldType), vwCl[ci]? = some (C, T, N) ∧ (∀ w ∈ u_ws C T N, w ∈ gw) ∧ j < N ∧ Cond.fieldLink own index (T j).1 (T j).2.1 (T j).2.2.1 ∈ gw ∧ (∀ k, k < N → parseFieldDescriptor (T k).2.2.1 = some (ty0 k)) ∧ (∀ a, a < N → ∀ b, b < N → a ≠ b → (T a).2.1 ≠ (T b).2.1) ∧ (T j).2.2.2 = fin ∧ parseFieldDescriptor (T j).2.2.1 = some ty ∧ (fin = true → (T j).1 = own)
theorem fgX1_9 : FG RX1 9 1 0 := ⟨RX1, TX1, 3, rfl, hinX1, by decide, tw_99⟩
theorem fpX1_9 : FP RX1 9 1 0 (.array .int) true := ⟨RX1, TX1, 3, tyX1, rfl, hinX1, by decide, tw_99, tyX1_ok, nmX1, rfl, by decide +kernel, fun _ => rfl⟩
theorem fgX4_46 : FG RX4 46 1 0 := ⟨RX1, TX1, 3, rfl, hinX1, by decide, tw_100⟩
theorem fgX7_112 : FG RX7 112 1 0 := ⟨RX1, TX1, 3, rfl, hinX1, by decide, tw_101⟩
theorem fgX1_15 : FG RX1 15 1 1 := ⟨RX1, TX1, 3, rfl, hinX1, by decide, tw_102⟩
theorem fpX1_15 : FP RX1 15 1 1 (.array .int) true := ⟨RX1, TX1, 3, tyX1, rfl, hinX1, by decide, tw_102, tyX1_ok, nmX1, rfl, by decide +kernel, fun _ => rfl⟩
theorem fgX4_49 : FG RX4 49 1 1 := ⟨RX1, TX1, 3, rfl, hinX1, by decide, tw_103⟩
theorem fgX7_115 : FG RX7 115 1 1 := ⟨RX1, TX1, 3, rfl, hinX1, by decide, tw_104⟩
theorem fgX1_18 : FG RX1 18 1 2 := ⟨RX1, TX1, 3, rfl, hinX1, by decide, tw_105⟩
theorem fpX1_18 : FP RX1 18 1 2 (.int) false := ⟨RX1, TX1, 3, tyX1, rfl, hinX1, by decide, tw_105, tyX1_ok, nmX1, rfl, by decide +kernel, fun h => by cases h⟩
theorem fgX4_39 : FG RX4 39 1 2 := ⟨RX1, TX1, 3, rfl, hinX1, by decide, tw_106⟩
theorem fpX4_39 : FP RX4 39 1 2 (.int) false := ⟨RX1, TX1, 3, tyX1, rfl, hinX1, by decide, tw_106, tyX1_ok, nmX1, rfl, by decide +kernel, fun h => by cases h⟩
theorem fgX7_226 : FG RX7 226 1 2 := ⟨RX1, TX1, 3, rfl, hinX1, by decide, tw_107⟩
theorem fpX7_226 : FP RX7 226 1 2 (.int) false := ⟨RX1, TX1, 3, tyX1, rfl, hinX1, by decide, tw_107, tyX1_ok, nmX1, rfl, by decide +kernel, fun h => by cases h⟩
theorem fgX3_28 : FG RX3 28 3 0 := ⟨RX3, TX3, 10, rfl, hinX3, by decide, tw_124⟩
theorem fpX3_28 : FP RX3 28 3 0 (.boolean) false := ⟨RX3, TX3, 10, tyX3, rfl, hinX3, by decide, tw_124, tyX3_ok, nmX3, rfl, by decide +kernel, fun h => by cases h⟩
theorem fgX7_135 : FG RX7 135 3 0 := ⟨RX3, TX3, 10, rfl, hinX3, by decide, tw_125⟩
theorem fpX7_135 : FP RX7 135 3 0 (.boolean) false := ⟨RX3, TX3, 10, tyX3, rfl, hinX3, by decide, tw_125, tyX3_ok, nmX3, rfl, by decide +kernel, fun h => by cases h⟩
theorem fgX3_32 : FG RX3 32 3 1 := ⟨RX3, TX3, 10, rfl, hinX3, by decide, tw_126⟩
theorem fpX3_32 : FP RX3 32 3 1 (.int) false := ⟨RX3, TX3, 10, tyX3, rfl, hinX3, by decide, tw_126, tyX3_ok, nmX3, rfl, by decide +kernel, fun h => by cases h⟩
theorem fgX7_141 : FG RX7 141 3 1 := ⟨RX3, TX3, 10, rfl, hinX3, by decide, tw_127⟩
theorem fpX7_141 : FP RX7 141 3 1 (.int) false := ⟨RX3, TX3, 10, tyX3, rfl, hinX3, by decide, tw_127, tyX3_ok, nmX3, rfl, by decide +kernel, fun h => by cases h⟩
theorem fgX4_63 : FG RX4 63 3 1 := ⟨RX3, TX3, 10, rfl, hinX3, by decide, tw_128⟩
theorem fpX4_63 : FP RX4 63 3 1 (.int) false := ⟨RX3, TX3, 10, tyX3, rfl, hinX3, by decide, tw_128, tyX3_ok, nmX3, rfl, by decide +kernel, fun h => by cases h⟩
theorem fgX3_36 : FG RX3 36 3 2 := ⟨RX3, TX3, 10, rfl, hinX3, by decide, tw_129⟩
theorem fpX3_36 : FP RX3 36 3 2 (.int) false := ⟨RX3, TX3, 10, tyX3, rfl, hinX3, by decide, tw_129, tyX3_ok, nmX3, rfl, by decide +kernel, fun h => by cases h⟩
theorem fgX7_144 : FG RX7 144 3 2 := ⟨RX3, TX3, 10, rfl, hinX3, by decide, tw_130⟩
theorem fpX7_144 : FP RX7 144 3 2 (.int) false := ⟨RX3, TX3, 10, tyX3, rfl, hinX3, by decide, tw_130, tyX3_ok, nmX3, rfl, by decide +kernel, fun h => by cases h⟩
theorem fgX3_39 : FG RX3 39 3 3 := ⟨RX3, TX3, 10, rfl, hinX3, by decide, tw_131⟩
theorem fpX3_39 : FP RX3 39 3 3 (.int) false := ⟨RX3, TX3, 10, tyX3, rfl, hinX3, by decide, tw_131, tyX3_ok, nmX3, rfl, by decide +kernel, fun h => by cases h⟩
theorem fgX7_147 : FG RX7 147 3 3 := ⟨RX3, TX3, 10, rfl, hinX3, by decide, tw_132⟩
theorem fpX7_147 : FP RX7 147 3 3 (.int) false := ⟨RX3, TX3, 10, tyX3, rfl, hinX3, by decide, tw_132, tyX3_ok, nmX3, rfl, by decide +kernel, fun h => by cases h⟩
theorem fgX4_74 : FG RX4 74 3 3 := ⟨RX3, TX3, 10, rfl, hinX3, by decide, tw_133⟩
theorem fpX4_74 : FP RX4 74 3 3 (.int) false := ⟨RX3, TX3, 10, tyX3, rfl, hinX3, by decide, tw_133, tyX3_ok, nmX3, rfl, by decide +kernel, fun h => by cases h⟩
theorem fgX2_121 : FG RX2 121 3 3 := ⟨RX3, TX3, 10, rfl, hinX3, by decide, tw_134⟩
theorem fpX2_121 : FP RX2 121 3 3 (.int) false := ⟨RX3, TX3, 10, tyX3, rfl, hinX3, by decide, tw_134, tyX3_ok, nmX3, rfl, by decide +kernel, fun h => by cases h⟩
theorem fgX3_42 : FG RX3 42 3 4 := ⟨RX3, TX3, 10, rfl, hinX3, by decide, tw_135⟩
theorem fpX3_42 : FP RX3 42 3 4 (.int) false := ⟨RX3, TX3, 10, tyX3, rfl, hinX3, by decide, tw_135, tyX3_ok, nmX3, rfl, by decide +kernel, fun h => by cases h⟩
theorem fgX7_150 : FG RX7 150 3 4 := ⟨RX3, TX3, 10, rfl, hinX3, by decide, tw_136⟩
theorem fpX7_150 : FP RX7 150 3 4 (.int) false := ⟨RX3, TX3, 10, tyX3, rfl, hinX3, by decide, tw_136, tyX3_ok, nmX3, rfl, by decide +kernel, fun h => by cases h⟩
theorem fgX3_9 : FG RX3 9 3 5 := ⟨RX3, TX3, 10, rfl, hinX3, by decide, tw_137⟩
theorem fpX3_9 : FP RX3 9 3 5 (.array .int) true := ⟨RX3, TX3, 10, tyX3, rfl, hinX3, by decide, tw_137, tyX3_ok, nmX3, rfl, by decide +kernel, fun _ => rfl⟩
theorem fgX3_15 : FG RX3 15 3 6 := ⟨RX3, TX3, 10, rfl, hinX3, by decide, tw_138⟩
theorem fpX3_15 : FP RX3 15 3 6 (.array .int) true := ⟨RX3, TX3, 10, tyX3, rfl, hinX3, by decide, tw_138, tyX3_ok, nmX3, rfl, by decide +kernel, fun _ => rfl⟩
theorem fgX4_88 : FG RX4 88 3 6 := ⟨RX3, TX3, 10, rfl, hinX3, by decide, tw_139⟩
theorem fgX3_18 : FG RX3 18 3 7 := ⟨RX3, TX3, 10, rfl, hinX3, by decide, tw_140⟩
theorem fpX3_18 : FP RX3 18 3 7 (.array .boolean) true := ⟨RX3, TX3, 10, tyX3, rfl, hinX3, by decide, tw_140, tyX3_ok, nmX3, rfl, by decide +kernel, fun _ => rfl⟩
theorem fgX4_66 : FG RX4 66 3 7 := ⟨RX3, TX3, 10, rfl, hinX3, by decide, tw_141⟩
theorem fgX3_22 : FG RX3 22 3 8 := ⟨RX3, TX3, 10, rfl, hinX3, by decide, tw_142⟩
theorem fpX3_22 : FP RX3 22 3 8 (.array .int) true := ⟨RX3, TX3, 10, tyX3, rfl, hinX3, by decide, tw_142, tyX3_ok, nmX3, rfl, by decide +kernel, fun _ => rfl⟩
theorem fgX6_70 : FG RX6 70 3 8 := ⟨RX3, TX3, 10, rfl, hinX3, by decide, tw_143⟩
theorem fgX3_25 : FG RX3 25 3 9 := ⟨RX3, TX3, 10, rfl, hinX3, by decide, tw_144⟩
theorem fpX3_25 : FP RX3 25 3 9 (.array .int) true := ⟨RX3, TX3, 10, tyX3, rfl, hinX3, by decide, tw_144, tyX3_ok, nmX3, rfl, by decide +kernel, fun _ => rfl⟩
theorem fgX4_77 : FG RX4 77 3 9 := ⟨RX3, TX3, 10, rfl, hinX3, by decide, tw_145⟩
theorem fgX4_9 : FG RX4 9 4 0 := ⟨RX4, TX4, 6, rfl, hinX4, by decide, tw_168⟩
theorem fpX4_9 : FP RX4 9 4 0 (.int) false := ⟨RX4, TX4, 6, tyX4, rfl, hinX4, by decide, tw_168, tyX4_ok, nmX4, rfl, by decide +kernel, fun h => by cases h⟩
theorem fgX6_28 : FG RX6 28 4 0 := ⟨RX4, TX4, 6, rfl, hinX4, by decide, tw_169⟩
theorem fpX6_28 : FP RX6 28 4 0 (.int) false := ⟨RX4, TX4, 6, tyX4, rfl, hinX4, by decide, tw_169, tyX4_ok, nmX4, rfl, by decide +kernel, fun h => by cases h⟩
theorem fgX7_106 : FG RX7 106 4 0 := ⟨RX4, TX4, 6, rfl, hinX4, by decide, tw_170⟩
theorem fpX7_106 : FP RX7 106 4 0 (.int) false := ⟨RX4, TX4, 6, tyX4, rfl, hinX4, by decide, tw_170, tyX4_ok, nmX4, rfl, by decide +kernel, fun h => by cases h⟩
theorem fgX2_58 : FG RX2 58 4 0 := ⟨RX4, TX4, 6, rfl, hinX4, by decide, tw_171⟩
theorem fpX2_58 : FP RX2 58 4 0 (.int) false := ⟨RX4, TX4, 6, tyX4, rfl, hinX4, by decide, tw_171, tyX4_ok, nmX4, rfl, by decide +kernel, fun h => by cases h⟩
theorem fgX4_15 : FG RX4 15 4 1 := ⟨RX4, TX4, 6, rfl, hinX4, by decide, tw_172⟩
theorem fpX4_15 : FP RX4 15 4 1 (.int) false := ⟨RX4, TX4, 6, tyX4, rfl, hinX4, by decide, tw_172, tyX4_ok, nmX4, rfl, by decide +kernel, fun h => by cases h⟩
theorem fgX6_31 : FG RX6 31 4 1 := ⟨RX4, TX4, 6, rfl, hinX4, by decide, tw_173⟩
theorem fpX6_31 : FP RX6 31 4 1 (.int) false := ⟨RX4, TX4, 6, tyX4, rfl, hinX4, by decide, tw_173, tyX4_ok, nmX4, rfl, by decide +kernel, fun h => by cases h⟩
theorem fgX7_128 : FG RX7 128 4 1 := ⟨RX4, TX4, 6, rfl, hinX4, by decide, tw_174⟩
theorem fpX7_128 : FP RX7 128 4 1 (.int) false := ⟨RX4, TX4, 6, tyX4, rfl, hinX4, by decide, tw_174, tyX4_ok, nmX4, rfl, by decide +kernel, fun h => by cases h⟩
theorem fgX2_77 : FG RX2 77 4 1 := ⟨RX4, TX4, 6, rfl, hinX4, by decide, tw_175⟩
theorem fpX2_77 : FP RX2 77 4 1 (.int) false := ⟨RX4, TX4, 6, tyX4, rfl, hinX4, by decide, tw_175, tyX4_ok, nmX4, rfl, by decide +kernel, fun h => by cases h⟩
theorem fgX4_18 : FG RX4 18 4 2 := ⟨RX4, TX4, 6, rfl, hinX4, by decide, tw_176⟩
theorem fpX4_18 : FP RX4 18 4 2 (.array .int) true := ⟨RX4, TX4, 6, tyX4, rfl, hinX4, by decide, tw_176, tyX4_ok, nmX4, rfl, by decide +kernel, fun _ => rfl⟩
theorem fgX6_64 : FG RX6 64 4 2 := ⟨RX4, TX4, 6, rfl, hinX4, by decide, tw_177⟩
theorem fgX7_109 : FG RX7 109 4 2 := ⟨RX4, TX4, 6, rfl, hinX4, by decide, tw_178⟩
theorem fgX4_22 : FG RX4 22 4 3 := ⟨RX4, TX4, 6, rfl, hinX4, by decide, tw_179⟩
theorem fpX4_22 : FP RX4 22 4 3 (.array .int) true := ⟨RX4, TX4, 6, tyX4, rfl, hinX4, by decide, tw_179, tyX4_ok, nmX4, rfl, by decide +kernel, fun _ => rfl⟩
theorem fgX4_28 : FG RX4 28 4 4 := ⟨RX4, TX4, 6, rfl, hinX4, by decide, tw_180⟩
theorem fpX4_28 : FP RX4 28 4 4 (.object "StyleTree$Look") true := ⟨RX4, TX4, 6, tyX4, rfl, hinX4, by decide, tw_180, tyX4_ok, nmX4, rfl, by decide +kernel, fun _ => rfl⟩
theorem fgX7_92 : FG RX7 92 4 4 := ⟨RX4, TX4, 6, rfl, hinX4, by decide, tw_181⟩
theorem fgX4_34 : FG RX4 34 4 5 := ⟨RX4, TX4, 6, rfl, hinX4, by decide, tw_182⟩
theorem fpX4_34 : FP RX4 34 4 5 (.array (.object "StyleTree$Rule")) true := ⟨RX4, TX4, 6, tyX4, rfl, hinX4, by decide, tw_182, tyX4_ok, nmX4, rfl, by decide +kernel, fun _ => rfl⟩
theorem fgX6_40 : FG RX6 40 4 5 := ⟨RX4, TX4, 6, rfl, hinX4, by decide, tw_183⟩
theorem fgX7_131 : FG RX7 131 4 5 := ⟨RX4, TX4, 6, rfl, hinX4, by decide, tw_184⟩
theorem fgX2_84 : FG RX2 84 4 5 := ⟨RX4, TX4, 6, rfl, hinX4, by decide, tw_185⟩
theorem fgX2_9 : FG RX2 9 2 0 := ⟨RX2, TX2, 6, rfl, hinX2, by decide, tw_199⟩
theorem fpX2_9 : FP RX2 9 2 0 (.array .char) false := ⟨RX2, TX2, 6, tyX2, rfl, hinX2, by decide, tw_199, tyX2_ok, nmX2, rfl, by decide +kernel, fun h => by cases h⟩
theorem fgX2_15 : FG RX2 15 2 1 := ⟨RX2, TX2, 6, rfl, hinX2, by decide, tw_200⟩
theorem fpX2_15 : FP RX2 15 2 1 (.int) false := ⟨RX2, TX2, 6, tyX2, rfl, hinX2, by decide, tw_200, tyX2_ok, nmX2, rfl, by decide +kernel, fun h => by cases h⟩
theorem fgX2_19 : FG RX2 19 2 2 := ⟨RX2, TX2, 6, rfl, hinX2, by decide, tw_201⟩
theorem fpX2_19 : FP RX2 19 2 2 (.int) false := ⟨RX2, TX2, 6, tyX2, rfl, hinX2, by decide, tw_201, tyX2_ok, nmX2, rfl, by decide +kernel, fun h => by cases h⟩
theorem fgX2_22 : FG RX2 22 2 3 := ⟨RX2, TX2, 6, rfl, hinX2, by decide, tw_202⟩
theorem fpX2_22 : FP RX2 22 2 3 (.int) false := ⟨RX2, TX2, 6, tyX2, rfl, hinX2, by decide, tw_202, tyX2_ok, nmX2, rfl, by decide +kernel, fun h => by cases h⟩
theorem fgX2_25 : FG RX2 25 2 4 := ⟨RX2, TX2, 6, rfl, hinX2, by decide, tw_203⟩
theorem fpX2_25 : FP RX2 25 2 4 (.int) false := ⟨RX2, TX2, 6, tyX2, rfl, hinX2, by decide, tw_203, tyX2_ok, nmX2, rfl, by decide +kernel, fun h => by cases h⟩
theorem fgX2_31 : FG RX2 31 2 5 := ⟨RX2, TX2, 6, rfl, hinX2, by decide, tw_204⟩
theorem fpX2_31 : FP RX2 31 2 5 (.object "StyleTree$Sheet") false := ⟨RX2, TX2, 6, tyX2, rfl, hinX2, by decide, tw_204, tyX2_ok, nmX2, rfl, by decide +kernel, fun h => by cases h⟩
theorem fgX6_9 : FG RX6 9 6 0 := ⟨RX6, TX6, 5, rfl, hinX6, by decide, tw_228⟩
theorem fpX6_9 : FP RX6 9 6 0 (.int) false := ⟨RX6, TX6, 5, tyX6, rfl, hinX6, by decide, tw_228, tyX6_ok, nmX6, rfl, by decide +kernel, fun h => by cases h⟩
theorem fgX6_15 : FG RX6 15 6 1 := ⟨RX6, TX6, 5, rfl, hinX6, by decide, tw_229⟩
theorem fpX6_15 : FP RX6 15 6 1 (.array .int) true := ⟨RX6, TX6, 5, tyX6, rfl, hinX6, by decide, tw_229, tyX6_ok, nmX6, rfl, by decide +kernel, fun _ => rfl⟩
theorem fgX6_19 : FG RX6 19 6 2 := ⟨RX6, TX6, 5, rfl, hinX6, by decide, tw_230⟩
theorem fpX6_19 : FP RX6 19 6 2 (.array .int) true := ⟨RX6, TX6, 5, tyX6, rfl, hinX6, by decide, tw_230, tyX6_ok, nmX6, rfl, by decide +kernel, fun _ => rfl⟩
theorem fgX6_22 : FG RX6 22 6 3 := ⟨RX6, TX6, 5, rfl, hinX6, by decide, tw_231⟩
theorem fpX6_22 : FP RX6 22 6 3 (.array .int) true := ⟨RX6, TX6, 5, tyX6, rfl, hinX6, by decide, tw_231, tyX6_ok, nmX6, rfl, by decide +kernel, fun _ => rfl⟩
theorem fgX6_25 : FG RX6 25 6 4 := ⟨RX6, TX6, 5, rfl, hinX6, by decide, tw_232⟩
theorem fpX6_25 : FP RX6 25 6 4 (.array .int) true := ⟨RX6, TX6, 5, tyX6, rfl, hinX6, by decide, tw_232, tyX6_ok, nmX6, rfl, by decide +kernel, fun _ => rfl⟩
theorem fgX0_9 : FG RX0 9 0 0 := ⟨RX0, TX0, 2, rfl, hinX0, by decide, tw_250⟩
theorem fpX0_9 : FP RX0 9 0 0 (.array .int) true := ⟨RX0, TX0, 2, tyX0, rfl, hinX0, by decide, tw_250, tyX0_ok, nmX0, rfl, by decide +kernel, fun _ => rfl⟩
theorem fgX0_15 : FG RX0 15 0 1 := ⟨RX0, TX0, 2, rfl, hinX0, by decide, tw_251⟩
theorem fpX0_15 : FP RX0 15 0 1 (.int) false := ⟨RX0, TX0, 2, tyX0, rfl, hinX0, by decide, tw_251, tyX0_ok, nmX0, rfl, by decide +kernel, fun h => by cases h⟩
theorem fgX7_171 : FG RX7 171 0 1 := ⟨RX0, TX0, 2, rfl, hinX0, by decide, tw_252⟩
theorem fpX7_171 : FP RX7 171 0 1 (.int) false := ⟨RX0, TX0, 2, tyX0, rfl, hinX0, by decide, tw_252, tyX0_ok, nmX0, rfl, by decide +kernel, fun h => by cases h⟩
theorem fgX5_9 : FG RX5 9 5 0 := ⟨RX5, TX5, 4, rfl, hinX5, by decide, tw_264⟩
theorem fpX5_9 : FP RX5 9 5 0 (.array .int) true := ⟨RX5, TX5, 4, tyX5, rfl, hinX5, by decide, tw_264, tyX5_ok, nmX5, rfl, by decide +kernel, fun _ => rfl⟩
theorem fgX5_15 : FG RX5 15 5 1 := ⟨RX5, TX5, 4, rfl, hinX5, by decide, tw_265⟩
theorem fpX5_15 : FP RX5 15 5 1 (.array .int) true := ⟨RX5, TX5, 4, tyX5, rfl, hinX5, by decide, tw_265, tyX5_ok, nmX5, rfl, by decide +kernel, fun _ => rfl⟩
theorem fgX5_18 : FG RX5 18 5 2 := ⟨RX5, TX5, 4, rfl, hinX5, by decide, tw_266⟩
theorem fpX5_18 : FP RX5 18 5 2 (.array .int) true := ⟨RX5, TX5, 4, tyX5, rfl, hinX5, by decide, tw_266, tyX5_ok, nmX5, rfl, by decide +kernel, fun _ => rfl⟩
theorem fgX5_21 : FG RX5 21 5 3 := ⟨RX5, TX5, 4, rfl, hinX5, by decide, tw_267⟩
theorem fpX5_21 : FP RX5 21 5 3 (.int) false := ⟨RX5, TX5, 4, tyX5, rfl, hinX5, by decide, tw_267, tyX5_ok, nmX5, rfl, by decide +kernel, fun h => by cases h⟩
theorem fgX7_207 : FG RX7 207 5 3 := ⟨RX5, TX5, 4, rfl, hinX5, by decide, tw_268⟩
theorem fpX7_207 : FP RX7 207 5 3 (.int) false := ⟨RX5, TX5, 4, tyX5, rfl, hinX5, by decide, tw_268, tyX5_ok, nmX5, rfl, by decide +kernel, fun h => by cases h⟩
theorem fgX7_9 : FG RX7 9 7 0 := ⟨RX7, TX7, 13, rfl, hinX7, by decide, tw_279⟩
theorem fpX7_9 : FP RX7 9 7 0 (.array .char) true := ⟨RX7, TX7, 13, tyX7, rfl, hinX7, by decide, tw_279, tyX7_ok, nmX7, rfl, by decide +kernel, fun _ => rfl⟩
theorem fgX7_13 : FG RX7 13 7 1 := ⟨RX7, TX7, 13, rfl, hinX7, by decide, tw_280⟩
theorem fpX7_13 : FP RX7 13 7 1 (.int) false := ⟨RX7, TX7, 13, tyX7, rfl, hinX7, by decide, tw_280, tyX7_ok, nmX7, rfl, by decide +kernel, fun h => by cases h⟩
theorem fgX7_20 : FG RX7 20 7 2 := ⟨RX7, TX7, 13, rfl, hinX7, by decide, tw_281⟩
theorem fpX7_20 : FP RX7 20 7 2 (.object "StyleTree$Reader") true := ⟨RX7, TX7, 13, tyX7, rfl, hinX7, by decide, tw_281, tyX7_ok, nmX7, rfl, by decide +kernel, fun _ => rfl⟩
theorem fgX7_27 : FG RX7 27 7 3 := ⟨RX7, TX7, 13, rfl, hinX7, by decide, tw_282⟩
theorem fpX7_27 : FP RX7 27 7 3 (.object "StyleTree$Sheet") false := ⟨RX7, TX7, 13, tyX7, rfl, hinX7, by decide, tw_282, tyX7_ok, nmX7, rfl, by decide +kernel, fun h => by cases h⟩
theorem fgX7_34 : FG RX7 34 7 4 := ⟨RX7, TX7, 13, rfl, hinX7, by decide, tw_283⟩
theorem fpX7_34 : FP RX7 34 7 4 (.object "StyleTree$Look") true := ⟨RX7, TX7, 13, tyX7, rfl, hinX7, by decide, tw_283, tyX7_ok, nmX7, rfl, by decide +kernel, fun _ => rfl⟩
theorem fgX7_38 : FG RX7 38 7 5 := ⟨RX7, TX7, 13, rfl, hinX7, by decide, tw_284⟩
theorem fpX7_38 : FP RX7 38 7 5 (.object "StyleTree$Look") true := ⟨RX7, TX7, 13, tyX7, rfl, hinX7, by decide, tw_284, tyX7_ok, nmX7, rfl, by decide +kernel, fun _ => rfl⟩
theorem fgX7_44 : FG RX7 44 7 6 := ⟨RX7, TX7, 13, rfl, hinX7, by decide, tw_285⟩
theorem fpX7_44 : FP RX7 44 7 6 (.object "StyleTree$Styles") true := ⟨RX7, TX7, 13, tyX7, rfl, hinX7, by decide, tw_285, tyX7_ok, nmX7, rfl, by decide +kernel, fun _ => rfl⟩
theorem fgX7_48 : FG RX7 48 7 7 := ⟨RX7, TX7, 13, rfl, hinX7, by decide, tw_286⟩
theorem fpX7_48 : FP RX7 48 7 7 (.object "StyleTree$Styles") true := ⟨RX7, TX7, 13, tyX7, rfl, hinX7, by decide, tw_286, tyX7_ok, nmX7, rfl, by decide +kernel, fun _ => rfl⟩
theorem fgX7_54 : FG RX7 54 7 8 := ⟨RX7, TX7, 13, rfl, hinX7, by decide, tw_287⟩
theorem fpX7_54 : FP RX7 54 7 8 (.object "StyleTree$History") true := ⟨RX7, TX7, 13, tyX7, rfl, hinX7, by decide, tw_287, tyX7_ok, nmX7, rfl, by decide +kernel, fun _ => rfl⟩
theorem fgX7_61 : FG RX7 61 7 9 := ⟨RX7, TX7, 13, rfl, hinX7, by decide, tw_288⟩
theorem fpX7_61 : FP RX7 61 7 9 (.object "StyleTree$Sightings") true := ⟨RX7, TX7, 13, tyX7, rfl, hinX7, by decide, tw_288, tyX7_ok, nmX7, rfl, by decide +kernel, fun _ => rfl⟩
theorem fgX7_65 : FG RX7 65 7 10 := ⟨RX7, TX7, 13, rfl, hinX7, by decide, tw_289⟩
theorem fpX7_65 : FP RX7 65 7 10 (.array (.object "StyleTree$Look")) true := ⟨RX7, TX7, 13, tyX7, rfl, hinX7, by decide, tw_289, tyX7_ok, nmX7, rfl, by decide +kernel, fun _ => rfl⟩
theorem fgX7_69 : FG RX7 69 7 11 := ⟨RX7, TX7, 13, rfl, hinX7, by decide, tw_290⟩
theorem fpX7_69 : FP RX7 69 7 11 (.int) false := ⟨RX7, TX7, 13, tyX7, rfl, hinX7, by decide, tw_290, tyX7_ok, nmX7, rfl, by decide +kernel, fun h => by cases h⟩
theorem fgX7_72 : FG RX7 72 7 12 := ⟨RX7, TX7, 13, rfl, hinX7, by decide, tw_291⟩
theorem fpX7_72 : FP RX7 72 7 12 (.array .int) true := ⟨RX7, TX7, 13, tyX7, rfl, hinX7, by decide, tw_291, tyX7_ok, nmX7, rfl, by decide +kernel, fun _ => rfl⟩
theorem fgX8_56 : FG RX8 56 8 0 := ⟨RX8, TX8, 22, rfl, hinX8, by decide, tw_697⟩
theorem fpX8_56 : FP RX8 56 8 0 (.int) false := ⟨RX8, TX8, 22, tyX8, rfl, hinX8, by decide, tw_697, tyX8_ok, nmX8, rfl, by decide +kernel, fun h => by cases h⟩
theorem fgX8_7 : FG RX8 7 8 1 := ⟨RX8, TX8, 22, rfl, hinX8, by decide, tw_698⟩
theorem fpX8_7 : FP RX8 7 8 1 (.array .int) true := ⟨RX8, TX8, 22, tyX8, rfl, hinX8, by decide, tw_698, tyX8_ok, nmX8, rfl, by decide +kernel, fun _ => rfl⟩
theorem fgX8_64 : FG RX8 64 8 2 := ⟨RX8, TX8, 22, rfl, hinX8, by decide, tw_699⟩
theorem fpX8_64 : FP RX8 64 8 2 (.int) false := ⟨RX8, TX8, 22, tyX8, rfl, hinX8, by decide, tw_699, tyX8_ok, nmX8, rfl, by decide +kernel, fun h => by cases h⟩
theorem fgX8_67 : FG RX8 67 8 3 := ⟨RX8, TX8, 22, rfl, hinX8, by decide, tw_700⟩
theorem fpX8_67 : FP RX8 67 8 3 (.int) false := ⟨RX8, TX8, 22, tyX8, rfl, hinX8, by decide, tw_700, tyX8_ok, nmX8, rfl, by decide +kernel, fun h => by cases h⟩
theorem fgX8_77 : FG RX8 77 8 4 := ⟨RX8, TX8, 22, rfl, hinX8, by decide, tw_701⟩
theorem fpX8_77 : FP RX8 77 8 4 (.int) false := ⟨RX8, TX8, 22, tyX8, rfl, hinX8, by decide, tw_701, tyX8_ok, nmX8, rfl, by decide +kernel, fun h => by cases h⟩
theorem fgX8_74 : FG RX8 74 8 5 := ⟨RX8, TX8, 22, rfl, hinX8, by decide, tw_702⟩
theorem fpX8_74 : FP RX8 74 8 5 (.int) false := ⟨RX8, TX8, 22, tyX8, rfl, hinX8, by decide, tw_702, tyX8_ok, nmX8, rfl, by decide +kernel, fun h => by cases h⟩
theorem fgX8_80 : FG RX8 80 8 6 := ⟨RX8, TX8, 22, rfl, hinX8, by decide, tw_703⟩
theorem fpX8_80 : FP RX8 80 8 6 (.int) false := ⟨RX8, TX8, 22, tyX8, rfl, hinX8, by decide, tw_703, tyX8_ok, nmX8, rfl, by decide +kernel, fun h => by cases h⟩
theorem fgX8_87 : FG RX8 87 8 7 := ⟨RX8, TX8, 22, rfl, hinX8, by decide, tw_704⟩
theorem fpX8_87 : FP RX8 87 8 7 (.int) false := ⟨RX8, TX8, 22, tyX8, rfl, hinX8, by decide, tw_704, tyX8_ok, nmX8, rfl, by decide +kernel, fun h => by cases h⟩
theorem fgX8_13 : FG RX8 13 8 8 := ⟨RX8, TX8, 22, rfl, hinX8, by decide, tw_705⟩
theorem fpX8_13 : FP RX8 13 8 8 (.array .int) true := ⟨RX8, TX8, 22, tyX8, rfl, hinX8, by decide, tw_705, tyX8_ok, nmX8, rfl, by decide +kernel, fun _ => rfl⟩
theorem fgX8_16 : FG RX8 16 8 9 := ⟨RX8, TX8, 22, rfl, hinX8, by decide, tw_706⟩
theorem fpX8_16 : FP RX8 16 8 9 (.array .int) true := ⟨RX8, TX8, 22, tyX8, rfl, hinX8, by decide, tw_706, tyX8_ok, nmX8, rfl, by decide +kernel, fun _ => rfl⟩
theorem fgX8_19 : FG RX8 19 8 10 := ⟨RX8, TX8, 22, rfl, hinX8, by decide, tw_707⟩
theorem fpX8_19 : FP RX8 19 8 10 (.array .int) true := ⟨RX8, TX8, 22, tyX8, rfl, hinX8, by decide, tw_707, tyX8_ok, nmX8, rfl, by decide +kernel, fun _ => rfl⟩
theorem fgX8_22 : FG RX8 22 8 11 := ⟨RX8, TX8, 22, rfl, hinX8, by decide, tw_708⟩
theorem fpX8_22 : FP RX8 22 8 11 (.array .int) true := ⟨RX8, TX8, 22, tyX8, rfl, hinX8, by decide, tw_708, tyX8_ok, nmX8, rfl, by decide +kernel, fun _ => rfl⟩
theorem fgX8_25 : FG RX8 25 8 12 := ⟨RX8, TX8, 22, rfl, hinX8, by decide, tw_709⟩
theorem fpX8_25 : FP RX8 25 8 12 (.array .int) true := ⟨RX8, TX8, 22, tyX8, rfl, hinX8, by decide, tw_709, tyX8_ok, nmX8, rfl, by decide +kernel, fun _ => rfl⟩
theorem fgX8_127 : FG RX8 127 8 13 := ⟨RX8, TX8, 22, rfl, hinX8, by decide, tw_710⟩
theorem fpX8_127 : FP RX8 127 8 13 (.int) false := ⟨RX8, TX8, 22, tyX8, rfl, hinX8, by decide, tw_710, tyX8_ok, nmX8, rfl, by decide +kernel, fun h => by cases h⟩
theorem fgX8_28 : FG RX8 28 8 14 := ⟨RX8, TX8, 22, rfl, hinX8, by decide, tw_711⟩
theorem fpX8_28 : FP RX8 28 8 14 (.array .int) true := ⟨RX8, TX8, 22, tyX8, rfl, hinX8, by decide, tw_711, tyX8_ok, nmX8, rfl, by decide +kernel, fun _ => rfl⟩
theorem fgX8_31 : FG RX8 31 8 15 := ⟨RX8, TX8, 22, rfl, hinX8, by decide, tw_712⟩
theorem fpX8_31 : FP RX8 31 8 15 (.array .boolean) true := ⟨RX8, TX8, 22, tyX8, rfl, hinX8, by decide, tw_712, tyX8_ok, nmX8, rfl, by decide +kernel, fun _ => rfl⟩
theorem fgX8_35 : FG RX8 35 8 16 := ⟨RX8, TX8, 22, rfl, hinX8, by decide, tw_713⟩
theorem fpX8_35 : FP RX8 35 8 16 (.array .int) true := ⟨RX8, TX8, 22, tyX8, rfl, hinX8, by decide, tw_713, tyX8_ok, nmX8, rfl, by decide +kernel, fun _ => rfl⟩
theorem fgX8_38 : FG RX8 38 8 17 := ⟨RX8, TX8, 22, rfl, hinX8, by decide, tw_714⟩
theorem fpX8_38 : FP RX8 38 8 17 (.array .int) true := ⟨RX8, TX8, 22, tyX8, rfl, hinX8, by decide, tw_714, tyX8_ok, nmX8, rfl, by decide +kernel, fun _ => rfl⟩
theorem fgX8_41 : FG RX8 41 8 18 := ⟨RX8, TX8, 22, rfl, hinX8, by decide, tw_715⟩
theorem fpX8_41 : FP RX8 41 8 18 (.array .int) true := ⟨RX8, TX8, 22, tyX8, rfl, hinX8, by decide, tw_715, tyX8_ok, nmX8, rfl, by decide +kernel, fun _ => rfl⟩
theorem fgX8_124 : FG RX8 124 8 19 := ⟨RX8, TX8, 22, rfl, hinX8, by decide, tw_716⟩
theorem fpX8_124 : FP RX8 124 8 19 (.int) false := ⟨RX8, TX8, 22, tyX8, rfl, hinX8, by decide, tw_716, tyX8_ok, nmX8, rfl, by decide +kernel, fun h => by cases h⟩
theorem fgX8_44 : FG RX8 44 8 20 := ⟨RX8, TX8, 22, rfl, hinX8, by decide, tw_717⟩
theorem fpX8_44 : FP RX8 44 8 20 (.array .int) true := ⟨RX8, TX8, 22, tyX8, rfl, hinX8, by decide, tw_717, tyX8_ok, nmX8, rfl, by decide +kernel, fun _ => rfl⟩
theorem fgX8_47 : FG RX8 47 8 21 := ⟨RX8, TX8, 22, rfl, hinX8, by decide, tw_718⟩
theorem fpX8_47 : FP RX8 47 8 21 (.array .int) true := ⟨RX8, TX8, 22, tyX8, rfl, hinX8, by decide, tw_718, tyX8_ok, nmX8, rfl, by decide +kernel, fun _ => rfl⟩
end
section
/-! ===== the world as a list of cells; the judgement GG: from here, with this memory, these locals and this stack, the method comes to its end ===== -/
theorem kd_lt {k T : Nat} (h : kd k = T + 1) : k < NN := by
  rcases Nat.lt_or_ge k NN with q | q
  · exact q
  · have h0 : kd k = 0 := by
      unfold kd
      rw [List.getD_eq_getElem?_getD, List.getElem?_eq_none (by exact q)]
      rfl
    omega
def Is (n a T : Nat) : Prop := a < n ∧ kd a = T
theorem Is.of {a T : Nat} (h : kd a = T + 1) : Is NN a (T + 1) := ⟨kd_lt h, h⟩
def wl (cy : Nat → ClassId) (n : Nat) (Λ : Nat → Nat) (M : Mem) : va_W := (List.range n).map (fun k => (Λ k, cellA cy Λ M k))
theorem wl_get {cy : Nat → ClassId} {n : Nat} {Λ : Nat → Nat} {M : Mem} {a : Nat} (h : a < n) : (wl cy n Λ M)[a]? = some (Λ a, cellA cy Λ M a) := by
  simp [wl, h]
theorem wl_none {cy : Nat → ClassId} {n : Nat} {Λ : Nat → Nat} {M : Mem} {a : Nat} (h : n ≤ a) : (wl cy n Λ M)[a]? = none := by
  simp [wl, h]
theorem wl_set {cy : Nat → ClassId} {n : Nat} {Λ : Nat → Nat} {M M2 : Mem} {a : Nat} {e : va_E} (h : a < n) (he : e = cellA cy Λ M2 a) (h1 : ∀ k, k ≠ a → M2.1 k = M.1 k) (h2 : ∀ k, k ≠ a → M2.2 k = M.2 k) : (wl cy n Λ M).set a (Λ a, e) = wl cy n Λ M2 := by
  subst he
  apply List.ext_getElem?
  intro i
  have hl : a < (wl cy n Λ M).length := by simp [wl, h]
  by_cases hi : i = a
  · subst hi
    rw [List.getElem?_set_self hl, wl_get h]
  · rw [List.getElem?_set_ne (Ne.symm hi)]
    by_cases hn : i < n
    · rw [wl_get hn, wl_get hn, cell_congr (h1 i hi) (h2 i hi)]
    · rw [wl_none (by omega), wl_none (by omega)]
theorem wl_same {cy : Nat → ClassId} {n : Nat} {Λ : Nat → Nat} {M M2 : Mem} (h1 : ∀ k, k < n → M2.1 k = M.1 k) (h2 : ∀ k, k < n → M2.2 k = M.2 k) : wl cy n Λ M2 = wl cy n Λ M := by
  apply List.ext_getElem?
  intro i
  by_cases hn : i < n
  · rw [wl_get hn, wl_get hn, cell_congr (h1 i hn) (h2 i hn)]
  · rw [wl_none (by omega), wl_none (by omega)]
theorem wl_push {cy : Nat → ClassId} {n : Nat} {Λ : Nat → Nat} {M : Mem} : wl cy (n + 1) Λ (al M n) = wl cy n Λ M ++ [(Λ n, cellA cy Λ (al M n) n)] := by
  have h : wl cy (n + 1) Λ (al M n) = wl cy n Λ (al M n) ++ [(Λ n, cellA cy Λ (al M n) n)] := by
    simp [wl, List.range_succ]
  rw [h, wl_same (M2 := al M n) (M := M)]
  · intro k hk; simp [al, Nat.ne_of_lt hk]
  · intro k hk; simp [al, Nat.ne_of_lt hk]
theorem wl_D {cy : Nat → ClassId} {n : Nat} {Λ : Nat → Nat} {M : Mem} {A : Nat → Prop} (hi : ∀ i j : Nat, Λ i = Λ j → i = j) (hA : ∀ k : Nat, A (Λ k)) : va_D A (wl cy n Λ M) := by
  have key : ∀ (i : Nat) (x : Nat × va_E), (wl cy n Λ M)[i]? = some x → x.1 = Λ i := by
    intro i x hx
    by_cases hn : i < n
    · rw [wl_get hn] at hx
      cases hx
      rfl
    · rw [wl_none (by omega)] at hx
      cases hx
  exact ⟨fun i j x y hx hy hxy => hi i j (by rw [← key i x hx, ← key j y hy, hxy]), fun k x hx => by rw [key k x hx]; exact hA k⟩
/-- what may be written: the world's cells and new ones -/
def AA (Λ : Nat → Nat) (sz : Nat) : Nat → Prop := fun q => (∃ k : Nat, Λ k = q) ∨ sz ≤ q
/-- what stays the same in a method's body -/
def Cx (p : Program) (s : State) (m : MethodId) (args : Array Value) (meth : Method) (c : Code) (cc : ByteArray) (nL : Nat) (own : String) (ret : Option FieldType) (D : va_G) (cy : Nat → ClassId) (Λ : Nat → Nat) (A : Nat → Prop) : Prop :=
  CallFix p m c cc nL s args gw own ∧ meth.sig.returnType = ret ∧ meth.locks = false ∧ va_K D vwCl (tys cy) s ∧ (∀ w ∈ nst, va_Nw w s) ∧ (∀ i j : Nat, Λ i = Λ j → i = j) ∧ (∀ k : Nat, A (Λ k)) ∧ ∀ q : Nat, s.heap.size ≤ q → A q
def GG (p : Program) (l : Launch) (e : Env) (R : Room) (s : State) (m : MethodId) (args : Array Value) (below : List Frame) (meth : Method) (c : Code) (D : va_G) (cy : Nat → ClassId) (Λ : Nat → Nat) (A : Nat → Prop) (nL cells slots : Nat) (Q : State → Prop) (n : Nat) (M : Mem) (pc : Nat) (lv : List (Nat × Value)) (st : List Value) : Prop :=
  ∀ (H : Heap) (locs : List Loc) (ls : Array Slot), va_P D vwCl (wl cy n Λ M) H → va_S A s.heap H locs → lv_has ls nL lv → W p l e R s m args below meth c H locs cells slots Q (F0 m pc ls st)
/-! the mirror's words -/
def rf (T : Nat) (M : Mem) (a j : Nat) : Option Nat := match M.1 a j with
  | some b => if kd b = T then some b else none
  | none => none
def pI (M : Mem) (a j : Nat) (v : Int32) : Option Mem := some (wI M a j v)
def pZ (M : Mem) (a j : Nat) (v : Int32) : Option Mem := if v = 0 ∨ v = 1 then some (wI M a j v) else none
def pR (M : Mem) (a j b : Nat) : Option Mem := some (wR M a j b)
def ra (M : Mem) (a : Nat) (i : Int32) : Option Int32 := if ¬ (i < 0 ∨ ln a ≤ i.toNatClampNeg) then some (M.2 a i.toNatClampNeg) else none
def wa (M : Mem) (a : Nat) (i v : Int32) : Option Mem := if ¬ (i < 0 ∨ ln a ≤ i.toNatClampNeg) then some (wI M a i.toNatClampNeg v) else none
def rr (T : Nat) (M : Mem) (a : Nat) (i : Int32) : Option Nat := if ¬ (i < 0 ∨ ln a ≤ i.toNatClampNeg) then rf T M a i.toNatClampNeg else none
def nz (y : Int32) : Option Unit := if y = 0 then none else some ()
def nm (v : Int32) : Option Int32 := some v
def bz (v : Int32) : Option Unit := if v = 0 ∨ v = 1 then some () else none
/-- System.arraycopy of ints within the memory -/
def cpM (M : Mem) (a : Nat) (sp : Int32) (b : Nat) (dp n : Int32) : Option Mem := if ¬ sp < 0 ∧ ¬ dp < 0 ∧ ¬ n < 0 ∧ sp.toNatClampNeg + n.toNatClampNeg ≤ ln a ∧ dp.toNatClampNeg + n.toNatClampNeg ≤ ln b then some (M.1, fun k => if k = b then va_cpy (M.2 a) (M.2 b) sp.toNatClampNeg dp.toNatClampNeg n.toNatClampNeg else M.2 k) else none
theorem ob {α β : Type} {o : Option α} {f : α → Option β} {r : β} (h : o.bind f = some r) : ∃ a, o = some a ∧ f a = some r := by
  cases o with
  | none => cases h
  | some a => exact ⟨a, rfl, h⟩
theorem rf_is {T : Nat} {M : Mem} {a j b : Nat} (h : rf (T + 1) M a j = some b) : M.1 a j = some b ∧ Is NN b (T + 1) := by
  unfold rf at h
  split at h
  · rename_i x hx
    split at h
    · rename_i hk
      cases h
      exact ⟨hx, Is.of hk⟩
    · cases h
  · cases h
section ROWS
variable {p : Program} {l : Launch} {e : Env} {R : Room} {s : State} {m : MethodId} {args : Array Value} {below : List Frame} {meth : Method} {c : Code} {D : va_G} {cy : Nat → ClassId} {Λ : Nat → Nat} {A : Nat → Prop} {nL cells slots n : Nat} {Q : State → Prop} {M : Mem} {pc tgt : Nat} {lv lv2 : List (Nat × Value)} {st : List Value} {cc : ByteArray} {own : String} {ret : Option FieldType} {x y v : Int32} {α : Type} {X Y : Option α} {r : α}
theorem g_iconst (C : Cx p s m args meth c cc nL own ret D cy Λ A) {k : Int} (d : decode cc pc = .ok (.iconst k, 1)) (hv : Int32.ofInt k = v) (kk : GG p l e R s m args below meth c D cy Λ A nL cells slots Q n M (pc + 1) lv (.int v :: st)) : GG p l e R s m args below meth c D cy Λ A nL cells slots Q n M pc lv st := fun H locs ls hP hS hl => lv_iconst C.1.1 C.1.2.1 d hv (kk H locs ls hP hS hl)
theorem g_bipush (C : Cx p s m args meth c cc nL own ret D cy Λ A) {k : Int} (d : decode cc pc = .ok (.bipush k, 2)) (hv : (Int8.ofInt k).toInt32 = v) (kk : GG p l e R s m args below meth c D cy Λ A nL cells slots Q n M (pc + 2) lv (.int v :: st)) : GG p l e R s m args below meth c D cy Λ A nL cells slots Q n M pc lv st := fun H locs ls hP hS hl => lv_bipush C.1.1 C.1.2.1 d hv (kk H locs ls hP hS hl)
theorem g_sipush (C : Cx p s m args meth c cc nL own ret D cy Λ A) {k : Int} (d : decode cc pc = .ok (.sipush k, 3)) (hv : (Int16.ofInt k).toInt32 = v) (kk : GG p l e R s m args below meth c D cy Λ A nL cells slots Q n M (pc + 3) lv (.int v :: st)) : GG p l e R s m args below meth c D cy Λ A nL cells slots Q n M pc lv st := fun H locs ls hP hS hl => lv_sipush C.1.1 C.1.2.1 d hv (kk H locs ls hP hS hl)
theorem g_ldcw (C : Cx p s m args meth c cc nL own ret D cy Λ A) {index : Nat} (hc : Cond.constant own index v ∈ gw) (d : decode cc pc = .ok (.ldc_w index, 3)) (kk : GG p l e R s m args below meth c D cy Λ A nL cells slots Q n M (pc + 3) lv (.int v :: st)) : GG p l e R s m args below meth c D cy Λ A nL cells slots Q n M pc lv st := fun H locs ls hP hS hl => lv_ldcw C.1.1 C.1.2.1 C.1.2.2.2.1 (C.1.2.2.2.2 _ hc) d (kk H locs ls hP hS hl)
theorem g_iload_n (C : Cx p s m args meth c cc nL own ret D cy Λ A) {k : Fin 4} {i : Nat} (j : Nat) (d : decode cc pc = .ok (.iload_n k, 1)) (hi : (k : Nat) = i) (h : lv[j]? = some (i, .int x)) (kk : GG p l e R s m args below meth c D cy Λ A nL cells slots Q n M (pc + 1) lv (.int x :: st)) : GG p l e R s m args below meth c D cy Λ A nL cells slots Q n M pc lv st := fun H locs ls hP hS hl => lv_iload_n C.1.1 C.1.2.1 d hi (lv_at hl j h) (kk H locs ls hP hS hl)
theorem g_iload (C : Cx p s m args meth c cc nL own ret D cy Λ A) {i : Nat} (j : Nat) (d : decode cc pc = .ok (.iload i, 2)) (h : lv[j]? = some (i, .int x)) (kk : GG p l e R s m args below meth c D cy Λ A nL cells slots Q n M (pc + 2) lv (.int x :: st)) : GG p l e R s m args below meth c D cy Λ A nL cells slots Q n M pc lv st := fun H locs ls hP hS hl => lv_iload C.1.1 C.1.2.1 d (lv_at hl j h) (kk H locs ls hP hS hl)
theorem g_aload_n (C : Cx p s m args meth c cc nL own ret D cy Λ A) {k : Fin 4} {i z : Nat} (j : Nat) (d : decode cc pc = .ok (.aload_n k, 1)) (hi : (k : Nat) = i) (h : lv[j]? = some (i, .ref z)) (kk : GG p l e R s m args below meth c D cy Λ A nL cells slots Q n M (pc + 1) lv (.ref z :: st)) : GG p l e R s m args below meth c D cy Λ A nL cells slots Q n M pc lv st := fun H locs ls hP hS hl => lv_aload_n C.1.1 C.1.2.1 d hi (lv_at hl j h) (kk H locs ls hP hS hl)
theorem g_aload (C : Cx p s m args meth c cc nL own ret D cy Λ A) {i z : Nat} (j : Nat) (d : decode cc pc = .ok (.aload i, 2)) (h : lv[j]? = some (i, .ref z)) (kk : GG p l e R s m args below meth c D cy Λ A nL cells slots Q n M (pc + 2) lv (.ref z :: st)) : GG p l e R s m args below meth c D cy Λ A nL cells slots Q n M pc lv st := fun H locs ls hP hS hl => lv_aload C.1.1 C.1.2.1 d (lv_at hl j h) (kk H locs ls hP hS hl)
theorem g_istore_n (C : Cx p s m args meth c cc nL own ret D cy Λ A) {k : Fin 4} {i : Nat} (d : decode cc pc = .ok (.istore_n k, 1)) (hi : (k : Nat) = i) (hn : i < nL) (h : (i, Value.int x) :: lv.filter (fun q => !(q.1 == i) && !(q.1 + 1 == i && q.2.category == 2)) = lv2) (kk : GG p l e R s m args below meth c D cy Λ A nL cells slots Q n M (pc + 1) lv2 st) : GG p l e R s m args below meth c D cy Λ A nL cells slots Q n M pc lv (.int x :: st) := fun H locs ls hP hS hl => lv_istore_n C.1.1 C.1.2.1 d hi hl hn h (fun ls2 hl2 => kk H locs ls2 hP hS hl2)
theorem g_istore (C : Cx p s m args meth c cc nL own ret D cy Λ A) {i : Nat} (d : decode cc pc = .ok (.istore i, 2)) (hn : i < nL) (h : (i, Value.int x) :: lv.filter (fun q => !(q.1 == i) && !(q.1 + 1 == i && q.2.category == 2)) = lv2) (kk : GG p l e R s m args below meth c D cy Λ A nL cells slots Q n M (pc + 2) lv2 st) : GG p l e R s m args below meth c D cy Λ A nL cells slots Q n M pc lv (.int x :: st) := fun H locs ls hP hS hl => lv_istore C.1.1 C.1.2.1 d hl hn h (fun ls2 hl2 => kk H locs ls2 hP hS hl2)
theorem g_astore_n (C : Cx p s m args meth c cc nL own ret D cy Λ A) {k : Fin 4} {i : Nat} {z : Nat} (d : decode cc pc = .ok (.astore_n k, 1)) (hi : (k : Nat) = i) (hn : i < nL) (h : (i, Value.ref z) :: lv.filter (fun q => !(q.1 == i) && !(q.1 + 1 == i && q.2.category == 2)) = lv2) (kk : GG p l e R s m args below meth c D cy Λ A nL cells slots Q n M (pc + 1) lv2 st) : GG p l e R s m args below meth c D cy Λ A nL cells slots Q n M pc lv (.ref z :: st) := fun H locs ls hP hS hl => lv_astore_n C.1.1 C.1.2.1 d hi hl hn h (fun ls2 hl2 => kk H locs ls2 hP hS hl2)
theorem g_astore (C : Cx p s m args meth c cc nL own ret D cy Λ A) {i : Nat} {z : Nat} (d : decode cc pc = .ok (.astore i, 2)) (hn : i < nL) (h : (i, Value.ref z) :: lv.filter (fun q => !(q.1 == i) && !(q.1 + 1 == i && q.2.category == 2)) = lv2) (kk : GG p l e R s m args below meth c D cy Λ A nL cells slots Q n M (pc + 2) lv2 st) : GG p l e R s m args below meth c D cy Λ A nL cells slots Q n M pc lv (.ref z :: st) := fun H locs ls hP hS hl => lv_astore C.1.1 C.1.2.1 d hl hn h (fun ls2 hl2 => kk H locs ls2 hP hS hl2)
theorem g_iinc (C : Cx p s m args meth c cc nL own ret D cy Λ A) {i : Nat} {k : Int} (j : Nat) (d : decode cc pc = .ok (.iinc i k, 3)) (hj : lv[j]? = some (i, .int x)) (hv : x + Int32.ofInt k = v) (hn : i < nL) (h : (i, Value.int v) :: lv.filter (fun q => !(q.1 == i) && !(q.1 + 1 == i && q.2.category == 2)) = lv2) (kk : GG p l e R s m args below meth c D cy Λ A nL cells slots Q n M (pc + 3) lv2 st) : GG p l e R s m args below meth c D cy Λ A nL cells slots Q n M pc lv st := fun H locs ls hP hS hl => lv_iinc C.1.1 C.1.2.1 d hl hj hv hn h (fun ls2 hl2 => kk H locs ls2 hP hS hl2)
theorem g_sub (ks : List Nat) (h : lv_pick lv ks = lv2) (kk : GG p l e R s m args below meth c D cy Λ A nL cells slots Q n M pc lv2 st) : GG p l e R s m args below meth c D cy Λ A nL cells slots Q n M pc lv st := fun H locs ls hP hS hl => kk H locs ls hP hS (lv_sub hl ks h)
theorem g_iadd (C : Cx p s m args meth c cc nL own ret D cy Λ A) (d : decode cc pc = .ok (.iadd, 1)) (kk : GG p l e R s m args below meth c D cy Λ A nL cells slots Q n M (pc + 1) lv (.int (x + y) :: st)) : GG p l e R s m args below meth c D cy Λ A nL cells slots Q n M pc lv (.int y :: .int x :: st) := fun H locs ls hP hS hl => lv_iadd C.1.1 C.1.2.1 d (kk H locs ls hP hS hl)
theorem g_isub (C : Cx p s m args meth c cc nL own ret D cy Λ A) (d : decode cc pc = .ok (.isub, 1)) (kk : GG p l e R s m args below meth c D cy Λ A nL cells slots Q n M (pc + 1) lv (.int (x - y) :: st)) : GG p l e R s m args below meth c D cy Λ A nL cells slots Q n M pc lv (.int y :: .int x :: st) := fun H locs ls hP hS hl => lv_isub C.1.1 C.1.2.1 d (kk H locs ls hP hS hl)
theorem g_imul (C : Cx p s m args meth c cc nL own ret D cy Λ A) (d : decode cc pc = .ok (.imul, 1)) (kk : GG p l e R s m args below meth c D cy Λ A nL cells slots Q n M (pc + 1) lv (.int (x * y) :: st)) : GG p l e R s m args below meth c D cy Λ A nL cells slots Q n M pc lv (.int y :: .int x :: st) := fun H locs ls hP hS hl => lv_imul C.1.1 C.1.2.1 d (kk H locs ls hP hS hl)
theorem g_iand (C : Cx p s m args meth c cc nL own ret D cy Λ A) (d : decode cc pc = .ok (.iand, 1)) (kk : GG p l e R s m args below meth c D cy Λ A nL cells slots Q n M (pc + 1) lv (.int (x &&& y) :: st)) : GG p l e R s m args below meth c D cy Λ A nL cells slots Q n M pc lv (.int y :: .int x :: st) := fun H locs ls hP hS hl => lv_iand C.1.1 C.1.2.1 d (kk H locs ls hP hS hl)
theorem g_ior (C : Cx p s m args meth c cc nL own ret D cy Λ A) (d : decode cc pc = .ok (.ior, 1)) (kk : GG p l e R s m args below meth c D cy Λ A nL cells slots Q n M (pc + 1) lv (.int (x ||| y) :: st)) : GG p l e R s m args below meth c D cy Λ A nL cells slots Q n M pc lv (.int y :: .int x :: st) := fun H locs ls hP hS hl => lv_ior C.1.1 C.1.2.1 d (kk H locs ls hP hS hl)
theorem g_ixor (C : Cx p s m args meth c cc nL own ret D cy Λ A) (d : decode cc pc = .ok (.ixor, 1)) (kk : GG p l e R s m args below meth c D cy Λ A nL cells slots Q n M (pc + 1) lv (.int (x ^^^ y) :: st)) : GG p l e R s m args below meth c D cy Λ A nL cells slots Q n M pc lv (.int y :: .int x :: st) := fun H locs ls hP hS hl => lv_ixor C.1.1 C.1.2.1 d (kk H locs ls hP hS hl)
theorem g_ishl (C : Cx p s m args meth c cc nL own ret D cy Λ A) (d : decode cc pc = .ok (.ishl, 1)) (kk : GG p l e R s m args below meth c D cy Λ A nL cells slots Q n M (pc + 1) lv (.int (x <<< (y &&& 31)) :: st)) : GG p l e R s m args below meth c D cy Λ A nL cells slots Q n M pc lv (.int y :: .int x :: st) := fun H locs ls hP hS hl => lv_ishl C.1.1 C.1.2.1 d (kk H locs ls hP hS hl)
theorem g_ishr (C : Cx p s m args meth c cc nL own ret D cy Λ A) (d : decode cc pc = .ok (.ishr, 1)) (kk : GG p l e R s m args below meth c D cy Λ A nL cells slots Q n M (pc + 1) lv (.int (x >>> (y &&& 31)) :: st)) : GG p l e R s m args below meth c D cy Λ A nL cells slots Q n M pc lv (.int y :: .int x :: st) := fun H locs ls hP hS hl => lv_ishr C.1.1 C.1.2.1 d (kk H locs ls hP hS hl)
theorem g_idiv (C : Cx p s m args meth c cc nL own ret D cy Λ A) {f : Unit → Option α} (hf : (nz y).bind f = some r) (d : decode cc pc = .ok (.idiv, 1)) (kk : f () = some r → GG p l e R s m args below meth c D cy Λ A nL cells slots Q n M (pc + 1) lv (.int (x / y) :: st)) : GG p l e R s m args below meth c D cy Λ A nL cells slots Q n M pc lv (.int y :: .int x :: st) := fun H locs ls hP hS hl => by
  obtain ⟨u, h1, h2⟩ := ob hf
  have h0 : ¬ y = 0 := by
    intro q
    simp [nz, q] at h1
  exact lv_idiv C.1.1 C.1.2.1 d h0 (kk h2 H locs ls hP hS hl)
theorem g_irem (C : Cx p s m args meth c cc nL own ret D cy Λ A) {f : Unit → Option α} (hf : (nz y).bind f = some r) (d : decode cc pc = .ok (.irem, 1)) (kk : f () = some r → GG p l e R s m args below meth c D cy Λ A nL cells slots Q n M (pc + 1) lv (.int (x - x / y * y) :: st)) : GG p l e R s m args below meth c D cy Λ A nL cells slots Q n M pc lv (.int y :: .int x :: st) := fun H locs ls hP hS hl => by
  obtain ⟨u, h1, h2⟩ := ob hf
  have h0 : ¬ y = 0 := by
    intro q
    simp [nz, q] at h1
  exact lv_irem C.1.1 C.1.2.1 d h0 (kk h2 H locs ls hP hS hl)
theorem g_iushr (C : Cx p s m args meth c cc nL own ret D cy Λ A) (d : decode cc pc = .ok (.iushr, 1)) (kk : GG p l e R s m args below meth c D cy Λ A nL cells slots Q n M (pc + 1) lv (.int (x.toUInt32 >>> (y.toUInt32 &&& Int32.toUInt32 31)).toInt32 :: st)) : GG p l e R s m args below meth c D cy Λ A nL cells slots Q n M pc lv (.int y :: .int x :: st) := fun H locs ls hP hS hl => lv_iushr C.1.1 C.1.2.1 d rfl (kk H locs ls hP hS hl)
theorem g_i2c (C : Cx p s m args meth c cc nL own ret D cy Λ A) (d : decode cc pc = .ok (.i2c, 1)) (kk : GG p l e R s m args below meth c D cy Λ A nL cells slots Q n M (pc + 1) lv (.int (x.toUInt32 % 65536).toInt32 :: st)) : GG p l e R s m args below meth c D cy Λ A nL cells slots Q n M pc lv (.int x :: st) := fun H locs ls hP hS hl => lv_i2c C.1.1 C.1.2.1 d rfl (kk H locs ls hP hS hl)
theorem g_ineg (C : Cx p s m args meth c cc nL own ret D cy Λ A) (d : decode cc pc = .ok (.ineg, 1)) (kk : GG p l e R s m args below meth c D cy Λ A nL cells slots Q n M (pc + 1) lv (.int (-x) :: st)) : GG p l e R s m args below meth c D cy Λ A nL cells slots Q n M pc lv (.int x :: st) := fun H locs ls hP hS hl => lv_ineg C.1.1 C.1.2.1 d (kk H locs ls hP hS hl)
theorem g_dup (C : Cx p s m args meth c cc nL own ret D cy Λ A) {a : Value} (d : decode cc pc = .ok (.dup, 1)) (ha : a.category = 1) (kk : GG p l e R s m args below meth c D cy Λ A nL cells slots Q n M (pc + 1) lv (a :: a :: st)) : GG p l e R s m args below meth c D cy Λ A nL cells slots Q n M pc lv (a :: st) := fun H locs ls hP hS hl => lv_dup C.1.1 C.1.2.1 d ha (kk H locs ls hP hS hl)
theorem g_dup2 (C : Cx p s m args meth c cc nL own ret D cy Λ A) {a b : Value} (d : decode cc pc = .ok (.dup2, 1)) (ha : a.category = 1) (hb : b.category = 1) (kk : GG p l e R s m args below meth c D cy Λ A nL cells slots Q n M (pc + 1) lv (a :: b :: a :: b :: st)) : GG p l e R s m args below meth c D cy Λ A nL cells slots Q n M pc lv (a :: b :: st) := fun H locs ls hP hS hl => lv_dup2_11 C.1.1 C.1.2.1 d ha hb (kk H locs ls hP hS hl)
theorem g_pop (C : Cx p s m args meth c cc nL own ret D cy Λ A) {a : Value} (d : decode cc pc = .ok (.pop, 1)) (ha : a.category = 1) (kk : GG p l e R s m args below meth c D cy Λ A nL cells slots Q n M (pc + 1) lv st) : GG p l e R s m args below meth c D cy Λ A nL cells slots Q n M pc lv (a :: st) := fun H locs ls hP hS hl => lv_pop C.1.1 C.1.2.1 d ha (kk H locs ls hP hS hl)
theorem g_goto (C : Cx p s m args meth c cc nL own ret D cy Λ A) {off : Int} (d : decode cc pc = .ok (.goto off, 3)) (ht : (pc : Int) + off = (tgt : Int)) (kk : GG p l e R s m args below meth c D cy Λ A nL cells slots Q n M tgt lv st) : GG p l e R s m args below meth c D cy Λ A nL cells slots Q n M pc lv st := fun H locs ls hP hS hl => lv_goto C.1.1 C.1.2.1 d ht (kk H locs ls hP hS hl)
theorem g_nm {f : Int32 → Option α} (hf : (nm x).bind f = some r) (kk : ∀ z : Int32, f z = some r → GG p l e R s m args below meth c D cy Λ A nL cells slots Q n M pc lv (.int z :: st)) : GG p l e R s m args below meth c D cy Λ A nL cells slots Q n M pc lv (.int x :: st) := kk x hf
theorem g_if_eq (C : Cx p s m args meth c cc nL own ret D cy Λ A) {off : Int} (hf : (if x = 0 then X else Y) = some r) (d : decode cc pc = .ok (.ifCond .eq off, 3)) (ht : (pc : Int) + off = (tgt : Int)) (kt : X = some r → GG p l e R s m args below meth c D cy Λ A nL cells slots Q n M tgt lv st) (kf : Y = some r → GG p l e R s m args below meth c D cy Λ A nL cells slots Q n M (pc + 3) lv st) : GG p l e R s m args below meth c D cy Λ A nL cells slots Q n M pc lv (.int x :: st) := fun H locs ls hP hS hl => lv_if_eq C.1.1 C.1.2.1 d ht (fun q => kt (by rw [if_pos q] at hf; exact hf) H locs ls hP hS hl) (fun q => kf (by rw [if_neg q] at hf; exact hf) H locs ls hP hS hl)
theorem g_if_ne (C : Cx p s m args meth c cc nL own ret D cy Λ A) {off : Int} (hf : (if x = 0 then X else Y) = some r) (d : decode cc pc = .ok (.ifCond .ne off, 3)) (ht : (pc : Int) + off = (tgt : Int)) (kt : X = some r → GG p l e R s m args below meth c D cy Λ A nL cells slots Q n M (pc + 3) lv st) (kf : Y = some r → GG p l e R s m args below meth c D cy Λ A nL cells slots Q n M tgt lv st) : GG p l e R s m args below meth c D cy Λ A nL cells slots Q n M pc lv (.int x :: st) := fun H locs ls hP hS hl => lv_if_ne C.1.1 C.1.2.1 d ht (fun q => kf (by rw [if_neg q] at hf; exact hf) H locs ls hP hS hl) (fun q => kt (by rw [if_pos q] at hf; exact hf) H locs ls hP hS hl)
theorem g_if_lt (C : Cx p s m args meth c cc nL own ret D cy Λ A) {off : Int} (hf : (if x < 0 then X else Y) = some r) (d : decode cc pc = .ok (.ifCond .lt off, 3)) (ht : (pc : Int) + off = (tgt : Int)) (kt : X = some r → GG p l e R s m args below meth c D cy Λ A nL cells slots Q n M tgt lv st) (kf : Y = some r → GG p l e R s m args below meth c D cy Λ A nL cells slots Q n M (pc + 3) lv st) : GG p l e R s m args below meth c D cy Λ A nL cells slots Q n M pc lv (.int x :: st) := fun H locs ls hP hS hl => lv_if_lt C.1.1 C.1.2.1 d ht (fun q => kt (by rw [if_pos q] at hf; exact hf) H locs ls hP hS hl) (fun q => kf (by rw [if_neg q] at hf; exact hf) H locs ls hP hS hl)
theorem g_if_ge (C : Cx p s m args meth c cc nL own ret D cy Λ A) {off : Int} (hf : (if 0 ≤ x then X else Y) = some r) (d : decode cc pc = .ok (.ifCond .ge off, 3)) (ht : (pc : Int) + off = (tgt : Int)) (kt : X = some r → GG p l e R s m args below meth c D cy Λ A nL cells slots Q n M tgt lv st) (kf : Y = some r → GG p l e R s m args below meth c D cy Λ A nL cells slots Q n M (pc + 3) lv st) : GG p l e R s m args below meth c D cy Λ A nL cells slots Q n M pc lv (.int x :: st) := fun H locs ls hP hS hl => lv_if_ge C.1.1 C.1.2.1 d ht (fun q => kt (by rw [if_pos q] at hf; exact hf) H locs ls hP hS hl) (fun q => kf (by rw [if_neg q] at hf; exact hf) H locs ls hP hS hl)
theorem g_if_gt (C : Cx p s m args meth c cc nL own ret D cy Λ A) {off : Int} (hf : (if 0 < x then X else Y) = some r) (d : decode cc pc = .ok (.ifCond .gt off, 3)) (ht : (pc : Int) + off = (tgt : Int)) (kt : X = some r → GG p l e R s m args below meth c D cy Λ A nL cells slots Q n M tgt lv st) (kf : Y = some r → GG p l e R s m args below meth c D cy Λ A nL cells slots Q n M (pc + 3) lv st) : GG p l e R s m args below meth c D cy Λ A nL cells slots Q n M pc lv (.int x :: st) := fun H locs ls hP hS hl => lv_if_gt C.1.1 C.1.2.1 d ht (fun q => kt (by rw [if_pos q] at hf; exact hf) H locs ls hP hS hl) (fun q => kf (by rw [if_neg q] at hf; exact hf) H locs ls hP hS hl)
theorem g_if_le (C : Cx p s m args meth c cc nL own ret D cy Λ A) {off : Int} (hf : (if x ≤ 0 then X else Y) = some r) (d : decode cc pc = .ok (.ifCond .le off, 3)) (ht : (pc : Int) + off = (tgt : Int)) (kt : X = some r → GG p l e R s m args below meth c D cy Λ A nL cells slots Q n M tgt lv st) (kf : Y = some r → GG p l e R s m args below meth c D cy Λ A nL cells slots Q n M (pc + 3) lv st) : GG p l e R s m args below meth c D cy Λ A nL cells slots Q n M pc lv (.int x :: st) := fun H locs ls hP hS hl => lv_if_le C.1.1 C.1.2.1 d ht (fun q => kt (by rw [if_pos q] at hf; exact hf) H locs ls hP hS hl) (fun q => kf (by rw [if_neg q] at hf; exact hf) H locs ls hP hS hl)
theorem g_ic_eq (C : Cx p s m args meth c cc nL own ret D cy Λ A) {off : Int} (hf : (if x = y then X else Y) = some r) (d : decode cc pc = .ok (.if_icmp .eq off, 3)) (ht : (pc : Int) + off = (tgt : Int)) (kt : X = some r → GG p l e R s m args below meth c D cy Λ A nL cells slots Q n M tgt lv st) (kf : Y = some r → GG p l e R s m args below meth c D cy Λ A nL cells slots Q n M (pc + 3) lv st) : GG p l e R s m args below meth c D cy Λ A nL cells slots Q n M pc lv (.int y :: .int x :: st) := fun H locs ls hP hS hl => lv_icmp_eq C.1.1 C.1.2.1 d ht (fun q => kt (by rw [if_pos q] at hf; exact hf) H locs ls hP hS hl) (fun q => kf (by rw [if_neg q] at hf; exact hf) H locs ls hP hS hl)
theorem g_ic_ne (C : Cx p s m args meth c cc nL own ret D cy Λ A) {off : Int} (hf : (if x = y then X else Y) = some r) (d : decode cc pc = .ok (.if_icmp .ne off, 3)) (ht : (pc : Int) + off = (tgt : Int)) (kt : X = some r → GG p l e R s m args below meth c D cy Λ A nL cells slots Q n M (pc + 3) lv st) (kf : Y = some r → GG p l e R s m args below meth c D cy Λ A nL cells slots Q n M tgt lv st) : GG p l e R s m args below meth c D cy Λ A nL cells slots Q n M pc lv (.int y :: .int x :: st) := fun H locs ls hP hS hl => lv_icmp_ne C.1.1 C.1.2.1 d ht (fun q => kf (by rw [if_neg q] at hf; exact hf) H locs ls hP hS hl) (fun q => kt (by rw [if_pos q] at hf; exact hf) H locs ls hP hS hl)
theorem g_ic_lt (C : Cx p s m args meth c cc nL own ret D cy Λ A) {off : Int} (hf : (if x < y then X else Y) = some r) (d : decode cc pc = .ok (.if_icmp .lt off, 3)) (ht : (pc : Int) + off = (tgt : Int)) (kt : X = some r → GG p l e R s m args below meth c D cy Λ A nL cells slots Q n M tgt lv st) (kf : Y = some r → GG p l e R s m args below meth c D cy Λ A nL cells slots Q n M (pc + 3) lv st) : GG p l e R s m args below meth c D cy Λ A nL cells slots Q n M pc lv (.int y :: .int x :: st) := fun H locs ls hP hS hl => lv_icmp_lt C.1.1 C.1.2.1 d ht (fun q => kt (by rw [if_pos q] at hf; exact hf) H locs ls hP hS hl) (fun q => kf (by rw [if_neg q] at hf; exact hf) H locs ls hP hS hl)
theorem g_ic_ge (C : Cx p s m args meth c cc nL own ret D cy Λ A) {off : Int} (hf : (if y ≤ x then X else Y) = some r) (d : decode cc pc = .ok (.if_icmp .ge off, 3)) (ht : (pc : Int) + off = (tgt : Int)) (kt : X = some r → GG p l e R s m args below meth c D cy Λ A nL cells slots Q n M tgt lv st) (kf : Y = some r → GG p l e R s m args below meth c D cy Λ A nL cells slots Q n M (pc + 3) lv st) : GG p l e R s m args below meth c D cy Λ A nL cells slots Q n M pc lv (.int y :: .int x :: st) := fun H locs ls hP hS hl => lv_icmp_ge C.1.1 C.1.2.1 d ht (fun q => kt (by rw [if_pos q] at hf; exact hf) H locs ls hP hS hl) (fun q => kf (by rw [if_neg q] at hf; exact hf) H locs ls hP hS hl)
theorem g_ic_gt (C : Cx p s m args meth c cc nL own ret D cy Λ A) {off : Int} (hf : (if y < x then X else Y) = some r) (d : decode cc pc = .ok (.if_icmp .gt off, 3)) (ht : (pc : Int) + off = (tgt : Int)) (kt : X = some r → GG p l e R s m args below meth c D cy Λ A nL cells slots Q n M tgt lv st) (kf : Y = some r → GG p l e R s m args below meth c D cy Λ A nL cells slots Q n M (pc + 3) lv st) : GG p l e R s m args below meth c D cy Λ A nL cells slots Q n M pc lv (.int y :: .int x :: st) := fun H locs ls hP hS hl => lv_icmp_gt C.1.1 C.1.2.1 d ht (fun q => kt (by rw [if_pos q] at hf; exact hf) H locs ls hP hS hl) (fun q => kf (by rw [if_neg q] at hf; exact hf) H locs ls hP hS hl)
theorem g_ic_le (C : Cx p s m args meth c cc nL own ret D cy Λ A) {off : Int} (hf : (if x ≤ y then X else Y) = some r) (d : decode cc pc = .ok (.if_icmp .le off, 3)) (ht : (pc : Int) + off = (tgt : Int)) (kt : X = some r → GG p l e R s m args below meth c D cy Λ A nL cells slots Q n M tgt lv st) (kf : Y = some r → GG p l e R s m args below meth c D cy Λ A nL cells slots Q n M (pc + 3) lv st) : GG p l e R s m args below meth c D cy Λ A nL cells slots Q n M pc lv (.int y :: .int x :: st) := fun H locs ls hP hS hl => lv_icmp_le C.1.1 C.1.2.1 d ht (fun q => kt (by rw [if_pos q] at hf; exact hf) H locs ls hP hS hl) (fun q => kf (by rw [if_neg q] at hf; exact hf) H locs ls hP hS hl)
theorem g_case {P : Prop} {c0 : Prop} [Decidable c0] (hf : (if c0 then X else Y) = some r) (kt : c0 → X = some r → P) (kf : ¬ c0 → Y = some r → P) : P := by
  by_cases q : c0
  · exact kt q (by rw [if_pos q] at hf; exact hf)
  · exact kf q (by rw [if_neg q] at hf; exact hf)
theorem g_tin (C : Cx p s m args meth c cc nL own ret D cy Λ A) {dflt lo hi off : Int} {offs : Array Int} {len : Nat} {i : Nat} (d : decode cc pc = .ok (.tableswitch dflt lo hi offs, len)) (hx : x = v) (h1 : ¬ v.toInt < lo) (h2 : ¬ hi < v.toInt) (ho : offs[(v.toInt - lo).toNat]? = some off) (ht : (pc : Int) + off = (tgt : Int)) (kk : GG p l e R s m args below meth c D cy Λ A nL cells slots Q n M tgt lv st) : GG p l e R s m args below meth c D cy Λ A nL cells slots Q n M pc lv (.int x :: st) := fun H locs ls hP hS hl => by
  subst hx
  exact lv_tableIn C.1.1 C.1.2.1 d h1 h2 ho ht (kk H locs ls hP hS hl)
theorem g_tout (C : Cx p s m args meth c cc nL own ret D cy Λ A) {dflt hi : Int} {offs : Array Int} {len : Nat} (N : Nat) (d : decode cc pc = .ok (.tableswitch dflt 0 hi offs, len)) (hhi : hi = N) (hN : N < 1000) (hx : ∀ i : Nat, i ≤ N → ¬ x = nI i) (ht : (pc : Int) + dflt = (tgt : Int)) (kk : GG p l e R s m args below meth c D cy Λ A nL cells slots Q n M tgt lv st) : GG p l e R s m args below meth c D cy Λ A nL cells slots Q n M pc lv (.int x :: st) := fun H locs ls hP hS hl => by
  refine lv_tableOut C.1.1 C.1.2.1 d ?_ ht (kk H locs ls hP hS hl)
  by_cases h0 : x.toInt < 0
  · exact Or.inl h0
  · refine Or.inr ?_
    rw [hhi]
    by_cases h1 : (N : Int) < x.toInt
    · exact h1
    · exfalso
      refine hx x.toInt.toNat (by omega) ?_
      apply Int32.toInt_inj.mp
      rw [nI_toInt (by omega)]
      omega
theorem g_getI (C : Cx p s m args meth c cc nL own ret D cy Λ A) {ci a j index : Nat} (F : FG own index ci j) (hc : ci < 9) (hk : Is n a (ci + 1)) (hv : (fsOf Λ M a ci)[j]? = some (.int x)) (d : decode cc pc = .ok (.getfield index, 3)) (kk : GG p l e R s m args below meth c D cy Λ A nL cells slots Q n M (pc + 3) lv (.int x :: st)) : GG p l e R s m args below meth c D cy Λ A nL cells slots Q n M pc lv (.ref (Λ a) :: st) := fun H locs ls hP hS hl => by
  obtain ⟨C1, T1, N1, h1, h2, h3, h4⟩ := F
  exact va_get C.1.1 C.1.2.1 C.1.2.2.2.2 h2 C.1.2.2.2.1 C.2.2.2.1 hP a ((wl_get hk.1).trans (congrArg (fun e => some (Λ a, e)) (cell_o hc hk.2))) h1 j h3 (C.1.2.2.2.2 _ h4) (fun _ h9 => h9) hv d (kk H locs ls hP hS hl)
theorem g_getR {T : Nat} {f : Nat → Option α} (C : Cx p s m args meth c cc nL own ret D cy Λ A) {ci a j index : Nat} (hf : (rf (T + 1) M a j).bind f = some r) (F : FG own index ci j) (hc : ci < 9) (hk : Is NN a (ci + 1)) (hv : (fsOf Λ M a ci)[j]? = some (va_re Λ (M.1 a j))) (d : decode cc pc = .ok (.getfield index, 3)) (kk : ∀ b : Nat, Is NN b (T + 1) → f b = some r → GG p l e R s m args below meth c D cy Λ A nL cells slots Q NN M (pc + 3) lv (.ref (Λ b) :: st)) : GG p l e R s m args below meth c D cy Λ A nL cells slots Q NN M pc lv (.ref (Λ a) :: st) := fun H locs ls hP hS hl => by
  obtain ⟨C1, T1, N1, h1, h2, h3, h4⟩ := F
  obtain ⟨b, hb1, hb2⟩ := ob hf
  obtain ⟨hb3, hb4⟩ := rf_is hb1
  have hv2 : (fsOf Λ M a ci)[j]? = some (.ref (Λ b)) := by rw [hv, hb3]; rfl
  exact va_get C.1.1 C.1.2.1 C.1.2.2.2.2 h2 C.1.2.2.2.1 C.2.2.2.1 hP a ((wl_get hk.1).trans (congrArg (fun e => some (Λ a, e)) (cell_o hc hk.2))) h1 j h3 (C.1.2.2.2.2 _ h4) (fun _ h9 => h9) hv2 d (kk b hb4 hb2 H locs ls hP hS hl)
theorem g_putI {ty : FieldType}  (C : Cx p s m args meth c cc nL own ret D cy Λ A) {ci a j index : Nat} (F : FP own index ci j ty false) (hc : ci < 9) (hk : Is n a (ci + 1)) (hst : (fsOf Λ M a ci).set j (.int x) = fsOf Λ (wI M a j x) a ci) (hl0 : j < (fsOf Λ M a ci).length) (hn : narrow ty (.int x) = .int x) (hfit : fits ty (.int x) = true) (d : decode cc pc = .ok (.putfield index, 3)) (kk : GG p l e R s m args below meth c D cy Λ A nL cells slots Q n (wI M a j x) (pc + 3) lv st) : GG p l e R s m args below meth c D cy Λ A nL cells slots Q n M pc lv ((.int x) :: .ref (Λ a) :: st) := fun H locs ls hP hS hl => by
  obtain ⟨C1, T1, N1, ty0, h1, h2, h3, h4, h5, h6, h7, h8, h9⟩ := F
  skip
  have he : .inr (ci, (fsOf Λ M a ci).set j (.int x)) = cellA cy Λ (wI M a j x) a := by rw [cell_o hc hk.2, hst]
  refine va_put C.1.1 C.1.2.1 C.1.2.2.2.2 h2 ty0 h5 h6 C.1.2.2.2.1 C.2.2.2.1 hP (wl_D C.2.2.2.2.2.1 C.2.2.2.2.2.2.1) hS a ((wl_get hk.1).trans (congrArg (fun e => some (Λ a, e)) (cell_o hc hk.2))) h1 j h3 (C.1.2.2.2.2 _ h4) (fun _ h9 => h9) h7 h8 hn hfit hl0 d (fun H1 locs1 hP1 _ hS1 => ?_)
  rw [wl_set hk.1 he (fun k hk => by simp [wI, wR, up2, hk]) (fun k hk => by simp [wI, wR, up2, hk])] at hP1
  exact kk H1 locs1 ls hP1 hS1 hl
theorem g_putR {ty : FieldType} {b : Nat} (C : Cx p s m args meth c cc nL own ret D cy Λ A) {ci a j index : Nat} (F : FP own index ci j ty false) (hc : ci < 9) (hk : Is n a (ci + 1)) (hst : (fsOf Λ M a ci).set j (.ref (Λ b)) = fsOf Λ (wR M a j b) a ci) (hl0 : j < (fsOf Λ M a ci).length) (hn : narrow ty (.ref (Λ b)) = .ref (Λ b)) (hfit : fits ty (.ref (Λ b)) = true) (d : decode cc pc = .ok (.putfield index, 3)) (kk : GG p l e R s m args below meth c D cy Λ A nL cells slots Q n (wR M a j b) (pc + 3) lv st) : GG p l e R s m args below meth c D cy Λ A nL cells slots Q n M pc lv ((.ref (Λ b)) :: .ref (Λ a) :: st) := fun H locs ls hP hS hl => by
  obtain ⟨C1, T1, N1, ty0, h1, h2, h3, h4, h5, h6, h7, h8, h9⟩ := F
  skip
  have he : .inr (ci, (fsOf Λ M a ci).set j (.ref (Λ b))) = cellA cy Λ (wR M a j b) a := by rw [cell_o hc hk.2, hst]
  refine va_put C.1.1 C.1.2.1 C.1.2.2.2.2 h2 ty0 h5 h6 C.1.2.2.2.1 C.2.2.2.1 hP (wl_D C.2.2.2.2.2.1 C.2.2.2.2.2.2.1) hS a ((wl_get hk.1).trans (congrArg (fun e => some (Λ a, e)) (cell_o hc hk.2))) h1 j h3 (C.1.2.2.2.2 _ h4) (fun _ h9 => h9) h7 h8 hn hfit hl0 d (fun H1 locs1 hP1 _ hS1 => ?_)
  rw [wl_set hk.1 he (fun k hk => by simp [wI, wR, up2, hk]) (fun k hk => by simp [wI, wR, up2, hk])] at hP1
  exact kk H1 locs1 ls hP1 hS1 hl
theorem g_putFI {ty : FieldType} (hin : meth.name = "<init>") (C : Cx p s m args meth c cc nL own ret D cy Λ A) {ci a j index : Nat} (F : FP own index ci j ty true) (hc : ci < 9) (hk : Is n a (ci + 1)) (hst : (fsOf Λ M a ci).set j (.int x) = fsOf Λ (wI M a j x) a ci) (hl0 : j < (fsOf Λ M a ci).length) (hn : narrow ty (.int x) = .int x) (hfit : fits ty (.int x) = true) (d : decode cc pc = .ok (.putfield index, 3)) (kk : GG p l e R s m args below meth c D cy Λ A nL cells slots Q n (wI M a j x) (pc + 3) lv st) : GG p l e R s m args below meth c D cy Λ A nL cells slots Q n M pc lv ((.int x) :: .ref (Λ a) :: st) := fun H locs ls hP hS hl => by
  obtain ⟨C1, T1, N1, ty0, h1, h2, h3, h4, h5, h6, h7, h8, h9⟩ := F
  skip
  have he : .inr (ci, (fsOf Λ M a ci).set j (.int x)) = cellA cy Λ (wI M a j x) a := by rw [cell_o hc hk.2, hst]
  refine va_putF C.1.1 C.1.2.1 C.1.2.2.2.2 h2 ty0 h5 h6 C.1.2.2.2.1 C.2.2.2.1 hP (wl_D C.2.2.2.2.2.1 C.2.2.2.2.2.2.1) hS a ((wl_get hk.1).trans (congrArg (fun e => some (Λ a, e)) (cell_o hc hk.2))) h1 j h3 (C.1.2.2.2.2 _ h4) (fun _ h9 => h9) h7 hin (h9 rfl) h8 hn hfit hl0 d (fun H1 locs1 hP1 _ hS1 => ?_)
  rw [wl_set hk.1 he (fun k hk => by simp [wI, wR, up2, hk]) (fun k hk => by simp [wI, wR, up2, hk])] at hP1
  exact kk H1 locs1 ls hP1 hS1 hl
theorem g_putFR {ty : FieldType} {b : Nat} (hin : meth.name = "<init>") (C : Cx p s m args meth c cc nL own ret D cy Λ A) {ci a j index : Nat} (F : FP own index ci j ty true) (hc : ci < 9) (hk : Is n a (ci + 1)) (hst : (fsOf Λ M a ci).set j (.ref (Λ b)) = fsOf Λ (wR M a j b) a ci) (hl0 : j < (fsOf Λ M a ci).length) (hn : narrow ty (.ref (Λ b)) = .ref (Λ b)) (hfit : fits ty (.ref (Λ b)) = true) (d : decode cc pc = .ok (.putfield index, 3)) (kk : GG p l e R s m args below meth c D cy Λ A nL cells slots Q n (wR M a j b) (pc + 3) lv st) : GG p l e R s m args below meth c D cy Λ A nL cells slots Q n M pc lv ((.ref (Λ b)) :: .ref (Λ a) :: st) := fun H locs ls hP hS hl => by
  obtain ⟨C1, T1, N1, ty0, h1, h2, h3, h4, h5, h6, h7, h8, h9⟩ := F
  skip
  have he : .inr (ci, (fsOf Λ M a ci).set j (.ref (Λ b))) = cellA cy Λ (wR M a j b) a := by rw [cell_o hc hk.2, hst]
  refine va_putF C.1.1 C.1.2.1 C.1.2.2.2.2 h2 ty0 h5 h6 C.1.2.2.2.1 C.2.2.2.1 hP (wl_D C.2.2.2.2.2.1 C.2.2.2.2.2.2.1) hS a ((wl_get hk.1).trans (congrArg (fun e => some (Λ a, e)) (cell_o hc hk.2))) h1 j h3 (C.1.2.2.2.2 _ h4) (fun _ h9 => h9) h7 hin (h9 rfl) h8 hn hfit hl0 d (fun H1 locs1 hP1 _ hS1 => ?_)
  rw [wl_set hk.1 he (fun k hk => by simp [wI, wR, up2, hk]) (fun k hk => by simp [wI, wR, up2, hk])] at hP1
  exact kk H1 locs1 ls hP1 hS1 hl
theorem g_mI {f : Mem → Option α} {a j : Nat} (hf : (pI M a j x).bind f = some r) {P : Mem → Prop} (kk : ∀ M2 : Mem, f M2 = some r → P M2) : P (wI M a j x) := kk _ hf
theorem g_mR {f : Mem → Option α} {a j b : Nat} (hf : (pR M a j b).bind f = some r) {P : Mem → Prop} (kk : ∀ M2 : Mem, f M2 = some r → P M2) : P (wR M a j b) := kk _ hf
theorem g_mZ {f : Mem → Option α} {a j : Nat} (hf : (pZ M a j x).bind f = some r) : (narrow .boolean (.int x) = .int x ∧ fits .boolean (.int x) = true) ∧ f (wI M a j x) = some r := by
  obtain ⟨M2, h1, h2⟩ := ob hf
  unfold pZ at h1
  split at h1
  · rename_i q
    cases h1
    refine ⟨?_, h2⟩
    rcases q with rfl | rfl <;> decide
  · cases h1
theorem g_iald {a : Nat} {f : Int32 → Option α} (C : Cx p s m args meth c cc nL own ret D cy Λ A) (hf : (ra M a x).bind f = some r) (hk : Is n a 10) (d : decode cc pc = .ok (.iaload, 1)) (kk : ∀ z : Int32, f z = some r → GG p l e R s m args below meth c D cy Λ A nL cells slots Q n M (pc + 1) lv (.int z :: st)) : GG p l e R s m args below meth c D cy Λ A nL cells slots Q n M pc lv (.int x :: .ref (Λ a) :: st) := fun H locs ls hP hS hl => by
  obtain ⟨z, h1, h2⟩ := ob hf
  unfold ra at h1
  split at h1
  · rename_i q
    cases h1
    exact va_iald C.1.1 C.1.2.1 C.2.2.2.1 hP a 0 ((wl_get hk.1).trans (congrArg (fun e => some (Λ a, e)) (cell_a0 hk.2))) rfl q d (kk _ h2 H locs ls hP hS hl)
  · cases h1
theorem g_cald {a : Nat} {f : Int32 → Option α} (C : Cx p s m args meth c cc nL own ret D cy Λ A) (hf : (ra M a x).bind f = some r) (hk : Is n a 11) (d : decode cc pc = .ok (.caload, 1)) (kk : ∀ z : Int32, f z = some r → GG p l e R s m args below meth c D cy Λ A nL cells slots Q n M (pc + 1) lv (.int z :: st)) : GG p l e R s m args below meth c D cy Λ A nL cells slots Q n M pc lv (.int x :: .ref (Λ a) :: st) := fun H locs ls hP hS hl => by
  obtain ⟨z, h1, h2⟩ := ob hf
  unfold ra at h1
  split at h1
  · rename_i q
    cases h1
    exact va_cald C.1.1 C.1.2.1 C.2.2.2.1 hP a 1 ((wl_get hk.1).trans (congrArg (fun e => some (Λ a, e)) (cell_a1 hk.2))) rfl q d (kk _ h2 H locs ls hP hS hl)
  · cases h1
theorem g_zald {a : Nat} {f : Int32 → Option α} (C : Cx p s m args meth c cc nL own ret D cy Λ A) (hf : (ra M a x).bind f = some r) (hk : Is n a 12) (d : decode cc pc = .ok (.baload, 1)) (kk : ∀ z : Int32, f z = some r → GG p l e R s m args below meth c D cy Λ A nL cells slots Q n M (pc + 1) lv (.int z :: st)) : GG p l e R s m args below meth c D cy Λ A nL cells slots Q n M pc lv (.int x :: .ref (Λ a) :: st) := fun H locs ls hP hS hl => by
  obtain ⟨z, h1, h2⟩ := ob hf
  unfold ra at h1
  split at h1
  · rename_i q
    cases h1
    exact va_zald C.1.1 C.1.2.1 C.2.2.2.1 hP a 2 ((wl_get hk.1).trans (congrArg (fun e => some (Λ a, e)) (cell_a2 hk.2))) rfl q d (kk _ h2 H locs ls hP hS hl)
  · cases h1
theorem g_iast {a : Nat} {f : Mem → Option α} (C : Cx p s m args meth c cc nL own ret D cy Λ A) (hf : (wa M a x y).bind f = some r) (hk : Is n a 10) (d : decode cc pc = .ok (.iastore, 1)) (kk : ∀ M2 : Mem, f M2 = some r → GG p l e R s m args below meth c D cy Λ A nL cells slots Q n M2 (pc + 1) lv st) : GG p l e R s m args below meth c D cy Λ A nL cells slots Q n M pc lv (.int y :: .int x :: .ref (Λ a) :: st) := fun H locs ls hP hS hl => by
  obtain ⟨M2, h1, h2⟩ := ob hf
  unfold wa at h1
  split at h1
  · rename_i q
    cases h1
    refine va_iast C.1.1 C.1.2.1 C.2.2.2.1 hP (wl_D C.2.2.2.2.2.1 C.2.2.2.2.2.2.1) hS a 0 ((wl_get hk.1).trans (congrArg (fun e => some (Λ a, e)) (cell_a0 hk.2))) rfl q d (fun H1 locs1 hP1 _ hS1 => ?_)
    rw [wl_set (M := M) (M2 := wI M a x.toNatClampNeg y) hk.1 (by rw [cell_a0 hk.2]; simp [wI, up2_at]; rfl) (fun k hk => by simp [wI]) (fun k hk => by simp [wI, up2, hk])] at hP1
    exact kk _ h2 H1 locs1 ls hP1 hS1 hl
  · cases h1
theorem g_cast {a : Nat} {f : Mem → Option α} (C : Cx p s m args meth c cc nL own ret D cy Λ A) (hf : (wa M a x (vp_nar .char y)).bind f = some r) (hk : Is n a 11) (d : decode cc pc = .ok (.castore, 1)) (kk : ∀ M2 : Mem, f M2 = some r → GG p l e R s m args below meth c D cy Λ A nL cells slots Q n M2 (pc + 1) lv st) : GG p l e R s m args below meth c D cy Λ A nL cells slots Q n M pc lv (.int y :: .int x :: .ref (Λ a) :: st) := fun H locs ls hP hS hl => by
  obtain ⟨M2, h1, h2⟩ := ob hf
  unfold wa at h1
  split at h1
  · rename_i q
    cases h1
    refine va_cast C.1.1 C.1.2.1 C.2.2.2.1 hP (wl_D C.2.2.2.2.2.1 C.2.2.2.2.2.2.1) hS a 1 ((wl_get hk.1).trans (congrArg (fun e => some (Λ a, e)) (cell_a1 hk.2))) rfl q d (fun H1 locs1 hP1 _ hS1 => ?_)
    rw [wl_set (M := M) (M2 := wI M a x.toNatClampNeg (vp_nar .char y)) hk.1 (by rw [cell_a1 hk.2]; simp [wI, up2_at]; rfl) (fun k hk => by simp [wI]) (fun k hk => by simp [wI, up2, hk])] at hP1
    exact kk _ h2 H1 locs1 ls hP1 hS1 hl
  · cases h1
theorem g_zast {a : Nat} {f : Mem → Option α} (C : Cx p s m args meth c cc nL own ret D cy Λ A) (hf : (wa M a x (vp_nar .boolean y)).bind f = some r) (hk : Is n a 12) (d : decode cc pc = .ok (.bastore, 1)) (kk : ∀ M2 : Mem, f M2 = some r → GG p l e R s m args below meth c D cy Λ A nL cells slots Q n M2 (pc + 1) lv st) : GG p l e R s m args below meth c D cy Λ A nL cells slots Q n M pc lv (.int y :: .int x :: .ref (Λ a) :: st) := fun H locs ls hP hS hl => by
  obtain ⟨M2, h1, h2⟩ := ob hf
  unfold wa at h1
  split at h1
  · rename_i q
    cases h1
    refine va_zast C.1.1 C.1.2.1 C.2.2.2.1 hP (wl_D C.2.2.2.2.2.1 C.2.2.2.2.2.2.1) hS a 2 ((wl_get hk.1).trans (congrArg (fun e => some (Λ a, e)) (cell_a2 hk.2))) rfl q d (fun H1 locs1 hP1 _ hS1 => ?_)
    rw [wl_set (M := M) (M2 := wI M a x.toNatClampNeg (vp_nar .boolean y)) hk.1 (by rw [cell_a2 hk.2]; simp [wI, up2_at]; rfl) (fun k hk => by simp [wI]) (fun k hk => by simp [wI, up2, hk])] at hP1
    exact kk _ h2 H1 locs1 ls hP1 hS1 hl
  · cases h1
theorem g_aald3 {T a : Nat} {f : Nat → Option α} (C : Cx p s m args meth c cc nL own ret D cy Λ A) (hf : (rr (T + 1) M a x).bind f = some r) (hk : Is NN a 13) (d : decode cc pc = .ok (.aaload, 1)) (kk : ∀ b : Nat, Is NN b (T + 1) → f b = some r → GG p l e R s m args below meth c D cy Λ A nL cells slots Q NN M (pc + 1) lv (.ref (Λ b) :: st)) : GG p l e R s m args below meth c D cy Λ A nL cells slots Q NN M pc lv (.int x :: .ref (Λ a) :: st) := fun H locs ls hP hS hl => by
  obtain ⟨b, h1, h2⟩ := ob hf
  unfold rr at h1
  split at h1
  · rename_i q
    obtain ⟨hb3, hb4⟩ := rf_is h1
    refine va_aldq C.1.1 C.1.2.1 C.2.2.2.1 hP a 3 ((wl_get hk.1).trans (congrArg (fun e => some (Λ a, e)) (cell_a3 hk.2))) rfl q d ?_
    rw [hb3]
    exact kk b hb4 h2 H locs ls hP hS hl
  · cases h1
theorem g_aald4 {T a : Nat} {f : Nat → Option α} (C : Cx p s m args meth c cc nL own ret D cy Λ A) (hf : (rr (T + 1) M a x).bind f = some r) (hk : Is NN a 14) (d : decode cc pc = .ok (.aaload, 1)) (kk : ∀ b : Nat, Is NN b (T + 1) → f b = some r → GG p l e R s m args below meth c D cy Λ A nL cells slots Q NN M (pc + 1) lv (.ref (Λ b) :: st)) : GG p l e R s m args below meth c D cy Λ A nL cells slots Q NN M pc lv (.int x :: .ref (Λ a) :: st) := fun H locs ls hP hS hl => by
  obtain ⟨b, h1, h2⟩ := ob hf
  unfold rr at h1
  split at h1
  · rename_i q
    obtain ⟨hb3, hb4⟩ := rf_is h1
    refine va_aldq C.1.1 C.1.2.1 C.2.2.2.1 hP a 4 ((wl_get hk.1).trans (congrArg (fun e => some (Λ a, e)) (cell_a4 hk.2))) rfl q d ?_
    rw [hb3]
    exact kk b hb4 h2 H locs ls hP hS hl
  · cases h1
theorem g_alen0 {a : Nat} (C : Cx p s m args meth c cc nL own ret D cy Λ A) (hk : Is n a 10) (d : decode cc pc = .ok (.arraylength, 1)) (kk : GG p l e R s m args below meth c D cy Λ A nL cells slots Q n M (pc + 1) lv (.int (nI (ln a)) :: st)) : GG p l e R s m args below meth c D cy Λ A nL cells slots Q n M pc lv (.ref (Λ a) :: st) := fun H locs ls hP hS hl =>
  va_alen C.1.1 C.1.2.1 C.2.2.2.1 hP a 0 ((wl_get hk.1).trans (congrArg (fun e => some (Λ a, e)) (cell_a0 hk.2))) rfl rfl d (kk H locs ls hP hS hl)
theorem g_alen1 {a : Nat} (C : Cx p s m args meth c cc nL own ret D cy Λ A) (hk : Is n a 11) (d : decode cc pc = .ok (.arraylength, 1)) (kk : GG p l e R s m args below meth c D cy Λ A nL cells slots Q n M (pc + 1) lv (.int (nI (ln a)) :: st)) : GG p l e R s m args below meth c D cy Λ A nL cells slots Q n M pc lv (.ref (Λ a) :: st) := fun H locs ls hP hS hl =>
  va_alen C.1.1 C.1.2.1 C.2.2.2.1 hP a 1 ((wl_get hk.1).trans (congrArg (fun e => some (Λ a, e)) (cell_a1 hk.2))) rfl rfl d (kk H locs ls hP hS hl)
theorem g_alen2 {a : Nat} (C : Cx p s m args meth c cc nL own ret D cy Λ A) (hk : Is n a 12) (d : decode cc pc = .ok (.arraylength, 1)) (kk : GG p l e R s m args below meth c D cy Λ A nL cells slots Q n M (pc + 1) lv (.int (nI (ln a)) :: st)) : GG p l e R s m args below meth c D cy Λ A nL cells slots Q n M pc lv (.ref (Λ a) :: st) := fun H locs ls hP hS hl =>
  va_alen C.1.1 C.1.2.1 C.2.2.2.1 hP a 2 ((wl_get hk.1).trans (congrArg (fun e => some (Λ a, e)) (cell_a2 hk.2))) rfl rfl d (kk H locs ls hP hS hl)
theorem g_alen3 {a : Nat} (C : Cx p s m args meth c cc nL own ret D cy Λ A) (hk : Is n a 13) (d : decode cc pc = .ok (.arraylength, 1)) (kk : GG p l e R s m args below meth c D cy Λ A nL cells slots Q n M (pc + 1) lv (.int (nI (ln a)) :: st)) : GG p l e R s m args below meth c D cy Λ A nL cells slots Q n M pc lv (.ref (Λ a) :: st) := fun H locs ls hP hS hl =>
  va_alen C.1.1 C.1.2.1 C.2.2.2.1 hP a 3 ((wl_get hk.1).trans (congrArg (fun e => some (Λ a, e)) (cell_a3 hk.2))) rfl rfl d (kk H locs ls hP hS hl)
theorem g_alen4 {a : Nat} (C : Cx p s m args meth c cc nL own ret D cy Λ A) (hk : Is n a 14) (d : decode cc pc = .ok (.arraylength, 1)) (kk : GG p l e R s m args below meth c D cy Λ A nL cells slots Q n M (pc + 1) lv (.int (nI (ln a)) :: st)) : GG p l e R s m args below meth c D cy Λ A nL cells slots Q n M pc lv (.ref (Λ a) :: st) := fun H locs ls hP hS hl =>
  va_alen C.1.1 C.1.2.1 C.2.2.2.1 hP a 4 ((wl_get hk.1).trans (congrArg (fun e => some (Λ a, e)) (cell_a4 hk.2))) rfl rfl d (kk H locs ls hP hS hl)
theorem g_copy {a b index : Nat} {z : Int32} {f : Mem → Option α} (C : Cx p s m args meth c cc nL own ret D cy Λ A) (hf : (cpM M a x b y z).bind f = some r) (hk : Is n a 10) (hk2 : Is n b 10) (hlink : Cond.methodLink own index arraycopyName ∈ gw) (h1w : Cond.native arraycopyName ∈ gw) (h2w : Cond.static arraycopyName ∈ gw) (h3w : Cond.initialized "java/lang/System" ∈ gw) (hR : 1 ≤ R.frames ∧ (st.map fun v => v.category).sum + (nativeFrameWords "java/lang/System" "arraycopy" 5 + 11) ≤ R.locals) (d : decode cc pc = .ok (.invokestatic index, 3)) (kk : ∀ M2 : Mem, f M2 = some r → GG p l e R s m args below meth c D cy Λ A nL cells slots Q n M2 (pc + 3) lv st) : GG p l e R s m args below meth c D cy Λ A nL cells slots Q n M pc lv (.int z :: .int y :: .ref (Λ b) :: .int x :: .ref (Λ a) :: st) := fun H locs ls hP hS hl => by
  obtain ⟨M2, h1, h2⟩ := ob hf
  unfold cpM at h1
  split at h1
  · rename_i q
    cases h1
    refine va_copyi C.1.1 C.1.2.1 (by rw [C.1.2.2.1]; exact hl.1.symm) C.1.2.2.2.1 (C.1.2.2.2.2 _ hlink) (C.1.2.2.2.2 _ h1w) (C.1.2.2.2.2 _ h2w) (C.1.2.2.2.2 _ h3w) C.2.2.2.1 hP (wl_D C.2.2.2.2.2.1 C.2.2.2.2.2.2.1) hS a b 0 0 ((wl_get hk.1).trans (congrArg (fun e => some (Λ a, e)) (cell_a0 hk.2))) ((wl_get hk2.1).trans (congrArg (fun e => some (Λ b, e)) (cell_a0 hk2.2))) (ty := .int) rfl rfl rfl q.1 q.2.1 q.2.2.1 q.2.2.2.1 q.2.2.2.2 (fun _ _ => rfl) hR.1 hR.2 d (fun H1 locs1 hP1 _ hS1 => ?_)
    rw [wl_set (M := M) (M2 := (M.1, fun k => if k = b then va_cpy (M.2 a) (M.2 b) x.toNatClampNeg y.toNatClampNeg z.toNatClampNeg else M.2 k)) hk2.1 (by rw [cell_a0 hk2.2]; simp) (fun k hk => rfl) (fun k hk => by simp [hk])] at hP1
    exact kk _ h2 H1 locs1 ls hP1 hS1 hl
  · cases h1
theorem g_min {index : Nat} (C : Cx p s m args meth c cc nL own ret D cy Λ A) (hlink : Cond.methodLink own index Lib.Math.min.name ∈ gw) (h1w : Cond.static Lib.Math.min.name ∈ gw) (h2w : Cond.initialized "java/lang/Math" ∈ gw) (h3w : Cond.code Lib.Math.min.name Lib.Math.min.code 2 (some .int) ∈ gw) (hR : 1 ≤ R.frames ∧ (st.map fun v => v.category).sum + 13 ≤ R.locals ∧ cells ≤ R.cells ∧ slots ≤ R.slots) (d : decode cc pc = .ok (.invokestatic index, 3)) (kk : GG p l e R s m args below meth c D cy Λ A nL cells slots Q n M (pc + 3) lv (.int (if y < x then y else x) :: st)) : GG p l e R s m args below meth c D cy Λ A nL cells slots Q n M pc lv (.int y :: .int x :: st) := fun H locs ls hP hS hl =>
  va_mmin C.1.1 C.1.2.1 (by rw [C.1.2.2.1]; exact hl.1.symm) C.1.2.2.2.1 (C.1.2.2.2.2 _ hlink) (C.1.2.2.2.2 _ h1w) (C.1.2.2.2.2 _ h2w) (C.1.2.2.2.2 _ h3w) hR.1 hR.2.1 hR.2.2.1 hR.2.2.2 d (kk H locs ls hP hS hl)
end ROWS
end
