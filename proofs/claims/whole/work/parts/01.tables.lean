-- ===== PART A: goes FIRST, ahead of the names: the tables' words, and 'selects' of the private methods out of them =====
/-- a private method of a class that the tables say can be made, by its rows of tables_1 -/
def lw_okq (q : MethodName × Nat) : Prop := (q.1.cls ≠ "java/lang/invoke/MethodHandle" ∧ q.1.cls ≠ "java/lang/invoke/VarHandle") ∧ Cond.instantiable q.1.cls q.2 ∈ tables_1 ∧ Cond.privateMethod q.1 ∈ tables_1 ∧ Cond.instanceMethod q.1 ∈ tables_1
theorem lw_p0 : lw_okq (⟨"LadderMaker", "sheetRefusal", "(I)I"⟩, 9) := ⟨⟨by decide +kernel, by decide +kernel⟩, List.mem_of_getElem? (i := 16) (by decide +kernel), List.mem_of_getElem? (i := 324) (by decide +kernel), List.mem_of_getElem? (i := 325) (by decide +kernel)⟩
theorem lw_p1 : lw_okq (⟨"LadderMaker", "finding", "(I)I"⟩, 9) := ⟨⟨by decide +kernel, by decide +kernel⟩, List.mem_of_getElem? (i := 16) (by decide +kernel), List.mem_of_getElem? (i := 341) (by decide +kernel), List.mem_of_getElem? (i := 342) (by decide +kernel)⟩
theorem lw_p2 : lw_okq (⟨"LadderMaker$Reactance", "halfValue", "(LLadderMaker$Polynomial;III)J"⟩, 2) := ⟨⟨by decide +kernel, by decide +kernel⟩, List.mem_of_getElem? (i := 205) (by decide +kernel), List.mem_of_getElem? (i := 381) (by decide +kernel), List.mem_of_getElem? (i := 382) (by decide +kernel)⟩
theorem lw_p3 : lw_okq (⟨"LadderMaker", "ladderChanged", "()V"⟩, 9) := ⟨⟨by decide +kernel, by decide +kernel⟩, List.mem_of_getElem? (i := 16) (by decide +kernel), List.mem_of_getElem? (i := 416) (by decide +kernel), List.mem_of_getElem? (i := 417) (by decide +kernel)⟩
theorem lw_p4 : lw_okq (⟨"LadderMaker$Folder", "loadArm", "(LLadderMaker$Ladder;I)V"⟩, 3) := ⟨⟨by decide +kernel, by decide +kernel⟩, List.mem_of_getElem? (i := 73) (by decide +kernel), List.mem_of_getElem? (i := 434) (by decide +kernel), List.mem_of_getElem? (i := 435) (by decide +kernel)⟩
theorem lw_p5 : lw_okq (⟨"LadderMaker$Folder", "addArm", "()V"⟩, 3) := ⟨⟨by decide +kernel, by decide +kernel⟩, List.mem_of_getElem? (i := 73) (by decide +kernel), List.mem_of_getElem? (i := 439) (by decide +kernel), List.mem_of_getElem? (i := 440) (by decide +kernel)⟩
theorem lw_p6 : lw_okq (⟨"LadderMaker$Bill", "addPart", "(III)V"⟩, 2) := ⟨⟨by decide +kernel, by decide +kernel⟩, List.mem_of_getElem? (i := 155) (by decide +kernel), List.mem_of_getElem? (i := 474) (by decide +kernel), List.mem_of_getElem? (i := 475) (by decide +kernel)⟩
theorem lw_p7 : lw_okq (⟨"LadderMaker$Unfolder", "begin", "(LLadderMaker$Pair;)V"⟩, 10) := ⟨⟨by decide +kernel, by decide +kernel⟩, List.mem_of_getElem? (i := 92) (by decide +kernel), List.mem_of_getElem? (i := 498) (by decide +kernel), List.mem_of_getElem? (i := 499) (by decide +kernel)⟩
theorem lw_p8 : lw_okq (⟨"LadderMaker$Unfolder", "addRising", "(I)V"⟩, 10) := ⟨⟨by decide +kernel, by decide +kernel⟩, List.mem_of_getElem? (i := 92) (by decide +kernel), List.mem_of_getElem? (i := 523) (by decide +kernel), List.mem_of_getElem? (i := 524) (by decide +kernel)⟩
theorem lw_p9 : lw_okq (⟨"LadderMaker$Unfolder", "addFalling", "(I)V"⟩, 10) := ⟨⟨by decide +kernel, by decide +kernel⟩, List.mem_of_getElem? (i := 92) (by decide +kernel), List.mem_of_getElem? (i := 528) (by decide +kernel), List.mem_of_getElem? (i := 529) (by decide +kernel)⟩
theorem lw_p10 : lw_okq (⟨"LadderMaker$Unfolder", "loadInX", "()V"⟩, 10) := ⟨⟨by decide +kernel, by decide +kernel⟩, List.mem_of_getElem? (i := 92) (by decide +kernel), List.mem_of_getElem? (i := 547) (by decide +kernel), List.mem_of_getElem? (i := 548) (by decide +kernel)⟩
theorem lw_p11 : lw_okq (⟨"LadderMaker$Unfolder", "findRoots", "()V"⟩, 10) := ⟨⟨by decide +kernel, by decide +kernel⟩, List.mem_of_getElem? (i := 92) (by decide +kernel), List.mem_of_getElem? (i := 556) (by decide +kernel), List.mem_of_getElem? (i := 557) (by decide +kernel)⟩
theorem lw_p12 : lw_okq (⟨"LadderMaker$Unfolder", "timesInRest", "(II)I"⟩, 10) := ⟨⟨by decide +kernel, by decide +kernel⟩, List.mem_of_getElem? (i := 92) (by decide +kernel), List.mem_of_getElem? (i := 563) (by decide +kernel), List.mem_of_getElem? (i := 564) (by decide +kernel)⟩
theorem lw_p13 : lw_okq (⟨"LadderMaker$Unfolder", "addRoot", "(III)V"⟩, 10) := ⟨⟨by decide +kernel, by decide +kernel⟩, List.mem_of_getElem? (i := 92) (by decide +kernel), List.mem_of_getElem? (i := 571) (by decide +kernel), List.mem_of_getElem? (i := 572) (by decide +kernel)⟩
theorem lw_p14 : lw_okq (⟨"LadderMaker$Unfolder", "poleAtGreatest", "(I)I"⟩, 10) := ⟨⟨by decide +kernel, by decide +kernel⟩, List.mem_of_getElem? (i := 92) (by decide +kernel), List.mem_of_getElem? (i := 575) (by decide +kernel), List.mem_of_getElem? (i := 576) (by decide +kernel)⟩
theorem lw_p15 : lw_okq (⟨"LadderMaker$Unfolder", "poleAtZero", "(I)I"⟩, 10) := ⟨⟨by decide +kernel, by decide +kernel⟩, List.mem_of_getElem? (i := 92) (by decide +kernel), List.mem_of_getElem? (i := 579) (by decide +kernel), List.mem_of_getElem? (i := 580) (by decide +kernel)⟩
def lw_privs_1 : List (MethodName × Nat) := [(⟨"LadderMaker", "sheetRefusal", "(I)I"⟩, 9), (⟨"LadderMaker", "finding", "(I)I"⟩, 9), (⟨"LadderMaker$Reactance", "halfValue", "(LLadderMaker$Polynomial;III)J"⟩, 2), (⟨"LadderMaker", "ladderChanged", "()V"⟩, 9), (⟨"LadderMaker$Folder", "loadArm", "(LLadderMaker$Ladder;I)V"⟩, 3), (⟨"LadderMaker$Folder", "addArm", "()V"⟩, 3), (⟨"LadderMaker$Bill", "addPart", "(III)V"⟩, 2), (⟨"LadderMaker$Unfolder", "begin", "(LLadderMaker$Pair;)V"⟩, 10), (⟨"LadderMaker$Unfolder", "addRising", "(I)V"⟩, 10), (⟨"LadderMaker$Unfolder", "addFalling", "(I)V"⟩, 10), (⟨"LadderMaker$Unfolder", "loadInX", "()V"⟩, 10), (⟨"LadderMaker$Unfolder", "findRoots", "()V"⟩, 10), (⟨"LadderMaker$Unfolder", "timesInRest", "(II)I"⟩, 10), (⟨"LadderMaker$Unfolder", "addRoot", "(III)V"⟩, 10), (⟨"LadderMaker$Unfolder", "poleAtGreatest", "(I)I"⟩, 10), (⟨"LadderMaker$Unfolder", "poleAtZero", "(I)I"⟩, 10)]
theorem lw_r1 : ∀ q ∈ lw_privs_1, lw_okq q := List.forall_mem_cons.mpr ⟨lw_p0, List.forall_mem_cons.mpr ⟨lw_p1, List.forall_mem_cons.mpr ⟨lw_p2, List.forall_mem_cons.mpr ⟨lw_p3, List.forall_mem_cons.mpr ⟨lw_p4, List.forall_mem_cons.mpr ⟨lw_p5, List.forall_mem_cons.mpr ⟨lw_p6, List.forall_mem_cons.mpr ⟨lw_p7, List.forall_mem_cons.mpr ⟨lw_p8, List.forall_mem_cons.mpr ⟨lw_p9, List.forall_mem_cons.mpr ⟨lw_p10, List.forall_mem_cons.mpr ⟨lw_p11, List.forall_mem_cons.mpr ⟨lw_p12, List.forall_mem_cons.mpr ⟨lw_p13, List.forall_mem_cons.mpr ⟨lw_p14, List.forall_mem_cons.mpr ⟨lw_p15, fun _ h => absurd h List.not_mem_nil⟩⟩⟩⟩⟩⟩⟩⟩⟩⟩⟩⟩⟩⟩⟩⟩
theorem lw_p16 : lw_okq (⟨"LadderMaker$Unfolder", "poleAtRoot", "(II)I"⟩, 10) := ⟨⟨by decide +kernel, by decide +kernel⟩, List.mem_of_getElem? (i := 92) (by decide +kernel), List.mem_of_getElem? (i := 583) (by decide +kernel), List.mem_of_getElem? (i := 584) (by decide +kernel)⟩
theorem lw_p17 : lw_okq (⟨"LadderMaker$Unfolder", "addBoth", "(I)V"⟩, 10) := ⟨⟨by decide +kernel, by decide +kernel⟩, List.mem_of_getElem? (i := 92) (by decide +kernel), List.mem_of_getElem? (i := 587) (by decide +kernel), List.mem_of_getElem? (i := 588) (by decide +kernel)⟩
theorem lw_p18 : lw_okq (⟨"LadderMaker$Memory", "isSought", "(I)Z"⟩, 3) := ⟨⟨by decide +kernel, by decide +kernel⟩, List.mem_of_getElem? (i := 170) (by decide +kernel), List.mem_of_getElem? (i := 651) (by decide +kernel), List.mem_of_getElem? (i := 652) (by decide +kernel)⟩
theorem lw_p19 : lw_okq (⟨"LadderMaker", "itemRefusal", "(II)I"⟩, 9) := ⟨⟨by decide +kernel, by decide +kernel⟩, List.mem_of_getElem? (i := 16) (by decide +kernel), List.mem_of_getElem? (i := 700) (by decide +kernel), List.mem_of_getElem? (i := 701) (by decide +kernel)⟩
theorem lw_p20 : lw_okq (⟨"LadderMaker", "digestOfRows", "(J)J"⟩, 9) := ⟨⟨by decide +kernel, by decide +kernel⟩, List.mem_of_getElem? (i := 16) (by decide +kernel), List.mem_of_getElem? (i := 754) (by decide +kernel), List.mem_of_getElem? (i := 755) (by decide +kernel)⟩
theorem lw_p21 : lw_okq (⟨"LadderMakerModel", "finds", "(I)I"⟩, 33) := ⟨⟨by decide +kernel, by decide +kernel⟩, List.mem_of_getElem? (i := 763) (by decide +kernel), List.mem_of_getElem? (i := 880) (by decide +kernel), List.mem_of_getElem? (i := 881) (by decide +kernel)⟩
theorem lw_p22 : lw_okq (⟨"LadderMakerModel", "lacks", "(II)I"⟩, 33) := ⟨⟨by decide +kernel, by decide +kernel⟩, List.mem_of_getElem? (i := 763) (by decide +kernel), List.mem_of_getElem? (i := 892) (by decide +kernel), List.mem_of_getElem? (i := 893) (by decide +kernel)⟩
theorem lw_p23 : lw_okq (⟨"LadderMakerModel", "isLawful", "()Z"⟩, 33) := ⟨⟨by decide +kernel, by decide +kernel⟩, List.mem_of_getElem? (i := 763) (by decide +kernel), List.mem_of_getElem? (i := 927) (by decide +kernel), List.mem_of_getElem? (i := 928) (by decide +kernel)⟩
theorem lw_p24 : lw_okq (⟨"LadderMakerModel", "sort", "(I)I"⟩, 33) := ⟨⟨by decide +kernel, by decide +kernel⟩, List.mem_of_getElem? (i := 763) (by decide +kernel), List.mem_of_getElem? (i := 931) (by decide +kernel), List.mem_of_getElem? (i := 932) (by decide +kernel)⟩
theorem lw_p25 : lw_okq (⟨"LadderMakerModel", "degree", "(I)I"⟩, 33) := ⟨⟨by decide +kernel, by decide +kernel⟩, List.mem_of_getElem? (i := 763) (by decide +kernel), List.mem_of_getElem? (i := 939) (by decide +kernel), List.mem_of_getElem? (i := 940) (by decide +kernel)⟩
theorem lw_p26 : lw_okq (⟨"LadderMakerModel", "infoBy", "(I)I"⟩, 33) := ⟨⟨by decide +kernel, by decide +kernel⟩, List.mem_of_getElem? (i := 763) (by decide +kernel), List.mem_of_getElem? (i := 956) (by decide +kernel), List.mem_of_getElem? (i := 957) (by decide +kernel)⟩
theorem lw_p27 : lw_okq (⟨"LadderMakerModel", "lowest", "(I)I"⟩, 33) := ⟨⟨by decide +kernel, by decide +kernel⟩, List.mem_of_getElem? (i := 763) (by decide +kernel), List.mem_of_getElem? (i := 960) (by decide +kernel), List.mem_of_getElem? (i := 961) (by decide +kernel)⟩
theorem lw_p28 : lw_okq (⟨"LadderMakerModel", "reactanceBy", "(III)J"⟩, 33) := ⟨⟨by decide +kernel, by decide +kernel⟩, List.mem_of_getElem? (i := 763) (by decide +kernel), List.mem_of_getElem? (i := 968) (by decide +kernel), List.mem_of_getElem? (i := 969) (by decide +kernel)⟩
theorem lw_p29 : lw_okq (⟨"LadderMakerModel", "turnedValue", "(III)J"⟩, 33) := ⟨⟨by decide +kernel, by decide +kernel⟩, List.mem_of_getElem? (i := 763) (by decide +kernel), List.mem_of_getElem? (i := 972) (by decide +kernel), List.mem_of_getElem? (i := 973) (by decide +kernel)⟩
theorem lw_p30 : lw_okq (⟨"LadderMakerModel", "unfolds", "(I)I"⟩, 33) := ⟨⟨by decide +kernel, by decide +kernel⟩, List.mem_of_getElem? (i := 763) (by decide +kernel), List.mem_of_getElem? (i := 1002) (by decide +kernel), List.mem_of_getElem? (i := 1003) (by decide +kernel)⟩
theorem lw_p31 : lw_okq (⟨"LadderMakerModel", "divides", "(I)I"⟩, 33) := ⟨⟨by decide +kernel, by decide +kernel⟩, List.mem_of_getElem? (i := 763) (by decide +kernel), List.mem_of_getElem? (i := 1006) (by decide +kernel), List.mem_of_getElem? (i := 1007) (by decide +kernel)⟩
def lw_privs_2 : List (MethodName × Nat) := [(⟨"LadderMaker$Unfolder", "poleAtRoot", "(II)I"⟩, 10), (⟨"LadderMaker$Unfolder", "addBoth", "(I)V"⟩, 10), (⟨"LadderMaker$Memory", "isSought", "(I)Z"⟩, 3), (⟨"LadderMaker", "itemRefusal", "(II)I"⟩, 9), (⟨"LadderMaker", "digestOfRows", "(J)J"⟩, 9), (⟨"LadderMakerModel", "finds", "(I)I"⟩, 33), (⟨"LadderMakerModel", "lacks", "(II)I"⟩, 33), (⟨"LadderMakerModel", "isLawful", "()Z"⟩, 33), (⟨"LadderMakerModel", "sort", "(I)I"⟩, 33), (⟨"LadderMakerModel", "degree", "(I)I"⟩, 33), (⟨"LadderMakerModel", "infoBy", "(I)I"⟩, 33), (⟨"LadderMakerModel", "lowest", "(I)I"⟩, 33), (⟨"LadderMakerModel", "reactanceBy", "(III)J"⟩, 33), (⟨"LadderMakerModel", "turnedValue", "(III)J"⟩, 33), (⟨"LadderMakerModel", "unfolds", "(I)I"⟩, 33), (⟨"LadderMakerModel", "divides", "(I)I"⟩, 33)]
theorem lw_r2 : ∀ q ∈ lw_privs_2, lw_okq q := List.forall_mem_cons.mpr ⟨lw_p16, List.forall_mem_cons.mpr ⟨lw_p17, List.forall_mem_cons.mpr ⟨lw_p18, List.forall_mem_cons.mpr ⟨lw_p19, List.forall_mem_cons.mpr ⟨lw_p20, List.forall_mem_cons.mpr ⟨lw_p21, List.forall_mem_cons.mpr ⟨lw_p22, List.forall_mem_cons.mpr ⟨lw_p23, List.forall_mem_cons.mpr ⟨lw_p24, List.forall_mem_cons.mpr ⟨lw_p25, List.forall_mem_cons.mpr ⟨lw_p26, List.forall_mem_cons.mpr ⟨lw_p27, List.forall_mem_cons.mpr ⟨lw_p28, List.forall_mem_cons.mpr ⟨lw_p29, List.forall_mem_cons.mpr ⟨lw_p30, List.forall_mem_cons.mpr ⟨lw_p31, fun _ h => absurd h List.not_mem_nil⟩⟩⟩⟩⟩⟩⟩⟩⟩⟩⟩⟩⟩⟩⟩⟩
theorem lw_p32 : lw_okq (⟨"LadderMakerModel", "swaps", "()V"⟩, 33) := ⟨⟨by decide +kernel, by decide +kernel⟩, List.mem_of_getElem? (i := 763) (by decide +kernel), List.mem_of_getElem? (i := 1013) (by decide +kernel), List.mem_of_getElem? (i := 1014) (by decide +kernel)⟩
theorem lw_p33 : lw_okq (⟨"LadderMakerModel", "scales", "(JJJJ)V"⟩, 33) := ⟨⟨by decide +kernel, by decide +kernel⟩, List.mem_of_getElem? (i := 763) (by decide +kernel), List.mem_of_getElem? (i := 1020) (by decide +kernel), List.mem_of_getElem? (i := 1021) (by decide +kernel)⟩
theorem lw_p34 : lw_okq (⟨"LadderMakerModel", "dividesOnce", "(III)I"⟩, 33) := ⟨⟨by decide +kernel, by decide +kernel⟩, List.mem_of_getElem? (i := 763) (by decide +kernel), List.mem_of_getElem? (i := 1024) (by decide +kernel), List.mem_of_getElem? (i := 1025) (by decide +kernel)⟩
theorem lw_p35 : lw_okq (⟨"LadderMakerModel", "takes", "(JJ)V"⟩, 33) := ⟨⟨by decide +kernel, by decide +kernel⟩, List.mem_of_getElem? (i := 763) (by decide +kernel), List.mem_of_getElem? (i := 1028) (by decide +kernel), List.mem_of_getElem? (i := 1029) (by decide +kernel)⟩
theorem lw_p36 : lw_okq (⟨"LadderMakerModel", "isHandy", "()Z"⟩, 33) := ⟨⟨by decide +kernel, by decide +kernel⟩, List.mem_of_getElem? (i := 763) (by decide +kernel), List.mem_of_getElem? (i := 1032) (by decide +kernel), List.mem_of_getElem? (i := 1033) (by decide +kernel)⟩
theorem lw_p37 : lw_okq (⟨"LadderMakerModel", "makes", "(I)V"⟩, 33) := ⟨⟨by decide +kernel, by decide +kernel⟩, List.mem_of_getElem? (i := 763) (by decide +kernel), List.mem_of_getElem? (i := 1037) (by decide +kernel), List.mem_of_getElem? (i := 1038) (by decide +kernel)⟩
theorem lw_p38 : lw_okq (⟨"LadderMakerModel", "lays", "(I)V"⟩, 33) := ⟨⟨by decide +kernel, by decide +kernel⟩, List.mem_of_getElem? (i := 763) (by decide +kernel), List.mem_of_getElem? (i := 1041) (by decide +kernel), List.mem_of_getElem? (i := 1042) (by decide +kernel)⟩
theorem lw_p39 : lw_okq (⟨"LadderMakerModel", "byRoots", "(I)I"⟩, 33) := ⟨⟨by decide +kernel, by decide +kernel⟩, List.mem_of_getElem? (i := 763) (by decide +kernel), List.mem_of_getElem? (i := 1045) (by decide +kernel), List.mem_of_getElem? (i := 1046) (by decide +kernel)⟩
theorem lw_p40 : lw_okq (⟨"LadderMakerModel", "candidates", "()V"⟩, 33) := ⟨⟨by decide +kernel, by decide +kernel⟩, List.mem_of_getElem? (i := 763) (by decide +kernel), List.mem_of_getElem? (i := 1049) (by decide +kernel), List.mem_of_getElem? (i := 1050) (by decide +kernel)⟩
theorem lw_p41 : lw_okq (⟨"LadderMakerModel", "squares", "(IZ[J)V"⟩, 33) := ⟨⟨by decide +kernel, by decide +kernel⟩, List.mem_of_getElem? (i := 763) (by decide +kernel), List.mem_of_getElem? (i := 1056) (by decide +kernel), List.mem_of_getElem? (i := 1057) (by decide +kernel)⟩
theorem lw_p42 : lw_okq (⟨"LadderMakerModel", "isDark", "()Z"⟩, 33) := ⟨⟨by decide +kernel, by decide +kernel⟩, List.mem_of_getElem? (i := 763) (by decide +kernel), List.mem_of_getElem? (i := 1063) (by decide +kernel), List.mem_of_getElem? (i := 1064) (by decide +kernel)⟩
theorem lw_p43 : lw_okq (⟨"LadderMakerModel", "takesOut", "(JJ)Z"⟩, 33) := ⟨⟨by decide +kernel, by decide +kernel⟩, List.mem_of_getElem? (i := 763) (by decide +kernel), List.mem_of_getElem? (i := 1067) (by decide +kernel), List.mem_of_getElem? (i := 1068) (by decide +kernel)⟩
theorem lw_p44 : lw_okq (⟨"LadderMakerModel", "ends", "(I)I"⟩, 33) := ⟨⟨by decide +kernel, by decide +kernel⟩, List.mem_of_getElem? (i := 763) (by decide +kernel), List.mem_of_getElem? (i := 1074) (by decide +kernel), List.mem_of_getElem? (i := 1075) (by decide +kernel)⟩
theorem lw_p45 : lw_okq (⟨"LadderMakerModel", "alone", "(IIIJJ)I"⟩, 33) := ⟨⟨by decide +kernel, by decide +kernel⟩, List.mem_of_getElem? (i := 763) (by decide +kernel), List.mem_of_getElem? (i := 1078) (by decide +kernel), List.mem_of_getElem? (i := 1079) (by decide +kernel)⟩
theorem lw_p46 : lw_okq (⟨"LadderMakerModel", "slopes", "()V"⟩, 33) := ⟨⟨by decide +kernel, by decide +kernel⟩, List.mem_of_getElem? (i := 763) (by decide +kernel), List.mem_of_getElem? (i := 1082) (by decide +kernel), List.mem_of_getElem? (i := 1083) (by decide +kernel)⟩
theorem lw_p47 : lw_okq (⟨"LadderMakerModel", "isRoot", "(I)Z"⟩, 33) := ⟨⟨by decide +kernel, by decide +kernel⟩, List.mem_of_getElem? (i := 763) (by decide +kernel), List.mem_of_getElem? (i := 1086) (by decide +kernel), List.mem_of_getElem? (i := 1087) (by decide +kernel)⟩
def lw_privs_3 : List (MethodName × Nat) := [(⟨"LadderMakerModel", "swaps", "()V"⟩, 33), (⟨"LadderMakerModel", "scales", "(JJJJ)V"⟩, 33), (⟨"LadderMakerModel", "dividesOnce", "(III)I"⟩, 33), (⟨"LadderMakerModel", "takes", "(JJ)V"⟩, 33), (⟨"LadderMakerModel", "isHandy", "()Z"⟩, 33), (⟨"LadderMakerModel", "makes", "(I)V"⟩, 33), (⟨"LadderMakerModel", "lays", "(I)V"⟩, 33), (⟨"LadderMakerModel", "byRoots", "(I)I"⟩, 33), (⟨"LadderMakerModel", "candidates", "()V"⟩, 33), (⟨"LadderMakerModel", "squares", "(IZ[J)V"⟩, 33), (⟨"LadderMakerModel", "isDark", "()Z"⟩, 33), (⟨"LadderMakerModel", "takesOut", "(JJ)Z"⟩, 33), (⟨"LadderMakerModel", "ends", "(I)I"⟩, 33), (⟨"LadderMakerModel", "alone", "(IIIJJ)I"⟩, 33), (⟨"LadderMakerModel", "slopes", "()V"⟩, 33), (⟨"LadderMakerModel", "isRoot", "(I)Z"⟩, 33)]
theorem lw_r3 : ∀ q ∈ lw_privs_3, lw_okq q := List.forall_mem_cons.mpr ⟨lw_p32, List.forall_mem_cons.mpr ⟨lw_p33, List.forall_mem_cons.mpr ⟨lw_p34, List.forall_mem_cons.mpr ⟨lw_p35, List.forall_mem_cons.mpr ⟨lw_p36, List.forall_mem_cons.mpr ⟨lw_p37, List.forall_mem_cons.mpr ⟨lw_p38, List.forall_mem_cons.mpr ⟨lw_p39, List.forall_mem_cons.mpr ⟨lw_p40, List.forall_mem_cons.mpr ⟨lw_p41, List.forall_mem_cons.mpr ⟨lw_p42, List.forall_mem_cons.mpr ⟨lw_p43, List.forall_mem_cons.mpr ⟨lw_p44, List.forall_mem_cons.mpr ⟨lw_p45, List.forall_mem_cons.mpr ⟨lw_p46, List.forall_mem_cons.mpr ⟨lw_p47, fun _ h => absurd h List.not_mem_nil⟩⟩⟩⟩⟩⟩⟩⟩⟩⟩⟩⟩⟩⟩⟩⟩
theorem lw_p48 : lw_okq (⟨"LadderMakerModel", "rootOnce", "(IIJJ)I"⟩, 33) := ⟨⟨by decide +kernel, by decide +kernel⟩, List.mem_of_getElem? (i := 763) (by decide +kernel), List.mem_of_getElem? (i := 1090) (by decide +kernel), List.mem_of_getElem? (i := 1091) (by decide +kernel)⟩
theorem lw_p49 : lw_okq (⟨"LadderMakerModel", "folds", "()V"⟩, 33) := ⟨⟨by decide +kernel, by decide +kernel⟩, List.mem_of_getElem? (i := 763) (by decide +kernel), List.mem_of_getElem? (i := 1102) (by decide +kernel), List.mem_of_getElem? (i := 1103) (by decide +kernel)⟩
theorem lw_p50 : lw_okq (⟨"LadderMakerModel", "armOf", "(I)V"⟩, 33) := ⟨⟨by decide +kernel, by decide +kernel⟩, List.mem_of_getElem? (i := 763) (by decide +kernel), List.mem_of_getElem? (i := 1106) (by decide +kernel), List.mem_of_getElem? (i := 1107) (by decide +kernel)⟩
theorem lw_p51 : lw_okq (⟨"LadderMakerModel", "turnsOver", "()V"⟩, 33) := ⟨⟨by decide +kernel, by decide +kernel⟩, List.mem_of_getElem? (i := 763) (by decide +kernel), List.mem_of_getElem? (i := 1110) (by decide +kernel), List.mem_of_getElem? (i := 1111) (by decide +kernel)⟩
theorem lw_p52 : lw_okq (⟨"LadderMakerModel", "adds", "()V"⟩, 33) := ⟨⟨by decide +kernel, by decide +kernel⟩, List.mem_of_getElem? (i := 763) (by decide +kernel), List.mem_of_getElem? (i := 1114) (by decide +kernel), List.mem_of_getElem? (i := 1115) (by decide +kernel)⟩
theorem lw_p53 : lw_okq (⟨"LadderMakerModel", "asPair", "()V"⟩, 33) := ⟨⟨by decide +kernel, by decide +kernel⟩, List.mem_of_getElem? (i := 763) (by decide +kernel), List.mem_of_getElem? (i := 1118) (by decide +kernel), List.mem_of_getElem? (i := 1119) (by decide +kernel)⟩
theorem lw_p54 : lw_okq (⟨"LadderMakerModel", "foldBy", "(II)J"⟩, 33) := ⟨⟨by decide +kernel, by decide +kernel⟩, List.mem_of_getElem? (i := 763) (by decide +kernel), List.mem_of_getElem? (i := 1122) (by decide +kernel), List.mem_of_getElem? (i := 1123) (by decide +kernel)⟩
theorem lw_p55 : lw_okq (⟨"LadderMakerModel", "alikeNow", "()I"⟩, 33) := ⟨⟨by decide +kernel, by decide +kernel⟩, List.mem_of_getElem? (i := 763) (by decide +kernel), List.mem_of_getElem? (i := 1130) (by decide +kernel), List.mem_of_getElem? (i := 1131) (by decide +kernel)⟩
theorem lw_p56 : lw_okq (⟨"LadderMakerModel", "parts", "(Z)I"⟩, 33) := ⟨⟨by decide +kernel, by decide +kernel⟩, List.mem_of_getElem? (i := 763) (by decide +kernel), List.mem_of_getElem? (i := 1143) (by decide +kernel), List.mem_of_getElem? (i := 1144) (by decide +kernel)⟩
theorem lw_p57 : lw_okq (⟨"LadderMakerModel", "isFirst", "(IZ)Z"⟩, 33) := ⟨⟨by decide +kernel, by decide +kernel⟩, List.mem_of_getElem? (i := 763) (by decide +kernel), List.mem_of_getElem? (i := 1147) (by decide +kernel), List.mem_of_getElem? (i := 1148) (by decide +kernel)⟩
theorem lw_p58 : lw_okq (⟨"LadderMakerModel", "partUp", "(I)I"⟩, 33) := ⟨⟨by decide +kernel, by decide +kernel⟩, List.mem_of_getElem? (i := 763) (by decide +kernel), List.mem_of_getElem? (i := 1151) (by decide +kernel), List.mem_of_getElem? (i := 1152) (by decide +kernel)⟩
theorem lw_p59 : lw_okq (⟨"LadderMakerModel", "isLike", "(IIZ)Z"⟩, 33) := ⟨⟨by decide +kernel, by decide +kernel⟩, List.mem_of_getElem? (i := 763) (by decide +kernel), List.mem_of_getElem? (i := 1155) (by decide +kernel), List.mem_of_getElem? (i := 1156) (by decide +kernel)⟩
theorem lw_p60 : lw_okq (⟨"LadderMakerModel", "partDown", "(I)I"⟩, 33) := ⟨⟨by decide +kernel, by decide +kernel⟩, List.mem_of_getElem? (i := 763) (by decide +kernel), List.mem_of_getElem? (i := 1159) (by decide +kernel), List.mem_of_getElem? (i := 1160) (by decide +kernel)⟩
theorem lw_p61 : lw_okq (⟨"LadderMakerModel", "nthPart", "(I)I"⟩, 33) := ⟨⟨by decide +kernel, by decide +kernel⟩, List.mem_of_getElem? (i := 763) (by decide +kernel), List.mem_of_getElem? (i := 1163) (by decide +kernel), List.mem_of_getElem? (i := 1164) (by decide +kernel)⟩
theorem lw_p62 : lw_okq (⟨"LadderMakerModel", "billBy", "(II)I"⟩, 33) := ⟨⟨by decide +kernel, by decide +kernel⟩, List.mem_of_getElem? (i := 763) (by decide +kernel), List.mem_of_getElem? (i := 1167) (by decide +kernel), List.mem_of_getElem? (i := 1168) (by decide +kernel)⟩
theorem lw_p63 : lw_okq (⟨"LadderMakerModel", "found", "()I"⟩, 33) := ⟨⟨by decide +kernel, by decide +kernel⟩, List.mem_of_getElem? (i := 763) (by decide +kernel), List.mem_of_getElem? (i := 1179) (by decide +kernel), List.mem_of_getElem? (i := 1180) (by decide +kernel)⟩
def lw_privs_4 : List (MethodName × Nat) := [(⟨"LadderMakerModel", "rootOnce", "(IIJJ)I"⟩, 33), (⟨"LadderMakerModel", "folds", "()V"⟩, 33), (⟨"LadderMakerModel", "armOf", "(I)V"⟩, 33), (⟨"LadderMakerModel", "turnsOver", "()V"⟩, 33), (⟨"LadderMakerModel", "adds", "()V"⟩, 33), (⟨"LadderMakerModel", "asPair", "()V"⟩, 33), (⟨"LadderMakerModel", "foldBy", "(II)J"⟩, 33), (⟨"LadderMakerModel", "alikeNow", "()I"⟩, 33), (⟨"LadderMakerModel", "parts", "(Z)I"⟩, 33), (⟨"LadderMakerModel", "isFirst", "(IZ)Z"⟩, 33), (⟨"LadderMakerModel", "partUp", "(I)I"⟩, 33), (⟨"LadderMakerModel", "isLike", "(IIZ)Z"⟩, 33), (⟨"LadderMakerModel", "partDown", "(I)I"⟩, 33), (⟨"LadderMakerModel", "nthPart", "(I)I"⟩, 33), (⟨"LadderMakerModel", "billBy", "(II)I"⟩, 33), (⟨"LadderMakerModel", "found", "()I"⟩, 33)]
theorem lw_r4 : ∀ q ∈ lw_privs_4, lw_okq q := List.forall_mem_cons.mpr ⟨lw_p48, List.forall_mem_cons.mpr ⟨lw_p49, List.forall_mem_cons.mpr ⟨lw_p50, List.forall_mem_cons.mpr ⟨lw_p51, List.forall_mem_cons.mpr ⟨lw_p52, List.forall_mem_cons.mpr ⟨lw_p53, List.forall_mem_cons.mpr ⟨lw_p54, List.forall_mem_cons.mpr ⟨lw_p55, List.forall_mem_cons.mpr ⟨lw_p56, List.forall_mem_cons.mpr ⟨lw_p57, List.forall_mem_cons.mpr ⟨lw_p58, List.forall_mem_cons.mpr ⟨lw_p59, List.forall_mem_cons.mpr ⟨lw_p60, List.forall_mem_cons.mpr ⟨lw_p61, List.forall_mem_cons.mpr ⟨lw_p62, List.forall_mem_cons.mpr ⟨lw_p63, fun _ h => absurd h List.not_mem_nil⟩⟩⟩⟩⟩⟩⟩⟩⟩⟩⟩⟩⟩⟩⟩⟩
theorem lw_p64 : lw_okq (⟨"LadderMakerModel", "wishAsPair", "()V"⟩, 33) := ⟨⟨by decide +kernel, by decide +kernel⟩, List.mem_of_getElem? (i := 763) (by decide +kernel), List.mem_of_getElem? (i := 1183) (by decide +kernel), List.mem_of_getElem? (i := 1184) (by decide +kernel)⟩
theorem lw_p65 : lw_okq (⟨"LadderMakerModel", "keptBy", "(II)I"⟩, 33) := ⟨⟨by decide +kernel, by decide +kernel⟩, List.mem_of_getElem? (i := 763) (by decide +kernel), List.mem_of_getElem? (i := 1195) (by decide +kernel), List.mem_of_getElem? (i := 1196) (by decide +kernel)⟩
theorem lw_p66 : lw_okq (⟨"LadderMakerModel", "keptAll", "()I"⟩, 33) := ⟨⟨by decide +kernel, by decide +kernel⟩, List.mem_of_getElem? (i := 763) (by decide +kernel), List.mem_of_getElem? (i := 1214) (by decide +kernel), List.mem_of_getElem? (i := 1215) (by decide +kernel)⟩
theorem lw_p67 : lw_okq (⟨"LadderMakerModel", "sheets", "()I"⟩, 33) := ⟨⟨by decide +kernel, by decide +kernel⟩, List.mem_of_getElem? (i := 763) (by decide +kernel), List.mem_of_getElem? (i := 1219) (by decide +kernel), List.mem_of_getElem? (i := 1220) (by decide +kernel)⟩
theorem lw_p68 : lw_okq (⟨"LadderMakerModel", "ladderTells", "(J)J"⟩, 33) := ⟨⟨by decide +kernel, by decide +kernel⟩, List.mem_of_getElem? (i := 763) (by decide +kernel), List.mem_of_getElem? (i := 1230) (by decide +kernel), List.mem_of_getElem? (i := 1231) (by decide +kernel)⟩
def lw_privs_5 : List (MethodName × Nat) := [(⟨"LadderMakerModel", "wishAsPair", "()V"⟩, 33), (⟨"LadderMakerModel", "keptBy", "(II)I"⟩, 33), (⟨"LadderMakerModel", "keptAll", "()I"⟩, 33), (⟨"LadderMakerModel", "sheets", "()I"⟩, 33), (⟨"LadderMakerModel", "ladderTells", "(J)J"⟩, 33)]
theorem lw_r5 : ∀ q ∈ lw_privs_5, lw_okq q := List.forall_mem_cons.mpr ⟨lw_p64, List.forall_mem_cons.mpr ⟨lw_p65, List.forall_mem_cons.mpr ⟨lw_p66, List.forall_mem_cons.mpr ⟨lw_p67, List.forall_mem_cons.mpr ⟨lw_p68, fun _ h => absurd h List.not_mem_nil⟩⟩⟩⟩⟩
def lw_privs : List (MethodName × Nat) := lw_privs_1 ++ (lw_privs_2 ++ (lw_privs_3 ++ (lw_privs_4 ++ (lw_privs_5))))
def lw_tbl : List Cond := k2_sels lw_privs ++ tables_1
theorem lw_privs_ok : ∀ q ∈ lw_privs, lw_okq q := by
  show ∀ q ∈ lw_privs_1 ++ (lw_privs_2 ++ (lw_privs_3 ++ (lw_privs_4 ++ (lw_privs_5)))), lw_okq q
  exact List.forall_mem_append.mpr ⟨lw_r1, List.forall_mem_append.mpr ⟨lw_r2, List.forall_mem_append.mpr ⟨lw_r3, List.forall_mem_append.mpr ⟨lw_r4, lw_r5⟩⟩⟩⟩
def lw_g : List Cond := lw_tbl.filter goodWord
theorem mg_t {w : Cond} (h : w ∈ tables_1) (g : goodWord w = true) : w ∈ lw_g := List.mem_filter.mpr ⟨List.mem_append_right _ h, g⟩
theorem mg_s {w : Cond} (h : w ∈ k2_sels lw_privs) (g : goodWord w = true) : w ∈ lw_g := List.mem_filter.mpr ⟨List.mem_append_left _ h, g⟩
theorem mg_n {w : Cond} (h : w ∈ tables_1) : w ∈ lw_tbl := List.mem_append_right _ h
def RX0 : String := "LadderMaker$Bill"
def TX0 : u_T := fun k => match k with
  | 0 => ("LadderMaker$Bill", "rows", "[[I", true)
  | _ => ("LadderMaker$Bill", "partCount", "I", false)
def tyX0 : Nat → FieldType := fun k => match k with
  | 0 => .array (.array .int)
  | _ => .int
theorem nmX0 : ∀ a, a < 2 → ∀ b, b < 2 → a ≠ b → (TX0 a).2.1 ≠ (TX0 b).2.1 := by decide +kernel
theorem tyX0_ok : ∀ k, k < 2 → parseFieldDescriptor (TX0 k).2.2.1 = some (tyX0 k) := by decide +kernel
theorem inlX0 : u_ws RX0 TX0 2 = [164, 166].filterMap (fun i => tables_1[i]?) := by decide +kernel
theorem ingX0 : (u_ws RX0 TX0 2).all goodWord = true := by decide +kernel
theorem inX0 : ∀ w ∈ u_ws RX0 TX0 2, w ∈ lw_g := by
  intro w hw
  have hg := List.all_eq_true.mp ingX0 w hw
  rw [inlX0] at hw
  obtain ⟨i, -, hi⟩ := List.mem_filterMap.mp hw
  exact mg_t (List.mem_of_getElem? hi) hg
def RX1 : String := "LadderMaker$Folder"
def TX1 : u_T := fun k => match k with
  | 0 => ("LadderMaker$Folder", "folded", "LLadderMaker$Pair;", true)
  | 1 => ("LadderMaker$Folder", "arm", "LLadderMaker$Pair;", true)
  | _ => ("LadderMaker$Folder", "sum", "LLadderMaker$Pair;", true)
def tyX1 : Nat → FieldType := fun k => match k with
  | 0 => .object "LadderMaker$Pair"
  | 1 => .object "LadderMaker$Pair"
  | _ => .object "LadderMaker$Pair"
theorem nmX1 : ∀ a, a < 3 → ∀ b, b < 3 → a ≠ b → (TX1 a).2.1 ≠ (TX1 b).2.1 := by decide +kernel
theorem tyX1_ok : ∀ k, k < 3 → parseFieldDescriptor (TX1 k).2.2.1 = some (tyX1 k) := by decide +kernel
theorem inlX1 : u_ws RX1 TX1 3 = [84, 86, 88].filterMap (fun i => tables_1[i]?) := by decide +kernel
theorem ingX1 : (u_ws RX1 TX1 3).all goodWord = true := by decide +kernel
theorem inX1 : ∀ w ∈ u_ws RX1 TX1 3, w ∈ lw_g := by
  intro w hw
  have hg := List.all_eq_true.mp ingX1 w hw
  rw [inlX1] at hw
  obtain ⟨i, -, hi⟩ := List.mem_filterMap.mp hw
  exact mg_t (List.mem_of_getElem? hi) hg
def RX2 : String := "LadderMaker$Fraction"
def TX2 : u_T := fun k => match k with
  | 0 => ("LadderMaker$Fraction", "above", "J", false)
  | _ => ("LadderMaker$Fraction", "below", "J", false)
def tyX2 : Nat → FieldType := fun k => match k with
  | 0 => .long
  | _ => .long
theorem nmX2 : ∀ a, a < 2 → ∀ b, b < 2 → a ≠ b → (TX2 a).2.1 ≠ (TX2 b).2.1 := by decide +kernel
theorem tyX2_ok : ∀ k, k < 2 → parseFieldDescriptor (TX2 k).2.2.1 = some (tyX2 k) := by decide +kernel
theorem inlX2 : u_ws RX2 TX2 2 = [117, 119].filterMap (fun i => tables_1[i]?) := by decide +kernel
theorem ingX2 : (u_ws RX2 TX2 2).all goodWord = true := by decide +kernel
theorem inX2 : ∀ w ∈ u_ws RX2 TX2 2, w ∈ lw_g := by
  intro w hw
  have hg := List.all_eq_true.mp ingX2 w hw
  rw [inlX2] at hw
  obtain ⟨i, -, hi⟩ := List.mem_filterMap.mp hw
  exact mg_t (List.mem_of_getElem? hi) hg
def RX3 : String := "LadderMaker$Ladder"
def TX3 : u_T := fun k => match k with
  | 0 => ("LadderMaker$Ladder", "arms", "[[I", true)
  | _ => ("LadderMaker$Ladder", "armCount", "I", false)
def tyX3 : Nat → FieldType := fun k => match k with
  | 0 => .array (.array .int)
  | _ => .int
theorem nmX3 : ∀ a, a < 2 → ∀ b, b < 2 → a ≠ b → (TX3 a).2.1 ≠ (TX3 b).2.1 := by decide +kernel
theorem tyX3_ok : ∀ k, k < 2 → parseFieldDescriptor (TX3 k).2.2.1 = some (tyX3 k) := by decide +kernel
theorem inlX3 : u_ws RX3 TX3 2 = [66, 68].filterMap (fun i => tables_1[i]?) := by decide +kernel
theorem ingX3 : (u_ws RX3 TX3 2).all goodWord = true := by decide +kernel
theorem inX3 : ∀ w ∈ u_ws RX3 TX3 2, w ∈ lw_g := by
  intro w hw
  have hg := List.all_eq_true.mp ingX3 w hw
  rw [inlX3] at hw
  obtain ⟨i, -, hi⟩ := List.mem_filterMap.mp hw
  exact mg_t (List.mem_of_getElem? hi) hg
def RX4 : String := "LadderMaker$Memory"
def TX4 : u_T := fun k => match k with
  | 0 => ("LadderMaker$Memory", "rows", "[[I", true)
  | 1 => ("LadderMaker$Memory", "sought", "LLadderMaker$Pair;", true)
  | _ => ("LadderMaker$Memory", "fractionCount", "I", false)
def tyX4 : Nat → FieldType := fun k => match k with
  | 0 => .array (.array .int)
  | 1 => .object "LadderMaker$Pair"
  | _ => .int
theorem nmX4 : ∀ a, a < 3 → ∀ b, b < 3 → a ≠ b → (TX4 a).2.1 ≠ (TX4 b).2.1 := by decide +kernel
theorem tyX4_ok : ∀ k, k < 3 → parseFieldDescriptor (TX4 k).2.2.1 = some (tyX4 k) := by decide +kernel
theorem inlX4 : u_ws RX4 TX4 3 = [182, 184, 186].filterMap (fun i => tables_1[i]?) := by decide +kernel
theorem ingX4 : (u_ws RX4 TX4 3).all goodWord = true := by decide +kernel
theorem inX4 : ∀ w ∈ u_ws RX4 TX4 3, w ∈ lw_g := by
  intro w hw
  have hg := List.all_eq_true.mp ingX4 w hw
  rw [inlX4] at hw
  obtain ⟨i, -, hi⟩ := List.mem_filterMap.mp hw
  exact mg_t (List.mem_of_getElem? hi) hg
def RX5 : String := "LadderMaker$Pair"
def TX5 : u_T := fun k => match k with
  | 0 => ("LadderMaker$Pair", "above", "LLadderMaker$Polynomial;", false)
  | _ => ("LadderMaker$Pair", "below", "LLadderMaker$Polynomial;", false)
def tyX5 : Nat → FieldType := fun k => match k with
  | 0 => .object "LadderMaker$Polynomial"
  | _ => .object "LadderMaker$Polynomial"
theorem nmX5 : ∀ a, a < 2 → ∀ b, b < 2 → a ≠ b → (TX5 a).2.1 ≠ (TX5 b).2.1 := by decide +kernel
theorem tyX5_ok : ∀ k, k < 2 → parseFieldDescriptor (TX5 k).2.2.1 = some (tyX5 k) := by decide +kernel
theorem inlX5 : u_ws RX5 TX5 2 = [48, 50].filterMap (fun i => tables_1[i]?) := by decide +kernel
theorem ingX5 : (u_ws RX5 TX5 2).all goodWord = true := by decide +kernel
theorem inX5 : ∀ w ∈ u_ws RX5 TX5 2, w ∈ lw_g := by
  intro w hw
  have hg := List.all_eq_true.mp ingX5 w hw
  rw [inlX5] at hw
  obtain ⟨i, -, hi⟩ := List.mem_filterMap.mp hw
  exact mg_t (List.mem_of_getElem? hi) hg
def RX6 : String := "LadderMaker$Polynomial"
def TX6 : u_T := fun k => match k with
  | _ => ("LadderMaker$Polynomial", "numbers", "[J", true)
def tyX6 : Nat → FieldType := fun k => match k with
  | _ => .array .long
theorem nmX6 : ∀ a, a < 1 → ∀ b, b < 1 → a ≠ b → (TX6 a).2.1 ≠ (TX6 b).2.1 := by decide +kernel
theorem tyX6_ok : ∀ k, k < 1 → parseFieldDescriptor (TX6 k).2.2.1 = some (tyX6 k) := by decide +kernel
theorem inlX6 : u_ws RX6 TX6 1 = [36].filterMap (fun i => tables_1[i]?) := by decide +kernel
theorem ingX6 : (u_ws RX6 TX6 1).all goodWord = true := by decide +kernel
theorem inX6 : ∀ w ∈ u_ws RX6 TX6 1, w ∈ lw_g := by
  intro w hw
  have hg := List.all_eq_true.mp ingX6 w hw
  rw [inlX6] at hw
  obtain ⟨i, -, hi⟩ := List.mem_filterMap.mp hw
  exact mg_t (List.mem_of_getElem? hi) hg
def RX7 : String := "LadderMaker$Reactance"
def TX7 : u_T := fun k => match k with
  | 0 => ("LadderMaker$Reactance", "inX", "LLadderMaker$Polynomial;", true)
  | _ => ("LadderMaker$Reactance", "result", "LLadderMaker$Fraction;", true)
def tyX7 : Nat → FieldType := fun k => match k with
  | 0 => .object "LadderMaker$Polynomial"
  | _ => .object "LadderMaker$Fraction"
theorem nmX7 : ∀ a, a < 2 → ∀ b, b < 2 → a ≠ b → (TX7 a).2.1 ≠ (TX7 b).2.1 := by decide +kernel
theorem tyX7_ok : ∀ k, k < 2 → parseFieldDescriptor (TX7 k).2.2.1 = some (tyX7 k) := by decide +kernel
theorem inlX7 : u_ws RX7 TX7 2 = [217, 219].filterMap (fun i => tables_1[i]?) := by decide +kernel
theorem ingX7 : (u_ws RX7 TX7 2).all goodWord = true := by decide +kernel
theorem inX7 : ∀ w ∈ u_ws RX7 TX7 2, w ∈ lw_g := by
  intro w hw
  have hg := List.all_eq_true.mp ingX7 w hw
  rw [inlX7] at hw
  obtain ⟨i, -, hi⟩ := List.mem_filterMap.mp hw
  exact mg_t (List.mem_of_getElem? hi) hg
def RX8 : String := "LadderMaker$Sheets"
def TX8 : u_T := fun k => match k with
  | 0 => ("LadderMaker$Sheets", "rows", "[[J", true)
  | _ => ("LadderMaker$Sheets", "sizes", "[I", true)
def tyX8 : Nat → FieldType := fun k => match k with
  | 0 => .array (.array .long)
  | _ => .array .int
theorem nmX8 : ∀ a, a < 2 → ∀ b, b < 2 → a ≠ b → (TX8 a).2.1 ≠ (TX8 b).2.1 := by decide +kernel
theorem tyX8_ok : ∀ k, k < 2 → parseFieldDescriptor (TX8 k).2.2.1 = some (tyX8 k) := by decide +kernel
theorem inlX8 : u_ws RX8 TX8 2 = [199, 201].filterMap (fun i => tables_1[i]?) := by decide +kernel
theorem ingX8 : (u_ws RX8 TX8 2).all goodWord = true := by decide +kernel
theorem inX8 : ∀ w ∈ u_ws RX8 TX8 2, w ∈ lw_g := by
  intro w hw
  have hg := List.all_eq_true.mp ingX8 w hw
  rw [inlX8] at hw
  obtain ⟨i, -, hi⟩ := List.mem_filterMap.mp hw
  exact mg_t (List.mem_of_getElem? hi) hg
def RX9 : String := "LadderMaker$Unfolder"
def TX9 : u_T := fun k => match k with
  | 0 => ("LadderMaker$Unfolder", "built", "LLadderMaker$Ladder;", true)
  | 1 => ("LadderMaker$Unfolder", "work", "LLadderMaker$Pair;", true)
  | 2 => ("LadderMaker$Unfolder", "inX", "LLadderMaker$Pair;", true)
  | 3 => ("LadderMaker$Unfolder", "rest", "LLadderMaker$Polynomial;", true)
  | 4 => ("LadderMaker$Unfolder", "k", "LLadderMaker$Fraction;", true)
  | 5 => ("LadderMaker$Unfolder", "byRoot", "LLadderMaker$Fraction;", true)
  | 6 => ("LadderMaker$Unfolder", "rootAbove", "[I", true)
  | 7 => ("LadderMaker$Unfolder", "rootBelow", "[I", true)
  | 8 => ("LadderMaker$Unfolder", "rootTimes", "[I", true)
  | _ => ("LadderMaker$Unfolder", "rootCount", "I", false)
def tyX9 : Nat → FieldType := fun k => match k with
  | 0 => .object "LadderMaker$Ladder"
  | 1 => .object "LadderMaker$Pair"
  | 2 => .object "LadderMaker$Pair"
  | 3 => .object "LadderMaker$Polynomial"
  | 4 => .object "LadderMaker$Fraction"
  | 5 => .object "LadderMaker$Fraction"
  | 6 => .array .int
  | 7 => .array .int
  | 8 => .array .int
  | _ => .int
theorem nmX9 : ∀ a, a < 10 → ∀ b, b < 10 → a ≠ b → (TX9 a).2.1 ≠ (TX9 b).2.1 := by decide +kernel
theorem tyX9_ok : ∀ k, k < 10 → parseFieldDescriptor (TX9 k).2.2.1 = some (tyX9 k) := by decide +kernel
theorem inlX9 : u_ws RX9 TX9 10 = [133, 135, 137, 139, 141, 143, 145, 147, 149, 151].filterMap (fun i => tables_1[i]?) := by decide +kernel
theorem ingX9 : (u_ws RX9 TX9 10).all goodWord = true := by decide +kernel
theorem inX9 : ∀ w ∈ u_ws RX9 TX9 10, w ∈ lw_g := by
  intro w hw
  have hg := List.all_eq_true.mp ingX9 w hw
  rw [inlX9] at hw
  obtain ⟨i, -, hi⟩ := List.mem_filterMap.mp hw
  exact mg_t (List.mem_of_getElem? hi) hg
def RX10 : String := "LadderMaker"
def TX10 : u_T := fun k => match k with
  | 0 => ("LadderMaker", "wish", "LLadderMaker$Pair;", true)
  | 1 => ("LadderMaker", "ladder", "LLadderMaker$Ladder;", true)
  | 2 => ("LadderMaker", "folder", "LLadderMaker$Folder;", true)
  | 3 => ("LadderMaker", "unfolder", "LLadderMaker$Unfolder;", true)
  | 4 => ("LadderMaker", "parts", "LLadderMaker$Bill;", true)
  | 5 => ("LadderMaker", "memory", "LLadderMaker$Memory;", true)
  | 6 => ("LadderMaker", "sheets", "LLadderMaker$Sheets;", true)
  | 7 => ("LadderMaker", "atFrequency", "LLadderMaker$Reactance;", true)
  | _ => ("LadderMaker", "latestFinding", "I", false)
def tyX10 : Nat → FieldType := fun k => match k with
  | 0 => .object "LadderMaker$Pair"
  | 1 => .object "LadderMaker$Ladder"
  | 2 => .object "LadderMaker$Folder"
  | 3 => .object "LadderMaker$Unfolder"
  | 4 => .object "LadderMaker$Bill"
  | 5 => .object "LadderMaker$Memory"
  | 6 => .object "LadderMaker$Sheets"
  | 7 => .object "LadderMaker$Reactance"
  | _ => .int
theorem nmX10 : ∀ a, a < 9 → ∀ b, b < 9 → a ≠ b → (TX10 a).2.1 ≠ (TX10 b).2.1 := by decide +kernel
theorem tyX10_ok : ∀ k, k < 9 → parseFieldDescriptor (TX10 k).2.2.1 = some (tyX10 k) := by decide +kernel
theorem inlX10 : u_ws RX10 TX10 9 = [231, 233, 235, 237, 239, 241, 243, 245, 247].filterMap (fun i => tables_1[i]?) := by decide +kernel
theorem ingX10 : (u_ws RX10 TX10 9).all goodWord = true := by decide +kernel
theorem inX10 : ∀ w ∈ u_ws RX10 TX10 9, w ∈ lw_g := by
  intro w hw
  have hg := List.all_eq_true.mp ingX10 w hw
  rw [inlX10] at hw
  obtain ⟨i, -, hi⟩ := List.mem_filterMap.mp hw
  exact mg_t (List.mem_of_getElem? hi) hg
def RX11 : String := "LadderMakerModel"
def TX11 : u_T := fun k => match k with
  | 0 => ("LadderMakerModel", "latest", "I", false)
  | 1 => ("LadderMakerModel", "sizes", "[I", true)
  | 2 => ("LadderMakerModel", "items", "[J", true)
  | 3 => ("LadderMakerModel", "aside", "[J", true)
  | 4 => ("LadderMakerModel", "wish", "[I", true)
  | 5 => ("LadderMakerModel", "arms", "[I", true)
  | 6 => ("LadderMakerModel", "many", "I", false)
  | 7 => ("LadderMakerModel", "made", "[I", true)
  | 8 => ("LadderMakerModel", "madeMany", "I", false)
  | 9 => ("LadderMakerModel", "valueUp", "J", false)
  | 10 => ("LadderMakerModel", "valueDown", "J", false)
  | 11 => ("LadderMakerModel", "p", "[J", true)
  | 12 => ("LadderMakerModel", "q", "[J", true)
  | 13 => ("LadderMakerModel", "scaleUp", "J", false)
  | 14 => ("LadderMakerModel", "scaleDown", "J", false)
  | 15 => ("LadderMakerModel", "g", "[J", true)
  | 16 => ("LadderMakerModel", "h", "[J", true)
  | 17 => ("LadderMakerModel", "left", "[J", true)
  | 18 => ("LadderMakerModel", "quotient", "[J", true)
  | 19 => ("LadderMakerModel", "rootUps", "[I", true)
  | 20 => ("LadderMakerModel", "rootDowns", "[I", true)
  | 21 => ("LadderMakerModel", "roots", "I", false)
  | 22 => ("LadderMakerModel", "slope", "[J", true)
  | 23 => ("LadderMakerModel", "a", "[J", true)
  | 24 => ("LadderMakerModel", "b", "[J", true)
  | 25 => ("LadderMakerModel", "armUp", "[J", true)
  | 26 => ("LadderMakerModel", "armDown", "[J", true)
  | 27 => ("LadderMakerModel", "sumUp", "[J", true)
  | 28 => ("LadderMakerModel", "sumDown", "[J", true)
  | 29 => ("LadderMakerModel", "memory", "[I", true)
  | 30 => ("LadderMakerModel", "times", "[I", true)
  | 31 => ("LadderMakerModel", "remembered", "I", false)
  | _ => ("LadderMakerModel", "pair", "[I", true)
def tyX11 : Nat → FieldType := fun k => match k with
  | 0 => .int
  | 1 => .array .int
  | 2 => .array .long
  | 3 => .array .long
  | 4 => .array .int
  | 5 => .array .int
  | 6 => .int
  | 7 => .array .int
  | 8 => .int
  | 9 => .long
  | 10 => .long
  | 11 => .array .long
  | 12 => .array .long
  | 13 => .long
  | 14 => .long
  | 15 => .array .long
  | 16 => .array .long
  | 17 => .array .long
  | 18 => .array .long
  | 19 => .array .int
  | 20 => .array .int
  | 21 => .int
  | 22 => .array .long
  | 23 => .array .long
  | 24 => .array .long
  | 25 => .array .long
  | 26 => .array .long
  | 27 => .array .long
  | 28 => .array .long
  | 29 => .array .int
  | 30 => .array .int
  | 31 => .int
  | _ => .array .int
theorem nmX11 : ∀ a, a < 33 → ∀ b, b < 33 → a ≠ b → (TX11 a).2.1 ≠ (TX11 b).2.1 := by decide +kernel
theorem tyX11_ok : ∀ k, k < 33 → parseFieldDescriptor (TX11 k).2.2.1 = some (tyX11 k) := by decide +kernel
theorem inlX11 : u_ws RX11 TX11 33 = [801, 803, 805, 807, 809, 811, 813, 815, 817, 819, 821, 823, 825, 827, 829, 831, 833, 835, 837, 839, 841, 843, 845, 847, 849, 851, 853, 855, 857, 859, 861, 863, 865].filterMap (fun i => tables_1[i]?) := by decide +kernel
theorem ingX11 : (u_ws RX11 TX11 33).all goodWord = true := by decide +kernel
theorem inX11 : ∀ w ∈ u_ws RX11 TX11 33, w ∈ lw_g := by
  intro w hw
  have hg := List.all_eq_true.mp ingX11 w hw
  rw [inlX11] at hw
  obtain ⟨i, -, hi⟩ := List.mem_filterMap.mp hw
  exact mg_t (List.mem_of_getElem? hi) hg
abbrev gcl : List vw_C := [(RX0, TX0, 2), (RX1, TX1, 3), (RX2, TX2, 2), (RX3, TX3, 2), (RX4, TX4, 3), (RX5, TX5, 2), (RX6, TX6, 1), (RX7, TX7, 2), (RX8, TX8, 2), (RX9, TX9, 10), (RX10, TX10, 9), (RX11, TX11, 33)]
theorem gcX0 : gcl[0]? = some (RX0, TX0, 2) := rfl
theorem gcX1 : gcl[1]? = some (RX1, TX1, 3) := rfl
theorem gcX2 : gcl[2]? = some (RX2, TX2, 2) := rfl
theorem gcX3 : gcl[3]? = some (RX3, TX3, 2) := rfl
theorem gcX4 : gcl[4]? = some (RX4, TX4, 3) := rfl
theorem gcX5 : gcl[5]? = some (RX5, TX5, 2) := rfl
theorem gcX6 : gcl[6]? = some (RX6, TX6, 1) := rfl
theorem gcX7 : gcl[7]? = some (RX7, TX7, 2) := rfl
theorem gcX8 : gcl[8]? = some (RX8, TX8, 2) := rfl
theorem gcX9 : gcl[9]? = some (RX9, TX9, 10) := rfl
theorem gcX10 : gcl[10]? = some (RX10, TX10, 9) := rfl
theorem gcX11 : gcl[11]? = some (RX11, TX11, 33) := rfl
def isN : Cond → Bool
  | .fieldLinkNest .. => true
  | .methodLinkNest .. => true
  | .arrayOver _ => true
  | _ => false
theorem lw_gi {y : MethodName} {cc : ByteArray} {nL : Nat} {ret : Option FieldType} (h : Cond.code y cc nL ret ∈ lw_g) : GoodIn lw_g (Cond.code y cc nL ret :: lw_g) := by
  intro w hw
  rcases List.mem_cons.mp hw with e | h'
  · subst e; exact ⟨h, good_of_word (List.mem_filter.mp h).2⟩
  · exact ⟨h', good_of_word (List.mem_filter.mp h').2⟩
/-- the words of nest mates, and that arrays of arrays have been made: they go with the state -/
def nwS (U : State) : Prop := ∀ w ∈ lw_tbl, isN w = true → w.before #[] U = true
theorem nwS.same {u U : State} (h : u.vm = U.vm) (q : nwS u) : nwS U := by
  intro w hw hi
  have h1 := q w hw hi
  cases w <;> first | (exact va_Nw.same rfl h h1) | (simp [isN] at hi; done) | skip
  rename_i ty
  have h2 := Cond.arrayOver_setVmC (args := #[]) (s := u) (vm' := U.vm) (by rw [h]; exact Vm.Alike.refl _) ty
  rw [← h2] at h1
  exact h1
theorem nwS.warm {s U : State} (hW : s.WarmedH U.vm) (q : nwS s) : nwS U := by
  intro w hw hi
  have h1 := q w hw hi
  cases w <;> first | (exact va_Nw.warmF hW h1) | (exact va_Nw.warmM hW h1) | (simp [isN] at hi; done) | skip
  rename_i ty
  have h2 := Cond.arrayOver_setVmC (args := #[]) (s := s) (vm' := U.vm) hW.alike ty
  rw [← h2] at h1
  exact h1
