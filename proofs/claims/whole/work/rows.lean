section
-- ===== PART A: goes FIRST, ahead of the names: the tables' words, and 'selects' of the private methods out of them =====
/-- a private method of a class that the tables say can be made, by its rows of tables_1 -/
def lw_okq (q : MethodName × Nat) : Prop := (q.1.cls ≠ "java/lang/invoke/MethodHandle" ∧ q.1.cls ≠ "java/lang/invoke/VarHandle") ∧ Cond.instantiable q.1.cls q.2 ∈ tables_1 ∧ Cond.privateMethod q.1 ∈ tables_1 ∧ Cond.instanceMethod q.1 ∈ tables_1
theorem lw_p0 : lw_okq (⟨"LadderMaker", "sheetRefusal", "(I)I"⟩, 9) := ⟨⟨by decide +kernel, by decide +kernel⟩, List.mem_of_getElem? (i := 16) (by decide +kernel), List.mem_of_getElem? (i := 324) (by decide +kernel), List.mem_of_getElem? (i := 325) (by decide +kernel)⟩
theorem lw_p1 : lw_okq (⟨"LadderMaker", "finding", "(I)I"⟩, 9) := ⟨⟨by decide +kernel, by decide +kernel⟩, List.mem_of_getElem? (i := 16) (by decide +kernel), List.mem_of_getElem? (i := 341) (by decide +kernel), List.mem_of_getElem? (i := 342) (by decide +kernel)⟩
theorem lw_p2 : lw_okq (⟨"LadderMaker$Reactance", "halfValue", "(LLadderMaker$Polynomial;III)J"⟩, 2) := ⟨⟨by decide +kernel, by decide +kernel⟩, List.mem_of_getElem? (i := 205) (by decide +kernel), List.mem_of_getElem? (i := 381) (by decide +kernel), List.mem_of_getElem? (i := 382) (by decide +kernel)⟩
theorem lw_p3 : lw_okq (⟨"LadderMaker", "ladderChanged", "()V"⟩, 9) := ⟨⟨by decide +kernel, by decide +kernel⟩, List.mem_of_getElem? (i := 16) (by decide +kernel), List.mem_of_getElem? (i := 416) (by decide +kernel), List.mem_of_getElem? (i := 417) (by decide +kernel)⟩
theorem lw_p4 : lw_okq (⟨"LadderMaker$Folder", "loadArm", "(LLadderMaker$Ladder;I)V"⟩, 3) := ⟨⟨by decide +kernel, by decide +kernel⟩, List.mem_of_getElem? (i := 73) (by decide +kernel), List.mem_of_getElem? (i := 434) (by decide +kernel), List.mem_of_getElem? (i := 435) (by decide +kernel)⟩
theorem lw_p5 : lw_okq (⟨"LadderMaker$Folder", "addArm", "()V"⟩, 3) := ⟨⟨by decide +kernel, by decide +kernel⟩, List.mem_of_getElem? (i := 73) (by decide +kernel), List.mem_of_getElem? (i := 439) (by decide +kernel), List.mem_of_getElem? (i := 440) (by decide +kernel)⟩
theorem lw_p6 : lw_okq (⟨"LadderMaker$Bill", "addPart", "(III)V"⟩, 2) := ⟨⟨by decide +kernel, by decide +kernel⟩, List.mem_of_getElem? (i := 155) (by decide +kernel), List.mem_of_getElem? (i := 474) (by decide +kernel), List.mem_of_getElem? (i := 475) (by decide +kernel)⟩
theorem lw_p7 : lw_okq (⟨"LadderMaker$Unfolder", "divideOn", "(Z)I"⟩, 10) := ⟨⟨by decide +kernel, by decide +kernel⟩, List.mem_of_getElem? (i := 92) (by decide +kernel), List.mem_of_getElem? (i := 503) (by decide +kernel), List.mem_of_getElem? (i := 504) (by decide +kernel)⟩
theorem lw_p8 : lw_okq (⟨"LadderMaker$Unfolder", "addRising", "(I)V"⟩, 10) := ⟨⟨by decide +kernel, by decide +kernel⟩, List.mem_of_getElem? (i := 92) (by decide +kernel), List.mem_of_getElem? (i := 523) (by decide +kernel), List.mem_of_getElem? (i := 524) (by decide +kernel)⟩
theorem lw_p9 : lw_okq (⟨"LadderMaker$Unfolder", "addFalling", "(I)V"⟩, 10) := ⟨⟨by decide +kernel, by decide +kernel⟩, List.mem_of_getElem? (i := 92) (by decide +kernel), List.mem_of_getElem? (i := 528) (by decide +kernel), List.mem_of_getElem? (i := 529) (by decide +kernel)⟩
theorem lw_p10 : lw_okq (⟨"LadderMaker$Unfolder", "divideByPoles", "(I)I"⟩, 10) := ⟨⟨by decide +kernel, by decide +kernel⟩, List.mem_of_getElem? (i := 92) (by decide +kernel), List.mem_of_getElem? (i := 543) (by decide +kernel), List.mem_of_getElem? (i := 544) (by decide +kernel)⟩
theorem lw_p11 : lw_okq (⟨"LadderMaker$Unfolder", "loadInX", "()V"⟩, 10) := ⟨⟨by decide +kernel, by decide +kernel⟩, List.mem_of_getElem? (i := 92) (by decide +kernel), List.mem_of_getElem? (i := 547) (by decide +kernel), List.mem_of_getElem? (i := 548) (by decide +kernel)⟩
theorem lw_p12 : lw_okq (⟨"LadderMaker$Unfolder", "findRoots", "()V"⟩, 10) := ⟨⟨by decide +kernel, by decide +kernel⟩, List.mem_of_getElem? (i := 92) (by decide +kernel), List.mem_of_getElem? (i := 556) (by decide +kernel), List.mem_of_getElem? (i := 557) (by decide +kernel)⟩
theorem lw_p13 : lw_okq (⟨"LadderMaker$Unfolder", "timesInRest", "(II)I"⟩, 10) := ⟨⟨by decide +kernel, by decide +kernel⟩, List.mem_of_getElem? (i := 92) (by decide +kernel), List.mem_of_getElem? (i := 563) (by decide +kernel), List.mem_of_getElem? (i := 564) (by decide +kernel)⟩
theorem lw_p14 : lw_okq (⟨"LadderMaker$Unfolder", "addRoot", "(III)V"⟩, 10) := ⟨⟨by decide +kernel, by decide +kernel⟩, List.mem_of_getElem? (i := 92) (by decide +kernel), List.mem_of_getElem? (i := 571) (by decide +kernel), List.mem_of_getElem? (i := 572) (by decide +kernel)⟩
theorem lw_p15 : lw_okq (⟨"LadderMaker$Unfolder", "poleAtGreatest", "(I)I"⟩, 10) := ⟨⟨by decide +kernel, by decide +kernel⟩, List.mem_of_getElem? (i := 92) (by decide +kernel), List.mem_of_getElem? (i := 575) (by decide +kernel), List.mem_of_getElem? (i := 576) (by decide +kernel)⟩
def lw_privs_1 : List (MethodName × Nat) := [(⟨"LadderMaker", "sheetRefusal", "(I)I"⟩, 9), (⟨"LadderMaker", "finding", "(I)I"⟩, 9), (⟨"LadderMaker$Reactance", "halfValue", "(LLadderMaker$Polynomial;III)J"⟩, 2), (⟨"LadderMaker", "ladderChanged", "()V"⟩, 9), (⟨"LadderMaker$Folder", "loadArm", "(LLadderMaker$Ladder;I)V"⟩, 3), (⟨"LadderMaker$Folder", "addArm", "()V"⟩, 3), (⟨"LadderMaker$Bill", "addPart", "(III)V"⟩, 2), (⟨"LadderMaker$Unfolder", "divideOn", "(Z)I"⟩, 10), (⟨"LadderMaker$Unfolder", "addRising", "(I)V"⟩, 10), (⟨"LadderMaker$Unfolder", "addFalling", "(I)V"⟩, 10), (⟨"LadderMaker$Unfolder", "divideByPoles", "(I)I"⟩, 10), (⟨"LadderMaker$Unfolder", "loadInX", "()V"⟩, 10), (⟨"LadderMaker$Unfolder", "findRoots", "()V"⟩, 10), (⟨"LadderMaker$Unfolder", "timesInRest", "(II)I"⟩, 10), (⟨"LadderMaker$Unfolder", "addRoot", "(III)V"⟩, 10), (⟨"LadderMaker$Unfolder", "poleAtGreatest", "(I)I"⟩, 10)]
theorem lw_r1 : ∀ q ∈ lw_privs_1, lw_okq q := List.forall_mem_cons.mpr ⟨lw_p0, List.forall_mem_cons.mpr ⟨lw_p1, List.forall_mem_cons.mpr ⟨lw_p2, List.forall_mem_cons.mpr ⟨lw_p3, List.forall_mem_cons.mpr ⟨lw_p4, List.forall_mem_cons.mpr ⟨lw_p5, List.forall_mem_cons.mpr ⟨lw_p6, List.forall_mem_cons.mpr ⟨lw_p7, List.forall_mem_cons.mpr ⟨lw_p8, List.forall_mem_cons.mpr ⟨lw_p9, List.forall_mem_cons.mpr ⟨lw_p10, List.forall_mem_cons.mpr ⟨lw_p11, List.forall_mem_cons.mpr ⟨lw_p12, List.forall_mem_cons.mpr ⟨lw_p13, List.forall_mem_cons.mpr ⟨lw_p14, List.forall_mem_cons.mpr ⟨lw_p15, fun _ h => absurd h List.not_mem_nil⟩⟩⟩⟩⟩⟩⟩⟩⟩⟩⟩⟩⟩⟩⟩⟩
theorem lw_p16 : lw_okq (⟨"LadderMaker$Unfolder", "poleAtZero", "(I)I"⟩, 10) := ⟨⟨by decide +kernel, by decide +kernel⟩, List.mem_of_getElem? (i := 92) (by decide +kernel), List.mem_of_getElem? (i := 579) (by decide +kernel), List.mem_of_getElem? (i := 580) (by decide +kernel)⟩
theorem lw_p17 : lw_okq (⟨"LadderMaker$Unfolder", "poleAtRoot", "(II)I"⟩, 10) := ⟨⟨by decide +kernel, by decide +kernel⟩, List.mem_of_getElem? (i := 92) (by decide +kernel), List.mem_of_getElem? (i := 583) (by decide +kernel), List.mem_of_getElem? (i := 584) (by decide +kernel)⟩
theorem lw_p18 : lw_okq (⟨"LadderMaker$Unfolder", "addBoth", "(I)V"⟩, 10) := ⟨⟨by decide +kernel, by decide +kernel⟩, List.mem_of_getElem? (i := 92) (by decide +kernel), List.mem_of_getElem? (i := 587) (by decide +kernel), List.mem_of_getElem? (i := 588) (by decide +kernel)⟩
theorem lw_p19 : lw_okq (⟨"LadderMaker$Memory", "isSought", "(I)Z"⟩, 3) := ⟨⟨by decide +kernel, by decide +kernel⟩, List.mem_of_getElem? (i := 170) (by decide +kernel), List.mem_of_getElem? (i := 651) (by decide +kernel), List.mem_of_getElem? (i := 652) (by decide +kernel)⟩
theorem lw_p20 : lw_okq (⟨"LadderMaker", "itemRefusal", "(II)I"⟩, 9) := ⟨⟨by decide +kernel, by decide +kernel⟩, List.mem_of_getElem? (i := 16) (by decide +kernel), List.mem_of_getElem? (i := 700) (by decide +kernel), List.mem_of_getElem? (i := 701) (by decide +kernel)⟩
theorem lw_p21 : lw_okq (⟨"LadderMaker", "digestOfRows", "(J)J"⟩, 9) := ⟨⟨by decide +kernel, by decide +kernel⟩, List.mem_of_getElem? (i := 16) (by decide +kernel), List.mem_of_getElem? (i := 754) (by decide +kernel), List.mem_of_getElem? (i := 755) (by decide +kernel)⟩
theorem lw_p22 : lw_okq (⟨"LadderMakerModel", "finds", "(I)I"⟩, 33) := ⟨⟨by decide +kernel, by decide +kernel⟩, List.mem_of_getElem? (i := 763) (by decide +kernel), List.mem_of_getElem? (i := 880) (by decide +kernel), List.mem_of_getElem? (i := 881) (by decide +kernel)⟩
theorem lw_p23 : lw_okq (⟨"LadderMakerModel", "lacks", "(II)I"⟩, 33) := ⟨⟨by decide +kernel, by decide +kernel⟩, List.mem_of_getElem? (i := 763) (by decide +kernel), List.mem_of_getElem? (i := 892) (by decide +kernel), List.mem_of_getElem? (i := 893) (by decide +kernel)⟩
theorem lw_p24 : lw_okq (⟨"LadderMakerModel", "isLawful", "()Z"⟩, 33) := ⟨⟨by decide +kernel, by decide +kernel⟩, List.mem_of_getElem? (i := 763) (by decide +kernel), List.mem_of_getElem? (i := 927) (by decide +kernel), List.mem_of_getElem? (i := 928) (by decide +kernel)⟩
theorem lw_p25 : lw_okq (⟨"LadderMakerModel", "sort", "(I)I"⟩, 33) := ⟨⟨by decide +kernel, by decide +kernel⟩, List.mem_of_getElem? (i := 763) (by decide +kernel), List.mem_of_getElem? (i := 931) (by decide +kernel), List.mem_of_getElem? (i := 932) (by decide +kernel)⟩
theorem lw_p26 : lw_okq (⟨"LadderMakerModel", "degree", "(I)I"⟩, 33) := ⟨⟨by decide +kernel, by decide +kernel⟩, List.mem_of_getElem? (i := 763) (by decide +kernel), List.mem_of_getElem? (i := 939) (by decide +kernel), List.mem_of_getElem? (i := 940) (by decide +kernel)⟩
theorem lw_p27 : lw_okq (⟨"LadderMakerModel", "infoBy", "(I)I"⟩, 33) := ⟨⟨by decide +kernel, by decide +kernel⟩, List.mem_of_getElem? (i := 763) (by decide +kernel), List.mem_of_getElem? (i := 956) (by decide +kernel), List.mem_of_getElem? (i := 957) (by decide +kernel)⟩
theorem lw_p28 : lw_okq (⟨"LadderMakerModel", "lowest", "(I)I"⟩, 33) := ⟨⟨by decide +kernel, by decide +kernel⟩, List.mem_of_getElem? (i := 763) (by decide +kernel), List.mem_of_getElem? (i := 960) (by decide +kernel), List.mem_of_getElem? (i := 961) (by decide +kernel)⟩
theorem lw_p29 : lw_okq (⟨"LadderMakerModel", "reactanceBy", "(III)J"⟩, 33) := ⟨⟨by decide +kernel, by decide +kernel⟩, List.mem_of_getElem? (i := 763) (by decide +kernel), List.mem_of_getElem? (i := 968) (by decide +kernel), List.mem_of_getElem? (i := 969) (by decide +kernel)⟩
theorem lw_p30 : lw_okq (⟨"LadderMakerModel", "turnedValue", "(III)J"⟩, 33) := ⟨⟨by decide +kernel, by decide +kernel⟩, List.mem_of_getElem? (i := 763) (by decide +kernel), List.mem_of_getElem? (i := 972) (by decide +kernel), List.mem_of_getElem? (i := 973) (by decide +kernel)⟩
theorem lw_p31 : lw_okq (⟨"LadderMakerModel", "unfolds", "(I)I"⟩, 33) := ⟨⟨by decide +kernel, by decide +kernel⟩, List.mem_of_getElem? (i := 763) (by decide +kernel), List.mem_of_getElem? (i := 1002) (by decide +kernel), List.mem_of_getElem? (i := 1003) (by decide +kernel)⟩
def lw_privs_2 : List (MethodName × Nat) := [(⟨"LadderMaker$Unfolder", "poleAtZero", "(I)I"⟩, 10), (⟨"LadderMaker$Unfolder", "poleAtRoot", "(II)I"⟩, 10), (⟨"LadderMaker$Unfolder", "addBoth", "(I)V"⟩, 10), (⟨"LadderMaker$Memory", "isSought", "(I)Z"⟩, 3), (⟨"LadderMaker", "itemRefusal", "(II)I"⟩, 9), (⟨"LadderMaker", "digestOfRows", "(J)J"⟩, 9), (⟨"LadderMakerModel", "finds", "(I)I"⟩, 33), (⟨"LadderMakerModel", "lacks", "(II)I"⟩, 33), (⟨"LadderMakerModel", "isLawful", "()Z"⟩, 33), (⟨"LadderMakerModel", "sort", "(I)I"⟩, 33), (⟨"LadderMakerModel", "degree", "(I)I"⟩, 33), (⟨"LadderMakerModel", "infoBy", "(I)I"⟩, 33), (⟨"LadderMakerModel", "lowest", "(I)I"⟩, 33), (⟨"LadderMakerModel", "reactanceBy", "(III)J"⟩, 33), (⟨"LadderMakerModel", "turnedValue", "(III)J"⟩, 33), (⟨"LadderMakerModel", "unfolds", "(I)I"⟩, 33)]
theorem lw_r2 : ∀ q ∈ lw_privs_2, lw_okq q := List.forall_mem_cons.mpr ⟨lw_p16, List.forall_mem_cons.mpr ⟨lw_p17, List.forall_mem_cons.mpr ⟨lw_p18, List.forall_mem_cons.mpr ⟨lw_p19, List.forall_mem_cons.mpr ⟨lw_p20, List.forall_mem_cons.mpr ⟨lw_p21, List.forall_mem_cons.mpr ⟨lw_p22, List.forall_mem_cons.mpr ⟨lw_p23, List.forall_mem_cons.mpr ⟨lw_p24, List.forall_mem_cons.mpr ⟨lw_p25, List.forall_mem_cons.mpr ⟨lw_p26, List.forall_mem_cons.mpr ⟨lw_p27, List.forall_mem_cons.mpr ⟨lw_p28, List.forall_mem_cons.mpr ⟨lw_p29, List.forall_mem_cons.mpr ⟨lw_p30, List.forall_mem_cons.mpr ⟨lw_p31, fun _ h => absurd h List.not_mem_nil⟩⟩⟩⟩⟩⟩⟩⟩⟩⟩⟩⟩⟩⟩⟩⟩
theorem lw_p32 : lw_okq (⟨"LadderMakerModel", "divides", "(I)I"⟩, 33) := ⟨⟨by decide +kernel, by decide +kernel⟩, List.mem_of_getElem? (i := 763) (by decide +kernel), List.mem_of_getElem? (i := 1006) (by decide +kernel), List.mem_of_getElem? (i := 1007) (by decide +kernel)⟩
theorem lw_p33 : lw_okq (⟨"LadderMakerModel", "swaps", "()V"⟩, 33) := ⟨⟨by decide +kernel, by decide +kernel⟩, List.mem_of_getElem? (i := 763) (by decide +kernel), List.mem_of_getElem? (i := 1013) (by decide +kernel), List.mem_of_getElem? (i := 1014) (by decide +kernel)⟩
theorem lw_p34 : lw_okq (⟨"LadderMakerModel", "scales", "(JJJJ)V"⟩, 33) := ⟨⟨by decide +kernel, by decide +kernel⟩, List.mem_of_getElem? (i := 763) (by decide +kernel), List.mem_of_getElem? (i := 1020) (by decide +kernel), List.mem_of_getElem? (i := 1021) (by decide +kernel)⟩
theorem lw_p35 : lw_okq (⟨"LadderMakerModel", "dividesOnce", "(III)I"⟩, 33) := ⟨⟨by decide +kernel, by decide +kernel⟩, List.mem_of_getElem? (i := 763) (by decide +kernel), List.mem_of_getElem? (i := 1024) (by decide +kernel), List.mem_of_getElem? (i := 1025) (by decide +kernel)⟩
theorem lw_p36 : lw_okq (⟨"LadderMakerModel", "takes", "(JJ)V"⟩, 33) := ⟨⟨by decide +kernel, by decide +kernel⟩, List.mem_of_getElem? (i := 763) (by decide +kernel), List.mem_of_getElem? (i := 1028) (by decide +kernel), List.mem_of_getElem? (i := 1029) (by decide +kernel)⟩
theorem lw_p37 : lw_okq (⟨"LadderMakerModel", "isHandy", "()Z"⟩, 33) := ⟨⟨by decide +kernel, by decide +kernel⟩, List.mem_of_getElem? (i := 763) (by decide +kernel), List.mem_of_getElem? (i := 1032) (by decide +kernel), List.mem_of_getElem? (i := 1033) (by decide +kernel)⟩
theorem lw_p38 : lw_okq (⟨"LadderMakerModel", "makes", "(I)V"⟩, 33) := ⟨⟨by decide +kernel, by decide +kernel⟩, List.mem_of_getElem? (i := 763) (by decide +kernel), List.mem_of_getElem? (i := 1037) (by decide +kernel), List.mem_of_getElem? (i := 1038) (by decide +kernel)⟩
theorem lw_p39 : lw_okq (⟨"LadderMakerModel", "lays", "(I)V"⟩, 33) := ⟨⟨by decide +kernel, by decide +kernel⟩, List.mem_of_getElem? (i := 763) (by decide +kernel), List.mem_of_getElem? (i := 1041) (by decide +kernel), List.mem_of_getElem? (i := 1042) (by decide +kernel)⟩
theorem lw_p40 : lw_okq (⟨"LadderMakerModel", "byRoots", "(I)I"⟩, 33) := ⟨⟨by decide +kernel, by decide +kernel⟩, List.mem_of_getElem? (i := 763) (by decide +kernel), List.mem_of_getElem? (i := 1045) (by decide +kernel), List.mem_of_getElem? (i := 1046) (by decide +kernel)⟩
theorem lw_p41 : lw_okq (⟨"LadderMakerModel", "candidates", "()V"⟩, 33) := ⟨⟨by decide +kernel, by decide +kernel⟩, List.mem_of_getElem? (i := 763) (by decide +kernel), List.mem_of_getElem? (i := 1049) (by decide +kernel), List.mem_of_getElem? (i := 1050) (by decide +kernel)⟩
theorem lw_p42 : lw_okq (⟨"LadderMakerModel", "squares", "(IZ[J)V"⟩, 33) := ⟨⟨by decide +kernel, by decide +kernel⟩, List.mem_of_getElem? (i := 763) (by decide +kernel), List.mem_of_getElem? (i := 1056) (by decide +kernel), List.mem_of_getElem? (i := 1057) (by decide +kernel)⟩
theorem lw_p43 : lw_okq (⟨"LadderMakerModel", "isDark", "()Z"⟩, 33) := ⟨⟨by decide +kernel, by decide +kernel⟩, List.mem_of_getElem? (i := 763) (by decide +kernel), List.mem_of_getElem? (i := 1063) (by decide +kernel), List.mem_of_getElem? (i := 1064) (by decide +kernel)⟩
theorem lw_p44 : lw_okq (⟨"LadderMakerModel", "takesOut", "(JJ)Z"⟩, 33) := ⟨⟨by decide +kernel, by decide +kernel⟩, List.mem_of_getElem? (i := 763) (by decide +kernel), List.mem_of_getElem? (i := 1067) (by decide +kernel), List.mem_of_getElem? (i := 1068) (by decide +kernel)⟩
theorem lw_p45 : lw_okq (⟨"LadderMakerModel", "ends", "(I)I"⟩, 33) := ⟨⟨by decide +kernel, by decide +kernel⟩, List.mem_of_getElem? (i := 763) (by decide +kernel), List.mem_of_getElem? (i := 1074) (by decide +kernel), List.mem_of_getElem? (i := 1075) (by decide +kernel)⟩
theorem lw_p46 : lw_okq (⟨"LadderMakerModel", "alone", "(IIIJJ)I"⟩, 33) := ⟨⟨by decide +kernel, by decide +kernel⟩, List.mem_of_getElem? (i := 763) (by decide +kernel), List.mem_of_getElem? (i := 1078) (by decide +kernel), List.mem_of_getElem? (i := 1079) (by decide +kernel)⟩
theorem lw_p47 : lw_okq (⟨"LadderMakerModel", "slopes", "()V"⟩, 33) := ⟨⟨by decide +kernel, by decide +kernel⟩, List.mem_of_getElem? (i := 763) (by decide +kernel), List.mem_of_getElem? (i := 1082) (by decide +kernel), List.mem_of_getElem? (i := 1083) (by decide +kernel)⟩
def lw_privs_3 : List (MethodName × Nat) := [(⟨"LadderMakerModel", "divides", "(I)I"⟩, 33), (⟨"LadderMakerModel", "swaps", "()V"⟩, 33), (⟨"LadderMakerModel", "scales", "(JJJJ)V"⟩, 33), (⟨"LadderMakerModel", "dividesOnce", "(III)I"⟩, 33), (⟨"LadderMakerModel", "takes", "(JJ)V"⟩, 33), (⟨"LadderMakerModel", "isHandy", "()Z"⟩, 33), (⟨"LadderMakerModel", "makes", "(I)V"⟩, 33), (⟨"LadderMakerModel", "lays", "(I)V"⟩, 33), (⟨"LadderMakerModel", "byRoots", "(I)I"⟩, 33), (⟨"LadderMakerModel", "candidates", "()V"⟩, 33), (⟨"LadderMakerModel", "squares", "(IZ[J)V"⟩, 33), (⟨"LadderMakerModel", "isDark", "()Z"⟩, 33), (⟨"LadderMakerModel", "takesOut", "(JJ)Z"⟩, 33), (⟨"LadderMakerModel", "ends", "(I)I"⟩, 33), (⟨"LadderMakerModel", "alone", "(IIIJJ)I"⟩, 33), (⟨"LadderMakerModel", "slopes", "()V"⟩, 33)]
theorem lw_r3 : ∀ q ∈ lw_privs_3, lw_okq q := List.forall_mem_cons.mpr ⟨lw_p32, List.forall_mem_cons.mpr ⟨lw_p33, List.forall_mem_cons.mpr ⟨lw_p34, List.forall_mem_cons.mpr ⟨lw_p35, List.forall_mem_cons.mpr ⟨lw_p36, List.forall_mem_cons.mpr ⟨lw_p37, List.forall_mem_cons.mpr ⟨lw_p38, List.forall_mem_cons.mpr ⟨lw_p39, List.forall_mem_cons.mpr ⟨lw_p40, List.forall_mem_cons.mpr ⟨lw_p41, List.forall_mem_cons.mpr ⟨lw_p42, List.forall_mem_cons.mpr ⟨lw_p43, List.forall_mem_cons.mpr ⟨lw_p44, List.forall_mem_cons.mpr ⟨lw_p45, List.forall_mem_cons.mpr ⟨lw_p46, List.forall_mem_cons.mpr ⟨lw_p47, fun _ h => absurd h List.not_mem_nil⟩⟩⟩⟩⟩⟩⟩⟩⟩⟩⟩⟩⟩⟩⟩⟩
theorem lw_p48 : lw_okq (⟨"LadderMakerModel", "isRoot", "(I)Z"⟩, 33) := ⟨⟨by decide +kernel, by decide +kernel⟩, List.mem_of_getElem? (i := 763) (by decide +kernel), List.mem_of_getElem? (i := 1086) (by decide +kernel), List.mem_of_getElem? (i := 1087) (by decide +kernel)⟩
theorem lw_p49 : lw_okq (⟨"LadderMakerModel", "rootOnce", "(IIJJ)I"⟩, 33) := ⟨⟨by decide +kernel, by decide +kernel⟩, List.mem_of_getElem? (i := 763) (by decide +kernel), List.mem_of_getElem? (i := 1090) (by decide +kernel), List.mem_of_getElem? (i := 1091) (by decide +kernel)⟩
theorem lw_p50 : lw_okq (⟨"LadderMakerModel", "folds", "()V"⟩, 33) := ⟨⟨by decide +kernel, by decide +kernel⟩, List.mem_of_getElem? (i := 763) (by decide +kernel), List.mem_of_getElem? (i := 1102) (by decide +kernel), List.mem_of_getElem? (i := 1103) (by decide +kernel)⟩
theorem lw_p51 : lw_okq (⟨"LadderMakerModel", "armOf", "(I)V"⟩, 33) := ⟨⟨by decide +kernel, by decide +kernel⟩, List.mem_of_getElem? (i := 763) (by decide +kernel), List.mem_of_getElem? (i := 1106) (by decide +kernel), List.mem_of_getElem? (i := 1107) (by decide +kernel)⟩
theorem lw_p52 : lw_okq (⟨"LadderMakerModel", "turnsOver", "()V"⟩, 33) := ⟨⟨by decide +kernel, by decide +kernel⟩, List.mem_of_getElem? (i := 763) (by decide +kernel), List.mem_of_getElem? (i := 1110) (by decide +kernel), List.mem_of_getElem? (i := 1111) (by decide +kernel)⟩
theorem lw_p53 : lw_okq (⟨"LadderMakerModel", "adds", "()V"⟩, 33) := ⟨⟨by decide +kernel, by decide +kernel⟩, List.mem_of_getElem? (i := 763) (by decide +kernel), List.mem_of_getElem? (i := 1114) (by decide +kernel), List.mem_of_getElem? (i := 1115) (by decide +kernel)⟩
theorem lw_p54 : lw_okq (⟨"LadderMakerModel", "asPair", "()V"⟩, 33) := ⟨⟨by decide +kernel, by decide +kernel⟩, List.mem_of_getElem? (i := 763) (by decide +kernel), List.mem_of_getElem? (i := 1118) (by decide +kernel), List.mem_of_getElem? (i := 1119) (by decide +kernel)⟩
theorem lw_p55 : lw_okq (⟨"LadderMakerModel", "foldBy", "(II)J"⟩, 33) := ⟨⟨by decide +kernel, by decide +kernel⟩, List.mem_of_getElem? (i := 763) (by decide +kernel), List.mem_of_getElem? (i := 1122) (by decide +kernel), List.mem_of_getElem? (i := 1123) (by decide +kernel)⟩
theorem lw_p56 : lw_okq (⟨"LadderMakerModel", "alikeNow", "()I"⟩, 33) := ⟨⟨by decide +kernel, by decide +kernel⟩, List.mem_of_getElem? (i := 763) (by decide +kernel), List.mem_of_getElem? (i := 1130) (by decide +kernel), List.mem_of_getElem? (i := 1131) (by decide +kernel)⟩
theorem lw_p57 : lw_okq (⟨"LadderMakerModel", "parts", "(Z)I"⟩, 33) := ⟨⟨by decide +kernel, by decide +kernel⟩, List.mem_of_getElem? (i := 763) (by decide +kernel), List.mem_of_getElem? (i := 1143) (by decide +kernel), List.mem_of_getElem? (i := 1144) (by decide +kernel)⟩
theorem lw_p58 : lw_okq (⟨"LadderMakerModel", "isFirst", "(IZ)Z"⟩, 33) := ⟨⟨by decide +kernel, by decide +kernel⟩, List.mem_of_getElem? (i := 763) (by decide +kernel), List.mem_of_getElem? (i := 1147) (by decide +kernel), List.mem_of_getElem? (i := 1148) (by decide +kernel)⟩
theorem lw_p59 : lw_okq (⟨"LadderMakerModel", "partUp", "(I)I"⟩, 33) := ⟨⟨by decide +kernel, by decide +kernel⟩, List.mem_of_getElem? (i := 763) (by decide +kernel), List.mem_of_getElem? (i := 1151) (by decide +kernel), List.mem_of_getElem? (i := 1152) (by decide +kernel)⟩
theorem lw_p60 : lw_okq (⟨"LadderMakerModel", "isLike", "(IIZ)Z"⟩, 33) := ⟨⟨by decide +kernel, by decide +kernel⟩, List.mem_of_getElem? (i := 763) (by decide +kernel), List.mem_of_getElem? (i := 1155) (by decide +kernel), List.mem_of_getElem? (i := 1156) (by decide +kernel)⟩
theorem lw_p61 : lw_okq (⟨"LadderMakerModel", "partDown", "(I)I"⟩, 33) := ⟨⟨by decide +kernel, by decide +kernel⟩, List.mem_of_getElem? (i := 763) (by decide +kernel), List.mem_of_getElem? (i := 1159) (by decide +kernel), List.mem_of_getElem? (i := 1160) (by decide +kernel)⟩
theorem lw_p62 : lw_okq (⟨"LadderMakerModel", "nthPart", "(I)I"⟩, 33) := ⟨⟨by decide +kernel, by decide +kernel⟩, List.mem_of_getElem? (i := 763) (by decide +kernel), List.mem_of_getElem? (i := 1163) (by decide +kernel), List.mem_of_getElem? (i := 1164) (by decide +kernel)⟩
theorem lw_p63 : lw_okq (⟨"LadderMakerModel", "billBy", "(II)I"⟩, 33) := ⟨⟨by decide +kernel, by decide +kernel⟩, List.mem_of_getElem? (i := 763) (by decide +kernel), List.mem_of_getElem? (i := 1167) (by decide +kernel), List.mem_of_getElem? (i := 1168) (by decide +kernel)⟩
def lw_privs_4 : List (MethodName × Nat) := [(⟨"LadderMakerModel", "isRoot", "(I)Z"⟩, 33), (⟨"LadderMakerModel", "rootOnce", "(IIJJ)I"⟩, 33), (⟨"LadderMakerModel", "folds", "()V"⟩, 33), (⟨"LadderMakerModel", "armOf", "(I)V"⟩, 33), (⟨"LadderMakerModel", "turnsOver", "()V"⟩, 33), (⟨"LadderMakerModel", "adds", "()V"⟩, 33), (⟨"LadderMakerModel", "asPair", "()V"⟩, 33), (⟨"LadderMakerModel", "foldBy", "(II)J"⟩, 33), (⟨"LadderMakerModel", "alikeNow", "()I"⟩, 33), (⟨"LadderMakerModel", "parts", "(Z)I"⟩, 33), (⟨"LadderMakerModel", "isFirst", "(IZ)Z"⟩, 33), (⟨"LadderMakerModel", "partUp", "(I)I"⟩, 33), (⟨"LadderMakerModel", "isLike", "(IIZ)Z"⟩, 33), (⟨"LadderMakerModel", "partDown", "(I)I"⟩, 33), (⟨"LadderMakerModel", "nthPart", "(I)I"⟩, 33), (⟨"LadderMakerModel", "billBy", "(II)I"⟩, 33)]
theorem lw_r4 : ∀ q ∈ lw_privs_4, lw_okq q := List.forall_mem_cons.mpr ⟨lw_p48, List.forall_mem_cons.mpr ⟨lw_p49, List.forall_mem_cons.mpr ⟨lw_p50, List.forall_mem_cons.mpr ⟨lw_p51, List.forall_mem_cons.mpr ⟨lw_p52, List.forall_mem_cons.mpr ⟨lw_p53, List.forall_mem_cons.mpr ⟨lw_p54, List.forall_mem_cons.mpr ⟨lw_p55, List.forall_mem_cons.mpr ⟨lw_p56, List.forall_mem_cons.mpr ⟨lw_p57, List.forall_mem_cons.mpr ⟨lw_p58, List.forall_mem_cons.mpr ⟨lw_p59, List.forall_mem_cons.mpr ⟨lw_p60, List.forall_mem_cons.mpr ⟨lw_p61, List.forall_mem_cons.mpr ⟨lw_p62, List.forall_mem_cons.mpr ⟨lw_p63, fun _ h => absurd h List.not_mem_nil⟩⟩⟩⟩⟩⟩⟩⟩⟩⟩⟩⟩⟩⟩⟩⟩
theorem lw_p64 : lw_okq (⟨"LadderMakerModel", "found", "()I"⟩, 33) := ⟨⟨by decide +kernel, by decide +kernel⟩, List.mem_of_getElem? (i := 763) (by decide +kernel), List.mem_of_getElem? (i := 1179) (by decide +kernel), List.mem_of_getElem? (i := 1180) (by decide +kernel)⟩
theorem lw_p65 : lw_okq (⟨"LadderMakerModel", "wishAsPair", "()V"⟩, 33) := ⟨⟨by decide +kernel, by decide +kernel⟩, List.mem_of_getElem? (i := 763) (by decide +kernel), List.mem_of_getElem? (i := 1183) (by decide +kernel), List.mem_of_getElem? (i := 1184) (by decide +kernel)⟩
theorem lw_p66 : lw_okq (⟨"LadderMakerModel", "keptBy", "(II)I"⟩, 33) := ⟨⟨by decide +kernel, by decide +kernel⟩, List.mem_of_getElem? (i := 763) (by decide +kernel), List.mem_of_getElem? (i := 1195) (by decide +kernel), List.mem_of_getElem? (i := 1196) (by decide +kernel)⟩
theorem lw_p67 : lw_okq (⟨"LadderMakerModel", "keptAll", "()I"⟩, 33) := ⟨⟨by decide +kernel, by decide +kernel⟩, List.mem_of_getElem? (i := 763) (by decide +kernel), List.mem_of_getElem? (i := 1214) (by decide +kernel), List.mem_of_getElem? (i := 1215) (by decide +kernel)⟩
theorem lw_p68 : lw_okq (⟨"LadderMakerModel", "sheets", "()I"⟩, 33) := ⟨⟨by decide +kernel, by decide +kernel⟩, List.mem_of_getElem? (i := 763) (by decide +kernel), List.mem_of_getElem? (i := 1219) (by decide +kernel), List.mem_of_getElem? (i := 1220) (by decide +kernel)⟩
theorem lw_p69 : lw_okq (⟨"LadderMakerModel", "ladderTells", "(J)J"⟩, 33) := ⟨⟨by decide +kernel, by decide +kernel⟩, List.mem_of_getElem? (i := 763) (by decide +kernel), List.mem_of_getElem? (i := 1230) (by decide +kernel), List.mem_of_getElem? (i := 1231) (by decide +kernel)⟩
def lw_privs_5 : List (MethodName × Nat) := [(⟨"LadderMakerModel", "found", "()I"⟩, 33), (⟨"LadderMakerModel", "wishAsPair", "()V"⟩, 33), (⟨"LadderMakerModel", "keptBy", "(II)I"⟩, 33), (⟨"LadderMakerModel", "keptAll", "()I"⟩, 33), (⟨"LadderMakerModel", "sheets", "()I"⟩, 33), (⟨"LadderMakerModel", "ladderTells", "(J)J"⟩, 33)]
theorem lw_r5 : ∀ q ∈ lw_privs_5, lw_okq q := List.forall_mem_cons.mpr ⟨lw_p64, List.forall_mem_cons.mpr ⟨lw_p65, List.forall_mem_cons.mpr ⟨lw_p66, List.forall_mem_cons.mpr ⟨lw_p67, List.forall_mem_cons.mpr ⟨lw_p68, List.forall_mem_cons.mpr ⟨lw_p69, fun _ h => absurd h List.not_mem_nil⟩⟩⟩⟩⟩⟩
def lw_privs : List (MethodName × Nat) := lw_privs_1 ++ (lw_privs_2 ++ (lw_privs_3 ++ (lw_privs_4 ++ (lw_privs_5))))
def lw_tbl : List Cond := k2_sels lw_privs ++ tables_1
theorem lw_privs_ok : ∀ q ∈ lw_privs, lw_okq q := by
  show ∀ q ∈ lw_privs_1 ++ (lw_privs_2 ++ (lw_privs_3 ++ (lw_privs_4 ++ (lw_privs_5)))), lw_okq q
  exact List.forall_mem_append.mpr ⟨lw_r1, List.forall_mem_append.mpr ⟨lw_r2, List.forall_mem_append.mpr ⟨lw_r3, List.forall_mem_append.mpr ⟨lw_r4, lw_r5⟩⟩⟩⟩
def lw_g : List Cond := lw_tbl.filter goodWord
theorem mg_t {w : Cond} (h : w ∈ tables_1) (g : goodWord w = true) : w ∈ lw_g := List.mem_filter.mpr ⟨List.mem_append_right _ h, g⟩
theorem mg_s {w : Cond} (h : w ∈ k2_sels lw_privs) (g : goodWord w = true) : w ∈ lw_g := List.mem_filter.mpr ⟨List.mem_append_left _ h, g⟩
theorem mg_n {w : Cond} (h : w ∈ tables_1) : w ∈ lw_tbl := List.mem_append_right _ h
def RX0 : String := "LadderMaker$Bill"
def TX0 : u_T := fun k => match k with
  | 0 => ("LadderMaker$Bill", "rows", "[[I", true)
  | _ => ("LadderMaker$Bill", "partCount", "I", false)
def tyX0 : Nat → FieldType := fun k => match k with
  | 0 => .array (.array .int)
  | _ => .int
theorem nmX0 : ∀ a, a < 2 → ∀ b, b < 2 → a ≠ b → (TX0 a).2.1 ≠ (TX0 b).2.1 := by decide +kernel
theorem tyX0_ok : ∀ k, k < 2 → parseFieldDescriptor (TX0 k).2.2.1 = some (tyX0 k) := by decide +kernel
theorem inlX0 : u_ws RX0 TX0 2 = [164, 166].filterMap (fun i => tables_1[i]?) := by decide +kernel
theorem ingX0 : (u_ws RX0 TX0 2).all goodWord = true := by decide +kernel
theorem inX0 : ∀ w ∈ u_ws RX0 TX0 2, w ∈ lw_g := by
  intro w hw
  have hg := List.all_eq_true.mp ingX0 w hw
  rw [inlX0] at hw
  obtain ⟨i, -, hi⟩ := List.mem_filterMap.mp hw
  exact mg_t (List.mem_of_getElem? hi) hg
def RX1 : String := "LadderMaker$Folder"
def TX1 : u_T := fun k => match k with
  | 0 => ("LadderMaker$Folder", "folded", "LLadderMaker$Pair;", true)
  | 1 => ("LadderMaker$Folder", "arm", "LLadderMaker$Pair;", true)
  | _ => ("LadderMaker$Folder", "sum", "LLadderMaker$Pair;", true)
def tyX1 : Nat → FieldType := fun k => match k with
  | 0 => .object "LadderMaker$Pair"
  | 1 => .object "LadderMaker$Pair"
  | _ => .object "LadderMaker$Pair"
theorem nmX1 : ∀ a, a < 3 → ∀ b, b < 3 → a ≠ b → (TX1 a).2.1 ≠ (TX1 b).2.1 := by decide +kernel
theorem tyX1_ok : ∀ k, k < 3 → parseFieldDescriptor (TX1 k).2.2.1 = some (tyX1 k) := by decide +kernel
theorem inlX1 : u_ws RX1 TX1 3 = [84, 86, 88].filterMap (fun i => tables_1[i]?) := by decide +kernel
theorem ingX1 : (u_ws RX1 TX1 3).all goodWord = true := by decide +kernel
theorem inX1 : ∀ w ∈ u_ws RX1 TX1 3, w ∈ lw_g := by
  intro w hw
  have hg := List.all_eq_true.mp ingX1 w hw
  rw [inlX1] at hw
  obtain ⟨i, -, hi⟩ := List.mem_filterMap.mp hw
  exact mg_t (List.mem_of_getElem? hi) hg
def RX2 : String := "LadderMaker$Fraction"
def TX2 : u_T := fun k => match k with
  | 0 => ("LadderMaker$Fraction", "above", "J", false)
  | _ => ("LadderMaker$Fraction", "below", "J", false)
def tyX2 : Nat → FieldType := fun k => match k with
  | 0 => .long
  | _ => .long
theorem nmX2 : ∀ a, a < 2 → ∀ b, b < 2 → a ≠ b → (TX2 a).2.1 ≠ (TX2 b).2.1 := by decide +kernel
theorem tyX2_ok : ∀ k, k < 2 → parseFieldDescriptor (TX2 k).2.2.1 = some (tyX2 k) := by decide +kernel
theorem inlX2 : u_ws RX2 TX2 2 = [117, 119].filterMap (fun i => tables_1[i]?) := by decide +kernel
theorem ingX2 : (u_ws RX2 TX2 2).all goodWord = true := by decide +kernel
theorem inX2 : ∀ w ∈ u_ws RX2 TX2 2, w ∈ lw_g := by
  intro w hw
  have hg := List.all_eq_true.mp ingX2 w hw
  rw [inlX2] at hw
  obtain ⟨i, -, hi⟩ := List.mem_filterMap.mp hw
  exact mg_t (List.mem_of_getElem? hi) hg
def RX3 : String := "LadderMaker$Ladder"
def TX3 : u_T := fun k => match k with
  | 0 => ("LadderMaker$Ladder", "arms", "[[I", true)
  | _ => ("LadderMaker$Ladder", "armCount", "I", false)
def tyX3 : Nat → FieldType := fun k => match k with
  | 0 => .array (.array .int)
  | _ => .int
theorem nmX3 : ∀ a, a < 2 → ∀ b, b < 2 → a ≠ b → (TX3 a).2.1 ≠ (TX3 b).2.1 := by decide +kernel
theorem tyX3_ok : ∀ k, k < 2 → parseFieldDescriptor (TX3 k).2.2.1 = some (tyX3 k) := by decide +kernel
theorem inlX3 : u_ws RX3 TX3 2 = [66, 68].filterMap (fun i => tables_1[i]?) := by decide +kernel
theorem ingX3 : (u_ws RX3 TX3 2).all goodWord = true := by decide +kernel
theorem inX3 : ∀ w ∈ u_ws RX3 TX3 2, w ∈ lw_g := by
  intro w hw
  have hg := List.all_eq_true.mp ingX3 w hw
  rw [inlX3] at hw
  obtain ⟨i, -, hi⟩ := List.mem_filterMap.mp hw
  exact mg_t (List.mem_of_getElem? hi) hg
def RX4 : String := "LadderMaker$Memory"
def TX4 : u_T := fun k => match k with
  | 0 => ("LadderMaker$Memory", "rows", "[[I", true)
  | 1 => ("LadderMaker$Memory", "sought", "LLadderMaker$Pair;", true)
  | _ => ("LadderMaker$Memory", "fractionCount", "I", false)
def tyX4 : Nat → FieldType := fun k => match k with
  | 0 => .array (.array .int)
  | 1 => .object "LadderMaker$Pair"
  | _ => .int
theorem nmX4 : ∀ a, a < 3 → ∀ b, b < 3 → a ≠ b → (TX4 a).2.1 ≠ (TX4 b).2.1 := by decide +kernel
theorem tyX4_ok : ∀ k, k < 3 → parseFieldDescriptor (TX4 k).2.2.1 = some (tyX4 k) := by decide +kernel
theorem inlX4 : u_ws RX4 TX4 3 = [182, 184, 186].filterMap (fun i => tables_1[i]?) := by decide +kernel
theorem ingX4 : (u_ws RX4 TX4 3).all goodWord = true := by decide +kernel
theorem inX4 : ∀ w ∈ u_ws RX4 TX4 3, w ∈ lw_g := by
  intro w hw
  have hg := List.all_eq_true.mp ingX4 w hw
  rw [inlX4] at hw
  obtain ⟨i, -, hi⟩ := List.mem_filterMap.mp hw
  exact mg_t (List.mem_of_getElem? hi) hg
def RX5 : String := "LadderMaker$Pair"
def TX5 : u_T := fun k => match k with
  | 0 => ("LadderMaker$Pair", "above", "LLadderMaker$Polynomial;", false)
  | _ => ("LadderMaker$Pair", "below", "LLadderMaker$Polynomial;", false)
def tyX5 : Nat → FieldType := fun k => match k with
  | 0 => .object "LadderMaker$Polynomial"
  | _ => .object "LadderMaker$Polynomial"
theorem nmX5 : ∀ a, a < 2 → ∀ b, b < 2 → a ≠ b → (TX5 a).2.1 ≠ (TX5 b).2.1 := by decide +kernel
theorem tyX5_ok : ∀ k, k < 2 → parseFieldDescriptor (TX5 k).2.2.1 = some (tyX5 k) := by decide +kernel
theorem inlX5 : u_ws RX5 TX5 2 = [48, 50].filterMap (fun i => tables_1[i]?) := by decide +kernel
theorem ingX5 : (u_ws RX5 TX5 2).all goodWord = true := by decide +kernel
theorem inX5 : ∀ w ∈ u_ws RX5 TX5 2, w ∈ lw_g := by
  intro w hw
  have hg := List.all_eq_true.mp ingX5 w hw
  rw [inlX5] at hw
  obtain ⟨i, -, hi⟩ := List.mem_filterMap.mp hw
  exact mg_t (List.mem_of_getElem? hi) hg
def RX6 : String := "LadderMaker$Polynomial"
def TX6 : u_T := fun k => match k with
  | _ => ("LadderMaker$Polynomial", "numbers", "[J", true)
def tyX6 : Nat → FieldType := fun k => match k with
  | _ => .array .long
theorem nmX6 : ∀ a, a < 1 → ∀ b, b < 1 → a ≠ b → (TX6 a).2.1 ≠ (TX6 b).2.1 := by decide +kernel
theorem tyX6_ok : ∀ k, k < 1 → parseFieldDescriptor (TX6 k).2.2.1 = some (tyX6 k) := by decide +kernel
theorem inlX6 : u_ws RX6 TX6 1 = [36].filterMap (fun i => tables_1[i]?) := by decide +kernel
theorem ingX6 : (u_ws RX6 TX6 1).all goodWord = true := by decide +kernel
theorem inX6 : ∀ w ∈ u_ws RX6 TX6 1, w ∈ lw_g := by
  intro w hw
  have hg := List.all_eq_true.mp ingX6 w hw
  rw [inlX6] at hw
  obtain ⟨i, -, hi⟩ := List.mem_filterMap.mp hw
  exact mg_t (List.mem_of_getElem? hi) hg
def RX7 : String := "LadderMaker$Reactance"
def TX7 : u_T := fun k => match k with
  | 0 => ("LadderMaker$Reactance", "inX", "LLadderMaker$Polynomial;", true)
  | _ => ("LadderMaker$Reactance", "result", "LLadderMaker$Fraction;", true)
def tyX7 : Nat → FieldType := fun k => match k with
  | 0 => .object "LadderMaker$Polynomial"
  | _ => .object "LadderMaker$Fraction"
theorem nmX7 : ∀ a, a < 2 → ∀ b, b < 2 → a ≠ b → (TX7 a).2.1 ≠ (TX7 b).2.1 := by decide +kernel
theorem tyX7_ok : ∀ k, k < 2 → parseFieldDescriptor (TX7 k).2.2.1 = some (tyX7 k) := by decide +kernel
theorem inlX7 : u_ws RX7 TX7 2 = [217, 219].filterMap (fun i => tables_1[i]?) := by decide +kernel
theorem ingX7 : (u_ws RX7 TX7 2).all goodWord = true := by decide +kernel
theorem inX7 : ∀ w ∈ u_ws RX7 TX7 2, w ∈ lw_g := by
  intro w hw
  have hg := List.all_eq_true.mp ingX7 w hw
  rw [inlX7] at hw
  obtain ⟨i, -, hi⟩ := List.mem_filterMap.mp hw
  exact mg_t (List.mem_of_getElem? hi) hg
def RX8 : String := "LadderMaker$Sheets"
def TX8 : u_T := fun k => match k with
  | 0 => ("LadderMaker$Sheets", "rows", "[[J", true)
  | _ => ("LadderMaker$Sheets", "sizes", "[I", true)
def tyX8 : Nat → FieldType := fun k => match k with
  | 0 => .array (.array .long)
  | _ => .array .int
theorem nmX8 : ∀ a, a < 2 → ∀ b, b < 2 → a ≠ b → (TX8 a).2.1 ≠ (TX8 b).2.1 := by decide +kernel
theorem tyX8_ok : ∀ k, k < 2 → parseFieldDescriptor (TX8 k).2.2.1 = some (tyX8 k) := by decide +kernel
theorem inlX8 : u_ws RX8 TX8 2 = [199, 201].filterMap (fun i => tables_1[i]?) := by decide +kernel
theorem ingX8 : (u_ws RX8 TX8 2).all goodWord = true := by decide +kernel
theorem inX8 : ∀ w ∈ u_ws RX8 TX8 2, w ∈ lw_g := by
  intro w hw
  have hg := List.all_eq_true.mp ingX8 w hw
  rw [inlX8] at hw
  obtain ⟨i, -, hi⟩ := List.mem_filterMap.mp hw
  exact mg_t (List.mem_of_getElem? hi) hg
def RX9 : String := "LadderMaker$Unfolder"
def TX9 : u_T := fun k => match k with
  | 0 => ("LadderMaker$Unfolder", "built", "LLadderMaker$Ladder;", true)
  | 1 => ("LadderMaker$Unfolder", "work", "LLadderMaker$Pair;", true)
  | 2 => ("LadderMaker$Unfolder", "inX", "LLadderMaker$Pair;", true)
  | 3 => ("LadderMaker$Unfolder", "rest", "LLadderMaker$Polynomial;", true)
  | 4 => ("LadderMaker$Unfolder", "k", "LLadderMaker$Fraction;", true)
  | 5 => ("LadderMaker$Unfolder", "byRoot", "LLadderMaker$Fraction;", true)
  | 6 => ("LadderMaker$Unfolder", "rootAbove", "[I", true)
  | 7 => ("LadderMaker$Unfolder", "rootBelow", "[I", true)
  | 8 => ("LadderMaker$Unfolder", "rootTimes", "[I", true)
  | _ => ("LadderMaker$Unfolder", "rootCount", "I", false)
def tyX9 : Nat → FieldType := fun k => match k with
  | 0 => .object "LadderMaker$Ladder"
  | 1 => .object "LadderMaker$Pair"
  | 2 => .object "LadderMaker$Pair"
  | 3 => .object "LadderMaker$Polynomial"
  | 4 => .object "LadderMaker$Fraction"
  | 5 => .object "LadderMaker$Fraction"
  | 6 => .array .int
  | 7 => .array .int
  | 8 => .array .int
  | _ => .int
theorem nmX9 : ∀ a, a < 10 → ∀ b, b < 10 → a ≠ b → (TX9 a).2.1 ≠ (TX9 b).2.1 := by decide +kernel
theorem tyX9_ok : ∀ k, k < 10 → parseFieldDescriptor (TX9 k).2.2.1 = some (tyX9 k) := by decide +kernel
theorem inlX9 : u_ws RX9 TX9 10 = [133, 135, 137, 139, 141, 143, 145, 147, 149, 151].filterMap (fun i => tables_1[i]?) := by decide +kernel
theorem ingX9 : (u_ws RX9 TX9 10).all goodWord = true := by decide +kernel
theorem inX9 : ∀ w ∈ u_ws RX9 TX9 10, w ∈ lw_g := by
  intro w hw
  have hg := List.all_eq_true.mp ingX9 w hw
  rw [inlX9] at hw
  obtain ⟨i, -, hi⟩ := List.mem_filterMap.mp hw
  exact mg_t (List.mem_of_getElem? hi) hg
def RX10 : String := "LadderMaker"
def TX10 : u_T := fun k => match k with
  | 0 => ("LadderMaker", "wish", "LLadderMaker$Pair;", true)
  | 1 => ("LadderMaker", "ladder", "LLadderMaker$Ladder;", true)
  | 2 => ("LadderMaker", "folder", "LLadderMaker$Folder;", true)
  | 3 => ("LadderMaker", "unfolder", "LLadderMaker$Unfolder;", true)
  | 4 => ("LadderMaker", "parts", "LLadderMaker$Bill;", true)
  | 5 => ("LadderMaker", "memory", "LLadderMaker$Memory;", true)
  | 6 => ("LadderMaker", "sheets", "LLadderMaker$Sheets;", true)
  | 7 => ("LadderMaker", "atFrequency", "LLadderMaker$Reactance;", true)
  | _ => ("LadderMaker", "latestFinding", "I", false)
def tyX10 : Nat → FieldType := fun k => match k with
  | 0 => .object "LadderMaker$Pair"
  | 1 => .object "LadderMaker$Ladder"
  | 2 => .object "LadderMaker$Folder"
  | 3 => .object "LadderMaker$Unfolder"
  | 4 => .object "LadderMaker$Bill"
  | 5 => .object "LadderMaker$Memory"
  | 6 => .object "LadderMaker$Sheets"
  | 7 => .object "LadderMaker$Reactance"
  | _ => .int
theorem nmX10 : ∀ a, a < 9 → ∀ b, b < 9 → a ≠ b → (TX10 a).2.1 ≠ (TX10 b).2.1 := by decide +kernel
theorem tyX10_ok : ∀ k, k < 9 → parseFieldDescriptor (TX10 k).2.2.1 = some (tyX10 k) := by decide +kernel
theorem inlX10 : u_ws RX10 TX10 9 = [231, 233, 235, 237, 239, 241, 243, 245, 247].filterMap (fun i => tables_1[i]?) := by decide +kernel
theorem ingX10 : (u_ws RX10 TX10 9).all goodWord = true := by decide +kernel
theorem inX10 : ∀ w ∈ u_ws RX10 TX10 9, w ∈ lw_g := by
  intro w hw
  have hg := List.all_eq_true.mp ingX10 w hw
  rw [inlX10] at hw
  obtain ⟨i, -, hi⟩ := List.mem_filterMap.mp hw
  exact mg_t (List.mem_of_getElem? hi) hg
def RX11 : String := "LadderMakerModel"
def TX11 : u_T := fun k => match k with
  | 0 => ("LadderMakerModel", "latest", "I", false)
  | 1 => ("LadderMakerModel", "sizes", "[I", true)
  | 2 => ("LadderMakerModel", "items", "[J", true)
  | 3 => ("LadderMakerModel", "aside", "[J", true)
  | 4 => ("LadderMakerModel", "wish", "[I", true)
  | 5 => ("LadderMakerModel", "arms", "[I", true)
  | 6 => ("LadderMakerModel", "many", "I", false)
  | 7 => ("LadderMakerModel", "made", "[I", true)
  | 8 => ("LadderMakerModel", "madeMany", "I", false)
  | 9 => ("LadderMakerModel", "valueUp", "J", false)
  | 10 => ("LadderMakerModel", "valueDown", "J", false)
  | 11 => ("LadderMakerModel", "p", "[J", true)
  | 12 => ("LadderMakerModel", "q", "[J", true)
  | 13 => ("LadderMakerModel", "scaleUp", "J", false)
  | 14 => ("LadderMakerModel", "scaleDown", "J", false)
  | 15 => ("LadderMakerModel", "g", "[J", true)
  | 16 => ("LadderMakerModel", "h", "[J", true)
  | 17 => ("LadderMakerModel", "left", "[J", true)
  | 18 => ("LadderMakerModel", "quotient", "[J", true)
  | 19 => ("LadderMakerModel", "rootUps", "[I", true)
  | 20 => ("LadderMakerModel", "rootDowns", "[I", true)
  | 21 => ("LadderMakerModel", "roots", "I", false)
  | 22 => ("LadderMakerModel", "slope", "[J", true)
  | 23 => ("LadderMakerModel", "a", "[J", true)
  | 24 => ("LadderMakerModel", "b", "[J", true)
  | 25 => ("LadderMakerModel", "armUp", "[J", true)
  | 26 => ("LadderMakerModel", "armDown", "[J", true)
  | 27 => ("LadderMakerModel", "sumUp", "[J", true)
  | 28 => ("LadderMakerModel", "sumDown", "[J", true)
  | 29 => ("LadderMakerModel", "memory", "[I", true)
  | 30 => ("LadderMakerModel", "times", "[I", true)
  | 31 => ("LadderMakerModel", "remembered", "I", false)
  | _ => ("LadderMakerModel", "pair", "[I", true)
def tyX11 : Nat → FieldType := fun k => match k with
  | 0 => .int
  | 1 => .array .int
  | 2 => .array .long
  | 3 => .array .long
  | 4 => .array .int
  | 5 => .array .int
  | 6 => .int
  | 7 => .array .int
  | 8 => .int
  | 9 => .long
  | 10 => .long
  | 11 => .array .long
  | 12 => .array .long
  | 13 => .long
  | 14 => .long
  | 15 => .array .long
  | 16 => .array .long
  | 17 => .array .long
  | 18 => .array .long
  | 19 => .array .int
  | 20 => .array .int
  | 21 => .int
  | 22 => .array .long
  | 23 => .array .long
  | 24 => .array .long
  | 25 => .array .long
  | 26 => .array .long
  | 27 => .array .long
  | 28 => .array .long
  | 29 => .array .int
  | 30 => .array .int
  | 31 => .int
  | _ => .array .int
theorem nmX11 : ∀ a, a < 33 → ∀ b, b < 33 → a ≠ b → (TX11 a).2.1 ≠ (TX11 b).2.1 := by decide +kernel
theorem tyX11_ok : ∀ k, k < 33 → parseFieldDescriptor (TX11 k).2.2.1 = some (tyX11 k) := by decide +kernel
theorem inlX11 : u_ws RX11 TX11 33 = [801, 803, 805, 807, 809, 811, 813, 815, 817, 819, 821, 823, 825, 827, 829, 831, 833, 835, 837, 839, 841, 843, 845, 847, 849, 851, 853, 855, 857, 859, 861, 863, 865].filterMap (fun i => tables_1[i]?) := by decide +kernel
theorem ingX11 : (u_ws RX11 TX11 33).all goodWord = true := by decide +kernel
theorem inX11 : ∀ w ∈ u_ws RX11 TX11 33, w ∈ lw_g := by
  intro w hw
  have hg := List.all_eq_true.mp ingX11 w hw
  rw [inlX11] at hw
  obtain ⟨i, -, hi⟩ := List.mem_filterMap.mp hw
  exact mg_t (List.mem_of_getElem? hi) hg
abbrev gcl : List vw_C := [(RX0, TX0, 2), (RX1, TX1, 3), (RX2, TX2, 2), (RX3, TX3, 2), (RX4, TX4, 3), (RX5, TX5, 2), (RX6, TX6, 1), (RX7, TX7, 2), (RX8, TX8, 2), (RX9, TX9, 10), (RX10, TX10, 9), (RX11, TX11, 33)]
theorem gcX0 : gcl[0]? = some (RX0, TX0, 2) := rfl
theorem gcX1 : gcl[1]? = some (RX1, TX1, 3) := rfl
theorem gcX2 : gcl[2]? = some (RX2, TX2, 2) := rfl
theorem gcX3 : gcl[3]? = some (RX3, TX3, 2) := rfl
theorem gcX4 : gcl[4]? = some (RX4, TX4, 3) := rfl
theorem gcX5 : gcl[5]? = some (RX5, TX5, 2) := rfl
theorem gcX6 : gcl[6]? = some (RX6, TX6, 1) := rfl
theorem gcX7 : gcl[7]? = some (RX7, TX7, 2) := rfl
theorem gcX8 : gcl[8]? = some (RX8, TX8, 2) := rfl
theorem gcX9 : gcl[9]? = some (RX9, TX9, 10) := rfl
theorem gcX10 : gcl[10]? = some (RX10, TX10, 9) := rfl
theorem gcX11 : gcl[11]? = some (RX11, TX11, 33) := rfl
def isN : Cond → Bool
  | .fieldLinkNest .. => true
  | .methodLinkNest .. => true
  | .arrayOver _ => true
  | _ => false
theorem lw_gi {y : MethodName} {cc : ByteArray} {nL : Nat} {ret : Option FieldType} (h : Cond.code y cc nL ret ∈ lw_g) : GoodIn lw_g (Cond.code y cc nL ret :: lw_g) := by
  intro w hw
  rcases List.mem_cons.mp hw with e | h'
  · subst e; exact ⟨h, good_of_word (List.mem_filter.mp h).2⟩
  · exact ⟨h', good_of_word (List.mem_filter.mp h').2⟩
/-- the words of nest mates, and that arrays of arrays have been made: they go with the state -/
def nwS (U : State) : Prop := ∀ w ∈ lw_tbl, isN w = true → w.before #[] U = true
theorem nwS.same {u U : State} (h : u.vm = U.vm) (q : nwS u) : nwS U := by
  intro w hw hi
  have h1 := q w hw hi
  cases w <;> first | (exact va_Nw.same rfl h h1) | (simp [isN] at hi; done) | skip
  rename_i ty
  have h2 := Cond.arrayOver_setVmC (args := #[]) (s := u) (vm' := U.vm) (by rw [h]; exact Vm.Alike.refl _) ty
  rw [← h2] at h1
  exact h1
theorem nwS.warm {s U : State} (hW : s.WarmedH U.vm) (q : nwS s) : nwS U := by
  intro w hw hi
  have h1 := q w hw hi
  cases w <;> first | (exact va_Nw.warmF hW h1) | (exact va_Nw.warmM hW h1) | (simp [isN] at hi; done) | skip
  rename_i ty
  have h2 := Cond.arrayOver_setVmC (args := #[]) (s := s) (vm' := U.vm) hW.alike ty
  rw [← h2] at h1
  exact h1
end
section
abbrev HI : Type := Nat → Nat → Int32
abbrev HJ : Type := Nat → Nat → Int64
abbrev HN : Type := Nat → Nat → Option Nat
abbrev HT : Type := Nat → Nat × Nat
/-- slot k of cell a becomes v -/
def up2 {α : Type} (f : Nat → Nat → α) (a k : Nat) (v : α) : Nat → Nat → α := va_up f a (va_up (f a) k v)
/-- the fields of an object of class c at the place a -/
def gob (ad : Nat → Nat) (I : HI) (J : HJ) (N : HN) (c a : Nat) : List Value := match c with
  | 0 => [va_rf ((N a 0).map ad), .int (I a 1)]
  | 1 => [va_rf ((N a 0).map ad), va_rf ((N a 1).map ad), va_rf ((N a 2).map ad)]
  | 2 => [.long (J a 0), .long (J a 1)]
  | 3 => [va_rf ((N a 0).map ad), .int (I a 1)]
  | 4 => [va_rf ((N a 0).map ad), va_rf ((N a 1).map ad), .int (I a 2)]
  | 5 => [va_rf ((N a 0).map ad), va_rf ((N a 1).map ad)]
  | 6 => [va_rf ((N a 0).map ad)]
  | 7 => [va_rf ((N a 0).map ad), va_rf ((N a 1).map ad)]
  | 8 => [va_rf ((N a 0).map ad), va_rf ((N a 1).map ad)]
  | 9 => [va_rf ((N a 0).map ad), va_rf ((N a 1).map ad), va_rf ((N a 2).map ad), va_rf ((N a 3).map ad), va_rf ((N a 4).map ad), va_rf ((N a 5).map ad), va_rf ((N a 6).map ad), va_rf ((N a 7).map ad), va_rf ((N a 8).map ad), .int (I a 9)]
  | 10 => [va_rf ((N a 0).map ad), va_rf ((N a 1).map ad), va_rf ((N a 2).map ad), va_rf ((N a 3).map ad), va_rf ((N a 4).map ad), va_rf ((N a 5).map ad), va_rf ((N a 6).map ad), va_rf ((N a 7).map ad), .int (I a 8)]
  | _ => [.int (I a 0), va_rf ((N a 1).map ad), va_rf ((N a 2).map ad), va_rf ((N a 3).map ad), va_rf ((N a 4).map ad), va_rf ((N a 5).map ad), .int (I a 6), va_rf ((N a 7).map ad), .int (I a 8), .long (J a 9), .long (J a 10), va_rf ((N a 11).map ad), va_rf ((N a 12).map ad), .long (J a 13), .long (J a 14), va_rf ((N a 15).map ad), va_rf ((N a 16).map ad), va_rf ((N a 17).map ad), va_rf ((N a 18).map ad), va_rf ((N a 19).map ad), va_rf ((N a 20).map ad), .int (I a 21), va_rf ((N a 22).map ad), va_rf ((N a 23).map ad), va_rf ((N a 24).map ad), va_rf ((N a 25).map ad), va_rf ((N a 26).map ad), va_rf ((N a 27).map ad), va_rf ((N a 28).map ad), va_rf ((N a 29).map ad), va_rf ((N a 30).map ad), .int (I a 31), va_rf ((N a 32).map ad)]
theorem gob_congr {ad : Nat → Nat} {I I' : HI} {J J' : HJ} {N N' : HN} {a : Nat} (h1 : I' a = I a) (h2 : J' a = J a) (h3 : N' a = N a) (c : Nat) : gob ad I' J' N' c a = gob ad I J N c a := by
  unfold gob
  split <;> simp only [h1, h2, h3]
def gce (T : HT) (y : Nat → ClassId) (ad : Nat → Nat) (I : HI) (J : HJ) (N : HN) (a : Nat) : va_E := match (T a).1 with
  | 0 => .inr ((T a).2, gob ad I J N (T a).2 a)
  | 1 => .inl (y 0, (T a).2, .inl (I a))
  | 2 => .inl (y 1, (T a).2, .inr (.inl (J a)))
  | 3 => .inl (y 2, (T a).2, .inr (.inr (.inr (.inr (fun k => (N a k).map ad)))))
  | _ => .inl (y 3, (T a).2, .inr (.inr (.inr (.inr (fun k => (N a k).map ad)))))
theorem gce_congr {T : HT} {y : Nat → ClassId} {ad : Nat → Nat} {I I' : HI} {J J' : HJ} {N N' : HN} {a : Nat} (h1 : I' a = I a) (h2 : J' a = J a) (h3 : N' a = N a) : gce T y ad I' J' N' a = gce T y ad I J N a := by
  unfold gce
  rw [gob_congr h1 h2 h3, h1, h2, h3]
def gwd (T : HT) (y : Nat → ClassId) (ad : Nat → Nat) (n : Nat) (I : HI) (J : HJ) (N : HN) : va_W := (List.range n).map (fun a => (ad a, gce T y ad I J N a))
theorem gwd_at {T : HT} {y : Nat → ClassId} {ad : Nat → Nat} {n : Nat} {I : HI} {J : HJ} {N : HN} {a : Nat} (h : a < n) : (gwd T y ad n I J N)[a]? = some (ad a, gce T y ad I J N a) := by
  unfold gwd
  rw [List.getElem?_map, List.getElem?_range h]
  rfl
theorem gwd_some {T : HT} {y : Nat → ClassId} {ad : Nat → Nat} {n : Nat} {I : HI} {J : HJ} {N : HN} {a : Nat} {q : Nat × va_E} (h : (gwd T y ad n I J N)[a]? = some q) : a < n ∧ q = (ad a, gce T y ad I J N a) := by
  by_cases h0 : a < n
  · rw [gwd_at h0] at h
    exact ⟨h0, (Option.some.inj h).symm⟩
  · unfold gwd at h
    rw [List.getElem?_eq_none (by simp; omega)] at h
    cases h
theorem gwd_set {T : HT} {y : Nat → ClassId} {ad : Nat → Nat} {n : Nat} {I I' : HI} {J J' : HJ} {N N' : HN} {a : Nat} {E : va_E} (hE : gce T y ad I' J' N' a = E) (h1 : ∀ b, b ≠ a → I' b = I b) (h2 : ∀ b, b ≠ a → J' b = J b) (h3 : ∀ b, b ≠ a → N' b = N b) : (gwd T y ad n I J N).set a (ad a, E) = gwd T y ad n I' J' N' := by
  apply List.ext_getElem?
  intro i
  by_cases hi : i < n
  · rw [gwd_at hi]
    by_cases hia : i = a
    · subst hia
      rw [List.getElem?_set_self (by unfold gwd; simp; exact hi), hE]
    · rw [List.getElem?_set_ne (fun h => hia h.symm), gwd_at hi, gce_congr (h1 i hia) (h2 i hia) (h3 i hia)]
  · rw [List.getElem?_eq_none (by unfold gwd; simp; omega), List.getElem?_eq_none (by unfold gwd; simp; omega)]
theorem va_up_of {α : Type} {f : Nat → α} {a b : Nat} {v : α} (h : b ≠ a) : va_up f a v b = f b := if_neg h
theorem va_up_at {α : Type} {f : Nat → α} {a : Nat} {v : α} : va_up f a v a = v := if_pos rfl
theorem up2_of {α : Type} {f : Nat → Nat → α} {a k b : Nat} {v : α} (h : b ≠ a) : up2 f a k v b = f b := if_neg h
theorem up2_at {α : Type} {f : Nat → Nat → α} {a k : Nat} {v : α} : up2 f a k v a = va_up (f a) k v := if_pos rfl
def gtys (y : Nat → ClassId) : List (ClassId × FieldType) := [(y 0, .int), (y 1, .long), (y 2, .array .int), (y 3, .array .long)]
/-- the machine's own part of a walk: program, launch, env, room, start, method, args, below, meth, code, class numbers, array classes, the cells that may change -/
abbrev HX : Type := Program × Launch × Env × Room × State × MethodId × Array Value × List Frame × Method × Code × va_G × (Nat → ClassId) × (Nat → Prop)
abbrev xp (X : HX) : Program := X.1
abbrev xl (X : HX) : Launch := X.2.1
abbrev xe (X : HX) : Env := X.2.2.1
abbrev xR (X : HX) : Room := X.2.2.2.1
abbrev xs (X : HX) : State := X.2.2.2.2.1
abbrev xm (X : HX) : MethodId := X.2.2.2.2.2.1
abbrev xa (X : HX) : Array Value := X.2.2.2.2.2.2.1
abbrev xb (X : HX) : List Frame := X.2.2.2.2.2.2.2.1
abbrev xt (X : HX) : Method := X.2.2.2.2.2.2.2.2.1
abbrev xc (X : HX) : Code := X.2.2.2.2.2.2.2.2.2.1
abbrev xD (X : HX) : va_G := X.2.2.2.2.2.2.2.2.2.2.1
abbrev xy (X : HX) : Nat → ClassId := X.2.2.2.2.2.2.2.2.2.2.2.1
abbrev xA (X : HX) : Nat → Prop := X.2.2.2.2.2.2.2.2.2.2.2.2
def gin (A : Nat → Prop) (ad : Nat → Nat) (n : Nat) : Prop := (∀ i j, i < n → j < n → ad i = ad j → i = j) ∧ ∀ i, i < n → A (ad i)
theorem gin_D {A : Nat → Prop} {ad : Nat → Nat} {n : Nat} (h : gin A ad n) (T : HT) (y : Nat → ClassId) (I : HI) (J : HJ) (N : HN) : va_D A (gwd T y ad n I J N) := by
  refine ⟨fun i j p q hi hj hpq => ?_, fun k q hk => ?_⟩
  · obtain ⟨h1, rfl⟩ := gwd_some hi
    obtain ⟨h2, rfl⟩ := gwd_some hj
    exact h.1 i j h1 h2 hpq
  · obtain ⟨h1, rfl⟩ := gwd_some hk
    exact h.2 k h1
def G (T : HT) (X : HX) (ad : Nat → Nat) (n mc ms : Nat) (I : HI) (J : HJ) (N : HN) (Q : State → Prop) (pc nL : Nat) (lv : List (Nat × Value)) (st : List Value) : Prop :=
  ∀ (H : Heap) (locs : List Loc) (ls : Array Slot), va_P (xD X) gcl (gwd T (xy X) ad n I J N) H → gin (xA X) ad n → va_S (xA X) (xs X).heap H locs → lv_has ls nL lv →
    W (xp X) (xl X) (xe X) (xR X) (xs X) (xm X) (xa X) (xb X) (xt X) (xc X) H locs mc ms Q (F0 (xm X) pc ls st)
def Cx (X : HX) (cc : ByteArray) (own : String) (nL : Nat) (ret : Option FieldType) (rm : Room) : Prop :=
  (xp X).tables.exec = Jvm.exec ∧ (xc X).code = cc ∧ (xc X).maxLocals = nL ∧ (xs X).vm.findClass own = some (xm X).cls ∧ (∀ w ∈ lw_g, w.before (xa X) (xs X) = true) ∧ (xt X).sig.returnType = ret ∧ (xt X).locks = false ∧ va_K (xD X) gcl (gtys (xy X)) (xs X) ∧ (∀ q, (xs X).heap.size ≤ q → xA X q) ∧ xR X = rm ∧ nwS (xs X)
def gk (T : HT) (n a : Nat) (κ : Nat × Nat) : Prop := a < n ∧ T a = κ
def ga (T : HT) (n a : Nat) (k : Nat) : Prop := a < n ∧ (T a).1 = k
theorem gce_o {T : HT} {n a ci : Nat} {y : Nat → ClassId} {ad : Nat → Nat} {I : HI} {J : HJ} {N : HN} (h : gk T n a (0, ci)) : gce T y ad I J N a = .inr (ci, gob ad I J N ci a) := by
  unfold gce
  rw [h.2] <;> rfl
theorem gce_i {T : HT} {n a : Nat} {y : Nat → ClassId} {ad : Nat → Nat} {I : HI} {J : HJ} {N : HN} (h : ga T n a 1) : gce T y ad I J N a = .inl (y 0, (T a).2, .inl (I a)) := by
  unfold gce
  rw [h.2] <;> rfl
theorem gce_l {T : HT} {n a : Nat} {y : Nat → ClassId} {ad : Nat → Nat} {I : HI} {J : HJ} {N : HN} (h : ga T n a 2) : gce T y ad I J N a = .inl (y 1, (T a).2, .inr (.inl (J a))) := by
  unfold gce
  rw [h.2] <;> rfl
theorem gce_a {T : HT} {n a : Nat} {y : Nat → ClassId} {ad : Nat → Nat} {I : HI} {J : HJ} {N : HN} (h : ga T n a 3) : gce T y ad I J N a = .inl (y 2, (T a).2, .inr (.inr (.inr (.inr (fun k => (N a k).map ad))))) := by
  unfold gce
  rw [h.2] <;> rfl
theorem gce_b {T : HT} {n a : Nat} {y : Nat → ClassId} {ad : Nat → Nat} {I : HI} {J : HJ} {N : HN} (h : ga T n a 4) : gce T y ad I J N a = .inl (y 3, (T a).2, .inr (.inr (.inr (.inr (fun k => (N a k).map ad))))) := by
  unfold gce
  rw [h.2] <;> rfl
/-- an index in its row -/
def inb (i : Int32) (n : Nat) : Bool := !(decide (i < 0)) && decide (i.toNatClampNeg < n)
theorem inb_in {i : Int32} {n : Nat} (h : inb i n = true) : vp_in i n := by
  unfold inb at h
  simp only [Bool.and_eq_true, Bool.not_eq_true', decide_eq_false_iff_not, decide_eq_true_eq] at h
  intro q
  rcases q with q | q
  · exact h.1 q
  · omega
/-- the words of pure functions: a guard, a reference's cell, a call's answer, a named value -/
def gd {R : Type} (b : Bool) (K : Option R) : Option R := match b with
  | true => K
  | false => none
theorem o_gd {R : Type} {b : Bool} {K : Option R} {r : R} (h : gd b K = some r) : b = true ∧ K = some r := by
  cases b
  · cases h
  · exact ⟨rfl, h⟩
def rq {R : Type} (T : HT) (n : Nat) (x : Option Nat) (κ : Nat × Nat) (K : Nat → Option R) : Option R := match x with
  | some b => gd (decide (b < n ∧ T b = κ)) (K b)
  | none => none
theorem o_rq {R : Type} {T : HT} {n : Nat} {x : Option Nat} {κ : Nat × Nat} {K : Nat → Option R} {r : R} (h : rq T n x κ K = some r) : ∃ b, x = some b ∧ gk T n b κ ∧ K b = some r := by
  cases x with
  | none => cases h
  | some b =>
    obtain ⟨h1, h2⟩ := o_gd h
    exact ⟨b, rfl, (of_decide_eq_true h1 : b < n ∧ T b = κ), h2⟩
def ra {R : Type} (T : HT) (n : Nat) (x : Option Nat) (κ : Nat) (K : Nat → Option R) : Option R := match x with
  | some b => gd (decide (b < n ∧ (T b).1 = κ)) (K b)
  | none => none
theorem o_ra {R : Type} {T : HT} {n : Nat} {x : Option Nat} {κ : Nat} {K : Nat → Option R} {r : R} (h : ra T n x κ K = some r) : ∃ b, x = some b ∧ ga T n b κ ∧ K b = some r := by
  cases x with
  | none => cases h
  | some b =>
    obtain ⟨h1, h2⟩ := o_gd h
    exact ⟨b, rfl, (of_decide_eq_true h1 : b < n ∧ (T b).1 = κ), h2⟩
def bd {α R : Type} (e : α) (K : α → Option R) : Option R := K e
theorem o_bd {α R : Type} {e : α} {K : α → Option R} {r : R} (h : bd e K = some r) : ∃ v, v = e ∧ K v = some r := ⟨e, rfl, h⟩
def bn1 {A R : Type} (x : Option A) (K : A → Option R) : Option R := match x with
  | some a => K a
  | none => none
theorem o_bn1 {A R : Type} {x : Option A} {K : A → Option R} {r : R} (h : bn1 x K = some r) : ∃ a, x = some a ∧ K a = some r := by
  cases x with
  | none => cases h
  | some a => exact ⟨a, rfl, h⟩
def bn2 {A B R : Type} (x : Option (A × B)) (K : A → B → Option R) : Option R := match x with
  | some (a, b) => K a b
  | none => none
theorem o_bn2 {A B R : Type} {x : Option (A × B)} {K : A → B → Option R} {r : R} (h : bn2 x K = some r) : ∃ a b, x = some (a, b) ∧ K a b = some r := by
  rcases x with _ | ⟨a, b⟩
  · cases h
  · exact ⟨a, b, rfl, h⟩
def bn3 {A B C R : Type} (x : Option (A × B × C)) (K : A → B → C → Option R) : Option R := match x with
  | some (a, b, c) => K a b c
  | none => none
theorem o_bn3 {A B C R : Type} {x : Option (A × B × C)} {K : A → B → C → Option R} {r : R} (h : bn3 x K = some r) : ∃ a b c, x = some (a, b, c) ∧ K a b c = some r := by
  rcases x with _ | ⟨a, b, c⟩
  · cases h
  · exact ⟨a, b, c, rfl, h⟩
def bn4 {A B C D R : Type} (x : Option (A × B × C × D)) (K : A → B → C → D → Option R) : Option R := match x with
  | some (a, b, c, d) => K a b c d
  | none => none
theorem o_bn4 {A B C D R : Type} {x : Option (A × B × C × D)} {K : A → B → C → D → Option R} {r : R} (h : bn4 x K = some r) : ∃ a b c d, x = some (a, b, c, d) ∧ K a b c d = some r := by
  rcases x with _ | ⟨a, b, c, d⟩
  · cases h
  · exact ⟨a, b, c, d, rfl, h⟩
theorem o_pos {R : Type} {c : Prop} {D : Decidable c} {A B : Option R} {r : R} (e : c) (h : (@ite (Option R) c D A B) = some r) : A = some r := by
  rw [if_pos e] at h
  exact h
theorem o_neg {R : Type} {c : Prop} {D : Decidable c} {A B : Option R} {r : R} (e : ¬ c) (h : (@ite (Option R) c D A B) = some r) : B = some r := by
  rw [if_neg e] at h
  exact h
/-- a method's contract: from the world (I, J, N) to the world o, with o's answer -/
def gA (ad : Nat → Nat) (n sz : Nat) : Nat → Prop := fun q => (∃ i, i < n ∧ q = ad i) ∨ sz ≤ q
abbrev HO : Type := HI × HJ × HN × ((Nat → Nat) → Option Value)
def gPc (T : HT) (D : va_G) (y : Nat → ClassId) (ad : Nat → Nat) (n sz : Nat) (I : HI) (J : HJ) (N : HN) (av : List Value) : Array Value → State → Prop := fun v U =>
  v = av.toArray ∧ U.heap.size = sz ∧ va_P D gcl (gwd T y ad n I J N) U.heap ∧ va_K D gcl (gtys y) U ∧ nwS U ∧ ∀ i j, i < n → j < n → ad i = ad j → i = j
def gQc (T : HT) (D : va_G) (y : Nat → ClassId) (ad : Nat → Nat) (n : Nat) (A : Nat → Prop) (o : HO) : Array Value → State → Outcome → State → Prop := fun _ st oc t =>
  (oc = .returned (o.2.2.2 ad) ∧ va_P D gcl (gwd T y ad n o.1 o.2.1 o.2.2.1) t.heap) ∧ va_F A st t
def gM (l : Launch) (y : MethodName) (cc : ByteArray) (nL : Nat) (ret : Option FieldType) (rm : Room) (T : HT) (n : Nat) (I : HI) (J : HJ) (N : HN) (av : (Nat → Nat) → List Value) (o : HO) : Prop :=
  ∀ (D : va_G) (yc : Nat → ClassId) (ad : Nat → Nat) (sz : Nat), Met l y (Cond.code y cc nL ret :: lw_g) rm (gPc T D yc ad n sz I J N (av ad)) (gQc T D yc ad n (gA ad n sz) o) 0 0 (gA ad n sz)
def gE (X : HX) (T : HT) (ad : Nat → Nat) (n : Nat) (o : HO) : State → Prop := MQ (xb X) (gQc T (xD X) (xy X) ad n (xA X) o) (xa X) (xs X) 0 0 (xA X)
theorem g_meth {l : Launch} {y : MethodName} {cc : ByteArray} {nL : Nat} {ret : Option FieldType} {rm : Room} {T : HT} {n : Nat} {I : HI} {J : HJ} {N : HN} {av : (Nat → Nat) → List Value} {o : HO} {lv : (Nat → Nat) → List (Nat × Value)} (hy : plainName y.cls = true) (hlen : ∀ ad, (lg_sl (av ad)).length ≤ nL) (hlv : ∀ ad, lv_args 0 (av ad) = lv ad)
    (body : ∀ (X : HX) (ad : Nat → Nat), Cx X cc y.cls nL ret rm → G T X ad n 0 0 I J N (gE X T ad n o) 0 nL (lv ad) []) : gM l y cc nL ret rm T n I J N av o := by
  intro D yc ad sz
  refine Met.ofW (cc := cc) (maxL := nL) (ret := ret) hy rfl ?_
  intro p e s m args below meth c s₁ B hml hv
  obtain ⟨rfl, hsz, hP, hK, hnw, hinj⟩ := hv
  subst hsz
  have hts := atoms_spec (ws := Cond.code y cc nL ret :: lw_g) B.pre
  have hl := lv_entry (av ad) (n := nL) (hlen ad)
  rw [lg_entry_eq]
  rw [hlv ad] at hl
  exact body (p, l, e, rm, s, m, (av ad).toArray, below, meth, c, D, yc, gA ad n s.heap.size) ad ⟨B.exec, B.bytes, hml, findClass_of_methodNamed B.named, fun w hw => hts w (List.mem_cons_of_mem _ hw), B.returns, B.notSynchronized, hK, fun q h => Or.inr h, rfl, hnw⟩ s.heap [] _ hP ⟨hinj, fun i hi => Or.inl ⟨i, hi, rfl⟩⟩ va_S.rf hl
def cpb (sp dp len : Int32) (n0 n1 : Nat) : Bool := !(decide (sp < 0)) && !(decide (dp < 0)) && !(decide (len < 0)) && decide (sp.toNatClampNeg + len.toNatClampNeg ≤ n0) && decide (dp.toNatClampNeg + len.toNatClampNeg ≤ n1)
section GR
variable {T : HT} {X : HX} {ad : Nat → Nat} {n mc ms : Nat} {I : HI} {J : HJ} {N : HN} {Q : State → Prop} {pc nL : Nat} {lv lv' : List (Nat × Value)} {rest : List Value} {cc : ByteArray} {own : String} {ret : Option FieldType} {rm : Room}
theorem g_lv (ks : List Nat) {st : List Value} (hl : lv_pick lv ks = lv') (k : G T X ad n mc ms I J N Q pc nL lv' st) : G T X ad n mc ms I J N Q pc nL lv st := fun H locs ls hP hD hS h => k H locs ls hP hD hS (lv_sub h ks hl)
theorem g_topi {x v : Int32} (e : v = x) (k : G T X ad n mc ms I J N Q pc nL lv (.int v :: rest)) : G T X ad n mc ms I J N Q pc nL lv (.int x :: rest) := e ▸ k
theorem g_topl {x v : Int64} (e : v = x) (k : G T X ad n mc ms I J N Q pc nL lv (.long v :: rest)) : G T X ad n mc ms I J N Q pc nL lv (.long x :: rest) := e ▸ k
theorem g_iadd (C : Cx X cc own nL ret rm) {x y : Int32} (d : decode cc pc = .ok (.iadd, 1)) (k : G T X ad n mc ms I J N Q (pc + 1) nL lv (.int (x + y) :: rest)) : G T X ad n mc ms I J N Q pc nL lv (.int y :: .int x :: rest) := fun H locs ls hP hD hS hl => lv_iadd C.1 C.2.1 d (k H locs ls hP hD hS hl)
theorem g_isub (C : Cx X cc own nL ret rm) {x y : Int32} (d : decode cc pc = .ok (.isub, 1)) (k : G T X ad n mc ms I J N Q (pc + 1) nL lv (.int (x - y) :: rest)) : G T X ad n mc ms I J N Q pc nL lv (.int y :: .int x :: rest) := fun H locs ls hP hD hS hl => lv_isub C.1 C.2.1 d (k H locs ls hP hD hS hl)
theorem g_imul (C : Cx X cc own nL ret rm) {x y : Int32} (d : decode cc pc = .ok (.imul, 1)) (k : G T X ad n mc ms I J N Q (pc + 1) nL lv (.int (x * y) :: rest)) : G T X ad n mc ms I J N Q pc nL lv (.int y :: .int x :: rest) := fun H locs ls hP hD hS hl => lv_imul C.1 C.2.1 d (k H locs ls hP hD hS hl)
theorem g_iand (C : Cx X cc own nL ret rm) {x y : Int32} (d : decode cc pc = .ok (.iand, 1)) (k : G T X ad n mc ms I J N Q (pc + 1) nL lv (.int (x &&& y) :: rest)) : G T X ad n mc ms I J N Q pc nL lv (.int y :: .int x :: rest) := fun H locs ls hP hD hS hl => lv_iand C.1 C.2.1 d (k H locs ls hP hD hS hl)
theorem g_idiv (C : Cx X cc own nL ret rm) {x y : Int32} (d : decode cc pc = .ok (.idiv, 1)) (hne : ¬ y = 0) (k : G T X ad n mc ms I J N Q (pc + 1) nL lv (.int (x / y) :: rest)) : G T X ad n mc ms I J N Q pc nL lv (.int y :: .int x :: rest) := fun H locs ls hP hD hS hl => lv_idiv C.1 C.2.1 d hne (k H locs ls hP hD hS hl)
theorem g_irem (C : Cx X cc own nL ret rm) {x y : Int32} (d : decode cc pc = .ok (.irem, 1)) (hne : ¬ y = 0) (k : G T X ad n mc ms I J N Q (pc + 1) nL lv (.int (x - x / y * y) :: rest)) : G T X ad n mc ms I J N Q pc nL lv (.int y :: .int x :: rest) := fun H locs ls hP hD hS hl => lv_irem C.1 C.2.1 d hne (k H locs ls hP hD hS hl)
theorem g_ladd (C : Cx X cc own nL ret rm) {x y : Int64} (d : decode cc pc = .ok (.ladd, 1)) (k : G T X ad n mc ms I J N Q (pc + 1) nL lv (.long (x + y) :: rest)) : G T X ad n mc ms I J N Q pc nL lv (.long y :: .long x :: rest) := fun H locs ls hP hD hS hl => lv_ladd C.1 C.2.1 d (k H locs ls hP hD hS hl)
theorem g_lsub (C : Cx X cc own nL ret rm) {x y : Int64} (d : decode cc pc = .ok (.lsub, 1)) (k : G T X ad n mc ms I J N Q (pc + 1) nL lv (.long (x - y) :: rest)) : G T X ad n mc ms I J N Q pc nL lv (.long y :: .long x :: rest) := fun H locs ls hP hD hS hl => lv_lsub C.1 C.2.1 d (k H locs ls hP hD hS hl)
theorem g_lmul (C : Cx X cc own nL ret rm) {x y : Int64} (d : decode cc pc = .ok (.lmul, 1)) (k : G T X ad n mc ms I J N Q (pc + 1) nL lv (.long (x * y) :: rest)) : G T X ad n mc ms I J N Q pc nL lv (.long y :: .long x :: rest) := fun H locs ls hP hD hS hl => lv_lmul C.1 C.2.1 d (k H locs ls hP hD hS hl)
theorem g_ldiv (C : Cx X cc own nL ret rm) {x y : Int64} (d : decode cc pc = .ok (.ldiv, 1)) (hne : ¬ y = 0) (k : G T X ad n mc ms I J N Q (pc + 1) nL lv (.long (x / y) :: rest)) : G T X ad n mc ms I J N Q pc nL lv (.long y :: .long x :: rest) := fun H locs ls hP hD hS hl => lv_ldiv C.1 C.2.1 d hne (k H locs ls hP hD hS hl)
theorem g_lrem (C : Cx X cc own nL ret rm) {x y : Int64} (d : decode cc pc = .ok (.lrem, 1)) (hne : ¬ y = 0) (k : G T X ad n mc ms I J N Q (pc + 1) nL lv (.long (x - x / y * y) :: rest)) : G T X ad n mc ms I J N Q pc nL lv (.long y :: .long x :: rest) := fun H locs ls hP hD hS hl => lv_lrem C.1 C.2.1 d hne (k H locs ls hP hD hS hl)
theorem g_ineg (C : Cx X cc own nL ret rm) {x : Int32} (d : decode cc pc = .ok (.ineg, 1)) (k : G T X ad n mc ms I J N Q (pc + 1) nL lv (.int (-x) :: rest)) : G T X ad n mc ms I J N Q pc nL lv (.int x :: rest) := fun H locs ls hP hD hS hl => lv_ineg C.1 C.2.1 d (k H locs ls hP hD hS hl)
theorem g_lneg (C : Cx X cc own nL ret rm) {x : Int64} (d : decode cc pc = .ok (.lneg, 1)) (k : G T X ad n mc ms I J N Q (pc + 1) nL lv (.long (-x) :: rest)) : G T X ad n mc ms I J N Q pc nL lv (.long x :: rest) := fun H locs ls hP hD hS hl => lv_lneg C.1 C.2.1 d (k H locs ls hP hD hS hl)
theorem g_i2l (C : Cx X cc own nL ret rm) {x : Int32} (d : decode cc pc = .ok (.i2l, 1)) (k : G T X ad n mc ms I J N Q (pc + 1) nL lv (.long x.toInt64 :: rest)) : G T X ad n mc ms I J N Q pc nL lv (.int x :: rest) := fun H locs ls hP hD hS hl => lv_i2l C.1 C.2.1 d rfl (k H locs ls hP hD hS hl)
theorem g_l2i (C : Cx X cc own nL ret rm) {x : Int64} (d : decode cc pc = .ok (.l2i, 1)) (k : G T X ad n mc ms I J N Q (pc + 1) nL lv (.int x.toInt32 :: rest)) : G T X ad n mc ms I J N Q pc nL lv (.long x :: rest) := fun H locs ls hP hD hS hl => lv_l2i C.1 C.2.1 d rfl (k H locs ls hP hD hS hl)
theorem g_dup (C : Cx X cc own nL ret rm) {v : Value} (d : decode cc pc = .ok (.dup, 1)) (hv : v.category = 1) (k : G T X ad n mc ms I J N Q (pc + 1) nL lv (v :: v :: rest)) : G T X ad n mc ms I J N Q pc nL lv (v :: rest) := fun H locs ls hP hD hS hl => lv_dup C.1 C.2.1 d hv (k H locs ls hP hD hS hl)
theorem g_pop (C : Cx X cc own nL ret rm) {v : Value} (d : decode cc pc = .ok (.pop, 1)) (hv : v.category = 1) (k : G T X ad n mc ms I J N Q (pc + 1) nL lv rest) : G T X ad n mc ms I J N Q pc nL lv (v :: rest) := fun H locs ls hP hD hS hl => lv_pop C.1 C.2.1 d hv (k H locs ls hP hD hS hl)
theorem g_dup2 (C : Cx X cc own nL ret rm) {v w : Value} (d : decode cc pc = .ok (.dup2, 1)) (hv : v.category = 1) (hw : w.category = 1) (k : G T X ad n mc ms I J N Q (pc + 1) nL lv (v :: w :: v :: w :: rest)) : G T X ad n mc ms I J N Q pc nL lv (v :: w :: rest) := fun H locs ls hP hD hS hl => lv_dup2_11 C.1 C.2.1 d hv hw (k H locs ls hP hD hS hl)
theorem g_iconst (C : Cx X cc own nL ret rm) {m : Int} (v : Int32) (d : decode cc pc = .ok (.iconst m, 1)) (hv : Int32.ofInt m = v) (k : G T X ad n mc ms I J N Q (pc + 1) nL lv (.int v :: rest)) : G T X ad n mc ms I J N Q pc nL lv rest := fun H locs ls hP hD hS hl => lv_iconst C.1 C.2.1 d hv (k H locs ls hP hD hS hl)
theorem g_bipush (C : Cx X cc own nL ret rm) {m : Int} (v : Int32) (d : decode cc pc = .ok (.bipush m, 2)) (hv : (Int8.ofInt m).toInt32 = v) (k : G T X ad n mc ms I J N Q (pc + 2) nL lv (.int v :: rest)) : G T X ad n mc ms I J N Q pc nL lv rest := fun H locs ls hP hD hS hl => lv_bipush C.1 C.2.1 d hv (k H locs ls hP hD hS hl)
theorem g_sipush (C : Cx X cc own nL ret rm) {m : Int} (v : Int32) (d : decode cc pc = .ok (.sipush m, 3)) (hv : (Int16.ofInt m).toInt32 = v) (k : G T X ad n mc ms I J N Q (pc + 3) nL lv (.int v :: rest)) : G T X ad n mc ms I J N Q pc nL lv rest := fun H locs ls hP hD hS hl => lv_sipush C.1 C.2.1 d hv (k H locs ls hP hD hS hl)
theorem g_lconst (C : Cx X cc own nL ret rm) {m : Fin 2} (v : Int64) (d : decode cc pc = .ok (.lconst m, 1)) (hv : Int64.ofNat (m : Nat) = v) (k : G T X ad n mc ms I J N Q (pc + 1) nL lv (.long v :: rest)) : G T X ad n mc ms I J N Q pc nL lv rest := fun H locs ls hP hD hS hl => lv_lconst C.1 C.2.1 d hv (k H locs ls hP hD hS hl)
theorem g_ldc (C : Cx X cc own nL ret rm) {i : Nat} {v : Int32} (w : Cond.constant own i v ∈ lw_g) (d : decode cc pc = .ok (.ldc i, 2)) (k : G T X ad n mc ms I J N Q (pc + 2) nL lv (.int v :: rest)) : G T X ad n mc ms I J N Q pc nL lv rest := fun H locs ls hP hD hS hl => lv_ldc C.1 C.2.1 C.2.2.2.1 (C.2.2.2.2.1 _ w) d (k H locs ls hP hD hS hl)
theorem g_ldc2 (C : Cx X cc own nL ret rm) {i : Nat} {v : Int64} (w : Cond.constantLong own i v ∈ lw_g) (d : decode cc pc = .ok (.ldc2_w i, 3)) (k : G T X ad n mc ms I J N Q (pc + 3) nL lv (.long v :: rest)) : G T X ad n mc ms I J N Q pc nL lv rest := fun H locs ls hP hD hS hl => lv_ldc2 C.1 C.2.1 C.2.2.2.1 (C.2.2.2.2.1 _ w) d (k H locs ls hP hD hS hl)
theorem g_iload_n (C : Cx X cc own nL ret rm) {j : Fin 4} {i : Nat} {x : Int32} (d : decode cc pc = .ok (.iload_n j, 1)) (hi : (j : Nat) = i) (q : Nat) (hq : lv[q]? = some (i, .int x)) (k : G T X ad n mc ms I J N Q (pc + 1) nL lv (.int x :: rest)) : G T X ad n mc ms I J N Q pc nL lv rest := fun H locs ls hP hD hS hl => lv_iload_n C.1 C.2.1 d hi (lv_at hl q hq) (k H locs ls hP hD hS hl)
theorem g_iload (C : Cx X cc own nL ret rm) {i : Nat} {x : Int32} (d : decode cc pc = .ok (.iload i, 2)) (q : Nat) (hq : lv[q]? = some (i, .int x)) (k : G T X ad n mc ms I J N Q (pc + 2) nL lv (.int x :: rest)) : G T X ad n mc ms I J N Q pc nL lv rest := fun H locs ls hP hD hS hl => lv_iload C.1 C.2.1 d (lv_at hl q hq) (k H locs ls hP hD hS hl)
theorem g_istore_n (C : Cx X cc own nL ret rm) {j : Fin 4} {i : Nat} {x : Int32} (d : decode cc pc = .ok (.istore_n j, 1)) (hi : (j : Nat) = i) (hn : i < nL) (hl' : (i, Value.int x) :: lv.filter (fun q => !(q.1 == i) && !(q.1 + 1 == i && q.2.category == 2)) = lv') (k : G T X ad n mc ms I J N Q (pc + 1) nL lv' rest) : G T X ad n mc ms I J N Q pc nL lv (.int x :: rest) := fun H locs ls hP hD hS hl => lv_istore_n C.1 C.2.1 d hi hl hn hl' (fun ls hl => k H locs ls hP hD hS hl)
theorem g_istore (C : Cx X cc own nL ret rm) {i : Nat} {x : Int32} (d : decode cc pc = .ok (.istore i, 2)) (hn : i < nL) (hl' : (i, Value.int x) :: lv.filter (fun q => !(q.1 == i) && !(q.1 + 1 == i && q.2.category == 2)) = lv') (k : G T X ad n mc ms I J N Q (pc + 2) nL lv' rest) : G T X ad n mc ms I J N Q pc nL lv (.int x :: rest) := fun H locs ls hP hD hS hl => lv_istore C.1 C.2.1 d hl hn hl' (fun ls hl => k H locs ls hP hD hS hl)
theorem g_lload_n (C : Cx X cc own nL ret rm) {j : Fin 4} {i : Nat} {x : Int64} (d : decode cc pc = .ok (.lload_n j, 1)) (hi : (j : Nat) = i) (q : Nat) (hq : lv[q]? = some (i, .long x)) (k : G T X ad n mc ms I J N Q (pc + 1) nL lv (.long x :: rest)) : G T X ad n mc ms I J N Q pc nL lv rest := fun H locs ls hP hD hS hl => lv_lload_n C.1 C.2.1 d hi (lv_at hl q hq) (k H locs ls hP hD hS hl)
theorem g_lload (C : Cx X cc own nL ret rm) {i : Nat} {x : Int64} (d : decode cc pc = .ok (.lload i, 2)) (q : Nat) (hq : lv[q]? = some (i, .long x)) (k : G T X ad n mc ms I J N Q (pc + 2) nL lv (.long x :: rest)) : G T X ad n mc ms I J N Q pc nL lv rest := fun H locs ls hP hD hS hl => lv_lload C.1 C.2.1 d (lv_at hl q hq) (k H locs ls hP hD hS hl)
theorem g_lstore_n (C : Cx X cc own nL ret rm) {j : Fin 4} {i : Nat} {x : Int64} (d : decode cc pc = .ok (.lstore_n j, 1)) (hi : (j : Nat) = i) (hn : i + 1 < nL) (hl' : (i, Value.long x) :: lv.filter (fun q => !(q.1 == i) && (!(q.1 == i + 1) && !(q.1 + 1 == i && q.2.category == 2))) = lv') (k : G T X ad n mc ms I J N Q (pc + 1) nL lv' rest) : G T X ad n mc ms I J N Q pc nL lv (.long x :: rest) := fun H locs ls hP hD hS hl => lv_lstore_n C.1 C.2.1 d hi hl hn hl' (fun ls hl => k H locs ls hP hD hS hl)
theorem g_lstore (C : Cx X cc own nL ret rm) {i : Nat} {x : Int64} (d : decode cc pc = .ok (.lstore i, 2)) (hn : i + 1 < nL) (hl' : (i, Value.long x) :: lv.filter (fun q => !(q.1 == i) && (!(q.1 == i + 1) && !(q.1 + 1 == i && q.2.category == 2))) = lv') (k : G T X ad n mc ms I J N Q (pc + 2) nL lv' rest) : G T X ad n mc ms I J N Q pc nL lv (.long x :: rest) := fun H locs ls hP hD hS hl => lv_lstore C.1 C.2.1 d hl hn hl' (fun ls hl => k H locs ls hP hD hS hl)
theorem g_aload_n (C : Cx X cc own nL ret rm) {j : Fin 4} {i : Nat} {x : Nat} (d : decode cc pc = .ok (.aload_n j, 1)) (hi : (j : Nat) = i) (q : Nat) (hq : lv[q]? = some (i, .ref x)) (k : G T X ad n mc ms I J N Q (pc + 1) nL lv (.ref x :: rest)) : G T X ad n mc ms I J N Q pc nL lv rest := fun H locs ls hP hD hS hl => lv_aload_n C.1 C.2.1 d hi (lv_at hl q hq) (k H locs ls hP hD hS hl)
theorem g_aload (C : Cx X cc own nL ret rm) {i : Nat} {x : Nat} (d : decode cc pc = .ok (.aload i, 2)) (q : Nat) (hq : lv[q]? = some (i, .ref x)) (k : G T X ad n mc ms I J N Q (pc + 2) nL lv (.ref x :: rest)) : G T X ad n mc ms I J N Q pc nL lv rest := fun H locs ls hP hD hS hl => lv_aload C.1 C.2.1 d (lv_at hl q hq) (k H locs ls hP hD hS hl)
theorem g_astore_n (C : Cx X cc own nL ret rm) {j : Fin 4} {i : Nat} {x : Nat} (d : decode cc pc = .ok (.astore_n j, 1)) (hi : (j : Nat) = i) (hn : i < nL) (hl' : (i, Value.ref x) :: lv.filter (fun q => !(q.1 == i) && !(q.1 + 1 == i && q.2.category == 2)) = lv') (k : G T X ad n mc ms I J N Q (pc + 1) nL lv' rest) : G T X ad n mc ms I J N Q pc nL lv (.ref x :: rest) := fun H locs ls hP hD hS hl => lv_astore_n C.1 C.2.1 d hi hl hn hl' (fun ls hl => k H locs ls hP hD hS hl)
theorem g_astore (C : Cx X cc own nL ret rm) {i : Nat} {x : Nat} (d : decode cc pc = .ok (.astore i, 2)) (hn : i < nL) (hl' : (i, Value.ref x) :: lv.filter (fun q => !(q.1 == i) && !(q.1 + 1 == i && q.2.category == 2)) = lv') (k : G T X ad n mc ms I J N Q (pc + 2) nL lv' rest) : G T X ad n mc ms I J N Q pc nL lv (.ref x :: rest) := fun H locs ls hP hD hS hl => lv_astore C.1 C.2.1 d hl hn hl' (fun ls hl => k H locs ls hP hD hS hl)
theorem g_iinc (C : Cx X cc own nL ret rm) {i q : Nat} {m : Int} {x v : Int32} (d : decode cc pc = .ok (.iinc i m, 3)) (hq : lv[q]? = some (i, .int x)) (hv : x + Int32.ofInt m = v) (hn : i < nL) (hl' : (i, Value.int v) :: lv.filter (fun q => !(q.1 == i) && !(q.1 + 1 == i && q.2.category == 2)) = lv') (k : G T X ad n mc ms I J N Q (pc + 3) nL lv' rest) : G T X ad n mc ms I J N Q pc nL lv rest := fun H locs ls hP hD hS hl => lv_iinc C.1 C.2.1 d hl hq hv hn hl' (fun ls hl => k H locs ls hP hD hS hl)
theorem g_icmp_eq (C : Cx X cc own nL ret rm) {x y : Int32} {off : Int} (tgt : Nat) (d : decode cc pc = .ok (.if_icmp .eq off, 3)) (ht : (pc : Int) + off = (tgt : Int)) (kt : x = y → G T X ad n mc ms I J N Q tgt nL lv rest) (kf : ¬ x = y → G T X ad n mc ms I J N Q (pc + 3) nL lv rest) : G T X ad n mc ms I J N Q pc nL lv (.int y :: .int x :: rest) := fun H locs ls hP hD hS hl => lv_icmp_eq C.1 C.2.1 d ht (fun e => kt e H locs ls hP hD hS hl) (fun e => kf e H locs ls hP hD hS hl)
theorem g_if_eq (C : Cx X cc own nL ret rm) {x : Int32} {off : Int} (tgt : Nat) (d : decode cc pc = .ok (.ifCond .eq off, 3)) (ht : (pc : Int) + off = (tgt : Int)) (kt : x = 0 → G T X ad n mc ms I J N Q tgt nL lv rest) (kf : ¬ x = 0 → G T X ad n mc ms I J N Q (pc + 3) nL lv rest) : G T X ad n mc ms I J N Q pc nL lv (.int x :: rest) := fun H locs ls hP hD hS hl => lv_if_eq C.1 C.2.1 d ht (fun e => kt e H locs ls hP hD hS hl) (fun e => kf e H locs ls hP hD hS hl)
theorem g_lcmp_eq (C : Cx X cc own nL ret rm) {x y : Int64} {off : Int} (tgt : Nat) (d0 : decode cc pc = .ok (.lcmp, 1)) (d : decode cc (pc + 1) = .ok (.ifCond .eq off, 3)) (ht : ((pc + 1 : Nat) : Int) + off = (tgt : Int)) (kt : x = y → G T X ad n mc ms I J N Q tgt nL lv rest) (kf : ¬ x = y → G T X ad n mc ms I J N Q (pc + 1 + 3) nL lv rest) : G T X ad n mc ms I J N Q pc nL lv (.long y :: .long x :: rest) := fun H locs ls hP hD hS hl => W.lcmp C.1 C.2.1 d0 (lv_if_eq C.1 C.2.1 d ht (fun e => kt ((lg_cmp_eq x y).mp e) H locs ls hP hD hS hl) (fun e => kf (fun q => e ((lg_cmp_eq x y).mpr q)) H locs ls hP hD hS hl))
theorem g_icmp_ne (C : Cx X cc own nL ret rm) {x y : Int32} {off : Int} (tgt : Nat) (d : decode cc pc = .ok (.if_icmp .ne off, 3)) (ht : (pc : Int) + off = (tgt : Int)) (kt : ¬ x = y → G T X ad n mc ms I J N Q tgt nL lv rest) (kf : x = y → G T X ad n mc ms I J N Q (pc + 3) nL lv rest) : G T X ad n mc ms I J N Q pc nL lv (.int y :: .int x :: rest) := fun H locs ls hP hD hS hl => lv_icmp_ne C.1 C.2.1 d ht (fun e => kt e H locs ls hP hD hS hl) (fun e => kf e H locs ls hP hD hS hl)
theorem g_if_ne (C : Cx X cc own nL ret rm) {x : Int32} {off : Int} (tgt : Nat) (d : decode cc pc = .ok (.ifCond .ne off, 3)) (ht : (pc : Int) + off = (tgt : Int)) (kt : ¬ x = 0 → G T X ad n mc ms I J N Q tgt nL lv rest) (kf : x = 0 → G T X ad n mc ms I J N Q (pc + 3) nL lv rest) : G T X ad n mc ms I J N Q pc nL lv (.int x :: rest) := fun H locs ls hP hD hS hl => lv_if_ne C.1 C.2.1 d ht (fun e => kt e H locs ls hP hD hS hl) (fun e => kf e H locs ls hP hD hS hl)
theorem g_lcmp_ne (C : Cx X cc own nL ret rm) {x y : Int64} {off : Int} (tgt : Nat) (d0 : decode cc pc = .ok (.lcmp, 1)) (d : decode cc (pc + 1) = .ok (.ifCond .ne off, 3)) (ht : ((pc + 1 : Nat) : Int) + off = (tgt : Int)) (kt : ¬ x = y → G T X ad n mc ms I J N Q tgt nL lv rest) (kf : x = y → G T X ad n mc ms I J N Q (pc + 1 + 3) nL lv rest) : G T X ad n mc ms I J N Q pc nL lv (.long y :: .long x :: rest) := fun H locs ls hP hD hS hl => W.lcmp C.1 C.2.1 d0 (lv_if_ne C.1 C.2.1 d ht (fun e => kt (fun q => e ((lg_cmp_eq x y).mpr q)) H locs ls hP hD hS hl) (fun e => kf ((lg_cmp_eq x y).mp e) H locs ls hP hD hS hl))
theorem g_icmp_lt (C : Cx X cc own nL ret rm) {x y : Int32} {off : Int} (tgt : Nat) (d : decode cc pc = .ok (.if_icmp .lt off, 3)) (ht : (pc : Int) + off = (tgt : Int)) (kt : x < y → G T X ad n mc ms I J N Q tgt nL lv rest) (kf : ¬ x < y → G T X ad n mc ms I J N Q (pc + 3) nL lv rest) : G T X ad n mc ms I J N Q pc nL lv (.int y :: .int x :: rest) := fun H locs ls hP hD hS hl => lv_icmp_lt C.1 C.2.1 d ht (fun e => kt e H locs ls hP hD hS hl) (fun e => kf e H locs ls hP hD hS hl)
theorem g_if_lt (C : Cx X cc own nL ret rm) {x : Int32} {off : Int} (tgt : Nat) (d : decode cc pc = .ok (.ifCond .lt off, 3)) (ht : (pc : Int) + off = (tgt : Int)) (kt : x < 0 → G T X ad n mc ms I J N Q tgt nL lv rest) (kf : ¬ x < 0 → G T X ad n mc ms I J N Q (pc + 3) nL lv rest) : G T X ad n mc ms I J N Q pc nL lv (.int x :: rest) := fun H locs ls hP hD hS hl => lv_if_lt C.1 C.2.1 d ht (fun e => kt e H locs ls hP hD hS hl) (fun e => kf e H locs ls hP hD hS hl)
theorem g_lcmp_lt (C : Cx X cc own nL ret rm) {x y : Int64} {off : Int} (tgt : Nat) (d0 : decode cc pc = .ok (.lcmp, 1)) (d : decode cc (pc + 1) = .ok (.ifCond .lt off, 3)) (ht : ((pc + 1 : Nat) : Int) + off = (tgt : Int)) (kt : x < y → G T X ad n mc ms I J N Q tgt nL lv rest) (kf : ¬ x < y → G T X ad n mc ms I J N Q (pc + 1 + 3) nL lv rest) : G T X ad n mc ms I J N Q pc nL lv (.long y :: .long x :: rest) := fun H locs ls hP hD hS hl => W.lcmp C.1 C.2.1 d0 (lv_if_lt C.1 C.2.1 d ht (fun e => kt ((lg_cmp_lt x y).mp e) H locs ls hP hD hS hl) (fun e => kf (fun q => e ((lg_cmp_lt x y).mpr q)) H locs ls hP hD hS hl))
theorem g_icmp_ge (C : Cx X cc own nL ret rm) {x y : Int32} {off : Int} (tgt : Nat) (d : decode cc pc = .ok (.if_icmp .ge off, 3)) (ht : (pc : Int) + off = (tgt : Int)) (kt : y ≤ x → G T X ad n mc ms I J N Q tgt nL lv rest) (kf : ¬ y ≤ x → G T X ad n mc ms I J N Q (pc + 3) nL lv rest) : G T X ad n mc ms I J N Q pc nL lv (.int y :: .int x :: rest) := fun H locs ls hP hD hS hl => lv_icmp_ge C.1 C.2.1 d ht (fun e => kt e H locs ls hP hD hS hl) (fun e => kf e H locs ls hP hD hS hl)
theorem g_if_ge (C : Cx X cc own nL ret rm) {x : Int32} {off : Int} (tgt : Nat) (d : decode cc pc = .ok (.ifCond .ge off, 3)) (ht : (pc : Int) + off = (tgt : Int)) (kt : 0 ≤ x → G T X ad n mc ms I J N Q tgt nL lv rest) (kf : ¬ 0 ≤ x → G T X ad n mc ms I J N Q (pc + 3) nL lv rest) : G T X ad n mc ms I J N Q pc nL lv (.int x :: rest) := fun H locs ls hP hD hS hl => lv_if_ge C.1 C.2.1 d ht (fun e => kt e H locs ls hP hD hS hl) (fun e => kf e H locs ls hP hD hS hl)
theorem g_lcmp_ge (C : Cx X cc own nL ret rm) {x y : Int64} {off : Int} (tgt : Nat) (d0 : decode cc pc = .ok (.lcmp, 1)) (d : decode cc (pc + 1) = .ok (.ifCond .ge off, 3)) (ht : ((pc + 1 : Nat) : Int) + off = (tgt : Int)) (kt : y ≤ x → G T X ad n mc ms I J N Q tgt nL lv rest) (kf : ¬ y ≤ x → G T X ad n mc ms I J N Q (pc + 1 + 3) nL lv rest) : G T X ad n mc ms I J N Q pc nL lv (.long y :: .long x :: rest) := fun H locs ls hP hD hS hl => W.lcmp C.1 C.2.1 d0 (lv_if_ge C.1 C.2.1 d ht (fun e => kt ((lg_cmp_ge x y).mp e) H locs ls hP hD hS hl) (fun e => kf (fun q => e ((lg_cmp_ge x y).mpr q)) H locs ls hP hD hS hl))
theorem g_icmp_gt (C : Cx X cc own nL ret rm) {x y : Int32} {off : Int} (tgt : Nat) (d : decode cc pc = .ok (.if_icmp .gt off, 3)) (ht : (pc : Int) + off = (tgt : Int)) (kt : y < x → G T X ad n mc ms I J N Q tgt nL lv rest) (kf : ¬ y < x → G T X ad n mc ms I J N Q (pc + 3) nL lv rest) : G T X ad n mc ms I J N Q pc nL lv (.int y :: .int x :: rest) := fun H locs ls hP hD hS hl => lv_icmp_gt C.1 C.2.1 d ht (fun e => kt e H locs ls hP hD hS hl) (fun e => kf e H locs ls hP hD hS hl)
theorem g_if_gt (C : Cx X cc own nL ret rm) {x : Int32} {off : Int} (tgt : Nat) (d : decode cc pc = .ok (.ifCond .gt off, 3)) (ht : (pc : Int) + off = (tgt : Int)) (kt : 0 < x → G T X ad n mc ms I J N Q tgt nL lv rest) (kf : ¬ 0 < x → G T X ad n mc ms I J N Q (pc + 3) nL lv rest) : G T X ad n mc ms I J N Q pc nL lv (.int x :: rest) := fun H locs ls hP hD hS hl => lv_if_gt C.1 C.2.1 d ht (fun e => kt e H locs ls hP hD hS hl) (fun e => kf e H locs ls hP hD hS hl)
theorem g_lcmp_gt (C : Cx X cc own nL ret rm) {x y : Int64} {off : Int} (tgt : Nat) (d0 : decode cc pc = .ok (.lcmp, 1)) (d : decode cc (pc + 1) = .ok (.ifCond .gt off, 3)) (ht : ((pc + 1 : Nat) : Int) + off = (tgt : Int)) (kt : y < x → G T X ad n mc ms I J N Q tgt nL lv rest) (kf : ¬ y < x → G T X ad n mc ms I J N Q (pc + 1 + 3) nL lv rest) : G T X ad n mc ms I J N Q pc nL lv (.long y :: .long x :: rest) := fun H locs ls hP hD hS hl => W.lcmp C.1 C.2.1 d0 (lv_if_gt C.1 C.2.1 d ht (fun e => kt ((lg_cmp_gt x y).mp e) H locs ls hP hD hS hl) (fun e => kf (fun q => e ((lg_cmp_gt x y).mpr q)) H locs ls hP hD hS hl))
theorem g_icmp_le (C : Cx X cc own nL ret rm) {x y : Int32} {off : Int} (tgt : Nat) (d : decode cc pc = .ok (.if_icmp .le off, 3)) (ht : (pc : Int) + off = (tgt : Int)) (kt : x ≤ y → G T X ad n mc ms I J N Q tgt nL lv rest) (kf : ¬ x ≤ y → G T X ad n mc ms I J N Q (pc + 3) nL lv rest) : G T X ad n mc ms I J N Q pc nL lv (.int y :: .int x :: rest) := fun H locs ls hP hD hS hl => lv_icmp_le C.1 C.2.1 d ht (fun e => kt e H locs ls hP hD hS hl) (fun e => kf e H locs ls hP hD hS hl)
theorem g_if_le (C : Cx X cc own nL ret rm) {x : Int32} {off : Int} (tgt : Nat) (d : decode cc pc = .ok (.ifCond .le off, 3)) (ht : (pc : Int) + off = (tgt : Int)) (kt : x ≤ 0 → G T X ad n mc ms I J N Q tgt nL lv rest) (kf : ¬ x ≤ 0 → G T X ad n mc ms I J N Q (pc + 3) nL lv rest) : G T X ad n mc ms I J N Q pc nL lv (.int x :: rest) := fun H locs ls hP hD hS hl => lv_if_le C.1 C.2.1 d ht (fun e => kt e H locs ls hP hD hS hl) (fun e => kf e H locs ls hP hD hS hl)
theorem g_lcmp_le (C : Cx X cc own nL ret rm) {x y : Int64} {off : Int} (tgt : Nat) (d0 : decode cc pc = .ok (.lcmp, 1)) (d : decode cc (pc + 1) = .ok (.ifCond .le off, 3)) (ht : ((pc + 1 : Nat) : Int) + off = (tgt : Int)) (kt : x ≤ y → G T X ad n mc ms I J N Q tgt nL lv rest) (kf : ¬ x ≤ y → G T X ad n mc ms I J N Q (pc + 1 + 3) nL lv rest) : G T X ad n mc ms I J N Q pc nL lv (.long y :: .long x :: rest) := fun H locs ls hP hD hS hl => W.lcmp C.1 C.2.1 d0 (lv_if_le C.1 C.2.1 d ht (fun e => kt ((lg_cmp_le x y).mp e) H locs ls hP hD hS hl) (fun e => kf (fun q => e ((lg_cmp_le x y).mpr q)) H locs ls hP hD hS hl))
theorem g_goto (C : Cx X cc own nL ret rm) {off : Int} (tgt : Nat) {st : List Value} (d : decode cc pc = .ok (.goto off, 3)) (ht : (pc : Int) + off = (tgt : Int)) (k : G T X ad n mc ms I J N Q tgt nL lv st) : G T X ad n mc ms I J N Q pc nL lv st := fun H locs ls hP hD hS hl => lv_goto C.1 C.2.1 d ht (k H locs ls hP hD hS hl)
theorem g_tableIn (C : Cx X cc own nL ret rm) {dflt lo hi : Int} {offs : Array Int} {len : Nat} {x : Int32} {off : Int} (tgt : Nat) (d : decode cc pc = .ok (.tableswitch dflt lo hi offs, len)) (h1 : ¬ x.toInt < lo) (h2 : ¬ hi < x.toInt) (ho : offs[(x.toInt - lo).toNat]? = some off) (ht : (pc : Int) + off = (tgt : Int)) (k : G T X ad n mc ms I J N Q tgt nL lv rest) : G T X ad n mc ms I J N Q pc nL lv (.int x :: rest) := fun H locs ls hP hD hS hl => lv_tableIn C.1 C.2.1 d h1 h2 ho ht (k H locs ls hP hD hS hl)
theorem g_tableOut (C : Cx X cc own nL ret rm) {dflt lo hi : Int} {offs : Array Int} {len : Nat} {x : Int32} (tgt : Nat) (d : decode cc pc = .ok (.tableswitch dflt lo hi offs, len)) (h : x.toInt < lo ∨ hi < x.toInt) (ht : (pc : Int) + dflt = (tgt : Int)) (k : G T X ad n mc ms I J N Q tgt nL lv rest) : G T X ad n mc ms I J N Q pc nL lv (.int x :: rest) := fun H locs ls hP hD hS hl => lv_tableOut C.1 C.2.1 d h ht (k H locs ls hP hD hS hl)
theorem g_iret (C : Cx X cc own nL (some .int) rm) {v : Int32} (d : decode cc pc = .ok (.ireturn, 1)) : G T X ad n 0 0 I J N (gE X T ad n (I, J, N, fun _ => some (.int v))) pc nL lv [.int v] := fun H locs ls hP hD hS hl => W.iret C.1 C.2.1 C.2.2.2.2.2.1 (fun t ht hW => ⟨⟨rfl, by rw [ht]; exact hP⟩, hS.F ht⟩) hS.2.2 d C.2.2.2.2.2.2.1
theorem g_zret (C : Cx X cc own nL (some .boolean) rm) {v : Int32} (hn : narrow .boolean (.int v) = .int v) (d : decode cc pc = .ok (.ireturn, 1)) : G T X ad n 0 0 I J N (gE X T ad n (I, J, N, fun _ => some (.int v))) pc nL lv [.int v] := fun H locs ls hP hD hS hl => W.zret C.1 C.2.1 C.2.2.2.2.2.1 hn (fun t ht hW => ⟨⟨rfl, by rw [ht]; exact hP⟩, hS.F ht⟩) hS.2.2 d C.2.2.2.2.2.2.1
theorem g_lret (C : Cx X cc own nL (some .long) rm) {v : Int64} (d : decode cc pc = .ok (.lreturn, 1)) : G T X ad n 0 0 I J N (gE X T ad n (I, J, N, fun _ => some (.long v))) pc nL lv [.long v] := fun H locs ls hP hD hS hl => W.lret C.1 C.2.1 C.2.2.2.2.2.1 (fun t ht hW => ⟨⟨rfl, by rw [ht]; exact hP⟩, hS.F ht⟩) hS.2.2 d C.2.2.2.2.2.2.1
theorem g_vret (C : Cx X cc own nL none rm) (d : decode cc pc = .ok (.return_, 1)) : G T X ad n 0 0 I J N (gE X T ad n (I, J, N, fun _ => none)) pc nL lv [] := fun H locs ls hP hD hS hl => W.vret C.1 C.2.1 C.2.2.2.2.2.1 (fun t ht hW => ⟨⟨rfl, by rw [ht]; exact hP⟩, hS.F ht⟩) hS.2.2 d C.2.2.2.2.2.2.1
theorem g_aret {cn : String} {b : Nat} (C : Cx X cc own nL (some (.object cn)) rm) (d : decode cc pc = .ok (.areturn, 1)) : G T X ad n 0 0 I J N (gE X T ad n (I, J, N, fun ad => some (.ref (ad b)))) pc nL lv [.ref (ad b)] := fun H locs ls hP hD hS hl => W.aret C.1 C.2.1 C.2.2.2.2.2.1 (Or.inl ⟨_, rfl⟩) (Or.inr ⟨_, rfl⟩) (fun t ht hW => ⟨⟨rfl, by rw [ht]; exact hP⟩, hS.F ht⟩) hS.2.2 d C.2.2.2.2.2.2.1
theorem g_get (C : Cx X cc own nL ret rm) {a ci idx k NF : Nat} {Cn : String} {TF : u_T} {v : Value} (hc : gcl[ci]? = some (Cn, TF, NF)) (hin : ∀ w ∈ u_ws Cn TF NF, w ∈ lw_g) (hk : k < NF) (hlink : Cond.fieldLink own idx (TF k).1 (TF k).2.1 (TF k).2.2.1 ∈ lw_g) (ha : gk T n a (0, ci)) (hv : (gob ad I J N ci a)[k]? = some v) (d : decode cc pc = .ok (.getfield idx, 3)) (kk : G T X ad n mc ms I J N Q (pc + 3) nL lv (v :: rest)) : G T X ad n mc ms I J N Q pc nL lv (.ref (ad a) :: rest) := fun H locs ls hP hD hS hl =>
  va_get C.1 C.2.1 C.2.2.2.2.1 hin C.2.2.2.1 C.2.2.2.2.2.2.2.1 hP a (by rw [gwd_at ha.1, gce_o ha]) hc k hk (C.2.2.2.2.1 _ hlink) (fun _ h => h) hv d (kk H locs ls hP hD hS hl)
theorem g_getN (C : Cx X cc own nL ret rm) {a ci idx k NF : Nat} {Cn host : String} {TF : u_T} {v : Value} (hc : gcl[ci]? = some (Cn, TF, NF)) (hin : ∀ w ∈ u_ws Cn TF NF, w ∈ lw_g) (hk : k < NF) (hlink : Cond.fieldLinkNest own idx (TF k).1 (TF k).2.1 (TF k).2.2.1 host ∈ lw_tbl) (ha : gk T n a (0, ci)) (hv : (gob ad I J N ci a)[k]? = some v) (d : decode cc pc = .ok (.getfield idx, 3)) (kk : G T X ad n mc ms I J N Q (pc + 3) nL lv (v :: rest)) : G T X ad n mc ms I J N Q pc nL lv (.ref (ad a) :: rest) := fun H locs ls hP hD hS hl =>
  va_getN C.1 C.2.1 C.2.2.2.2.1 hin C.2.2.2.1 C.2.2.2.2.2.2.2.1 hP a (by rw [gwd_at ha.1, gce_o ha]) hc k hk (va_Nw.use rfl (C.2.2.2.2.2.2.2.2.2.2 _ hlink rfl)) (fun _ h => h) hv d (kk H locs ls hP hD hS hl)
theorem g_rf {a k b : Nat} (h : N a k = some b) : va_rf ((N a k).map ad) = .ref (ad b) := by rw [h]; rfl
/-- a reference on the stack, by the cell that it names -/
theorem g_top {v w : Value} (e : v = w) (k : G T X ad n mc ms I J N Q pc nL lv (w :: rest)) : G T X ad n mc ms I J N Q pc nL lv (v :: rest) := e ▸ k
theorem g_put (C : Cx X cc own nL ret rm) {a ci idx k NF : Nat} {Cn : String} {TF : u_T} {ty0 : Nat → FieldType} {ty : FieldType} {v : Value} {I' : HI} {J' : HJ} {N' : HN} (hc : gcl[ci]? = some (Cn, TF, NF)) (hin : ∀ w ∈ u_ws Cn TF NF, w ∈ lw_g) (hty : ∀ k, k < NF → parseFieldDescriptor (TF k).2.2.1 = some (ty0 k)) (hnm : ∀ a, a < NF → ∀ b, b < NF → a ≠ b → (TF a).2.1 ≠ (TF b).2.1) (hk : k < NF) (hlink : Cond.fieldLink own idx (TF k).1 (TF k).2.1 (TF k).2.2.1 ∈ lw_g) (hfin : (TF k).2.2.2 = false) (ha : gk T n a (0, ci)) (hd : parseFieldDescriptor (TF k).2.2.1 = some ty) (hn : narrow ty v = v) (hfit : fits ty v = true) (hl9 : k < (gob ad I J N ci a).length)
    (hset : gob ad I' J' N' ci a = (gob ad I J N ci a).set k v) (h1 : ∀ b, b ≠ a → I' b = I b) (h2 : ∀ b, b ≠ a → J' b = J b) (h3 : ∀ b, b ≠ a → N' b = N b) (d : decode cc pc = .ok (.putfield idx, 3)) (kk : G T X ad n mc ms I' J' N' Q (pc + 3) nL lv rest) : G T X ad n mc ms I J N Q pc nL lv (v :: .ref (ad a) :: rest) := fun H locs ls hP hD hS hl =>
  va_put C.1 C.2.1 C.2.2.2.2.1 hin ty0 hty hnm C.2.2.2.1 C.2.2.2.2.2.2.2.1 hP (gin_D hD T _ I J N) hS a (by rw [gwd_at ha.1, gce_o ha]) hc k hk (C.2.2.2.2.1 _ hlink) (fun _ h => h) hfin hd hn hfit hl9 d (fun H1 locs1 hP1 _ hS1 => kk H1 locs1 ls (by rw [gwd_set (by rw [gce_o ha, hset]) h1 h2 h3] at hP1; exact hP1) hD hS1 hl)
theorem g_putN (C : Cx X cc own nL ret rm) {a ci idx k NF : Nat} {Cn host : String} {TF : u_T} {ty0 : Nat → FieldType} {ty : FieldType} {v : Value} {I' : HI} {J' : HJ} {N' : HN} (hc : gcl[ci]? = some (Cn, TF, NF)) (hin : ∀ w ∈ u_ws Cn TF NF, w ∈ lw_g) (hty : ∀ k, k < NF → parseFieldDescriptor (TF k).2.2.1 = some (ty0 k)) (hnm : ∀ a, a < NF → ∀ b, b < NF → a ≠ b → (TF a).2.1 ≠ (TF b).2.1) (hk : k < NF) (hlink : Cond.fieldLinkNest own idx (TF k).1 (TF k).2.1 (TF k).2.2.1 host ∈ lw_tbl) (hfin : (TF k).2.2.2 = false) (ha : gk T n a (0, ci)) (hd : parseFieldDescriptor (TF k).2.2.1 = some ty) (hn : narrow ty v = v) (hfit : fits ty v = true) (hl9 : k < (gob ad I J N ci a).length)
    (hset : gob ad I' J' N' ci a = (gob ad I J N ci a).set k v) (h1 : ∀ b, b ≠ a → I' b = I b) (h2 : ∀ b, b ≠ a → J' b = J b) (h3 : ∀ b, b ≠ a → N' b = N b) (d : decode cc pc = .ok (.putfield idx, 3)) (kk : G T X ad n mc ms I' J' N' Q (pc + 3) nL lv rest) : G T X ad n mc ms I J N Q pc nL lv (v :: .ref (ad a) :: rest) := fun H locs ls hP hD hS hl =>
  va_putN C.1 C.2.1 C.2.2.2.2.1 hin ty0 hty hnm C.2.2.2.1 C.2.2.2.2.2.2.2.1 hP (gin_D hD T _ I J N) hS a (by rw [gwd_at ha.1, gce_o ha]) hc k hk (va_Nw.use rfl (C.2.2.2.2.2.2.2.2.2.2 _ hlink rfl)) (fun _ h => h) hfin hd hn hfit hl9 d (fun H1 locs1 hP1 _ hS1 => kk H1 locs1 ls (by rw [gwd_set (by rw [gce_o ha, hset]) h1 h2 h3] at hP1; exact hP1) hD hS1 hl)
theorem g_putF (C : Cx X cc own nL ret rm) {a ci idx k NF : Nat} {Cn : String} {TF : u_T} {ty0 : Nat → FieldType} {ty : FieldType} {v : Value} {I' : HI} {J' : HJ} {N' : HN} (hi : (xt X).name = "<init>") (hc : gcl[ci]? = some (Cn, TF, NF)) (hin : ∀ w ∈ u_ws Cn TF NF, w ∈ lw_g) (hty : ∀ k, k < NF → parseFieldDescriptor (TF k).2.2.1 = some (ty0 k)) (hnm : ∀ a, a < NF → ∀ b, b < NF → a ≠ b → (TF a).2.1 ≠ (TF b).2.1) (hk : k < NF) (hlink : Cond.fieldLink own idx (TF k).1 (TF k).2.1 (TF k).2.2.1 ∈ lw_g) (hfin : (TF k).2.2.2 = true) (hdecl : (TF k).1 = own) (ha : gk T n a (0, ci)) (hd : parseFieldDescriptor (TF k).2.2.1 = some ty) (hn : narrow ty v = v) (hfit : fits ty v = true) (hl9 : k < (gob ad I J N ci a).length)
    (hset : gob ad I' J' N' ci a = (gob ad I J N ci a).set k v) (h1 : ∀ b, b ≠ a → I' b = I b) (h2 : ∀ b, b ≠ a → J' b = J b) (h3 : ∀ b, b ≠ a → N' b = N b) (d : decode cc pc = .ok (.putfield idx, 3)) (kk : G T X ad n mc ms I' J' N' Q (pc + 3) nL lv rest) : G T X ad n mc ms I J N Q pc nL lv (v :: .ref (ad a) :: rest) := fun H locs ls hP hD hS hl =>
  va_putF C.1 C.2.1 C.2.2.2.2.1 hin ty0 hty hnm C.2.2.2.1 C.2.2.2.2.2.2.2.1 hP (gin_D hD T _ I J N) hS a (by rw [gwd_at ha.1, gce_o ha]) hc k hk (C.2.2.2.2.1 _ hlink) (fun _ h => h) hfin hi hdecl hd hn hfit hl9 d (fun H1 locs1 hP1 _ hS1 => kk H1 locs1 ls (by rw [gwd_set (by rw [gce_o ha, hset]) h1 h2 h3] at hP1; exact hP1) hD hS1 hl)
theorem g_iald (C : Cx X cc own nL ret rm) {a : Nat} {i : Int32} (ha : ga T n a 1) (hi : inb i (T a).2 = true) (d : decode cc pc = .ok (.iaload, 1)) (kk : G T X ad n mc ms I J N Q (pc + 1) nL lv (.int (I a i.toNatClampNeg) :: rest)) : G T X ad n mc ms I J N Q pc nL lv (.int i :: .ref (ad a) :: rest) := fun H locs ls hP hD hS hl =>
  va_iald C.1 C.2.1 C.2.2.2.2.2.2.2.1 hP a 0 (by rw [gwd_at ha.1, gce_i ha]) rfl (inb_in hi) d (kk H locs ls hP hD hS hl)
theorem g_lald (C : Cx X cc own nL ret rm) {a : Nat} {i : Int32} (ha : ga T n a 2) (hi : inb i (T a).2 = true) (d : decode cc pc = .ok (.laload, 1)) (kk : G T X ad n mc ms I J N Q (pc + 1) nL lv (.long (J a i.toNatClampNeg) :: rest)) : G T X ad n mc ms I J N Q pc nL lv (.int i :: .ref (ad a) :: rest) := fun H locs ls hP hD hS hl =>
  va_lald C.1 C.2.1 C.2.2.2.2.2.2.2.1 hP a 1 (by rw [gwd_at ha.1, gce_l ha]) rfl (inb_in hi) d (kk H locs ls hP hD hS hl)
theorem g_iast (C : Cx X cc own nL ret rm) {a : Nat} {i x : Int32} (ha : ga T n a 1) (hi : inb i (T a).2 = true) (d : decode cc pc = .ok (.iastore, 1)) (kk : G T X ad n mc ms (up2 I a i.toNatClampNeg x) J N Q (pc + 1) nL lv rest) : G T X ad n mc ms I J N Q pc nL lv (.int x :: .int i :: .ref (ad a) :: rest) := fun H locs ls hP hD hS hl =>
  va_iast C.1 C.2.1 C.2.2.2.2.2.2.2.1 hP (gin_D hD T _ I J N) hS a 0 (by rw [gwd_at ha.1, gce_i ha]) rfl (inb_in hi) d (fun H1 locs1 hP1 _ hS1 => kk H1 locs1 ls (by rw [gwd_set (I' := up2 I a i.toNatClampNeg x) (J' := J) (N' := N) (by rw [gce_i ha, up2_at]; rfl) (fun b hb => up2_of hb) (fun _ _ => rfl) (fun _ _ => rfl)] at hP1; exact hP1) hD hS1 hl)
theorem g_last (C : Cx X cc own nL ret rm) {a : Nat} {i : Int32} {x : Int64} (ha : ga T n a 2) (hi : inb i (T a).2 = true) (d : decode cc pc = .ok (.lastore, 1)) (kk : G T X ad n mc ms I (up2 J a i.toNatClampNeg x) N Q (pc + 1) nL lv rest) : G T X ad n mc ms I J N Q pc nL lv (.long x :: .int i :: .ref (ad a) :: rest) := fun H locs ls hP hD hS hl =>
  va_last C.1 C.2.1 C.2.2.2.2.2.2.2.1 hP (gin_D hD T _ I J N) hS a 1 (by rw [gwd_at ha.1, gce_l ha]) rfl (inb_in hi) d (fun H1 locs1 hP1 _ hS1 => kk H1 locs1 ls (by rw [gwd_set (I' := I) (J' := up2 J a i.toNatClampNeg x) (N' := N) (by rw [gce_l ha, up2_at]; rfl) (fun _ _ => rfl) (fun b hb => up2_of hb) (fun _ _ => rfl)] at hP1; exact hP1) hD hS1 hl)
theorem g_aald {b : Nat} (κ t0 : Nat) {tt : FieldType} (C : Cx X cc own nL ret rm) {a : Nat} {i : Int32} (ha : ga T n a κ) (hk : κ = 3 ∧ t0 = 2 ∧ tt = .array .int ∨ κ = 4 ∧ t0 = 3 ∧ tt = .array .long) (hi : inb i (T a).2 = true) (hb : N a i.toNatClampNeg = some b) (d : decode cc pc = .ok (.aaload, 1)) (kk : G T X ad n mc ms I J N Q (pc + 1) nL lv (.ref (ad b) :: rest)) : G T X ad n mc ms I J N Q pc nL lv (.int i :: .ref (ad a) :: rest) := fun H locs ls hP hD hS hl => by
  have hin := inb_in hi
  have hlt : i.toNatClampNeg < (T a).2 := Nat.not_le.mp fun q => hin (Or.inr q)
  have key : ∀ (cA : ClassId) (t1 : Nat) (t2 : FieldType), (gtys (xy X))[t1]? = some (cA, t2) → t2.isReference = true → gce T (xy X) ad I J N a = .inl (cA, (T a).2, .inr (.inr (.inr (.inr (fun k => (N a k).map ad))))) → W (xp X) (xl X) (xe X) (xR X) (xs X) (xm X) (xa X) (xb X) (xt X) (xc X) H locs mc ms Q (F0 (xm X) pc ls (.int i :: .ref (ad a) :: rest)) := by
    intro cA t1 t2 ht hr hg
    have hc := hP a _ (gwd_at ha.1)
    rw [hg] at hc
    exact W.aald (v := .ref (ad b)) (ty := t2) C.1 C.2.1 hc ((C.2.2.2.2.2.2.2.1.2 t1 _ ht).1 (T a).2 (fun j => va_rf ((N a j).map ad))) hr (fun q => by cases q) (by show ¬ (i < 0 ∨ (arrV _ _ _).slots.size ≤ _); rw [arrV_size]; exact hin) (by show (arrV _ _ _).slots[_]? = _; rw [arrV_read _ _ hlt]; show some (va_rf ((N a i.toNatClampNeg).map ad)) = _; rw [hb]; rfl) rfl rfl d (kk H locs ls hP hD hS hl)
  rcases hk with ⟨rfl, rfl, rfl⟩ | ⟨rfl, rfl, rfl⟩
  · exact key _ 2 (.array .int) rfl rfl (gce_a ha)
  · exact key _ 3 (.array .long) rfl rfl (gce_b ha)
/-- what a call wants of the tables, by kind: 0 virtual, 1 static, 2 special -/
def sM (y : MethodName) (cc : ByteArray) (nL : Nat) (ret : Option FieldType) (np : Nat) : Prop := Cond.code y cc nL ret ∈ lw_g ∧ Cond.initialized y.cls ∈ lw_g ∧ (y.cls ≠ "java/lang/invoke/MethodHandle" ∧ y.cls ≠ "java/lang/invoke/VarHandle" ∧ (parseMethodDescriptor y.desc).map (fun d => d.parameters.length) = some np)
theorem g_pre {D : va_G} {yc : Nat → ClassId} {sz : Nat} {av : List Value} : FrameBlind (gPc T D yc ad n sz I J N av) := fun a U g mk h => ⟨h.1, h.2.1, h.2.2.1, va_K.moved (u := U) (U := U.calling g mk a) (Vm.Alike.refl U.vm) h.2.2.2.1, nwS.same (u := U) (U := U.calling g mk a) rfl h.2.2.2.2.1, h.2.2.2.2.2⟩
theorem g_call {st0 : List Value} {a9 : Array Value} {I' : HI} {J' : HJ} {N' : HN} {rv : (Nat → Nat) → Option Value}
    (hr : ∀ (H : Heap) (locs : List Loc) (ls : Array Slot), va_P (xD X) gcl (gwd T (xy X) ad n I J N) H → gin (xA X) ad n → lv_has ls nL lv → va_Run (xp X) (xl X) (xe X) (xR X) (xs X) (xm X) (xa X) (xb X) (xt X) (xc X) H locs mc ms 0 0 (F0 (xm X) pc ls st0) rest (gQc T (xD X) (xy X) ad n (gA ad n H.size) (I', J', N', rv) a9) (gA ad n H.size))
    (hA : ∀ q, (xs X).heap.size ≤ q → xA X q)
    (k : G T X ad n mc ms I' J' N' Q (pc + 3) nL lv ((rv ad).toList ++ rest)) : G T X ad n mc ms I J N Q pc nL lv st0 := by
  intro H locs ls hP hD hS hl T0 hT XS
  obtain ⟨v, st₀, t, T', L, h0, X', hL, e1, e2, ⟨⟨hv, hP1⟩, hz, hk⟩, st⟩ := hr H locs ls hP hD hl T0 hT XS
  have hA0 : ∀ q, gA ad n H.size q → xA X q := fun q h => by
    rcases h with ⟨i, hi, rfl⟩ | h
    · exact hD.2 i hi
    · exact hA q (Nat.le_trans hS.1 h)
  cases hv
  rw [h0] at hz hk
  obtain ⟨t2, a1, b1⟩ := k T'.heap (locs ++ L) ls (by rw [e1]; exact hP1) hD ⟨Nat.le_trans hS.1 (by rw [e1]; exact hz), fun q h1 h2 => by rw [e1, hk q (Nat.lt_of_lt_of_le h1 hS.1) (fun z => h2 (hA0 q z))]; exact hS.2.1 q h1 h2, fun q hq => by
      rcases List.mem_append.mp hq with h | h
      · exact hS.2.2 q h
      · exact hA0 _ (hL q h)⟩ hl T' rfl X'
  exact ⟨t2, st t2 a1, b1⟩
theorem g_V {y : MethodName} {cc2 : ByteArray} {nL2 np idx ci b : Nat} {ret2 : Option FieldType} {rm2 : Room} {I' : HI} {J' : HJ} {N' : HN} {rv : (Nat → Nat) → Option Value} {As : (Nat → Nat) → List Value} {st0 : List Value} {Cn : String} {TF : u_T} {NF : Nat} (C : Cx X cc own nL ret rm) (M : gM (xl X) y cc2 nL2 ret2 rm2 T n I J N (fun ad => .ref (ad b) :: As ad) (I', J', N', rv)) (S : sM y cc2 nL2 ret2 np) (w1 : Cond.methodLink own idx y ∈ lw_g) (w2 : Cond.instanceMethod y ∈ lw_g) (w3 : Cond.selects y.cls y y ∈ lw_g) (hc : gcl[ci]? = some (Cn, TF, NF)) (hcn : Cn = y.cls) (hb : gk T n b (0, ci)) (hR : rm2.cells = 0 ∧ rm2.slots = 0 ∧ rm2.frames + 1 ≤ rm.frames ∧ 8 + (nL2 + 11) + rm2.locals ≤ rm.locals) (hf : mc ≤ rm.cells ∧ ms ≤ rm.slots) (hn : (As ad).length = np) (hst : st0 = (As ad).reverse ++ .ref (ad b) :: rest) (hW : (rest.map fun v => v.category).sum ≤ 8) (d : decode cc pc = .ok (.invokevirtual idx, 3))
    (st1 : List Value) (hst1 : (rv ad).toList ++ rest = st1) (k : G T X ad n mc ms I' J' N' Q (pc + 3) nL lv st1) : G T X ad n mc ms I J N Q pc nL lv st0 := by
  subst hst1
  have eR := C.2.2.2.2.2.2.2.2.2.1
  subst hcn
  refine g_call (a9 := (Value.ref (ad b) :: As ad).toArray) (fun H locs ls hP hD hl => ?_) C.2.2.2.2.2.2.2.2.1 k
  exact va_runV (b := ad b) (As := As ad) (n := np) ⟨C.1, C.2.1, C.2.2.1, C.2.2.2.1, C.2.2.2.2.1⟩ (M (xD X) (xy X) ad H.size) ⟨callB_of np C.2.2.2.2.1 (lw_gi S.1) rfl hR.1 hR.2.1 (C.2.2.2.2.1 _ S.2.1) (C.2.2.2.2.1 _ w1) S.2.2 (by rw [eR]; exact hR.2.2), C.2.2.2.2.1 _ w2, C.2.2.2.2.1 _ w3⟩ ⟨g_pre, va_recv C.2.2.2.2.2.2.2.1 hP hc (by rw [gwd_at hb.1, gce_o hb]), fun U hU hWm => ⟨rfl, by rw [hU], by rw [hU]; exact hP, va_K.moved hWm.alike C.2.2.2.2.2.2.2.1, nwS.warm hWm C.2.2.2.2.2.2.2.2.2.2, hD.1⟩⟩ rfl hn hl.1 (by rw [hst]) (lv_room hW) d (by rw [eR]; exact hf)
theorem g_VN {y : MethodName} {cc2 : ByteArray} {nL2 np idx ci b : Nat} {ret2 : Option FieldType} {rm2 : Room} {I' : HI} {J' : HJ} {N' : HN} {rv : (Nat → Nat) → Option Value} {As : (Nat → Nat) → List Value} {st0 : List Value} {Cn host : String} {TF : u_T} {NF : Nat} (C : Cx X cc own nL ret rm) (M : gM (xl X) y cc2 nL2 ret2 rm2 T n I J N (fun ad => .ref (ad b) :: As ad) (I', J', N', rv)) (S : sM y cc2 nL2 ret2 np) (w1 : Cond.methodLinkNest own idx y host ∈ lw_tbl) (w2 : Cond.instanceMethod y ∈ lw_g) (w3 : Cond.selects y.cls y y ∈ lw_g) (hc : gcl[ci]? = some (Cn, TF, NF)) (hcn : Cn = y.cls) (hb : gk T n b (0, ci)) (hR : rm2.cells = 0 ∧ rm2.slots = 0 ∧ rm2.frames + 1 ≤ rm.frames ∧ 8 + (nL2 + 11) + rm2.locals ≤ rm.locals) (hf : mc ≤ rm.cells ∧ ms ≤ rm.slots) (hn : (As ad).length = np) (hst : st0 = (As ad).reverse ++ .ref (ad b) :: rest) (hW : (rest.map fun v => v.category).sum ≤ 8) (d : decode cc pc = .ok (.invokevirtual idx, 3))
    (st1 : List Value) (hst1 : (rv ad).toList ++ rest = st1) (k : G T X ad n mc ms I' J' N' Q (pc + 3) nL lv st1) : G T X ad n mc ms I J N Q pc nL lv st0 := by
  subst hst1
  have eR := C.2.2.2.2.2.2.2.2.2.1
  subst hcn
  refine g_call (a9 := (Value.ref (ad b) :: As ad).toArray) (fun H locs ls hP hD hl => ?_) C.2.2.2.2.2.2.2.2.1 k
  exact va_runVN (b := ad b) (As := As ad) (n := np) ⟨C.1, C.2.1, C.2.2.1, C.2.2.2.1, C.2.2.2.2.1⟩ (M (xD X) (xy X) ad H.size) ⟨va_cnB np C.2.2.2.2.1 (lw_gi S.1) rfl hR.1 hR.2.1 (C.2.2.2.2.2.2.2.2.2.2 _ w1 rfl) (C.2.2.2.2.1 _ S.2.1) S.2.2 (by rw [eR]; exact hR.2.2), C.2.2.2.2.1 _ w2, C.2.2.2.2.1 _ w3⟩ ⟨g_pre, va_recv C.2.2.2.2.2.2.2.1 hP hc (by rw [gwd_at hb.1, gce_o hb]), fun U hU hWm => ⟨rfl, by rw [hU], by rw [hU]; exact hP, va_K.moved hWm.alike C.2.2.2.2.2.2.2.1, nwS.warm hWm C.2.2.2.2.2.2.2.2.2.2, hD.1⟩⟩ rfl hn hl.1 (by rw [hst]) (lv_room hW) d (by rw [eR]; exact hf)
theorem g_S {y : MethodName} {cc2 : ByteArray} {nL2 np idx : Nat} {ret2 : Option FieldType} {rm2 : Room} {I' : HI} {J' : HJ} {N' : HN} {rv : (Nat → Nat) → Option Value} {As : (Nat → Nat) → List Value} {st0 : List Value} (C : Cx X cc own nL ret rm) (M : gM (xl X) y cc2 nL2 ret2 rm2 T n I J N As (I', J', N', rv)) (S : sM y cc2 nL2 ret2 np) (w1 : Cond.methodLink own idx y ∈ lw_g) (w2 : Cond.static y ∈ lw_g) (hR : rm2.cells = 0 ∧ rm2.slots = 0 ∧ rm2.frames + 1 ≤ rm.frames ∧ 8 + (nL2 + 11) + rm2.locals ≤ rm.locals) (hf : mc ≤ rm.cells ∧ ms ≤ rm.slots) (hn : (As ad).length = np) (hst : st0 = (As ad).reverse ++ rest) (hW : (rest.map fun v => v.category).sum ≤ 8) (d : decode cc pc = .ok (.invokestatic idx, 3))
    (st1 : List Value) (hst1 : (rv ad).toList ++ rest = st1) (k : G T X ad n mc ms I' J' N' Q (pc + 3) nL lv st1) : G T X ad n mc ms I J N Q pc nL lv st0 := by
  subst hst1
  have eR := C.2.2.2.2.2.2.2.2.2.1
  refine g_call (a9 := (As ad).toArray) (fun H locs ls hP hD hl => ?_) C.2.2.2.2.2.2.2.2.1 k
  exact va_runS (As := As ad) (n := np) ⟨C.1, C.2.1, C.2.2.1, C.2.2.2.1, C.2.2.2.2.1⟩ (M (xD X) (xy X) ad H.size) ⟨callB_of np C.2.2.2.2.1 (lw_gi S.1) rfl hR.1 hR.2.1 (C.2.2.2.2.1 _ S.2.1) (C.2.2.2.2.1 _ w1) S.2.2 (by rw [eR]; exact hR.2.2), C.2.2.2.2.1 _ w2⟩ ⟨g_pre, fun U hU hWm => ⟨rfl, by rw [hU], by rw [hU]; exact hP, va_K.moved hWm.alike C.2.2.2.2.2.2.2.1, nwS.warm hWm C.2.2.2.2.2.2.2.2.2.2, hD.1⟩⟩ rfl hn hl.1 (by rw [hst]) (lv_room hW) d (by rw [eR]; exact hf)
theorem g_SN {y : MethodName} {cc2 : ByteArray} {nL2 np idx : Nat} {ret2 : Option FieldType} {rm2 : Room} {I' : HI} {J' : HJ} {N' : HN} {rv : (Nat → Nat) → Option Value} {As : (Nat → Nat) → List Value} {st0 : List Value} {host : String} (C : Cx X cc own nL ret rm) (M : gM (xl X) y cc2 nL2 ret2 rm2 T n I J N As (I', J', N', rv)) (S : sM y cc2 nL2 ret2 np) (w1 : Cond.methodLinkNest own idx y host ∈ lw_tbl) (w2 : Cond.static y ∈ lw_g) (hR : rm2.cells = 0 ∧ rm2.slots = 0 ∧ rm2.frames + 1 ≤ rm.frames ∧ 8 + (nL2 + 11) + rm2.locals ≤ rm.locals) (hf : mc ≤ rm.cells ∧ ms ≤ rm.slots) (hn : (As ad).length = np) (hst : st0 = (As ad).reverse ++ rest) (hW : (rest.map fun v => v.category).sum ≤ 8) (d : decode cc pc = .ok (.invokestatic idx, 3))
    (st1 : List Value) (hst1 : (rv ad).toList ++ rest = st1) (k : G T X ad n mc ms I' J' N' Q (pc + 3) nL lv st1) : G T X ad n mc ms I J N Q pc nL lv st0 := by
  subst hst1
  have eR := C.2.2.2.2.2.2.2.2.2.1
  refine g_call (a9 := (As ad).toArray) (fun H locs ls hP hD hl => ?_) C.2.2.2.2.2.2.2.2.1 k
  exact va_runSN (As := As ad) (n := np) ⟨C.1, C.2.1, C.2.2.1, C.2.2.2.1, C.2.2.2.2.1⟩ (M (xD X) (xy X) ad H.size) ⟨va_cnB np C.2.2.2.2.1 (lw_gi S.1) rfl hR.1 hR.2.1 (C.2.2.2.2.2.2.2.2.2.2 _ w1 rfl) (C.2.2.2.2.1 _ S.2.1) S.2.2 (by rw [eR]; exact hR.2.2), C.2.2.2.2.1 _ w2, trivial⟩ ⟨g_pre, fun U hU hWm => ⟨rfl, by rw [hU], by rw [hU]; exact hP, va_K.moved hWm.alike C.2.2.2.2.2.2.2.1, nwS.warm hWm C.2.2.2.2.2.2.2.2.2.2, hD.1⟩⟩ rfl hn hl.1 (by rw [hst]) (lv_room hW) d (by rw [eR]; exact hf)
theorem g_max (C : Cx X cc own nL ret rm) {idx : Nat} {x y : Int32} (w1 : Cond.methodLink own idx Lib.Math.max.name ∈ lw_g) (w2 : Cond.static Lib.Math.max.name ∈ lw_g) (w3 : Cond.initialized "java/lang/Math" ∈ lw_g) (w4 : Cond.code Lib.Math.max.name Lib.Math.max.code 2 (some .int) ∈ lw_g) (hR : 1 ≤ rm.frames ∧ (rest.map fun v => v.category).sum + 13 ≤ rm.locals ∧ mc ≤ rm.cells ∧ ms ≤ rm.slots) (d : decode cc pc = .ok (.invokestatic idx, 3)) (k : G T X ad n mc ms I J N Q (pc + 3) nL lv (.int (if x < y then y else x) :: rest)) : G T X ad n mc ms I J N Q pc nL lv (.int y :: .int x :: rest) := fun H locs ls hP hD hS hl => by
  have eR := C.2.2.2.2.2.2.2.2.2.1
  exact va_mmax C.1 C.2.1 (C.2.2.1.trans hl.1.symm) C.2.2.2.1 (C.2.2.2.2.1 _ w1) (C.2.2.2.2.1 _ w2) (C.2.2.2.2.1 _ w3) (C.2.2.2.2.1 _ w4) (by rw [eR]; exact hR.1) (by rw [eR]; exact hR.2.1) (by rw [eR]; exact hR.2.2.1) (by rw [eR]; exact hR.2.2.2) d (k H locs ls hP hD hS hl)
theorem g_min (C : Cx X cc own nL ret rm) {idx : Nat} {x y : Int32} (w1 : Cond.methodLink own idx Lib.Math.min.name ∈ lw_g) (w2 : Cond.static Lib.Math.min.name ∈ lw_g) (w3 : Cond.initialized "java/lang/Math" ∈ lw_g) (w4 : Cond.code Lib.Math.min.name Lib.Math.min.code 2 (some .int) ∈ lw_g) (hR : 1 ≤ rm.frames ∧ (rest.map fun v => v.category).sum + 13 ≤ rm.locals ∧ mc ≤ rm.cells ∧ ms ≤ rm.slots) (d : decode cc pc = .ok (.invokestatic idx, 3)) (k : G T X ad n mc ms I J N Q (pc + 3) nL lv (.int (if y < x then y else x) :: rest)) : G T X ad n mc ms I J N Q pc nL lv (.int y :: .int x :: rest) := fun H locs ls hP hD hS hl => by
  have eR := C.2.2.2.2.2.2.2.2.2.1
  exact va_mmin C.1 C.2.1 (C.2.2.1.trans hl.1.symm) C.2.2.2.1 (C.2.2.2.2.1 _ w1) (C.2.2.2.2.1 _ w2) (C.2.2.2.2.1 _ w3) (C.2.2.2.2.1 _ w4) (by rw [eR]; exact hR.1) (by rw [eR]; exact hR.2.1) (by rw [eR]; exact hR.2.2.1) (by rw [eR]; exact hR.2.2.2) d (k H locs ls hP hD hS hl)
theorem g_abs (C : Cx X cc own nL ret rm) {idx : Nat} {x : Int64} (w1 : Cond.methodLink own idx Lib.MathLoose.abs_long.x ∈ lw_g) (w2 : Cond.static Lib.MathLoose.abs_long.x ∈ lw_g) (w3 : Cond.initialized "java/lang/Math" ∈ lw_g) (w4 : Cond.code Lib.MathLoose.abs_long.x Lib.MathLoose.abs_long.code 2 (some .long) ∈ lw_g) (hR : 1 ≤ rm.frames ∧ (rest.map fun v => v.category).sum + 13 ≤ rm.locals ∧ mc ≤ rm.cells ∧ ms ≤ rm.slots) (d : decode cc pc = .ok (.invokestatic idx, 3)) (k : G T X ad n mc ms I J N Q (pc + 3) nL lv (.long (if 0 < x then x else -x) :: rest)) : G T X ad n mc ms I J N Q pc nL lv (.long x :: rest) := fun H locs ls hP hD hS hl => by
  have eR := C.2.2.2.2.2.2.2.2.2.1
  exact va_mabs_long C.1 C.2.1 (C.2.2.1.trans hl.1.symm) C.2.2.2.1 (C.2.2.2.2.1 _ w1) (C.2.2.2.2.1 _ w2) (C.2.2.2.2.1 _ w3) (C.2.2.2.2.1 _ w4) (by rw [eR]; exact hR.1) (by rw [eR]; exact hR.2.1) (by rw [eR]; exact hR.2.2.1) (by rw [eR]; exact hR.2.2.2) d (k H locs ls hP hD hS hl)
theorem g_copyl (C : Cx X cc own nL ret rm) {idx a b : Nat} {sp dp len : Int32} (w1 : Cond.methodLink own idx arraycopyName ∈ lw_g) (w2 : Cond.native arraycopyName ∈ lw_g) (w3 : Cond.static arraycopyName ∈ lw_g) (w4 : Cond.initialized "java/lang/System" ∈ lw_g) (ha : ga T n a 2) (hb : ga T n b 2) (hg : cpb sp dp len (T a).2 (T b).2 = true) (hR : 1 ≤ rm.frames ∧ (rest.map fun v => v.category).sum + (nativeFrameWords "java/lang/System" "arraycopy" 5 + 11) ≤ rm.locals) (d : decode cc pc = .ok (.invokestatic idx, 3)) (k : G T X ad n mc ms I (va_up J b (va_cpy (J a) (J b) sp.toNatClampNeg dp.toNatClampNeg len.toNatClampNeg)) N Q (pc + 3) nL lv rest) : G T X ad n mc ms I J N Q pc nL lv (.int len :: .int dp :: .ref (ad b) :: .int sp :: .ref (ad a) :: rest) := fun H locs ls hP hD hS hl => by
  have eR := C.2.2.2.2.2.2.2.2.2.1
  unfold cpb at hg
  simp only [Bool.and_eq_true, Bool.not_eq_true', decide_eq_false_iff_not, decide_eq_true_eq] at hg
  obtain ⟨⟨⟨⟨h1, h2⟩, h3⟩, h4⟩, h5⟩ := hg
  exact va_copyl C.1 C.2.1 (C.2.2.1.trans hl.1.symm) C.2.2.2.1 (C.2.2.2.2.1 _ w1) (C.2.2.2.2.1 _ w2) (C.2.2.2.2.1 _ w3) (C.2.2.2.2.1 _ w4) C.2.2.2.2.2.2.2.1 hP (gin_D hD T _ I J N) hS a b 1 1 (by rw [gwd_at ha.1, gce_l ha]) (by rw [gwd_at hb.1, gce_l hb]) rfl rfl rfl h1 h2 h3 h4 h5 (fun i _ => rfl) (by rw [eR]; exact hR.1) (by rw [eR]; exact hR.2) d (fun H1 locs1 hP1 _ hS1 => k H1 locs1 ls (by rw [gwd_set (I' := I) (J' := va_up J b (va_cpy (J a) (J b) sp.toNatClampNeg dp.toNatClampNeg len.toNatClampNeg)) (N' := N) (by rw [gce_l hb, va_up_at]) (fun _ _ => rfl) (fun b hb => va_up_of hb) (fun _ _ => rfl)] at hP1; exact hP1) hD hS1 hl)
end GR
theorem sw_out (x : Int32) (m : Nat) (hm : m < 2 ^ 31) (h : ∀ k, k < m → ¬ x = Int32.ofNat k) : x.toInt < 0 ∨ (m : Int) - 1 < x.toInt := by
  by_cases h0 : x < 0
  · left
    have := Int32.lt_iff_toInt_lt.mp h0
    simpa using this
  · obtain ⟨j, hj, rfl⟩ := nI_of h0
    right
    rw [nI_toInt hj]
    by_cases hjm : j < m
    · exact absurd rfl (h j hjm)
    · omega
theorem zn_0 : narrow .boolean (.int 0) = .int 0 := rfl
theorem zn_1 : narrow .boolean (.int 1) = .int 1 := rfl
def isB (x : Int32) : Bool := decide (x = 0) || decide (x = 1)
theorem zn_B {x : Int32} (h : isB x = true) : narrow .boolean (.int x) = .int x := by
  unfold isB at h
  simp only [Bool.or_eq_true, decide_eq_true_eq] at h
  rcases h with rfl | rfl <;> rfl
theorem gs_0_0 {ad : Nat → Nat} {I : HI} {J : HJ} {N : HN} {a : Nat} {v : Nat} : gob ad I J (up2 N a 0 (some v)) 0 a = (gob ad I J N 0 a).set 0 (.ref (ad v)) := by simp [gob, up2, va_up, va_rf]
theorem gs_0_1 {ad : Nat → Nat} {I : HI} {J : HJ} {N : HN} {a : Nat} {v : Int32} : gob ad (up2 I a 1 v) J N 0 a = (gob ad I J N 0 a).set 1 (.int v) := by simp [gob, up2, va_up, va_rf]
theorem gs_1_0 {ad : Nat → Nat} {I : HI} {J : HJ} {N : HN} {a : Nat} {v : Nat} : gob ad I J (up2 N a 0 (some v)) 1 a = (gob ad I J N 1 a).set 0 (.ref (ad v)) := by simp [gob, up2, va_up, va_rf]
theorem gs_1_1 {ad : Nat → Nat} {I : HI} {J : HJ} {N : HN} {a : Nat} {v : Nat} : gob ad I J (up2 N a 1 (some v)) 1 a = (gob ad I J N 1 a).set 1 (.ref (ad v)) := by simp [gob, up2, va_up, va_rf]
theorem gs_1_2 {ad : Nat → Nat} {I : HI} {J : HJ} {N : HN} {a : Nat} {v : Nat} : gob ad I J (up2 N a 2 (some v)) 1 a = (gob ad I J N 1 a).set 2 (.ref (ad v)) := by simp [gob, up2, va_up, va_rf]
theorem gs_2_0 {ad : Nat → Nat} {I : HI} {J : HJ} {N : HN} {a : Nat} {v : Int64} : gob ad I (up2 J a 0 v) N 2 a = (gob ad I J N 2 a).set 0 (.long v) := by simp [gob, up2, va_up, va_rf]
theorem gs_2_1 {ad : Nat → Nat} {I : HI} {J : HJ} {N : HN} {a : Nat} {v : Int64} : gob ad I (up2 J a 1 v) N 2 a = (gob ad I J N 2 a).set 1 (.long v) := by simp [gob, up2, va_up, va_rf]
theorem gs_3_0 {ad : Nat → Nat} {I : HI} {J : HJ} {N : HN} {a : Nat} {v : Nat} : gob ad I J (up2 N a 0 (some v)) 3 a = (gob ad I J N 3 a).set 0 (.ref (ad v)) := by simp [gob, up2, va_up, va_rf]
theorem gs_3_1 {ad : Nat → Nat} {I : HI} {J : HJ} {N : HN} {a : Nat} {v : Int32} : gob ad (up2 I a 1 v) J N 3 a = (gob ad I J N 3 a).set 1 (.int v) := by simp [gob, up2, va_up, va_rf]
theorem gs_4_0 {ad : Nat → Nat} {I : HI} {J : HJ} {N : HN} {a : Nat} {v : Nat} : gob ad I J (up2 N a 0 (some v)) 4 a = (gob ad I J N 4 a).set 0 (.ref (ad v)) := by simp [gob, up2, va_up, va_rf]
theorem gs_4_1 {ad : Nat → Nat} {I : HI} {J : HJ} {N : HN} {a : Nat} {v : Nat} : gob ad I J (up2 N a 1 (some v)) 4 a = (gob ad I J N 4 a).set 1 (.ref (ad v)) := by simp [gob, up2, va_up, va_rf]
theorem gs_4_2 {ad : Nat → Nat} {I : HI} {J : HJ} {N : HN} {a : Nat} {v : Int32} : gob ad (up2 I a 2 v) J N 4 a = (gob ad I J N 4 a).set 2 (.int v) := by simp [gob, up2, va_up, va_rf]
theorem gs_5_0 {ad : Nat → Nat} {I : HI} {J : HJ} {N : HN} {a : Nat} {v : Nat} : gob ad I J (up2 N a 0 (some v)) 5 a = (gob ad I J N 5 a).set 0 (.ref (ad v)) := by simp [gob, up2, va_up, va_rf]
theorem gs_5_1 {ad : Nat → Nat} {I : HI} {J : HJ} {N : HN} {a : Nat} {v : Nat} : gob ad I J (up2 N a 1 (some v)) 5 a = (gob ad I J N 5 a).set 1 (.ref (ad v)) := by simp [gob, up2, va_up, va_rf]
theorem gs_6_0 {ad : Nat → Nat} {I : HI} {J : HJ} {N : HN} {a : Nat} {v : Nat} : gob ad I J (up2 N a 0 (some v)) 6 a = (gob ad I J N 6 a).set 0 (.ref (ad v)) := by simp [gob, up2, va_up, va_rf]
theorem gs_7_0 {ad : Nat → Nat} {I : HI} {J : HJ} {N : HN} {a : Nat} {v : Nat} : gob ad I J (up2 N a 0 (some v)) 7 a = (gob ad I J N 7 a).set 0 (.ref (ad v)) := by simp [gob, up2, va_up, va_rf]
theorem gs_7_1 {ad : Nat → Nat} {I : HI} {J : HJ} {N : HN} {a : Nat} {v : Nat} : gob ad I J (up2 N a 1 (some v)) 7 a = (gob ad I J N 7 a).set 1 (.ref (ad v)) := by simp [gob, up2, va_up, va_rf]
theorem gs_8_0 {ad : Nat → Nat} {I : HI} {J : HJ} {N : HN} {a : Nat} {v : Nat} : gob ad I J (up2 N a 0 (some v)) 8 a = (gob ad I J N 8 a).set 0 (.ref (ad v)) := by simp [gob, up2, va_up, va_rf]
theorem gs_8_1 {ad : Nat → Nat} {I : HI} {J : HJ} {N : HN} {a : Nat} {v : Nat} : gob ad I J (up2 N a 1 (some v)) 8 a = (gob ad I J N 8 a).set 1 (.ref (ad v)) := by simp [gob, up2, va_up, va_rf]
theorem gs_9_0 {ad : Nat → Nat} {I : HI} {J : HJ} {N : HN} {a : Nat} {v : Nat} : gob ad I J (up2 N a 0 (some v)) 9 a = (gob ad I J N 9 a).set 0 (.ref (ad v)) := by simp [gob, up2, va_up, va_rf]
theorem gs_9_1 {ad : Nat → Nat} {I : HI} {J : HJ} {N : HN} {a : Nat} {v : Nat} : gob ad I J (up2 N a 1 (some v)) 9 a = (gob ad I J N 9 a).set 1 (.ref (ad v)) := by simp [gob, up2, va_up, va_rf]
theorem gs_9_2 {ad : Nat → Nat} {I : HI} {J : HJ} {N : HN} {a : Nat} {v : Nat} : gob ad I J (up2 N a 2 (some v)) 9 a = (gob ad I J N 9 a).set 2 (.ref (ad v)) := by simp [gob, up2, va_up, va_rf]
theorem gs_9_3 {ad : Nat → Nat} {I : HI} {J : HJ} {N : HN} {a : Nat} {v : Nat} : gob ad I J (up2 N a 3 (some v)) 9 a = (gob ad I J N 9 a).set 3 (.ref (ad v)) := by simp [gob, up2, va_up, va_rf]
theorem gs_9_4 {ad : Nat → Nat} {I : HI} {J : HJ} {N : HN} {a : Nat} {v : Nat} : gob ad I J (up2 N a 4 (some v)) 9 a = (gob ad I J N 9 a).set 4 (.ref (ad v)) := by simp [gob, up2, va_up, va_rf]
theorem gs_9_5 {ad : Nat → Nat} {I : HI} {J : HJ} {N : HN} {a : Nat} {v : Nat} : gob ad I J (up2 N a 5 (some v)) 9 a = (gob ad I J N 9 a).set 5 (.ref (ad v)) := by simp [gob, up2, va_up, va_rf]
theorem gs_9_6 {ad : Nat → Nat} {I : HI} {J : HJ} {N : HN} {a : Nat} {v : Nat} : gob ad I J (up2 N a 6 (some v)) 9 a = (gob ad I J N 9 a).set 6 (.ref (ad v)) := by simp [gob, up2, va_up, va_rf]
theorem gs_9_7 {ad : Nat → Nat} {I : HI} {J : HJ} {N : HN} {a : Nat} {v : Nat} : gob ad I J (up2 N a 7 (some v)) 9 a = (gob ad I J N 9 a).set 7 (.ref (ad v)) := by simp [gob, up2, va_up, va_rf]
theorem gs_9_8 {ad : Nat → Nat} {I : HI} {J : HJ} {N : HN} {a : Nat} {v : Nat} : gob ad I J (up2 N a 8 (some v)) 9 a = (gob ad I J N 9 a).set 8 (.ref (ad v)) := by simp [gob, up2, va_up, va_rf]
theorem gs_9_9 {ad : Nat → Nat} {I : HI} {J : HJ} {N : HN} {a : Nat} {v : Int32} : gob ad (up2 I a 9 v) J N 9 a = (gob ad I J N 9 a).set 9 (.int v) := by simp [gob, up2, va_up, va_rf]
theorem gs_10_0 {ad : Nat → Nat} {I : HI} {J : HJ} {N : HN} {a : Nat} {v : Nat} : gob ad I J (up2 N a 0 (some v)) 10 a = (gob ad I J N 10 a).set 0 (.ref (ad v)) := by simp [gob, up2, va_up, va_rf]
theorem gs_10_1 {ad : Nat → Nat} {I : HI} {J : HJ} {N : HN} {a : Nat} {v : Nat} : gob ad I J (up2 N a 1 (some v)) 10 a = (gob ad I J N 10 a).set 1 (.ref (ad v)) := by simp [gob, up2, va_up, va_rf]
theorem gs_10_2 {ad : Nat → Nat} {I : HI} {J : HJ} {N : HN} {a : Nat} {v : Nat} : gob ad I J (up2 N a 2 (some v)) 10 a = (gob ad I J N 10 a).set 2 (.ref (ad v)) := by simp [gob, up2, va_up, va_rf]
theorem gs_10_3 {ad : Nat → Nat} {I : HI} {J : HJ} {N : HN} {a : Nat} {v : Nat} : gob ad I J (up2 N a 3 (some v)) 10 a = (gob ad I J N 10 a).set 3 (.ref (ad v)) := by simp [gob, up2, va_up, va_rf]
theorem gs_10_4 {ad : Nat → Nat} {I : HI} {J : HJ} {N : HN} {a : Nat} {v : Nat} : gob ad I J (up2 N a 4 (some v)) 10 a = (gob ad I J N 10 a).set 4 (.ref (ad v)) := by simp [gob, up2, va_up, va_rf]
theorem gs_10_5 {ad : Nat → Nat} {I : HI} {J : HJ} {N : HN} {a : Nat} {v : Nat} : gob ad I J (up2 N a 5 (some v)) 10 a = (gob ad I J N 10 a).set 5 (.ref (ad v)) := by simp [gob, up2, va_up, va_rf]
theorem gs_10_6 {ad : Nat → Nat} {I : HI} {J : HJ} {N : HN} {a : Nat} {v : Nat} : gob ad I J (up2 N a 6 (some v)) 10 a = (gob ad I J N 10 a).set 6 (.ref (ad v)) := by simp [gob, up2, va_up, va_rf]
theorem gs_10_7 {ad : Nat → Nat} {I : HI} {J : HJ} {N : HN} {a : Nat} {v : Nat} : gob ad I J (up2 N a 7 (some v)) 10 a = (gob ad I J N 10 a).set 7 (.ref (ad v)) := by simp [gob, up2, va_up, va_rf]
theorem gs_10_8 {ad : Nat → Nat} {I : HI} {J : HJ} {N : HN} {a : Nat} {v : Int32} : gob ad (up2 I a 8 v) J N 10 a = (gob ad I J N 10 a).set 8 (.int v) := by simp [gob, up2, va_up, va_rf]
theorem gs_11_0 {ad : Nat → Nat} {I : HI} {J : HJ} {N : HN} {a : Nat} {v : Int32} : gob ad (up2 I a 0 v) J N 11 a = (gob ad I J N 11 a).set 0 (.int v) := by simp [gob, up2, va_up, va_rf]
theorem gs_11_1 {ad : Nat → Nat} {I : HI} {J : HJ} {N : HN} {a : Nat} {v : Nat} : gob ad I J (up2 N a 1 (some v)) 11 a = (gob ad I J N 11 a).set 1 (.ref (ad v)) := by simp [gob, up2, va_up, va_rf]
theorem gs_11_2 {ad : Nat → Nat} {I : HI} {J : HJ} {N : HN} {a : Nat} {v : Nat} : gob ad I J (up2 N a 2 (some v)) 11 a = (gob ad I J N 11 a).set 2 (.ref (ad v)) := by simp [gob, up2, va_up, va_rf]
theorem gs_11_3 {ad : Nat → Nat} {I : HI} {J : HJ} {N : HN} {a : Nat} {v : Nat} : gob ad I J (up2 N a 3 (some v)) 11 a = (gob ad I J N 11 a).set 3 (.ref (ad v)) := by simp [gob, up2, va_up, va_rf]
theorem gs_11_4 {ad : Nat → Nat} {I : HI} {J : HJ} {N : HN} {a : Nat} {v : Nat} : gob ad I J (up2 N a 4 (some v)) 11 a = (gob ad I J N 11 a).set 4 (.ref (ad v)) := by simp [gob, up2, va_up, va_rf]
theorem gs_11_5 {ad : Nat → Nat} {I : HI} {J : HJ} {N : HN} {a : Nat} {v : Nat} : gob ad I J (up2 N a 5 (some v)) 11 a = (gob ad I J N 11 a).set 5 (.ref (ad v)) := by simp [gob, up2, va_up, va_rf]
theorem gs_11_6 {ad : Nat → Nat} {I : HI} {J : HJ} {N : HN} {a : Nat} {v : Int32} : gob ad (up2 I a 6 v) J N 11 a = (gob ad I J N 11 a).set 6 (.int v) := by simp [gob, up2, va_up, va_rf]
theorem gs_11_7 {ad : Nat → Nat} {I : HI} {J : HJ} {N : HN} {a : Nat} {v : Nat} : gob ad I J (up2 N a 7 (some v)) 11 a = (gob ad I J N 11 a).set 7 (.ref (ad v)) := by simp [gob, up2, va_up, va_rf]
theorem gs_11_8 {ad : Nat → Nat} {I : HI} {J : HJ} {N : HN} {a : Nat} {v : Int32} : gob ad (up2 I a 8 v) J N 11 a = (gob ad I J N 11 a).set 8 (.int v) := by simp [gob, up2, va_up, va_rf]
theorem gs_11_9 {ad : Nat → Nat} {I : HI} {J : HJ} {N : HN} {a : Nat} {v : Int64} : gob ad I (up2 J a 9 v) N 11 a = (gob ad I J N 11 a).set 9 (.long v) := by simp [gob, up2, va_up, va_rf]
theorem gs_11_10 {ad : Nat → Nat} {I : HI} {J : HJ} {N : HN} {a : Nat} {v : Int64} : gob ad I (up2 J a 10 v) N 11 a = (gob ad I J N 11 a).set 10 (.long v) := by simp [gob, up2, va_up, va_rf]
theorem gs_11_11 {ad : Nat → Nat} {I : HI} {J : HJ} {N : HN} {a : Nat} {v : Nat} : gob ad I J (up2 N a 11 (some v)) 11 a = (gob ad I J N 11 a).set 11 (.ref (ad v)) := by simp [gob, up2, va_up, va_rf]
theorem gs_11_12 {ad : Nat → Nat} {I : HI} {J : HJ} {N : HN} {a : Nat} {v : Nat} : gob ad I J (up2 N a 12 (some v)) 11 a = (gob ad I J N 11 a).set 12 (.ref (ad v)) := by simp [gob, up2, va_up, va_rf]
theorem gs_11_13 {ad : Nat → Nat} {I : HI} {J : HJ} {N : HN} {a : Nat} {v : Int64} : gob ad I (up2 J a 13 v) N 11 a = (gob ad I J N 11 a).set 13 (.long v) := by simp [gob, up2, va_up, va_rf]
theorem gs_11_14 {ad : Nat → Nat} {I : HI} {J : HJ} {N : HN} {a : Nat} {v : Int64} : gob ad I (up2 J a 14 v) N 11 a = (gob ad I J N 11 a).set 14 (.long v) := by simp [gob, up2, va_up, va_rf]
theorem gs_11_15 {ad : Nat → Nat} {I : HI} {J : HJ} {N : HN} {a : Nat} {v : Nat} : gob ad I J (up2 N a 15 (some v)) 11 a = (gob ad I J N 11 a).set 15 (.ref (ad v)) := by simp [gob, up2, va_up, va_rf]
theorem gs_11_16 {ad : Nat → Nat} {I : HI} {J : HJ} {N : HN} {a : Nat} {v : Nat} : gob ad I J (up2 N a 16 (some v)) 11 a = (gob ad I J N 11 a).set 16 (.ref (ad v)) := by simp [gob, up2, va_up, va_rf]
theorem gs_11_17 {ad : Nat → Nat} {I : HI} {J : HJ} {N : HN} {a : Nat} {v : Nat} : gob ad I J (up2 N a 17 (some v)) 11 a = (gob ad I J N 11 a).set 17 (.ref (ad v)) := by simp [gob, up2, va_up, va_rf]
theorem gs_11_18 {ad : Nat → Nat} {I : HI} {J : HJ} {N : HN} {a : Nat} {v : Nat} : gob ad I J (up2 N a 18 (some v)) 11 a = (gob ad I J N 11 a).set 18 (.ref (ad v)) := by simp [gob, up2, va_up, va_rf]
theorem gs_11_19 {ad : Nat → Nat} {I : HI} {J : HJ} {N : HN} {a : Nat} {v : Nat} : gob ad I J (up2 N a 19 (some v)) 11 a = (gob ad I J N 11 a).set 19 (.ref (ad v)) := by simp [gob, up2, va_up, va_rf]
theorem gs_11_20 {ad : Nat → Nat} {I : HI} {J : HJ} {N : HN} {a : Nat} {v : Nat} : gob ad I J (up2 N a 20 (some v)) 11 a = (gob ad I J N 11 a).set 20 (.ref (ad v)) := by simp [gob, up2, va_up, va_rf]
theorem gs_11_21 {ad : Nat → Nat} {I : HI} {J : HJ} {N : HN} {a : Nat} {v : Int32} : gob ad (up2 I a 21 v) J N 11 a = (gob ad I J N 11 a).set 21 (.int v) := by simp [gob, up2, va_up, va_rf]
theorem gs_11_22 {ad : Nat → Nat} {I : HI} {J : HJ} {N : HN} {a : Nat} {v : Nat} : gob ad I J (up2 N a 22 (some v)) 11 a = (gob ad I J N 11 a).set 22 (.ref (ad v)) := by simp [gob, up2, va_up, va_rf]
theorem gs_11_23 {ad : Nat → Nat} {I : HI} {J : HJ} {N : HN} {a : Nat} {v : Nat} : gob ad I J (up2 N a 23 (some v)) 11 a = (gob ad I J N 11 a).set 23 (.ref (ad v)) := by simp [gob, up2, va_up, va_rf]
theorem gs_11_24 {ad : Nat → Nat} {I : HI} {J : HJ} {N : HN} {a : Nat} {v : Nat} : gob ad I J (up2 N a 24 (some v)) 11 a = (gob ad I J N 11 a).set 24 (.ref (ad v)) := by simp [gob, up2, va_up, va_rf]
theorem gs_11_25 {ad : Nat → Nat} {I : HI} {J : HJ} {N : HN} {a : Nat} {v : Nat} : gob ad I J (up2 N a 25 (some v)) 11 a = (gob ad I J N 11 a).set 25 (.ref (ad v)) := by simp [gob, up2, va_up, va_rf]
theorem gs_11_26 {ad : Nat → Nat} {I : HI} {J : HJ} {N : HN} {a : Nat} {v : Nat} : gob ad I J (up2 N a 26 (some v)) 11 a = (gob ad I J N 11 a).set 26 (.ref (ad v)) := by simp [gob, up2, va_up, va_rf]
theorem gs_11_27 {ad : Nat → Nat} {I : HI} {J : HJ} {N : HN} {a : Nat} {v : Nat} : gob ad I J (up2 N a 27 (some v)) 11 a = (gob ad I J N 11 a).set 27 (.ref (ad v)) := by simp [gob, up2, va_up, va_rf]
theorem gs_11_28 {ad : Nat → Nat} {I : HI} {J : HJ} {N : HN} {a : Nat} {v : Nat} : gob ad I J (up2 N a 28 (some v)) 11 a = (gob ad I J N 11 a).set 28 (.ref (ad v)) := by simp [gob, up2, va_up, va_rf]
theorem gs_11_29 {ad : Nat → Nat} {I : HI} {J : HJ} {N : HN} {a : Nat} {v : Nat} : gob ad I J (up2 N a 29 (some v)) 11 a = (gob ad I J N 11 a).set 29 (.ref (ad v)) := by simp [gob, up2, va_up, va_rf]
theorem gs_11_30 {ad : Nat → Nat} {I : HI} {J : HJ} {N : HN} {a : Nat} {v : Nat} : gob ad I J (up2 N a 30 (some v)) 11 a = (gob ad I J N 11 a).set 30 (.ref (ad v)) := by simp [gob, up2, va_up, va_rf]
theorem gs_11_31 {ad : Nat → Nat} {I : HI} {J : HJ} {N : HN} {a : Nat} {v : Int32} : gob ad (up2 I a 31 v) J N 11 a = (gob ad I J N 11 a).set 31 (.int v) := by simp [gob, up2, va_up, va_rf]
theorem gs_11_32 {ad : Nat → Nat} {I : HI} {J : HJ} {N : HN} {a : Nat} {v : Nat} : gob ad I J (up2 N a 32 (some v)) 11 a = (gob ad I J N 11 a).set 32 (.ref (ad v)) := by simp [gob, up2, va_up, va_rf]
end
section
def Tcl : List (Nat × Nat) := [(0, 10), (0, 5), (0, 6), (2, 7), (0, 6), (2, 7), (0, 3), (3, 6), (1, 5), (1, 5), (1, 5), (1, 5), (1, 5), (1, 5), (0, 1), (0, 5), (0, 6), (2, 7), (0, 6), (2, 7), (0, 5), (0, 6), (2, 7), (0, 6), (2, 7), (0, 5), (0, 6), (2, 7), (0, 6), (2, 7), (0, 9), (0, 3), (3, 6), (1, 5), (1, 5), (1, 5), (1, 5), (1, 5), (1, 5), (0, 5), (0, 6), (2, 7), (0, 6), (2, 7), (0, 5), (0, 6), (2, 7), (0, 6), (2, 7), (0, 6), (2, 7), (0, 2), (0, 2), (1, 3), (1, 3), (1, 3), (0, 0), (3, 6), (1, 4), (1, 4), (1, 4), (1, 4), (1, 4), (1, 4), (0, 4), (3, 12), (1, 15), (1, 15), (1, 15), (1, 15), (1, 15), (1, 15), (1, 15), (1, 15), (1, 15), (1, 15), (1, 15), (1, 15), (0, 5), (0, 6), (2, 7), (0, 6), (2, 7), (0, 8), (4, 3), (2, 40), (2, 40), (2, 40), (1, 3), (0, 7), (0, 6), (2, 7), (0, 2)]
def Tc : HT := fun a => Tcl.getD a (9, 0)
abbrev nC : Nat := 93
def Tml : List (Nat × Nat) := [(0, 11), (1, 3), (2, 120), (2, 40), (1, 14), (1, 30), (1, 40), (2, 7), (2, 7), (2, 7), (2, 7), (2, 7), (2, 7), (1, 120), (1, 120), (2, 7), (2, 14), (2, 14), (2, 3), (2, 3), (2, 14), (2, 14), (1, 168), (1, 12), (1, 14)]
def Tm : HT := fun a => Tml.getD a (9, 0)
abbrev nM : Nat := 25
def La_item_32 (I : HI) (N : HN) (a0 : Nat) (p1 : Int32) (p2 : Int32) (s0 : Int32) : Option (Int32) :=
  if s0 = 0 then
    some (0 : Int32)
  else
    ra Tc nC (N a0 0) 3 fun b2 =>
    gd (inb p1 (Tc b2).2) <|
    ra Tc nC (N b2 p1.toNatClampNeg) 1 fun b4 =>
    gd (inb p2 (Tc b4).2) <|
    some (I b4 p2.toNatClampNeg)
def La_item_31 (I : HI) (N : HN) (a0 : Nat) (p1 : Int32) (p2 : Int32) : Option (Int32) :=
  La_item_32 I N a0 p1 p2 (0 : Int32)
def La_item_0 (I : HI) (N : HN) (a0 : Nat) (p1 : Int32) (p2 : Int32) : Option (Int32) :=
  if p1 < 0 then
    La_item_31 I N a0 p1 p2
  else
    if (I a0 1) ≤ p1 then
      La_item_31 I N a0 p1 p2
    else
      if (6 : Int32) ≤ p1 then
        La_item_31 I N a0 p1 p2
      else
        if p2 < 0 then
          La_item_31 I N a0 p1 p2
        else
          if (5 : Int32) ≤ p2 then
            La_item_31 I N a0 p1 p2
          else
            La_item_32 I N a0 p1 p2 (1 : Int32)
def La_item (I : HI) (N : HN) (a0 : Nat) (p1 : Int32) (p2 : Int32) : Option (Int32) := La_item_0 I N a0 p1 p2
def Bi_addPart_72 (N : HN) (a0 : Nat) (p1 : Int32) (p2 : Int32) (p3 : Int32) (I : HI) : Option (HI) :=
  if (6 : Int32) ≤ (I a0 1) then
    some I
  else
    ra Tc nC (N a0 0) 3 fun b2 =>
    gd (inb (I a0 1) (Tc b2).2) <|
    ra Tc nC (N b2 (I a0 1).toNatClampNeg) 1 fun b4 =>
    gd (inb (0 : Int32) (Tc b4).2) <|
    bd (up2 I b4 (0 : Int32).toNatClampNeg p1) fun I6 =>
    gd (inb (1 : Int32) (Tc b4).2) <|
    bd (up2 I6 b4 (1 : Int32).toNatClampNeg p2) fun I8 =>
    gd (inb (2 : Int32) (Tc b4).2) <|
    bd (up2 I8 b4 (2 : Int32).toNatClampNeg p3) fun I10 =>
    gd (inb (3 : Int32) (Tc b4).2) <|
    bd (up2 I10 b4 (3 : Int32).toNatClampNeg (1 : Int32)) fun I12 =>
    bd (up2 I12 a0 1 ((I12 a0 1) + (1 : Int32))) fun I13 =>
    some I13
def Bi_addPart_66 (N : HN) (a0 : Nat) (p1 : Int32) (p2 : Int32) (p3 : Int32) (k8 : HI → Int32 → Option (HI)) (I : HI) (x4 : Int32) : Option (HI) :=
  k8 I (x4 + 1)
def Bi_addPart_8b (N : HN) (a0 : Nat) (p1 : Int32) (p2 : Int32) (p3 : Int32) (k8 : HI → Int32 → Option (HI)) (I : HI) (x4 : Int32) : Option (HI) :=
  if (I a0 1) ≤ x4 then
    Bi_addPart_72 N a0 p1 p2 p3 I
  else
    if (6 : Int32) ≤ x4 then
      Bi_addPart_72 N a0 p1 p2 p3 I
    else
      ra Tc nC (N a0 0) 3 fun b3 =>
      gd (inb x4 (Tc b3).2) <|
      ra Tc nC (N b3 x4.toNatClampNeg) 1 fun b5 =>
      gd (inb (0 : Int32) (Tc b5).2) <|
      if (I b5 (0 : Int32).toNatClampNeg) = p1 then
        gd (inb (1 : Int32) (Tc b5).2) <|
        if (I b5 (1 : Int32).toNatClampNeg) = p2 then
          gd (inb (2 : Int32) (Tc b5).2) <|
          if (I b5 (2 : Int32).toNatClampNeg) = p3 then
            gd (inb (3 : Int32) (Tc b5).2) <|
            gd (inb (3 : Int32) (Tc b5).2) <|
            bd (up2 I b5 (3 : Int32).toNatClampNeg ((I b5 (3 : Int32).toNatClampNeg) + (1 : Int32))) fun I14 =>
            some I14
          else
            Bi_addPart_66 N a0 p1 p2 p3 k8 I x4
        else
          Bi_addPart_66 N a0 p1 p2 p3 k8 I x4
      else
        Bi_addPart_66 N a0 p1 p2 p3 k8 I x4
def Bi_addPart_8 (N : HN) (a0 : Nat) (p1 : Int32) (p2 : Int32) (p3 : Int32) : Nat → HI → Int32 → Option (HI)
  | 0 => fun _ _ => none
  | n + 1 => Bi_addPart_8b N a0 p1 p2 p3 (Bi_addPart_8 N a0 p1 p2 p3 n)
def Bi_addPart_0 (N : HN) (a0 : Nat) (p1 : Int32) (p2 : Int32) (p3 : Int32) (I : HI) : Option (HI) :=
  if p2 = 0 then
    some I
  else
    Bi_addPart_8 N a0 p1 p2 p3 256 I (0 : Int32)
def Bi_addPart (N : HN) (a0 : Nat) (p1 : Int32) (p2 : Int32) (p3 : Int32) (I : HI) : Option (HI) := Bi_addPart_0 N a0 p1 p2 p3 I
def Bi_countUp_7b (N : HN) (a0 : Nat) (a1 : Nat) (k7 : HI → Int32 → Option (HI)) (I : HI) (x2 : Int32) : Option (HI) :=
  if (I a1 1) ≤ x2 then
    some I
  else
    bn1 (La_item I N a1 x2 (1 : Int32)) fun r2 =>
    bn1 (La_item I N a1 x2 (2 : Int32)) fun r4 =>
    bn1 (Bi_addPart N a0 (0 : Int32) r2 r4 I) fun I6 =>
    bn1 (La_item I6 N a1 x2 (3 : Int32)) fun r8 =>
    bn1 (La_item I6 N a1 x2 (4 : Int32)) fun r10 =>
    bn1 (Bi_addPart N a0 (1 : Int32) r8 r10 I6) fun I12 =>
    k7 I12 (x2 + 1)
def Bi_countUp_7 (N : HN) (a0 : Nat) (a1 : Nat) : Nat → HI → Int32 → Option (HI)
  | 0 => fun _ _ => none
  | n + 1 => Bi_countUp_7b N a0 a1 (Bi_countUp_7 N a0 a1 n)
def Bi_countUp_0 (N : HN) (a0 : Nat) (a1 : Nat) (I : HI) : Option (HI) :=
  bd (up2 I a0 1 (0 : Int32)) fun I1 =>
  Bi_countUp_7 N a0 a1 256 I1 (0 : Int32)
def Bi_countUp (N : HN) (a0 : Nat) (a1 : Nat) (I : HI) : Option (HI) := Bi_countUp_0 N a0 a1 I
def Bi_item_32 (I : HI) (N : HN) (a0 : Nat) (p1 : Int32) (p2 : Int32) (s0 : Int32) : Option (Int32) :=
  if s0 = 0 then
    some (0 : Int32)
  else
    ra Tc nC (N a0 0) 3 fun b2 =>
    gd (inb p1 (Tc b2).2) <|
    ra Tc nC (N b2 p1.toNatClampNeg) 1 fun b4 =>
    gd (inb p2 (Tc b4).2) <|
    some (I b4 p2.toNatClampNeg)
def Bi_item_31 (I : HI) (N : HN) (a0 : Nat) (p1 : Int32) (p2 : Int32) : Option (Int32) :=
  Bi_item_32 I N a0 p1 p2 (0 : Int32)
def Bi_item_0 (I : HI) (N : HN) (a0 : Nat) (p1 : Int32) (p2 : Int32) : Option (Int32) :=
  if p1 < 0 then
    Bi_item_31 I N a0 p1 p2
  else
    if (I a0 1) ≤ p1 then
      Bi_item_31 I N a0 p1 p2
    else
      if (6 : Int32) ≤ p1 then
        Bi_item_31 I N a0 p1 p2
      else
        if p2 < 0 then
          Bi_item_31 I N a0 p1 p2
        else
          if (4 : Int32) ≤ p2 then
            Bi_item_31 I N a0 p1 p2
          else
            Bi_item_32 I N a0 p1 p2 (1 : Int32)
def Bi_item (I : HI) (N : HN) (a0 : Nat) (p1 : Int32) (p2 : Int32) : Option (Int32) := Bi_item_0 I N a0 p1 p2
def Bi_differentValues_81 (I : HI) (N : HN) (a0 : Nat) (k4 : Int32 → Int32 → Option (Int32)) (x2 : Int32) (s0 : Int32) (s1 : Int32) : Option (Int32) :=
  bd (s0 + s1) fun v1 =>
  k4 v1 (x2 + 1)
def Bi_differentValues_71 (I : HI) (N : HN) (a0 : Nat) (k4 : Int32 → Int32 → Option (Int32)) (x1 : Int32) (x2 : Int32) (x3 : Int32) : Option (Int32) :=
  if x3 = 0 then
    Bi_differentValues_81 I N a0 k4 x2 x1 (0 : Int32)
  else
    Bi_differentValues_81 I N a0 k4 x2 x1 (1 : Int32)
def Bi_differentValues_64 (I : HI) (N : HN) (a0 : Nat) (k4 : Int32 → Int32 → Option (Int32)) (k17 : Int32 → Int32 → Int32 → Int32 → Option (Int32)) (x1 : Int32) (x2 : Int32) (x4 : Int32) (s0 : Int32) : Option (Int32) :=
  k17 x1 x2 s0 (x4 + 1)
def Bi_differentValues_59 (I : HI) (N : HN) (a0 : Nat) (k4 : Int32 → Int32 → Option (Int32)) (k17 : Int32 → Int32 → Int32 → Int32 → Option (Int32)) (x1 : Int32) (x2 : Int32) (x4 : Int32) : Option (Int32) :=
  Bi_differentValues_64 I N a0 k4 k17 x1 x2 x4 (1 : Int32)
def Bi_differentValues_17b (I : HI) (N : HN) (a0 : Nat) (k4 : Int32 → Int32 → Option (Int32)) (k17 : Int32 → Int32 → Int32 → Int32 → Option (Int32)) (x1 : Int32) (x2 : Int32) (x3 : Int32) (x4 : Int32) : Option (Int32) :=
  if x2 ≤ x4 then
    Bi_differentValues_71 I N a0 k4 x1 x2 x3
  else
    if x3 = 0 then
      Bi_differentValues_71 I N a0 k4 x1 x2 x3
    else
      bn1 (Bi_item I N a0 x4 (1 : Int32)) fun r3 =>
      bn1 (Bi_item I N a0 x2 (1 : Int32)) fun r5 =>
      if r3 = r5 then
        bn1 (Bi_item I N a0 x4 (2 : Int32)) fun r8 =>
        bn1 (Bi_item I N a0 x2 (2 : Int32)) fun r10 =>
        if r8 = r10 then
          Bi_differentValues_64 I N a0 k4 k17 x1 x2 x4 (0 : Int32)
        else
          Bi_differentValues_59 I N a0 k4 k17 x1 x2 x4
      else
        Bi_differentValues_59 I N a0 k4 k17 x1 x2 x4
def Bi_differentValues_17 (I : HI) (N : HN) (a0 : Nat) (k4 : Int32 → Int32 → Option (Int32)) : Nat → Int32 → Int32 → Int32 → Int32 → Option (Int32)
  | 0 => fun _ _ _ _ => none
  | n + 1 => Bi_differentValues_17b I N a0 k4 (Bi_differentValues_17 I N a0 k4 n)
def Bi_differentValues_4b (I : HI) (N : HN) (a0 : Nat) (k4 : Int32 → Int32 → Option (Int32)) (x1 : Int32) (x2 : Int32) : Option (Int32) :=
  if (I a0 1) ≤ x2 then
    some x1
  else
    Bi_differentValues_17 I N a0 k4 256 x1 x2 (1 : Int32) (0 : Int32)
def Bi_differentValues_4 (I : HI) (N : HN) (a0 : Nat) : Nat → Int32 → Int32 → Option (Int32)
  | 0 => fun _ _ => none
  | n + 1 => Bi_differentValues_4b I N a0 (Bi_differentValues_4 I N a0 n)
def Bi_differentValues_0 (I : HI) (N : HN) (a0 : Nat) : Option (Int32) :=
  Bi_differentValues_4 I N a0 256 (0 : Int32) (0 : Int32)
def Bi_differentValues (I : HI) (N : HN) (a0 : Nat) : Option (Int32) := Bi_differentValues_0 I N a0
def Po_clear_2b (N : HN) (a0 : Nat) (k2 : HJ → Int32 → Option (HJ)) (J : HJ) (x1 : Int32) : Option (HJ) :=
  if (7 : Int32) ≤ x1 then
    some J
  else
    ra Tc nC (N a0 0) 2 fun b2 =>
    gd (inb x1 (Tc b2).2) <|
    bd (up2 J b2 x1.toNatClampNeg (0 : Int64)) fun J4 =>
    k2 J4 (x1 + 1)
def Po_clear_2 (N : HN) (a0 : Nat) : Nat → HJ → Int32 → Option (HJ)
  | 0 => fun _ _ => none
  | n + 1 => Po_clear_2b N a0 (Po_clear_2 N a0 n)
def Po_clear_0 (N : HN) (a0 : Nat) (J : HJ) : Option (HJ) :=
  Po_clear_2 N a0 256 J (0 : Int32)
def Po_clear (N : HN) (a0 : Nat) (J : HJ) : Option (HJ) := Po_clear_0 N a0 J
def Pa_side_0 (N : HN) (a0 : Nat) (p1 : Int32) : Option (Nat) :=
  if p1 = 0 then
    rq Tc nC (N a0 0) (0, 6) fun b3 =>
    some b3
  else
    rq Tc nC (N a0 1) (0, 6) fun b2 =>
    some b2
def Pa_side (N : HN) (a0 : Nat) (p1 : Int32) : Option (Nat) := Pa_side_0 N a0 p1
def Po_put_0 (N : HN) (a0 : Nat) (p1 : Int32) (p2 : Int64) (J : HJ) : Option (HJ) :=
  if p1 < 0 then
    some J
  else
    if (7 : Int32) ≤ p1 then
      some J
    else
      ra Tc nC (N a0 0) 2 fun b3 =>
      gd (inb p1 (Tc b3).2) <|
      bd (up2 J b3 p1.toNatClampNeg p2) fun J5 =>
      some J5
def Po_put (N : HN) (a0 : Nat) (p1 : Int32) (p2 : Int64) (J : HJ) : Option (HJ) := Po_put_0 N a0 p1 p2 J
def Fo_loadArm_14 (I : HI) (N : HN) (a0 : Nat) (a1 : Nat) (p2 : Int32) (J : HJ) (s0 : Int32) : Option (HJ) :=
  bd ((4 : Int32) - s0) fun v1 =>
  bn1 (La_item I N a1 p2 s0) fun r2 =>
  bn1 (La_item I N a1 p2 (s0 + (1 : Int32))) fun r4 =>
  bn1 (La_item I N a1 p2 v1) fun r6 =>
  bn1 (La_item I N a1 p2 (v1 + (1 : Int32))) fun r8 =>
  rq Tc nC (N a0 1) (0, 5) fun b10 =>
  rq Tc nC (N b10 0) (0, 6) fun b11 =>
  bn1 (Po_clear N b11 J) fun J12 =>
  rq Tc nC (N a0 1) (0, 5) fun b14 =>
  rq Tc nC (N b14 1) (0, 6) fun b15 =>
  bn1 (Po_clear N b15 J12) fun J16 =>
  if r6.toInt64 = (0 : Int64) then
    rq Tc nC (N a0 1) (0, 5) fun b40 =>
    rq Tc nC (N b40 0) (0, 6) fun b41 =>
    bn1 (Po_put N b41 (1 : Int32) r2.toInt64 J16) fun J42 =>
    rq Tc nC (N a0 1) (0, 5) fun b44 =>
    rq Tc nC (N b44 1) (0, 6) fun b45 =>
    bn1 (Po_put N b45 (0 : Int32) r4.toInt64 J42) fun J46 =>
    some J46
  else
    if r2.toInt64 = (0 : Int64) then
      rq Tc nC (N a0 1) (0, 5) fun b32 =>
      rq Tc nC (N b32 0) (0, 6) fun b33 =>
      bn1 (Po_put N b33 (0 : Int32) r8.toInt64 J16) fun J34 =>
      rq Tc nC (N a0 1) (0, 5) fun b36 =>
      rq Tc nC (N b36 1) (0, 6) fun b37 =>
      bn1 (Po_put N b37 (1 : Int32) r6.toInt64 J34) fun J38 =>
      some J38
    else
      rq Tc nC (N a0 1) (0, 5) fun b20 =>
      rq Tc nC (N b20 0) (0, 6) fun b21 =>
      bn1 (Po_put N b21 (1 : Int32) (r2.toInt64 * r8.toInt64) J16) fun J22 =>
      rq Tc nC (N a0 1) (0, 5) fun b24 =>
      rq Tc nC (N b24 1) (0, 6) fun b25 =>
      bn1 (Po_put N b25 (0 : Int32) (r4.toInt64 * r8.toInt64) J22) fun J26 =>
      rq Tc nC (N a0 1) (0, 5) fun b28 =>
      rq Tc nC (N b28 1) (0, 6) fun b29 =>
      bn1 (Po_put N b29 (2 : Int32) (r2.toInt64 * r6.toInt64) J26) fun J30 =>
      some J30
def Fo_loadArm_0 (I : HI) (N : HN) (a0 : Nat) (a1 : Nat) (p2 : Int32) (J : HJ) : Option (HJ) :=
  bn1 (La_item I N a1 p2 (0 : Int32)) fun r1 =>
  if r1 = 0 then
    Fo_loadArm_14 I N a0 a1 p2 J (1 : Int32)
  else
    Fo_loadArm_14 I N a0 a1 p2 J (3 : Int32)
def Fo_loadArm (I : HI) (N : HN) (a0 : Nat) (a1 : Nat) (p2 : Int32) (J : HJ) : Option (HJ) := Fo_loadArm_0 I N a0 a1 p2 J
def Pa_swap_0  (a0 : Nat) (N : HN) : Option (HN) :=
  rq Tc nC (N a0 0) (0, 6) fun b1 =>
  rq Tc nC (N a0 1) (0, 6) fun b2 =>
  bd (up2 N a0 0 (some b2)) fun N3 =>
  bd (up2 N3 a0 1 (some b1)) fun N4 =>
  some N4
def Pa_swap  (a0 : Nat) (N : HN) : Option (HN) := Pa_swap_0 a0 N
def Po_addProduct_11b (N : HN) (a0 : Nat) (a1 : Nat) (a2 : Nat) (k2 : HJ → Int32 → Option (HJ)) (k11 : HJ → Int32 → Int32 → Option (HJ)) (J : HJ) (x3 : Int32) (x4 : Int32) : Option (HJ) :=
  if (7 : Int32) ≤ (x4 + x3) then
    k2 J (x3 + 1)
  else
    ra Tc nC (N a0 0) 2 fun b2 =>
    gd (inb (x4 + x3) (Tc b2).2) <|
    ra Tc nC (N a1 0) 2 fun b4 =>
    gd (inb x3 (Tc b4).2) <|
    ra Tc nC (N a2 0) 2 fun b6 =>
    gd (inb x4 (Tc b6).2) <|
    gd (inb (x4 + x3) (Tc b2).2) <|
    bd (up2 J b2 (x4 + x3).toNatClampNeg ((J b2 (x4 + x3).toNatClampNeg) + ((J b4 x3.toNatClampNeg) * (J b6 x4.toNatClampNeg)))) fun J9 =>
    k11 J9 x3 (x4 + 1)
def Po_addProduct_11 (N : HN) (a0 : Nat) (a1 : Nat) (a2 : Nat) (k2 : HJ → Int32 → Option (HJ)) : Nat → HJ → Int32 → Int32 → Option (HJ)
  | 0 => fun _ _ _ => none
  | n + 1 => Po_addProduct_11b N a0 a1 a2 k2 (Po_addProduct_11 N a0 a1 a2 k2 n)
def Po_addProduct_2b (N : HN) (a0 : Nat) (a1 : Nat) (a2 : Nat) (k2 : HJ → Int32 → Option (HJ)) (J : HJ) (x3 : Int32) : Option (HJ) :=
  if (7 : Int32) ≤ x3 then
    some J
  else
    Po_addProduct_11 N a0 a1 a2 k2 256 J x3 (0 : Int32)
def Po_addProduct_2 (N : HN) (a0 : Nat) (a1 : Nat) (a2 : Nat) : Nat → HJ → Int32 → Option (HJ)
  | 0 => fun _ _ => none
  | n + 1 => Po_addProduct_2b N a0 a1 a2 (Po_addProduct_2 N a0 a1 a2 n)
def Po_addProduct_0 (N : HN) (a0 : Nat) (a1 : Nat) (a2 : Nat) (J : HJ) : Option (HJ) :=
  Po_addProduct_2 N a0 a1 a2 256 J (0 : Int32)
def Po_addProduct (N : HN) (a0 : Nat) (a1 : Nat) (a2 : Nat) (J : HJ) : Option (HJ) := Po_addProduct_0 N a0 a1 a2 J
def Po_load_2b (N : HN) (a0 : Nat) (a1 : Nat) (k2 : HJ → Int32 → Option (HJ)) (J : HJ) (x2 : Int32) : Option (HJ) :=
  if (7 : Int32) ≤ x2 then
    some J
  else
    ra Tc nC (N a0 0) 2 fun b2 =>
    ra Tc nC (N a1 0) 2 fun b3 =>
    gd (inb x2 (Tc b3).2) <|
    gd (inb x2 (Tc b2).2) <|
    bd (up2 J b2 x2.toNatClampNeg (J b3 x2.toNatClampNeg)) fun J6 =>
    k2 J6 (x2 + 1)
def Po_load_2 (N : HN) (a0 : Nat) (a1 : Nat) : Nat → HJ → Int32 → Option (HJ)
  | 0 => fun _ _ => none
  | n + 1 => Po_load_2b N a0 a1 (Po_load_2 N a0 a1 n)
def Po_load_0 (N : HN) (a0 : Nat) (a1 : Nat) (J : HJ) : Option (HJ) :=
  Po_load_2 N a0 a1 256 J (0 : Int32)
def Po_load (N : HN) (a0 : Nat) (a1 : Nat) (J : HJ) : Option (HJ) := Po_load_0 N a0 a1 J
def Pa_load_0 (N : HN) (a0 : Nat) (a1 : Nat) (J : HJ) : Option (HJ) :=
  rq Tc nC (N a0 0) (0, 6) fun b1 =>
  rq Tc nC (N a1 0) (0, 6) fun b2 =>
  bn1 (Po_load N b1 b2 J) fun J3 =>
  rq Tc nC (N a0 1) (0, 6) fun b5 =>
  rq Tc nC (N a1 1) (0, 6) fun b6 =>
  bn1 (Po_load N b5 b6 J3) fun J7 =>
  some J7
def Pa_load (N : HN) (a0 : Nat) (a1 : Nat) (J : HJ) : Option (HJ) := Pa_load_0 N a0 a1 J
def Fo_addArm_0 (N : HN) (a0 : Nat) (J : HJ) : Option (HJ) :=
  rq Tc nC (N a0 2) (0, 5) fun b1 =>
  rq Tc nC (N b1 0) (0, 6) fun b2 =>
  bn1 (Po_clear N b2 J) fun J3 =>
  rq Tc nC (N a0 2) (0, 5) fun b5 =>
  rq Tc nC (N b5 0) (0, 6) fun b6 =>
  rq Tc nC (N a0 0) (0, 5) fun b7 =>
  rq Tc nC (N b7 0) (0, 6) fun b8 =>
  rq Tc nC (N a0 1) (0, 5) fun b9 =>
  rq Tc nC (N b9 1) (0, 6) fun b10 =>
  bn1 (Po_addProduct N b6 b8 b10 J3) fun J11 =>
  rq Tc nC (N a0 2) (0, 5) fun b13 =>
  rq Tc nC (N b13 0) (0, 6) fun b14 =>
  rq Tc nC (N a0 1) (0, 5) fun b15 =>
  rq Tc nC (N b15 0) (0, 6) fun b16 =>
  rq Tc nC (N a0 0) (0, 5) fun b17 =>
  rq Tc nC (N b17 1) (0, 6) fun b18 =>
  bn1 (Po_addProduct N b14 b16 b18 J11) fun J19 =>
  rq Tc nC (N a0 2) (0, 5) fun b21 =>
  rq Tc nC (N b21 1) (0, 6) fun b22 =>
  bn1 (Po_clear N b22 J19) fun J23 =>
  rq Tc nC (N a0 2) (0, 5) fun b25 =>
  rq Tc nC (N b25 1) (0, 6) fun b26 =>
  rq Tc nC (N a0 0) (0, 5) fun b27 =>
  rq Tc nC (N b27 1) (0, 6) fun b28 =>
  rq Tc nC (N a0 1) (0, 5) fun b29 =>
  rq Tc nC (N b29 1) (0, 6) fun b30 =>
  bn1 (Po_addProduct N b26 b28 b30 J23) fun J31 =>
  rq Tc nC (N a0 0) (0, 5) fun b33 =>
  rq Tc nC (N a0 2) (0, 5) fun b34 =>
  bn1 (Pa_load N b33 b34 J31) fun J35 =>
  some J35
def Fo_addArm (N : HN) (a0 : Nat) (J : HJ) : Option (HJ) := Fo_addArm_0 N a0 J
def Po_at_0 (J : HJ) (N : HN) (a0 : Nat) (p1 : Int32) : Option (Int64) :=
  if p1 < 0 then
    some (0 : Int64)
  else
    if (7 : Int32) ≤ p1 then
      some (0 : Int64)
    else
      ra Tc nC (N a0 0) 2 fun b3 =>
      gd (inb p1 (Tc b3).2) <|
      some (J b3 p1.toNatClampNeg)
def Po_at (J : HJ) (N : HN) (a0 : Nat) (p1 : Int32) : Option (Int64) := Po_at_0 J N a0 p1
def Pa_number_0 (J : HJ) (N : HN) (a0 : Nat) (p1 : Int32) : Option (Int64) :=
  if (7 : Int32) ≤ p1 then
    rq Tc nC (N a0 1) (0, 6) fun b2 =>
    bn1 (Po_at J N b2 (p1 - (7 : Int32))) fun r3 =>
    some r3
  else
    rq Tc nC (N a0 0) (0, 6) fun b5 =>
    bn1 (Po_at J N b5 p1) fun r6 =>
    some r6
def Pa_number (J : HJ) (N : HN) (a0 : Nat) (p1 : Int32) : Option (Int64) := Pa_number_0 J N a0 p1
def Lm_commonDivisor_15b  (p0 : Int64) (p2 : Int64) (k15 : Int64 → Int64 → Int32 → Option (Int64)) (x4 : Int64) (x6 : Int64) (x8 : Int32) : Option (Int64) :=
  if (200 : Int32) ≤ x8 then
    some x4
  else
    if x6 = (0 : Int64) then
      some x4
    else
      gd (decide (¬ x6 = 0)) <|
      bd (x4 - x4 / x6 * x6) fun v4 =>
      k15 x6 v4 (x8 + 1)
def Lm_commonDivisor_15  (p0 : Int64) (p2 : Int64) : Nat → Int64 → Int64 → Int32 → Option (Int64)
  | 0 => fun _ _ _ => none
  | n + 1 => Lm_commonDivisor_15b p0 p2 (Lm_commonDivisor_15 p0 p2 n)
def Lm_commonDivisor_0  (p0 : Int64) (p2 : Int64) : Option (Int64) :=
  bd (if 0 < p0 then p0 else -p0) fun v1 =>
  bd (if 0 < p2 then p2 else -p2) fun v2 =>
  Lm_commonDivisor_15 p0 p2 256 v1 v2 (0 : Int32)
def Lm_commonDivisor  (p0 : Int64) (p2 : Int64) : Option (Int64) := Lm_commonDivisor_0 p0 p2
def Po_degree_3b (J : HJ) (N : HN) (a0 : Nat) (k3 : Int32 → Option (Int32)) (x1 : Int32) : Option (Int32) :=
  if x1 < 0 then
    some (-1 : Int32)
  else
    ra Tc nC (N a0 0) 2 fun b2 =>
    gd (inb x1 (Tc b2).2) <|
    if (J b2 x1.toNatClampNeg) = (0 : Int64) then
      k3 (x1 + (-1))
    else
      some x1
def Po_degree_3 (J : HJ) (N : HN) (a0 : Nat) : Nat → Int32 → Option (Int32)
  | 0 => fun _ => none
  | n + 1 => Po_degree_3b J N a0 (Po_degree_3 J N a0 n)
def Po_degree_0 (J : HJ) (N : HN) (a0 : Nat) : Option (Int32) :=
  Po_degree_3 J N a0 256 (6 : Int32)
def Po_degree (J : HJ) (N : HN) (a0 : Nat) : Option (Int32) := Po_degree_0 J N a0
def Po_divideBy_2b (N : HN) (a0 : Nat) (p1 : Int64) (k2 : HJ → Int32 → Option (HJ)) (J : HJ) (x3 : Int32) : Option (HJ) :=
  if (7 : Int32) ≤ x3 then
    some J
  else
    if p1 = (0 : Int64) then
      some J
    else
      ra Tc nC (N a0 0) 2 fun b3 =>
      gd (inb x3 (Tc b3).2) <|
      gd (decide (¬ p1 = 0)) <|
      gd (inb x3 (Tc b3).2) <|
      bd (up2 J b3 x3.toNatClampNeg ((J b3 x3.toNatClampNeg) / p1)) fun J7 =>
      k2 J7 (x3 + 1)
def Po_divideBy_2 (N : HN) (a0 : Nat) (p1 : Int64) : Nat → HJ → Int32 → Option (HJ)
  | 0 => fun _ _ => none
  | n + 1 => Po_divideBy_2b N a0 p1 (Po_divideBy_2 N a0 p1 n)
def Po_divideBy_0 (N : HN) (a0 : Nat) (p1 : Int64) (J : HJ) : Option (HJ) :=
  Po_divideBy_2 N a0 p1 256 J (0 : Int32)
def Po_divideBy (N : HN) (a0 : Nat) (p1 : Int64) (J : HJ) : Option (HJ) := Po_divideBy_0 N a0 p1 J
def Pa_becomeAsPair_82 (N : HN) (a0 : Nat) (J : HJ) (x1 : Int64) : Option (HJ) :=
  if x1 = (1 : Int64) then
    some J
  else
    rq Tc nC (N a0 0) (0, 6) fun b2 =>
    bn1 (Po_divideBy N b2 x1 J) fun J3 =>
    rq Tc nC (N a0 1) (0, 6) fun b5 =>
    bn1 (Po_divideBy N b5 x1 J3) fun J6 =>
    some J6
def Pa_becomeAsPair_70 (N : HN) (a0 : Nat) (J : HJ) (x1 : Int64) (s0 : Int64) : Option (HJ) :=
  if (0 : Int64) ≤ s0 then
    Pa_becomeAsPair_82 N a0 J x1
  else
    Pa_becomeAsPair_82 N a0 J (-x1)
def Pa_becomeAsPair_32 (N : HN) (a0 : Nat) (J : HJ) (x1 : Int64) : Option (HJ) :=
  rq Tc nC (N a0 1) (0, 6) fun b1 =>
  bn1 (Po_degree J N b1) fun r2 =>
  if r2 = (-1 : Int32) then
    rq Tc nC (N a0 0) (0, 6) fun b8 =>
    rq Tc nC (N a0 0) (0, 6) fun b9 =>
    bn1 (Po_degree J N b9) fun r10 =>
    bn1 (Po_at J N b8 r10) fun r12 =>
    Pa_becomeAsPair_70 N a0 J x1 r12
  else
    rq Tc nC (N a0 1) (0, 6) fun b5 =>
    bn1 (Po_at J N b5 r2) fun r6 =>
    Pa_becomeAsPair_70 N a0 J x1 r6
def Pa_becomeAsPair_4b (N : HN) (a0 : Nat) (k4 : HJ → Int64 → Int32 → Option (HJ)) (J : HJ) (x1 : Int64) (x3 : Int32) : Option (HJ) :=
  if (14 : Int32) ≤ x3 then
    Pa_becomeAsPair_32 N a0 J x1
  else
    if x1 = (1 : Int64) then
      Pa_becomeAsPair_32 N a0 J x1
    else
      bn1 (Pa_number J N a0 x3) fun r3 =>
      bn1 (Lm_commonDivisor x1 r3) fun r5 =>
      k4 J r5 (x3 + 1)
def Pa_becomeAsPair_4 (N : HN) (a0 : Nat) : Nat → HJ → Int64 → Int32 → Option (HJ)
  | 0 => fun _ _ _ => none
  | n + 1 => Pa_becomeAsPair_4b N a0 (Pa_becomeAsPair_4 N a0 n)
def Pa_becomeAsPair_0 (N : HN) (a0 : Nat) (J : HJ) : Option (HJ) :=
  Pa_becomeAsPair_4 N a0 256 J (0 : Int64) (0 : Int32)
def Pa_becomeAsPair (N : HN) (a0 : Nat) (J : HJ) : Option (HJ) := Pa_becomeAsPair_0 N a0 J
def Fo_foldUp_116 (I : HI) (a0 : Nat) (a1 : Nat) (k58 : HJ → HN → Int32 → Option (HJ × HN)) (J : HJ) (N : HN) (x4 : Int32) : Option (HJ × HN) :=
  rq Tc nC (N a0 0) (0, 5) fun b1 =>
  bn1 (Pa_becomeAsPair N b1 J) fun J2 =>
  k58 J2 N (x4 + (-1))
def Fo_foldUp_100 (I : HI) (a0 : Nat) (a1 : Nat) (k58 : HJ → HN → Int32 → Option (HJ × HN)) (J : HJ) (N : HN) (x4 : Int32) (x5 : Int32) : Option (HJ × HN) :=
  bn1 (Fo_addArm N a0 J) fun J1 =>
  if x5 = 0 then
    Fo_foldUp_116 I a0 a1 k58 J1 N x4
  else
    rq Tc nC (N a0 0) (0, 5) fun b4 =>
    bn1 (Pa_swap b4 N) fun N5 =>
    Fo_foldUp_116 I a0 a1 k58 J1 N5 x4
def Fo_foldUp_86 (I : HI) (a0 : Nat) (a1 : Nat) (k58 : HJ → HN → Int32 → Option (HJ × HN)) (J : HJ) (N : HN) (x4 : Int32) (s0 : Int32) : Option (HJ × HN) :=
  if s0 = 0 then
    Fo_foldUp_100 I a0 a1 k58 J N x4 s0
  else
    rq Tc nC (N a0 0) (0, 5) fun b2 =>
    bn1 (Pa_swap b2 N) fun N3 =>
    Fo_foldUp_100 I a0 a1 k58 J N3 x4 s0
def Fo_foldUp_58b (I : HI) (a0 : Nat) (a1 : Nat) (k58 : HJ → HN → Int32 → Option (HJ × HN)) (J : HJ) (N : HN) (x4 : Int32) : Option (HJ × HN) :=
  if x4 < 0 then
    some (J, N)
  else
    bn1 (Fo_loadArm I N a0 a1 x4 J) fun J2 =>
    bn1 (La_item I N a1 x4 (0 : Int32)) fun r4 =>
    if r4 = (1 : Int32) then
      Fo_foldUp_86 I a0 a1 k58 J2 N x4 (1 : Int32)
    else
      Fo_foldUp_86 I a0 a1 k58 J2 N x4 (0 : Int32)
def Fo_foldUp_58 (I : HI) (a0 : Nat) (a1 : Nat) : Nat → HJ → HN → Int32 → Option (HJ × HN)
  | 0 => fun _ _ _ => none
  | n + 1 => Fo_foldUp_58b I a0 a1 (Fo_foldUp_58 I a0 a1 n)
def Fo_foldUp_47 (I : HI) (a0 : Nat) (a1 : Nat) (J : HJ) (N : HN) (x2 : Int32) (bs0 : Nat) (s1 : Int32) : Option (HJ × HN) :=
  bn1 (Pa_side N bs0 s1) fun b1 =>
  gd (decide (b1 < nC ∧ Tc b1 = (0, 6))) <|
  bn1 (Po_put N b1 (0 : Int32) (1 : Int64) J) fun J3 =>
  Fo_foldUp_58 I a0 a1 256 J3 N x2
def Fo_foldUp_0 (I : HI) (a0 : Nat) (a1 : Nat) (J : HJ) (N : HN) : Option (HJ × HN) :=
  bd ((I a1 1) - (1 : Int32)) fun v1 =>
  bn1 (La_item I N a1 v1 (0 : Int32)) fun r2 =>
  rq Tc nC (N a0 0) (0, 5) fun b4 =>
  rq Tc nC (N b4 0) (0, 6) fun b5 =>
  bn1 (Po_clear N b5 J) fun J6 =>
  rq Tc nC (N a0 0) (0, 5) fun b8 =>
  rq Tc nC (N b8 1) (0, 6) fun b9 =>
  bn1 (Po_clear N b9 J6) fun J10 =>
  rq Tc nC (N a0 0) (0, 5) fun b12 =>
  if r2 = 0 then
    Fo_foldUp_47 I a0 a1 J10 N v1 b12 (1 : Int32)
  else
    Fo_foldUp_47 I a0 a1 J10 N v1 b12 (0 : Int32)
def Fo_foldUp (I : HI) (a0 : Nat) (a1 : Nat) (J : HJ) (N : HN) : Option (HJ × HN) := Fo_foldUp_0 I a0 a1 J N
def Fr_put_50  (a0 : Nat) (p1 : Int64) (p3 : Int64) (J : HJ) (x5 : Int64) (bs0 : Nat) (s1 : Int64) : Option (HJ) :=
  bd (up2 J bs0 0 s1) fun J1 =>
  gd (decide (¬ x5 = 0)) <|
  bd (up2 J1 a0 1 (if 0 < (p3 / x5) then (p3 / x5) else -(p3 / x5))) fun J3 =>
  some J3
def Fr_put_20  (a0 : Nat) (p1 : Int64) (p3 : Int64) (J : HJ) : Option (HJ) :=
  bd (up2 J a0 0 (0 : Int64)) fun J1 =>
  bd (up2 J1 a0 1 (1 : Int64)) fun J2 =>
  some J2
def Fr_put_0  (a0 : Nat) (p1 : Int64) (p3 : Int64) (J : HJ) : Option (HJ) :=
  bn1 (Lm_commonDivisor p1 p3) fun r1 =>
  if p3 = (0 : Int64) then
    Fr_put_20 a0 p1 p3 J
  else
    if r1 = (0 : Int64) then
      Fr_put_20 a0 p1 p3 J
    else
      if (0 : Int64) ≤ p3 then
        gd (decide (¬ r1 = 0)) <|
        Fr_put_50 a0 p1 p3 J r1 a0 (p1 / r1)
      else
        gd (decide (¬ r1 = 0)) <|
        Fr_put_50 a0 p1 p3 J r1 a0 (-(p1 / r1))
def Fr_put  (a0 : Nat) (p1 : Int64) (p3 : Int64) (J : HJ) : Option (HJ) := Fr_put_0 a0 p1 p3 J
def Fr_isHandy_0 (J : HJ) (a0 : Nat) : Option (Int32) :=
  if (J a0 0) ≤ (0 : Int64) then
    some (0 : Int32)
  else
    if (99 : Int64) < (J a0 0) then
      some (0 : Int32)
    else
      if (99 : Int64) < (J a0 1) then
        some (0 : Int32)
      else
        some (1 : Int32)
def Fr_isHandy (J : HJ) (a0 : Nat) : Option (Int32) := Fr_isHandy_0 J a0
def La_valueCount_51 (I : HI) (N : HN) (a0 : Nat) (k4 : Int32 → Int32 → Option (Int32)) (x2 : Int32) (s0 : Int32) (s1 : Int32) (s2 : Int32) : Option (Int32) :=
  bd (s0 + (s1 + s2)) fun v1 =>
  k4 v1 (x2 + 1)
def La_valueCount_35 (I : HI) (N : HN) (a0 : Nat) (k4 : Int32 → Int32 → Option (Int32)) (x2 : Int32) (s0 : Int32) (s1 : Int32) : Option (Int32) :=
  ra Tc nC (N a0 0) 3 fun b1 =>
  gd (inb x2 (Tc b1).2) <|
  ra Tc nC (N b1 x2.toNatClampNeg) 1 fun b3 =>
  gd (inb (3 : Int32) (Tc b3).2) <|
  if (I b3 (3 : Int32).toNatClampNeg) = 0 then
    La_valueCount_51 I N a0 k4 x2 s0 s1 (0 : Int32)
  else
    La_valueCount_51 I N a0 k4 x2 s0 s1 (1 : Int32)
def La_valueCount_4b (I : HI) (N : HN) (a0 : Nat) (k4 : Int32 → Int32 → Option (Int32)) (x1 : Int32) (x2 : Int32) : Option (Int32) :=
  if (I a0 1) ≤ x2 then
    some x1
  else
    if (6 : Int32) ≤ x2 then
      some x1
    else
      ra Tc nC (N a0 0) 3 fun b3 =>
      gd (inb x2 (Tc b3).2) <|
      ra Tc nC (N b3 x2.toNatClampNeg) 1 fun b5 =>
      gd (inb (1 : Int32) (Tc b5).2) <|
      if (I b5 (1 : Int32).toNatClampNeg) = 0 then
        La_valueCount_35 I N a0 k4 x2 x1 (0 : Int32)
      else
        La_valueCount_35 I N a0 k4 x2 x1 (1 : Int32)
def La_valueCount_4 (I : HI) (N : HN) (a0 : Nat) : Nat → Int32 → Int32 → Option (Int32)
  | 0 => fun _ _ => none
  | n + 1 => La_valueCount_4b I N a0 (La_valueCount_4 I N a0 n)
def La_valueCount_0 (I : HI) (N : HN) (a0 : Nat) : Option (Int32) :=
  La_valueCount_4 I N a0 256 (0 : Int32) (0 : Int32)
def La_valueCount (I : HI) (N : HN) (a0 : Nat) : Option (Int32) := La_valueCount_0 I N a0
def La_add_19 (N : HN) (a0 : Nat) (p1 : Int32) (p2 : Int32) (p3 : Int32) (p4 : Int32) (p5 : Int32) (I : HI) (s0 : Int32) (s1 : Int32) : Option (HI × Int32) :=
  bd (s0 + s1) fun v1 =>
  if (6 : Int32) ≤ (I a0 1) then
    some (I, (0 : Int32))
  else
    bn1 (La_valueCount I N a0) fun r3 =>
    if (r3 + v1) ≤ (6 : Int32) then
      ra Tc nC (N a0 0) 3 fun b6 =>
      gd (inb (I a0 1) (Tc b6).2) <|
      ra Tc nC (N b6 (I a0 1).toNatClampNeg) 1 fun b8 =>
      gd (inb (0 : Int32) (Tc b8).2) <|
      bd (up2 I b8 (0 : Int32).toNatClampNeg p1) fun I10 =>
      gd (inb (1 : Int32) (Tc b8).2) <|
      bd (up2 I10 b8 (1 : Int32).toNatClampNeg p2) fun I12 =>
      gd (inb (2 : Int32) (Tc b8).2) <|
      bd (up2 I12 b8 (2 : Int32).toNatClampNeg p3) fun I14 =>
      gd (inb (3 : Int32) (Tc b8).2) <|
      bd (up2 I14 b8 (3 : Int32).toNatClampNeg p4) fun I16 =>
      gd (inb (4 : Int32) (Tc b8).2) <|
      bd (up2 I16 b8 (4 : Int32).toNatClampNeg p5) fun I18 =>
      bd (up2 I18 a0 1 ((I18 a0 1) + (1 : Int32))) fun I19 =>
      some (I19, (1 : Int32))
    else
      some (I, (0 : Int32))
def La_add_9 (N : HN) (a0 : Nat) (p1 : Int32) (p2 : Int32) (p3 : Int32) (p4 : Int32) (p5 : Int32) (I : HI) (s0 : Int32) : Option (HI × Int32) :=
  if p4 = 0 then
    La_add_19 N a0 p1 p2 p3 p4 p5 I s0 (0 : Int32)
  else
    La_add_19 N a0 p1 p2 p3 p4 p5 I s0 (1 : Int32)
def La_add_0 (N : HN) (a0 : Nat) (p1 : Int32) (p2 : Int32) (p3 : Int32) (p4 : Int32) (p5 : Int32) (I : HI) : Option (HI × Int32) :=
  if p2 = 0 then
    La_add_9 N a0 p1 p2 p3 p4 p5 I (0 : Int32)
  else
    La_add_9 N a0 p1 p2 p3 p4 p5 I (1 : Int32)
def La_add (N : HN) (a0 : Nat) (p1 : Int32) (p2 : Int32) (p3 : Int32) (p4 : Int32) (p5 : Int32) (I : HI) : Option (HI × Int32) := La_add_0 N a0 p1 p2 p3 p4 p5 I
def La_dropLast_0  (a0 : Nat) (I : HI) : Option (HI) :=
  if (I a0 1) ≤ 0 then
    some I
  else
    bd (up2 I a0 1 ((I a0 1) - (1 : Int32))) fun I2 =>
    some I2
def La_dropLast  (a0 : Nat) (I : HI) : Option (HI) := La_dropLast_0 a0 I
def La_clear_0  (a0 : Nat) (I : HI) : Option (HI) :=
  bd (up2 I a0 1 (0 : Int32)) fun I1 =>
  some I1
def La_clear  (a0 : Nat) (I : HI) : Option (HI) := La_clear_0 a0 I
def La_load_26b (N : HN) (a0 : Nat) (a1 : Nat) (k10 : HI → Int32 → Option (HI)) (k26 : HI → Int32 → Int32 → Option (HI)) (I : HI) (x2 : Int32) (x3 : Int32) : Option (HI) :=
  if (5 : Int32) ≤ x3 then
    k10 I (x2 + 1)
  else
    ra Tc nC (N a0 0) 3 fun b2 =>
    gd (inb x2 (Tc b2).2) <|
    ra Tc nC (N b2 x2.toNatClampNeg) 1 fun b4 =>
    bn1 (La_item I N a1 x2 x3) fun r5 =>
    gd (inb x3 (Tc b4).2) <|
    bd (up2 I b4 x3.toNatClampNeg r5) fun I8 =>
    k26 I8 x2 (x3 + 1)
def La_load_26 (N : HN) (a0 : Nat) (a1 : Nat) (k10 : HI → Int32 → Option (HI)) : Nat → HI → Int32 → Int32 → Option (HI)
  | 0 => fun _ _ _ => none
  | n + 1 => La_load_26b N a0 a1 k10 (La_load_26 N a0 a1 k10 n)
def La_load_10b (N : HN) (a0 : Nat) (a1 : Nat) (k10 : HI → Int32 → Option (HI)) (I : HI) (x2 : Int32) : Option (HI) :=
  if (I a0 1) ≤ x2 then
    some I
  else
    if (6 : Int32) ≤ x2 then
      some I
    else
      La_load_26 N a0 a1 k10 256 I x2 (0 : Int32)
def La_load_10 (N : HN) (a0 : Nat) (a1 : Nat) : Nat → HI → Int32 → Option (HI)
  | 0 => fun _ _ => none
  | n + 1 => La_load_10b N a0 a1 (La_load_10 N a0 a1 n)
def La_load_0 (N : HN) (a0 : Nat) (a1 : Nat) (I : HI) : Option (HI) :=
  bd (up2 I a0 1 (I a1 1)) fun I1 =>
  La_load_10 N a0 a1 256 I1 (0 : Int32)
def La_load (N : HN) (a0 : Nat) (a1 : Nat) (I : HI) : Option (HI) := La_load_0 N a0 a1 I
def Me_holds_0 (I : HI) (a0 : Nat) (p1 : Int32) : Option (Int32) :=
  if p1 < 0 then
    some (0 : Int32)
  else
    if (I a0 2) ≤ p1 then
      some (0 : Int32)
    else
      some (1 : Int32)
def Me_holds (I : HI) (a0 : Nat) (p1 : Int32) : Option (Int32) := Me_holds_0 I a0 p1
def Me_item_29 (I : HI) (N : HN) (a0 : Nat) (p1 : Int32) (p2 : Int32) (s0 : Int32) : Option (Int32) :=
  if s0 = 0 then
    some (0 : Int32)
  else
    ra Tc nC (N a0 0) 3 fun b2 =>
    gd (inb p1 (Tc b2).2) <|
    ra Tc nC (N b2 p1.toNatClampNeg) 1 fun b4 =>
    gd (inb p2 (Tc b4).2) <|
    some (I b4 p2.toNatClampNeg)
def Me_item_28 (I : HI) (N : HN) (a0 : Nat) (p1 : Int32) (p2 : Int32) : Option (Int32) :=
  Me_item_29 I N a0 p1 p2 (0 : Int32)
def Me_item_0 (I : HI) (N : HN) (a0 : Nat) (p1 : Int32) (p2 : Int32) : Option (Int32) :=
  bn1 (Me_holds I a0 p1) fun r1 =>
  if r1 = 0 then
    Me_item_28 I N a0 p1 p2
  else
    if (12 : Int32) ≤ p1 then
      Me_item_28 I N a0 p1 p2
    else
      if p2 < 0 then
        Me_item_28 I N a0 p1 p2
      else
        if (15 : Int32) ≤ p2 then
          Me_item_28 I N a0 p1 p2
        else
          Me_item_29 I N a0 p1 p2 (1 : Int32)
def Me_item (I : HI) (N : HN) (a0 : Nat) (p1 : Int32) (p2 : Int32) : Option (Int32) := Me_item_0 I N a0 p1 p2
def Me_isSought_2b (I : HI) (J : HJ) (N : HN) (a0 : Nat) (p1 : Int32) (k2 : Int32 → Option (Int32)) (x2 : Int32) : Option (Int32) :=
  if (14 : Int32) ≤ x2 then
    some (1 : Int32)
  else
    bn1 (Me_item I N a0 p1 ((1 : Int32) + x2)) fun r2 =>
    rq Tc nC (N a0 1) (0, 5) fun b4 =>
    bn1 (Pa_number J N b4 x2) fun r5 =>
    if r2.toInt64 = r5 then
      k2 (x2 + 1)
    else
      some (0 : Int32)
def Me_isSought_2 (I : HI) (J : HJ) (N : HN) (a0 : Nat) (p1 : Int32) : Nat → Int32 → Option (Int32)
  | 0 => fun _ => none
  | n + 1 => Me_isSought_2b I J N a0 p1 (Me_isSought_2 I J N a0 p1 n)
def Me_isSought_0 (I : HI) (J : HJ) (N : HN) (a0 : Nat) (p1 : Int32) : Option (Int32) :=
  Me_isSought_2 I J N a0 p1 256 (0 : Int32)
def Me_isSought (I : HI) (J : HJ) (N : HN) (a0 : Nat) (p1 : Int32) : Option (Int32) := Me_isSought_0 I J N a0 p1
def Me_numberOf_17b (I : HI) (N : HN) (a0 : Nat) (a1 : Nat) (k17 : HJ → Int32 → Option (HJ × Int32)) (J : HJ) (x2 : Int32) : Option (HJ × Int32) :=
  if (I a0 2) ≤ x2 then
    some (J, (-1 : Int32))
  else
    bn1 (Me_isSought I J N a0 x2) fun r2 =>
    if r2 = 0 then
      k17 J (x2 + 1)
    else
      some (J, x2)
def Me_numberOf_17 (I : HI) (N : HN) (a0 : Nat) (a1 : Nat) : Nat → HJ → Int32 → Option (HJ × Int32)
  | 0 => fun _ _ => none
  | n + 1 => Me_numberOf_17b I N a0 a1 (Me_numberOf_17 I N a0 a1 n)
def Me_numberOf_0 (I : HI) (N : HN) (a0 : Nat) (a1 : Nat) (J : HJ) : Option (HJ × Int32) :=
  rq Tc nC (N a0 1) (0, 5) fun b1 =>
  bn1 (Pa_load N b1 a1 J) fun J2 =>
  rq Tc nC (N a0 1) (0, 5) fun b4 =>
  bn1 (Pa_becomeAsPair N b4 J2) fun J5 =>
  Me_numberOf_17 I N a0 a1 256 J5 (0 : Int32)
def Me_numberOf (I : HI) (N : HN) (a0 : Nat) (a1 : Nat) (J : HJ) : Option (HJ × Int32) := Me_numberOf_0 I N a0 a1 J
def Me_keepOnce_80 (N : HN) (a0 : Nat) (a1 : Nat) (I : HI) (J : HJ) (x2 : Int32) : Option (HI × HJ × Int32) :=
  if x2 < 0 then
    some (I, J, x2)
  else
    if (12 : Int32) ≤ x2 then
      some (I, J, x2)
    else
      ra Tc nC (N a0 0) 3 fun b3 =>
      gd (inb x2 (Tc b3).2) <|
      ra Tc nC (N b3 x2.toNatClampNeg) 1 fun b5 =>
      gd (inb (0 : Int32) (Tc b5).2) <|
      gd (inb (0 : Int32) (Tc b5).2) <|
      bd (up2 I b5 (0 : Int32).toNatClampNeg ((I b5 (0 : Int32).toNatClampNeg) + (1 : Int32))) fun I8 =>
      some (I8, J, x2)
def Me_keepOnce_39b (N : HN) (a0 : Nat) (a1 : Nat) (k39 : HI → HJ → Int32 → Int32 → Option (HI × HJ × Int32)) (I : HI) (J : HJ) (x2 : Int32) (x3 : Int32) : Option (HI × HJ × Int32) :=
  if (14 : Int32) ≤ x3 then
    bd (up2 I a0 2 ((I a0 2) + (1 : Int32))) fun I2 =>
    Me_keepOnce_80 N a0 a1 I2 J x2
  else
    ra Tc nC (N a0 0) 3 fun b3 =>
    gd (inb x2 (Tc b3).2) <|
    ra Tc nC (N b3 x2.toNatClampNeg) 1 fun b5 =>
    rq Tc nC (N a0 1) (0, 5) fun b6 =>
    bn1 (Pa_number J N b6 x3) fun r7 =>
    gd (inb ((1 : Int32) + x3) (Tc b5).2) <|
    bd (up2 I b5 ((1 : Int32) + x3).toNatClampNeg r7.toInt32) fun I10 =>
    k39 I10 J x2 (x3 + 1)
def Me_keepOnce_39 (N : HN) (a0 : Nat) (a1 : Nat) : Nat → HI → HJ → Int32 → Int32 → Option (HI × HJ × Int32)
  | 0 => fun _ _ _ _ => none
  | n + 1 => Me_keepOnce_39b N a0 a1 (Me_keepOnce_39 N a0 a1 n)
def Me_keepOnce_0 (N : HN) (a0 : Nat) (a1 : Nat) (I : HI) (J : HJ) : Option (HI × HJ × Int32) :=
  bn2 (Me_numberOf I N a0 a1 J) fun J1 r2 =>
  if r2 = (-1 : Int32) then
    if (I a0 2) < (12 : Int32) then
      bd (I a0 2) fun v6 =>
      ra Tc nC (N a0 0) 3 fun b7 =>
      gd (inb v6 (Tc b7).2) <|
      ra Tc nC (N b7 v6.toNatClampNeg) 1 fun b9 =>
      gd (inb (0 : Int32) (Tc b9).2) <|
      bd (up2 I b9 (0 : Int32).toNatClampNeg (0 : Int32)) fun I11 =>
      Me_keepOnce_39 N a0 a1 256 I11 J1 v6 (0 : Int32)
    else
      some (I, J1, (-4 : Int32))
  else
    Me_keepOnce_80 N a0 a1 I J1 r2
def Me_keepOnce (N : HN) (a0 : Nat) (a1 : Nat) (I : HI) (J : HJ) : Option (HI × HJ × Int32) := Me_keepOnce_0 N a0 a1 I J
def Me_timesOfAll_4b (I : HI) (N : HN) (a0 : Nat) (k4 : Int32 → Int32 → Option (Int32)) (x1 : Int32) (x2 : Int32) : Option (Int32) :=
  if (I a0 2) ≤ x2 then
    some x1
  else
    bn1 (Me_item I N a0 x2 (0 : Int32)) fun r2 =>
    bd (x1 + r2) fun v4 =>
    k4 v4 (x2 + 1)
def Me_timesOfAll_4 (I : HI) (N : HN) (a0 : Nat) : Nat → Int32 → Int32 → Option (Int32)
  | 0 => fun _ _ => none
  | n + 1 => Me_timesOfAll_4b I N a0 (Me_timesOfAll_4 I N a0 n)
def Me_timesOfAll_0 (I : HI) (N : HN) (a0 : Nat) : Option (Int32) :=
  Me_timesOfAll_4 I N a0 256 (0 : Int32) (0 : Int32)
def Me_timesOfAll (I : HI) (N : HN) (a0 : Nat) : Option (Int32) := Me_timesOfAll_0 I N a0
def Pa_putNumber_0 (N : HN) (a0 : Nat) (p1 : Int32) (p2 : Int64) (J : HJ) : Option (HJ) :=
  if (7 : Int32) ≤ p1 then
    rq Tc nC (N a0 1) (0, 6) fun b2 =>
    bn1 (Po_put N b2 (p1 - (7 : Int32)) p2 J) fun J3 =>
    some J3
  else
    rq Tc nC (N a0 0) (0, 6) fun b5 =>
    bn1 (Po_put N b5 p1 p2 J) fun J6 =>
    some J6
def Pa_putNumber (N : HN) (a0 : Nat) (p1 : Int32) (p2 : Int64) (J : HJ) : Option (HJ) := Pa_putNumber_0 N a0 p1 p2 J
def Po_isOfParity_32 (J : HJ) (N : HN) (a0 : Nat) (p1 : Int32) (k4 : Int32 → Int32 → Option (Int32)) (x2 : Int32) (x3 : Int32) : Option (Int32) :=
  k4 x2 (x3 + 1)
def Po_isOfParity_4b (J : HJ) (N : HN) (a0 : Nat) (p1 : Int32) (k4 : Int32 → Int32 → Option (Int32)) (x2 : Int32) (x3 : Int32) : Option (Int32) :=
  if (7 : Int32) ≤ x3 then
    gd (isB x2) <|
    some x2
  else
    ra Tc nC (N a0 0) 2 fun b3 =>
    gd (inb x3 (Tc b3).2) <|
    if (J b3 x3.toNatClampNeg) = (0 : Int64) then
      Po_isOfParity_32 J N a0 p1 k4 x2 x3
    else
      if (x3 - x3 / (2 : Int32) * (2 : Int32)) = p1 then
        Po_isOfParity_32 J N a0 p1 k4 (1 : Int32) x3
      else
        some (0 : Int32)
def Po_isOfParity_4 (J : HJ) (N : HN) (a0 : Nat) (p1 : Int32) : Nat → Int32 → Int32 → Option (Int32)
  | 0 => fun _ _ => none
  | n + 1 => Po_isOfParity_4b J N a0 p1 (Po_isOfParity_4 J N a0 p1 n)
def Po_isOfParity_0 (J : HJ) (N : HN) (a0 : Nat) (p1 : Int32) : Option (Int32) :=
  Po_isOfParity_4 J N a0 p1 256 (0 : Int32) (0 : Int32)
def Po_isOfParity (J : HJ) (N : HN) (a0 : Nat) (p1 : Int32) : Option (Int32) := Po_isOfParity_0 J N a0 p1
def Pa_isLawful_22 (J : HJ) (N : HN) (a0 : Nat) : Option (Int32) :=
  rq Tc nC (N a0 0) (0, 6) fun b1 =>
  bn1 (Po_isOfParity J N b1 (1 : Int32)) fun r2 =>
  if r2 = 0 then
    some (0 : Int32)
  else
    rq Tc nC (N a0 1) (0, 6) fun b5 =>
    bn1 (Po_isOfParity J N b5 (0 : Int32)) fun r6 =>
    if r6 = 0 then
      some (0 : Int32)
    else
      some (1 : Int32)
def Pa_isLawful_0 (J : HJ) (N : HN) (a0 : Nat) : Option (Int32) :=
  rq Tc nC (N a0 0) (0, 6) fun b1 =>
  bn1 (Po_isOfParity J N b1 (0 : Int32)) fun r2 =>
  if r2 = 0 then
    Pa_isLawful_22 J N a0
  else
    rq Tc nC (N a0 1) (0, 6) fun b5 =>
    bn1 (Po_isOfParity J N b5 (1 : Int32)) fun r6 =>
    if r6 = 0 then
      Pa_isLawful_22 J N a0
    else
      some (1 : Int32)
def Pa_isLawful (J : HJ) (N : HN) (a0 : Nat) : Option (Int32) := Pa_isLawful_0 J N a0
def Pa_greaterDegree_0 (J : HJ) (N : HN) (a0 : Nat) : Option (Int32) :=
  rq Tc nC (N a0 0) (0, 6) fun b1 =>
  bn1 (Po_degree J N b1) fun r2 =>
  rq Tc nC (N a0 1) (0, 6) fun b4 =>
  bn1 (Po_degree J N b4) fun r5 =>
  some (if r2 < r5 then r5 else r2)
def Pa_greaterDegree (J : HJ) (N : HN) (a0 : Nat) : Option (Int32) := Pa_greaterDegree_0 J N a0
def Pa_isFractionOf_13b (J : HJ) (N : HN) (a0 : Nat) (a1 : Nat) (k2 : Int32 → Option (Int32)) (k13 : Int32 → Int64 → Int32 → Option (Int32)) (x2 : Int32) (x3 : Int64) (x5 : Int32) : Option (Int32) :=
  if (7 : Int32) ≤ x5 then
    if x3 = (0 : Int64) then
      k2 (x2 + 1)
    else
      some (0 : Int32)
  else
    rq Tc nC (N a0 0) (0, 6) fun b3 =>
    bn1 (Po_at J N b3 x5) fun r4 =>
    rq Tc nC (N a1 1) (0, 6) fun b6 =>
    bn1 (Po_at J N b6 (x2 - x5)) fun r7 =>
    bd (x3 + (r4 * r7)) fun v9 =>
    rq Tc nC (N a1 0) (0, 6) fun b10 =>
    bn1 (Po_at J N b10 x5) fun r11 =>
    rq Tc nC (N a0 1) (0, 6) fun b13 =>
    bn1 (Po_at J N b13 (x2 - x5)) fun r14 =>
    bd (v9 - (r11 * r14)) fun v16 =>
    k13 x2 v16 (x5 + 1)
def Pa_isFractionOf_13 (J : HJ) (N : HN) (a0 : Nat) (a1 : Nat) (k2 : Int32 → Option (Int32)) : Nat → Int32 → Int64 → Int32 → Option (Int32)
  | 0 => fun _ _ _ => none
  | n + 1 => Pa_isFractionOf_13b J N a0 a1 k2 (Pa_isFractionOf_13 J N a0 a1 k2 n)
def Pa_isFractionOf_2b (J : HJ) (N : HN) (a0 : Nat) (a1 : Nat) (k2 : Int32 → Option (Int32)) (x2 : Int32) : Option (Int32) :=
  if (12 : Int32) < x2 then
    some (1 : Int32)
  else
    Pa_isFractionOf_13 J N a0 a1 k2 256 x2 (0 : Int64) (0 : Int32)
def Pa_isFractionOf_2 (J : HJ) (N : HN) (a0 : Nat) (a1 : Nat) : Nat → Int32 → Option (Int32)
  | 0 => fun _ => none
  | n + 1 => Pa_isFractionOf_2b J N a0 a1 (Pa_isFractionOf_2 J N a0 a1 n)
def Pa_isFractionOf_0 (J : HJ) (N : HN) (a0 : Nat) (a1 : Nat) : Option (Int32) :=
  Pa_isFractionOf_2 J N a0 a1 256 (0 : Int32)
def Pa_isFractionOf (J : HJ) (N : HN) (a0 : Nat) (a1 : Nat) : Option (Int32) := Pa_isFractionOf_0 J N a0 a1
def Po_multiplyBy_2b (N : HN) (a0 : Nat) (p1 : Int64) (k2 : HJ → Int32 → Option (HJ)) (J : HJ) (x3 : Int32) : Option (HJ) :=
  if (7 : Int32) ≤ x3 then
    some J
  else
    ra Tc nC (N a0 0) 2 fun b2 =>
    gd (inb x3 (Tc b2).2) <|
    gd (inb x3 (Tc b2).2) <|
    bd (up2 J b2 x3.toNatClampNeg ((J b2 x3.toNatClampNeg) * p1)) fun J5 =>
    k2 J5 (x3 + 1)
def Po_multiplyBy_2 (N : HN) (a0 : Nat) (p1 : Int64) : Nat → HJ → Int32 → Option (HJ)
  | 0 => fun _ _ => none
  | n + 1 => Po_multiplyBy_2b N a0 p1 (Po_multiplyBy_2 N a0 p1 n)
def Po_multiplyBy_0 (N : HN) (a0 : Nat) (p1 : Int64) (J : HJ) : Option (HJ) :=
  Po_multiplyBy_2 N a0 p1 256 J (0 : Int32)
def Po_multiplyBy (N : HN) (a0 : Nat) (p1 : Int64) (J : HJ) : Option (HJ) := Po_multiplyBy_0 N a0 p1 J
def Pa_goOn_13b  (a0 : Nat) (a1 : Nat) (p2 : Int32) (k13 : HJ → HN → Int32 → Option (HJ × HN)) (J : HJ) (N : HN) (x3 : Int32) : Option (HJ × HN) :=
  if (7 : Int32) ≤ x3 then
    rq Tc nC (N a0 1) (0, 6) fun b2 =>
    bn1 (Po_multiplyBy N b2 (J a1 1) J) fun J3 =>
    bn1 (Pa_swap a0 N) fun N5 =>
    some (J3, N5)
  else
    rq Tc nC (N a0 0) (0, 6) fun b7 =>
    rq Tc nC (N a0 0) (0, 6) fun b8 =>
    bn1 (Po_at J N b8 x3) fun r9 =>
    rq Tc nC (N a0 1) (0, 6) fun b11 =>
    bn1 (Po_at J N b11 (x3 - p2)) fun r12 =>
    bn1 (Po_put N b7 x3 (r9 - ((J a1 0) * r12)) J) fun J14 =>
    k13 J14 N (x3 + 1)
def Pa_goOn_13  (a0 : Nat) (a1 : Nat) (p2 : Int32) : Nat → HJ → HN → Int32 → Option (HJ × HN)
  | 0 => fun _ _ _ => none
  | n + 1 => Pa_goOn_13b a0 a1 p2 (Pa_goOn_13 a0 a1 p2 n)
def Pa_goOn_0  (a0 : Nat) (a1 : Nat) (p2 : Int32) (J : HJ) (N : HN) : Option (HJ × HN) :=
  rq Tc nC (N a0 0) (0, 6) fun b1 =>
  bn1 (Po_multiplyBy N b1 (J a1 1) J) fun J2 =>
  Pa_goOn_13 a0 a1 p2 256 J2 N (0 : Int32)
def Pa_goOn  (a0 : Nat) (a1 : Nat) (p2 : Int32) (J : HJ) (N : HN) : Option (HJ × HN) := Pa_goOn_0 a0 a1 p2 J N
def Po_loadEveryOther_2b (N : HN) (a0 : Nat) (a1 : Nat) (p2 : Int32) (k2 : HJ → Int32 → Option (HJ)) (J : HJ) (x3 : Int32) : Option (HJ) :=
  if (7 : Int32) ≤ x3 then
    some J
  else
    ra Tc nC (N a0 0) 2 fun b2 =>
    bn1 (Po_at J N a1 (p2 + ((2 : Int32) * x3))) fun r3 =>
    gd (inb x3 (Tc b2).2) <|
    bd (up2 J b2 x3.toNatClampNeg r3) fun J6 =>
    k2 J6 (x3 + 1)
def Po_loadEveryOther_2 (N : HN) (a0 : Nat) (a1 : Nat) (p2 : Int32) : Nat → HJ → Int32 → Option (HJ)
  | 0 => fun _ _ => none
  | n + 1 => Po_loadEveryOther_2b N a0 a1 p2 (Po_loadEveryOther_2 N a0 a1 p2 n)
def Po_loadEveryOther_0 (N : HN) (a0 : Nat) (a1 : Nat) (p2 : Int32) (J : HJ) : Option (HJ) :=
  Po_loadEveryOther_2 N a0 a1 p2 256 J (0 : Int32)
def Po_loadEveryOther (N : HN) (a0 : Nat) (a1 : Nat) (p2 : Int32) (J : HJ) : Option (HJ) := Po_loadEveryOther_0 N a0 a1 p2 J
def Po_leastPower_2b (J : HJ) (N : HN) (a0 : Nat) (k2 : Int32 → Option (Int32)) (x1 : Int32) : Option (Int32) :=
  if (7 : Int32) ≤ x1 then
    some (-1 : Int32)
  else
    ra Tc nC (N a0 0) 2 fun b2 =>
    gd (inb x1 (Tc b2).2) <|
    if (J b2 x1.toNatClampNeg) = (0 : Int64) then
      k2 (x1 + 1)
    else
      some x1
def Po_leastPower_2 (J : HJ) (N : HN) (a0 : Nat) : Nat → Int32 → Option (Int32)
  | 0 => fun _ => none
  | n + 1 => Po_leastPower_2b J N a0 (Po_leastPower_2 J N a0 n)
def Po_leastPower_0 (J : HJ) (N : HN) (a0 : Nat) : Option (Int32) :=
  Po_leastPower_2 J N a0 256 (0 : Int32)
def Po_leastPower (J : HJ) (N : HN) (a0 : Nat) : Option (Int32) := Po_leastPower_0 J N a0
def Po_runBackwards_2b (N : HN) (a0 : Nat) (p1 : Int32) (k2 : HJ → Int32 → Option (HJ)) (J : HJ) (x2 : Int32) : Option (HJ) :=
  if (7 : Int32) ≤ x2 then
    some J
  else
    if (p1 - x2) ≤ x2 then
      some J
    else
      bn1 (Po_at J N a0 x2) fun r3 =>
      bn1 (Po_at J N a0 (p1 - x2)) fun r5 =>
      bn1 (Po_put N a0 x2 r5 J) fun J7 =>
      bn1 (Po_put N a0 (p1 - x2) r3 J7) fun J9 =>
      k2 J9 (x2 + 1)
def Po_runBackwards_2 (N : HN) (a0 : Nat) (p1 : Int32) : Nat → HJ → Int32 → Option (HJ)
  | 0 => fun _ _ => none
  | n + 1 => Po_runBackwards_2b N a0 p1 (Po_runBackwards_2 N a0 p1 n)
def Po_runBackwards_0 (N : HN) (a0 : Nat) (p1 : Int32) (J : HJ) : Option (HJ) :=
  Po_runBackwards_2 N a0 p1 256 J (0 : Int32)
def Po_runBackwards (N : HN) (a0 : Nat) (p1 : Int32) (J : HJ) : Option (HJ) := Po_runBackwards_0 N a0 p1 J
def Po_valueAtMinus_9b (J : HJ) (N : HN) (a0 : Nat) (p1 : Int64) (p3 : Int64) (k9 : Int64 → Int64 → Int32 → Option (Int64)) (x5 : Int64) (x7 : Int64) (x9 : Int32) : Option (Int64) :=
  if x9 < 0 then
    some x5
  else
    ra Tc nC (N a0 0) 2 fun b2 =>
    gd (inb x9 (Tc b2).2) <|
    bd (((-p1) * x5) + (x7 * (J b2 x9.toNatClampNeg))) fun v4 =>
    bd (x7 * p3) fun v5 =>
    k9 v4 v5 (x9 + (-1))
def Po_valueAtMinus_9 (J : HJ) (N : HN) (a0 : Nat) (p1 : Int64) (p3 : Int64) : Nat → Int64 → Int64 → Int32 → Option (Int64)
  | 0 => fun _ _ _ => none
  | n + 1 => Po_valueAtMinus_9b J N a0 p1 p3 (Po_valueAtMinus_9 J N a0 p1 p3 n)
def Po_valueAtMinus_0 (J : HJ) (N : HN) (a0 : Nat) (p1 : Int64) (p3 : Int64) : Option (Int64) :=
  Po_valueAtMinus_9 J N a0 p1 p3 256 (0 : Int64) (1 : Int64) (3 : Int32)
def Po_valueAtMinus (J : HJ) (N : HN) (a0 : Nat) (p1 : Int64) (p3 : Int64) : Option (Int64) := Po_valueAtMinus_0 J N a0 p1 p3
def Po_divideByRoot_7b (N : HN) (a0 : Nat) (p1 : Int64) (p3 : Int64) (k7 : HJ → Int64 → Int32 → Option (HJ)) (J : HJ) (x5 : Int64) (x7 : Int32) : Option (HJ) :=
  if x7 < 0 then
    some J
  else
    if p3 = (0 : Int64) then
      some J
    else
      ra Tc nC (N a0 0) 2 fun b3 =>
      gd (inb x7 (Tc b3).2) <|
      gd (decide (¬ p3 = 0)) <|
      bd (((J b3 x7.toNatClampNeg) - (p1 * x5)) / p3) fun v6 =>
      ra Tc nC (N a0 0) 2 fun b7 =>
      gd (inb x7 (Tc b7).2) <|
      bd (up2 J b7 x7.toNatClampNeg x5) fun J9 =>
      k7 J9 v6 (x7 + (-1))
def Po_divideByRoot_7 (N : HN) (a0 : Nat) (p1 : Int64) (p3 : Int64) : Nat → HJ → Int64 → Int32 → Option (HJ)
  | 0 => fun _ _ _ => none
  | n + 1 => Po_divideByRoot_7b N a0 p1 p3 (Po_divideByRoot_7 N a0 p1 p3 n)
def Po_divideByRoot_0 (N : HN) (a0 : Nat) (p1 : Int64) (p3 : Int64) (J : HJ) : Option (HJ) :=
  Po_divideByRoot_7 N a0 p1 p3 256 J (0 : Int64) (6 : Int32)
def Po_divideByRoot (N : HN) (a0 : Nat) (p1 : Int64) (p3 : Int64) (J : HJ) : Option (HJ) := Po_divideByRoot_0 N a0 p1 p3 J
def Re_halfValue_0 (N : HN) (a0 : Nat) (a1 : Nat) (p2 : Int32) (p3 : Int32) (p4 : Int32) (J : HJ) : Option (HJ × Int64) :=
  rq Tc nC (N a0 0) (0, 6) fun b1 =>
  bn1 (Po_loadEveryOther N b1 a1 p2 J) fun J2 =>
  rq Tc nC (N a0 0) (0, 6) fun b4 =>
  bn1 (Po_valueAtMinus J2 N b4 ((p3 * p3).toInt64) ((p4 * p4).toInt64)) fun r5 =>
  some (J2, r5)
def Re_halfValue (N : HN) (a0 : Nat) (a1 : Nat) (p2 : Int32) (p3 : Int32) (p4 : Int32) (J : HJ) : Option (HJ × Int64) := Re_halfValue_0 N a0 a1 p2 p3 p4 J
def Re_workOut_78 (N : HN) (a0 : Nat) (a1 : Nat) (p2 : Int32) (p3 : Int32) (J : HJ) (x4 : Int32) (x5 : Int64) (x7 : Int64) (s0 : Int64) : Option (HJ × Int32) :=
  if s0 = (0 : Int64) then
    some (J, (0 : Int32))
  else
    if x4 = 0 then
      rq Tc nC (N a0 1) (0, 2) fun b3 =>
      bn1 (Fr_put b3 x7 x5 J) fun J4 =>
      some (J4, (1 : Int32))
    else
      rq Tc nC (N a0 1) (0, 2) fun b6 =>
      bn1 (Fr_put b6 (-x5) x7 J) fun J7 =>
      some (J7, (1 : Int32))
def Re_workOut_55 (N : HN) (a0 : Nat) (a1 : Nat) (p2 : Int32) (p3 : Int32) (J : HJ) (x4 : Int32) (x5 : Int64) (bs0 : Nat) (bs1 : Nat) : Option (HJ × Int32) :=
  bn2 (Re_halfValue N bs0 bs1 (1 : Int32) p2 p3 J) fun J1 r2 =>
  bd (r2 * p2.toInt64) fun v4 =>
  if x4 = 0 then
    Re_workOut_78 N a0 a1 p2 p3 J1 x4 x5 v4 x5
  else
    Re_workOut_78 N a0 a1 p2 p3 J1 x4 x5 v4 v4
def Re_workOut_27 (N : HN) (a0 : Nat) (a1 : Nat) (p2 : Int32) (p3 : Int32) (J : HJ) (x4 : Int32) (bs0 : Nat) (bs1 : Nat) : Option (HJ × Int32) :=
  bn2 (Re_halfValue N bs0 bs1 (0 : Int32) p2 p3 J) fun J1 r2 =>
  bd (r2 * p3.toInt64) fun v4 =>
  if x4 = 0 then
    rq Tc nC (N a1 0) (0, 6) fun b6 =>
    Re_workOut_55 N a0 a1 p2 p3 J1 x4 v4 a0 b6
  else
    rq Tc nC (N a1 1) (0, 6) fun b7 =>
    Re_workOut_55 N a0 a1 p2 p3 J1 x4 v4 a0 b7
def Re_workOut_0 (N : HN) (a0 : Nat) (a1 : Nat) (p2 : Int32) (p3 : Int32) (J : HJ) : Option (HJ × Int32) :=
  rq Tc nC (N a1 1) (0, 6) fun b1 =>
  bn1 (Po_isOfParity J N b1 (1 : Int32)) fun r2 =>
  if r2 = 0 then
    rq Tc nC (N a1 1) (0, 6) fun b5 =>
    Re_workOut_27 N a0 a1 p2 p3 J r2 a0 b5
  else
    rq Tc nC (N a1 0) (0, 6) fun b6 =>
    Re_workOut_27 N a0 a1 p2 p3 J r2 a0 b6
def Re_workOut (N : HN) (a0 : Nat) (a1 : Nat) (p2 : Int32) (p3 : Int32) (J : HJ) : Option (HJ × Int32) := Re_workOut_0 N a0 a1 p2 p3 J
def Sh_isSheet_0  (a0 : Nat) (p1 : Int32) : Option (Int32) :=
  if p1 < 0 then
    some (0 : Int32)
  else
    if (3 : Int32) ≤ p1 then
      some (0 : Int32)
    else
      some (1 : Int32)
def Sh_isSheet  (a0 : Nat) (p1 : Int32) : Option (Int32) := Sh_isSheet_0 a0 p1
def Sh_size_0 (I : HI) (N : HN) (a0 : Nat) (p1 : Int32) : Option (Int32) :=
  bn1 (Sh_isSheet a0 p1) fun r1 =>
  if r1 = 0 then
    some (-1 : Int32)
  else
    ra Tc nC (N a0 1) 1 fun b4 =>
    gd (inb p1 (Tc b4).2) <|
    some (I b4 p1.toNatClampNeg)
def Sh_size (I : HI) (N : HN) (a0 : Nat) (p1 : Int32) : Option (Int32) := Sh_size_0 I N a0 p1
def Sh_isLost_0 (I : HI) (N : HN) (a0 : Nat) (p1 : Int32) : Option (Int32) :=
  bn1 (Sh_size I N a0 p1) fun r1 =>
  if r1 = (-1 : Int32) then
    some (1 : Int32)
  else
    some (0 : Int32)
def Sh_isLost (I : HI) (N : HN) (a0 : Nat) (p1 : Int32) : Option (Int32) := Sh_isLost_0 I N a0 p1
def Sh_notLost_23 (I : HI) (N : HN) (a0 : Nat) (k4 : Int32 → Int32 → Option (Int32)) (x2 : Int32) (s0 : Int32) (s1 : Int32) : Option (Int32) :=
  bd (s0 + s1) fun v1 =>
  k4 v1 (x2 + 1)
def Sh_notLost_4b (I : HI) (N : HN) (a0 : Nat) (k4 : Int32 → Int32 → Option (Int32)) (x1 : Int32) (x2 : Int32) : Option (Int32) :=
  if (3 : Int32) ≤ x2 then
    some x1
  else
    bn1 (Sh_isLost I N a0 x2) fun r2 =>
    if r2 = 0 then
      Sh_notLost_23 I N a0 k4 x2 x1 (1 : Int32)
    else
      Sh_notLost_23 I N a0 k4 x2 x1 (0 : Int32)
def Sh_notLost_4 (I : HI) (N : HN) (a0 : Nat) : Nat → Int32 → Int32 → Option (Int32)
  | 0 => fun _ _ => none
  | n + 1 => Sh_notLost_4b I N a0 (Sh_notLost_4 I N a0 n)
def Sh_notLost_0 (I : HI) (N : HN) (a0 : Nat) : Option (Int32) :=
  Sh_notLost_4 I N a0 256 (0 : Int32) (0 : Int32)
def Sh_notLost (I : HI) (N : HN) (a0 : Nat) : Option (Int32) := Sh_notLost_0 I N a0
def Sh_renew_27b (N : HN) (a0 : Nat) (p1 : Int32) (p2 : Int32) (k27 : HI → HJ → Int32 → Option (HI × HJ)) (I : HI) (J : HJ) (x3 : Int32) : Option (HI × HJ) :=
  if (40 : Int32) ≤ x3 then
    some (I, J)
  else
    ra Tc nC (N a0 0) 4 fun b2 =>
    gd (inb p1 (Tc b2).2) <|
    ra Tc nC (N b2 p1.toNatClampNeg) 2 fun b4 =>
    gd (inb x3 (Tc b4).2) <|
    bd (up2 J b4 x3.toNatClampNeg (0 : Int64)) fun J6 =>
    k27 I J6 (x3 + 1)
def Sh_renew_27 (N : HN) (a0 : Nat) (p1 : Int32) (p2 : Int32) : Nat → HI → HJ → Int32 → Option (HI × HJ)
  | 0 => fun _ _ _ => none
  | n + 1 => Sh_renew_27b N a0 p1 p2 (Sh_renew_27 N a0 p1 p2 n)
def Sh_renew_0 (N : HN) (a0 : Nat) (p1 : Int32) (p2 : Int32) (I : HI) (J : HJ) : Option (HI × HJ) :=
  bn1 (Sh_isSheet a0 p1) fun r1 =>
  if r1 = 0 then
    some (I, J)
  else
    if p2 < 0 then
      some (I, J)
    else
      if (40 : Int32) < p2 then
        some (I, J)
      else
        ra Tc nC (N a0 1) 1 fun b6 =>
        gd (inb p1 (Tc b6).2) <|
        bd (up2 I b6 p1.toNatClampNeg p2) fun I8 =>
        Sh_renew_27 N a0 p1 p2 256 I8 J (0 : Int32)
def Sh_renew (N : HN) (a0 : Nat) (p1 : Int32) (p2 : Int32) (I : HI) (J : HJ) : Option (HI × HJ) := Sh_renew_0 N a0 p1 p2 I J
def Sh_forget_0 (N : HN) (a0 : Nat) (p1 : Int32) (I : HI) : Option (HI) :=
  bn1 (Sh_isSheet a0 p1) fun r1 =>
  if r1 = 0 then
    some I
  else
    ra Tc nC (N a0 1) 1 fun b4 =>
    gd (inb p1 (Tc b4).2) <|
    bd (up2 I b4 p1.toNatClampNeg (-1 : Int32)) fun I6 =>
    some I6
def Sh_forget (N : HN) (a0 : Nat) (p1 : Int32) (I : HI) : Option (HI) := Sh_forget_0 N a0 p1 I
def Sh_hasRun_0 (I : HI) (N : HN) (a0 : Nat) (p1 : Int32) (p2 : Int32) (p3 : Int32) : Option (Int32) :=
  if p2 < 0 then
    some (0 : Int32)
  else
    if p3 < 0 then
      some (0 : Int32)
    else
      if (40 : Int32) < p3 then
        some (0 : Int32)
      else
        bn1 (Sh_size I N a0 p1) fun r4 =>
        if (r4 - p3) < p2 then
          some (0 : Int32)
        else
          some (1 : Int32)
def Sh_hasRun (I : HI) (N : HN) (a0 : Nat) (p1 : Int32) (p2 : Int32) (p3 : Int32) : Option (Int32) := Sh_hasRun_0 I N a0 p1 p2 p3
def Sh_item_0 (I : HI) (J : HJ) (N : HN) (a0 : Nat) (p1 : Int32) (p2 : Int32) : Option (Int64) :=
  bn1 (Sh_isSheet a0 p1) fun r1 =>
  if r1 = 0 then
    some (0 : Int64)
  else
    bn1 (Sh_hasRun I N a0 p1 p2 (1 : Int32)) fun r4 =>
    if r4 = 0 then
      some (0 : Int64)
    else
      if (40 : Int32) ≤ p2 then
        some (0 : Int64)
      else
        ra Tc nC (N a0 0) 4 fun b8 =>
        gd (inb p1 (Tc b8).2) <|
        ra Tc nC (N b8 p1.toNatClampNeg) 2 fun b10 =>
        gd (inb p2 (Tc b10).2) <|
        some (J b10 p2.toNatClampNeg)
def Sh_item (I : HI) (J : HJ) (N : HN) (a0 : Nat) (p1 : Int32) (p2 : Int32) : Option (Int64) := Sh_item_0 I J N a0 p1 p2
def Sh_put_0 (I : HI) (N : HN) (a0 : Nat) (p1 : Int32) (p2 : Int32) (p3 : Int64) (J : HJ) : Option (HJ) :=
  bn1 (Sh_isSheet a0 p1) fun r1 =>
  if r1 = 0 then
    some J
  else
    bn1 (Sh_hasRun I N a0 p1 p2 (1 : Int32)) fun r4 =>
    if r4 = 0 then
      some J
    else
      if (40 : Int32) ≤ p2 then
        some J
      else
        ra Tc nC (N a0 0) 4 fun b8 =>
        gd (inb p1 (Tc b8).2) <|
        ra Tc nC (N b8 p1.toNatClampNeg) 2 fun b10 =>
        gd (inb p2 (Tc b10).2) <|
        bd (up2 J b10 p2.toNatClampNeg p3) fun J12 =>
        some J12
def Sh_put (I : HI) (N : HN) (a0 : Nat) (p1 : Int32) (p2 : Int32) (p3 : Int64) (J : HJ) : Option (HJ) := Sh_put_0 I N a0 p1 p2 p3 J
def Sh_move_0 (I : HI) (N : HN) (a0 : Nat) (p1 : Int32) (p2 : Int32) (p3 : Int32) (p4 : Int32) (p5 : Int32) (J : HJ) : Option (HJ) :=
  bn1 (Sh_isSheet a0 p1) fun r1 =>
  if r1 = 0 then
    some J
  else
    bn1 (Sh_isSheet a0 p3) fun r4 =>
    if r4 = 0 then
      some J
    else
      bn1 (Sh_hasRun I N a0 p1 p2 p5) fun r7 =>
      if r7 = 0 then
        some J
      else
        bn1 (Sh_hasRun I N a0 p3 p4 p5) fun r10 =>
        if r10 = 0 then
          some J
        else
          ra Tc nC (N a0 0) 4 fun b13 =>
          gd (inb p1 (Tc b13).2) <|
          ra Tc nC (N b13 p1.toNatClampNeg) 2 fun b15 =>
          ra Tc nC (N a0 0) 4 fun b16 =>
          gd (inb p3 (Tc b16).2) <|
          ra Tc nC (N b16 p3.toNatClampNeg) 2 fun b18 =>
          gd (cpb p2 p4 p5 (Tc b15).2 (Tc b18).2) <|
          bd (va_up J b18 (va_cpy (J b15) (J b18) p2.toNatClampNeg p4.toNatClampNeg p5.toNatClampNeg)) fun J20 =>
          some J20
def Sh_move (I : HI) (N : HN) (a0 : Nat) (p1 : Int32) (p2 : Int32) (p3 : Int32) (p4 : Int32) (p5 : Int32) (J : HJ) : Option (HJ) := Sh_move_0 I N a0 p1 p2 p3 p4 p5 J
def Un_endOf_0 (J : HJ) (N : HN) (a0 : Nat) (p1 : Int32) : Option (Int32) :=
  if p1 = 0 then
    bn1 (Po_leastPower J N a0) fun r2 =>
    some r2
  else
    bn1 (Po_degree J N a0) fun r4 =>
    some r4
def Un_endOf (J : HJ) (N : HN) (a0 : Nat) (p1 : Int32) : Option (Int32) := Un_endOf_0 J N a0 p1
def Un_unlawful_0  (p0 : Int32) : Option (Int32) :=
  some ((-100 : Int32) - p0)
def Un_unlawful  (p0 : Int32) : Option (Int32) := Un_unlawful_0 p0
def Un_addRising_0 (J : HJ) (N : HN) (a0 : Nat) (p1 : Int32) (I : HI) : Option (HI) :=
  rq Tc nC (N a0 4) (0, 2) fun b1 =>
  bd ((J b1 0).toInt32) fun v2 =>
  rq Tc nC (N a0 4) (0, 2) fun b3 =>
  bd ((J b3 1).toInt32) fun v4 =>
  if p1 = 0 then
    rq Tc nC (N a0 0) (0, 3) fun b10 =>
    bn2 (La_add N b10 p1 v2 v4 (0 : Int32) (0 : Int32) I) fun I11 r12 =>
    some I11
  else
    rq Tc nC (N a0 0) (0, 3) fun b6 =>
    bn2 (La_add N b6 p1 (0 : Int32) (0 : Int32) v2 v4 I) fun I7 r8 =>
    some I7
def Un_addRising (J : HJ) (N : HN) (a0 : Nat) (p1 : Int32) (I : HI) : Option (HI) := Un_addRising_0 J N a0 p1 I
def Un_addFalling_0 (J : HJ) (N : HN) (a0 : Nat) (p1 : Int32) (I : HI) : Option (HI) :=
  rq Tc nC (N a0 4) (0, 2) fun b1 =>
  bd ((J b1 1).toInt32) fun v2 =>
  rq Tc nC (N a0 4) (0, 2) fun b3 =>
  bd ((J b3 0).toInt32) fun v4 =>
  if p1 = 0 then
    rq Tc nC (N a0 0) (0, 3) fun b10 =>
    bn2 (La_add N b10 p1 (0 : Int32) (0 : Int32) v2 v4 I) fun I11 r12 =>
    some I11
  else
    rq Tc nC (N a0 0) (0, 3) fun b6 =>
    bn2 (La_add N b6 p1 v2 v4 (0 : Int32) (0 : Int32) I) fun I7 r8 =>
    some I7
def Un_addFalling (J : HJ) (N : HN) (a0 : Nat) (p1 : Int32) (I : HI) : Option (HI) := Un_addFalling_0 J N a0 p1 I
def Un_divideOn_220  (a0 : Nat) (p1 : Int32) (I : HI) (J : HJ) (N : HN) : Option (HI × HJ × HN × Int32) :=
  rq Tc nC (N a0 0) (0, 3) fun b1 =>
  bn1 (La_valueCount I N b1) fun r2 =>
  some (I, J, N, r2)
def Un_divideOn_191  (a0 : Nat) (p1 : Int32) (k58 : HI → HJ → HN → Int32 → Int32 → Int32 → Option (HI × HJ × HN × Int32)) (I : HI) (J : HJ) (N : HN) (x2 : Int32) (x3 : Int32) (x4 : Int32) : Option (HI × HJ × HN × Int32) :=
  rq Tc nC (N a0 1) (0, 5) fun b1 =>
  rq Tc nC (N a0 4) (0, 2) fun b2 =>
  bn2 (Pa_goOn b1 b2 x2 J N) fun J3 N4 =>
  rq Tc nC (N4 a0 1) (0, 5) fun b6 =>
  bn1 (Pa_becomeAsPair N4 b6 J3) fun J7 =>
  bd ((1 : Int32) - x3) fun v9 =>
  k58 I J7 N4 x2 v9 (x4 + 1)
def Un_divideOn_155  (a0 : Nat) (p1 : Int32) (I : HI) (J : HJ) (N : HN) (x4 : Int32) : Option (HI × HJ × HN × Int32) :=
  bn1 (Un_unlawful x4) fun r1 =>
  some (I, J, N, r1)
def Un_divideOn_58b  (a0 : Nat) (p1 : Int32) (k58 : HI → HJ → HN → Int32 → Int32 → Int32 → Option (HI × HJ × HN × Int32)) (I : HI) (J : HJ) (N : HN) (x2 : Int32) (x3 : Int32) (x4 : Int32) : Option (HI × HJ × HN × Int32) :=
  if (6 : Int32) < x4 then
    Un_divideOn_220 a0 p1 I J N
  else
    rq Tc nC (N a0 1) (0, 5) fun b2 =>
    rq Tc nC (N b2 1) (0, 6) fun b3 =>
    bn1 (Po_degree J N b3) fun r4 =>
    if r4 = (-1 : Int32) then
      Un_divideOn_220 a0 p1 I J N
    else
      rq Tc nC (N a0 1) (0, 5) fun b7 =>
      rq Tc nC (N b7 1) (0, 6) fun b8 =>
      bn1 (Un_endOf J N b8 p1) fun r9 =>
      rq Tc nC (N a0 4) (0, 2) fun b11 =>
      rq Tc nC (N a0 1) (0, 5) fun b12 =>
      rq Tc nC (N b12 0) (0, 6) fun b13 =>
      bn1 (Po_at J N b13 (r9 + x2)) fun r14 =>
      rq Tc nC (N a0 1) (0, 5) fun b16 =>
      rq Tc nC (N b16 1) (0, 6) fun b17 =>
      bn1 (Po_at J N b17 r9) fun r18 =>
      bn1 (Fr_put b11 r14 r18 J) fun J20 =>
      rq Tc nC (N a0 1) (0, 5) fun b22 =>
      rq Tc nC (N b22 0) (0, 6) fun b23 =>
      bn1 (Un_endOf J20 N b23 p1) fun r24 =>
      if r24 = (r9 + x2) then
        rq Tc nC (N a0 4) (0, 2) fun b27 =>
        if (0 : Int64) < (J20 b27 0) then
          rq Tc nC (N a0 4) (0, 2) fun b29 =>
          bn1 (Fr_isHandy J20 b29) fun r30 =>
          if r30 = 0 then
            some (I, J20, N, (-5 : Int32))
          else
            if p1 = 0 then
              bn1 (Un_addFalling J20 N a0 x3 I) fun I34 =>
              Un_divideOn_191 a0 p1 k58 I34 J20 N x2 x3 x4
            else
              bn1 (Un_addRising J20 N a0 x3 I) fun I36 =>
              Un_divideOn_191 a0 p1 k58 I36 J20 N x2 x3 x4
        else
          Un_divideOn_155 a0 p1 I J20 N x4
      else
        Un_divideOn_155 a0 p1 I J20 N x4
def Un_divideOn_58  (a0 : Nat) (p1 : Int32) : Nat → HI → HJ → HN → Int32 → Int32 → Int32 → Option (HI × HJ × HN × Int32)
  | 0 => fun _ _ _ _ _ _ => none
  | n + 1 => Un_divideOn_58b a0 p1 (Un_divideOn_58 a0 p1 n)
def Un_divideOn_55  (a0 : Nat) (p1 : Int32) (I : HI) (J : HJ) (N : HN) (x2 : Int32) (x3 : Int32) : Option (HI × HJ × HN × Int32) :=
  Un_divideOn_58 a0 p1 256 I J N x2 x3 (0 : Int32)
def Un_divideOn_42  (a0 : Nat) (p1 : Int32) (I : HI) (J : HJ) (N : HN) (x2 : Int32) (x3 : Int32) (s0 : Int32) : Option (HI × HJ × HN × Int32) :=
  if s0 = p1 then
    Un_divideOn_55 a0 p1 I J N x2 x3
  else
    rq Tc nC (N a0 1) (0, 5) fun b2 =>
    bn1 (Pa_swap b2 N) fun N3 =>
    Un_divideOn_55 a0 p1 I J N3 x2 (1 : Int32)
def Un_divideOn_9  (a0 : Nat) (p1 : Int32) (I : HI) (J : HJ) (N : HN) (s0 : Int32) : Option (HI × HJ × HN × Int32) :=
  rq Tc nC (N a0 1) (0, 5) fun b1 =>
  rq Tc nC (N b1 0) (0, 6) fun b2 =>
  bn1 (Un_endOf J N b2 p1) fun r3 =>
  rq Tc nC (N a0 1) (0, 5) fun b5 =>
  rq Tc nC (N b5 1) (0, 6) fun b6 =>
  bn1 (Un_endOf J N b6 p1) fun r7 =>
  if r3 ≤ r7 then
    Un_divideOn_42 a0 p1 I J N s0 (0 : Int32) (0 : Int32)
  else
    Un_divideOn_42 a0 p1 I J N s0 (0 : Int32) (1 : Int32)
def Un_divideOn_0  (a0 : Nat) (p1 : Int32) (I : HI) (J : HJ) (N : HN) : Option (HI × HJ × HN × Int32) :=
  if p1 = 0 then
    Un_divideOn_9 a0 p1 I J N (-1 : Int32)
  else
    Un_divideOn_9 a0 p1 I J N (1 : Int32)
def Un_divideOn  (a0 : Nat) (p1 : Int32) (I : HI) (J : HJ) (N : HN) : Option (HI × HJ × HN × Int32) := Un_divideOn_0 a0 p1 I J N
def Un_loadInX_19 (N : HN) (a0 : Nat) (J : HJ) (s0 : Int32) : Option (HJ) :=
  rq Tc nC (N a0 2) (0, 5) fun b1 =>
  rq Tc nC (N b1 0) (0, 6) fun b2 =>
  rq Tc nC (N a0 1) (0, 5) fun b3 =>
  rq Tc nC (N b3 0) (0, 6) fun b4 =>
  bn1 (Po_loadEveryOther N b2 b4 s0 J) fun J5 =>
  rq Tc nC (N a0 2) (0, 5) fun b7 =>
  rq Tc nC (N b7 1) (0, 6) fun b8 =>
  rq Tc nC (N a0 1) (0, 5) fun b9 =>
  rq Tc nC (N b9 1) (0, 6) fun b10 =>
  bn1 (Po_loadEveryOther N b8 b10 (s0 + (1 : Int32)) J5) fun J11 =>
  rq Tc nC (N a0 2) (0, 5) fun b13 =>
  rq Tc nC (N b13 0) (0, 6) fun b14 =>
  bn1 (Po_leastPower J11 N b14) fun r15 =>
  rq Tc nC (N a0 2) (0, 5) fun b17 =>
  rq Tc nC (N b17 1) (0, 6) fun b18 =>
  bn1 (Po_leastPower J11 N b18) fun r19 =>
  bd (if r19 < r15 then r19 else r15) fun v21 =>
  if v21 ≤ 0 then
    some J11
  else
    rq Tc nC (N a0 2) (0, 5) fun b23 =>
    rq Tc nC (N b23 0) (0, 6) fun b24 =>
    rq Tc nC (N a0 1) (0, 5) fun b25 =>
    rq Tc nC (N b25 0) (0, 6) fun b26 =>
    bn1 (Po_loadEveryOther N b24 b26 (s0 + ((2 : Int32) * v21)) J11) fun J27 =>
    rq Tc nC (N a0 2) (0, 5) fun b29 =>
    rq Tc nC (N b29 1) (0, 6) fun b30 =>
    rq Tc nC (N a0 1) (0, 5) fun b31 =>
    rq Tc nC (N b31 1) (0, 6) fun b32 =>
    bn1 (Po_loadEveryOther N b30 b32 ((s0 + (1 : Int32)) + ((2 : Int32) * v21)) J27) fun J33 =>
    some J33
def Un_loadInX_0 (N : HN) (a0 : Nat) (J : HJ) : Option (HJ) :=
  rq Tc nC (N a0 1) (0, 5) fun b1 =>
  rq Tc nC (N b1 0) (0, 6) fun b2 =>
  bn1 (Po_isOfParity J N b2 (0 : Int32)) fun r3 =>
  if r3 = 0 then
    Un_loadInX_19 N a0 J (-1 : Int32)
  else
    Un_loadInX_19 N a0 J (0 : Int32)
def Un_loadInX (N : HN) (a0 : Nat) (J : HJ) : Option (HJ) := Un_loadInX_0 N a0 J
def Un_timesInRest_2b (N : HN) (a0 : Nat) (p1 : Int32) (p2 : Int32) (k2 : HJ → Int32 → Option (HJ × Int32)) (J : HJ) (x3 : Int32) : Option (HJ × Int32) :=
  if (3 : Int32) ≤ x3 then
    some (J, x3)
  else
    rq Tc nC (N a0 3) (0, 6) fun b2 =>
    bn1 (Po_valueAtMinus J N b2 p1.toInt64 p2.toInt64) fun r3 =>
    if r3 = (0 : Int64) then
      rq Tc nC (N a0 3) (0, 6) fun b6 =>
      bn1 (Po_divideByRoot N b6 p1.toInt64 p2.toInt64 J) fun J7 =>
      k2 J7 (x3 + 1)
    else
      some (J, x3)
def Un_timesInRest_2 (N : HN) (a0 : Nat) (p1 : Int32) (p2 : Int32) : Nat → HJ → Int32 → Option (HJ × Int32)
  | 0 => fun _ _ => none
  | n + 1 => Un_timesInRest_2b N a0 p1 p2 (Un_timesInRest_2 N a0 p1 p2 n)
def Un_timesInRest_0 (N : HN) (a0 : Nat) (p1 : Int32) (p2 : Int32) (J : HJ) : Option (HJ × Int32) :=
  Un_timesInRest_2 N a0 p1 p2 256 J (0 : Int32)
def Un_timesInRest (N : HN) (a0 : Nat) (p1 : Int32) (p2 : Int32) (J : HJ) : Option (HJ × Int32) := Un_timesInRest_0 N a0 p1 p2 J
def Un_addRoot_99 (N : HN) (a0 : Nat) (p1 : Int32) (p2 : Int32) (p3 : Int32) (I : HI) (x4 : Int32) : Option (HI) :=
  ra Tc nC (N a0 6) 1 fun b1 =>
  gd (inb x4 (Tc b1).2) <|
  bd (up2 I b1 x4.toNatClampNeg p1) fun I3 =>
  ra Tc nC (N a0 7) 1 fun b4 =>
  gd (inb x4 (Tc b4).2) <|
  bd (up2 I3 b4 x4.toNatClampNeg p2) fun I6 =>
  ra Tc nC (N a0 8) 1 fun b7 =>
  gd (inb x4 (Tc b7).2) <|
  bd (up2 I6 b7 x4.toNatClampNeg p3) fun I9 =>
  bd (up2 I9 a0 9 ((I9 a0 9) + (1 : Int32))) fun I10 =>
  some I10
def Un_addRoot_15b (N : HN) (a0 : Nat) (p1 : Int32) (p2 : Int32) (p3 : Int32) (k15 : HI → Int32 → Option (HI)) (I : HI) (x4 : Int32) : Option (HI) :=
  if x4 ≤ 0 then
    Un_addRoot_99 N a0 p1 p2 p3 I x4
  else
    ra Tc nC (N a0 7) 1 fun b2 =>
    gd (inb (x4 - (1 : Int32)) (Tc b2).2) <|
    ra Tc nC (N a0 6) 1 fun b4 =>
    gd (inb (x4 - (1 : Int32)) (Tc b4).2) <|
    if ((I b4 (x4 - (1 : Int32)).toNatClampNeg) * p2) ≤ (p1 * (I b2 (x4 - (1 : Int32)).toNatClampNeg)) then
      Un_addRoot_99 N a0 p1 p2 p3 I x4
    else
      ra Tc nC (N a0 6) 1 fun b7 =>
      ra Tc nC (N a0 6) 1 fun b8 =>
      gd (inb (x4 - (1 : Int32)) (Tc b8).2) <|
      gd (inb x4 (Tc b7).2) <|
      bd (up2 I b7 x4.toNatClampNeg (I b8 (x4 - (1 : Int32)).toNatClampNeg)) fun I11 =>
      ra Tc nC (N a0 7) 1 fun b12 =>
      ra Tc nC (N a0 7) 1 fun b13 =>
      gd (inb (x4 - (1 : Int32)) (Tc b13).2) <|
      gd (inb x4 (Tc b12).2) <|
      bd (up2 I11 b12 x4.toNatClampNeg (I11 b13 (x4 - (1 : Int32)).toNatClampNeg)) fun I16 =>
      ra Tc nC (N a0 8) 1 fun b17 =>
      ra Tc nC (N a0 8) 1 fun b18 =>
      gd (inb (x4 - (1 : Int32)) (Tc b18).2) <|
      gd (inb x4 (Tc b17).2) <|
      bd (up2 I16 b17 x4.toNatClampNeg (I16 b18 (x4 - (1 : Int32)).toNatClampNeg)) fun I21 =>
      k15 I21 (x4 + (-1))
def Un_addRoot_15 (N : HN) (a0 : Nat) (p1 : Int32) (p2 : Int32) (p3 : Int32) : Nat → HI → Int32 → Option (HI)
  | 0 => fun _ _ => none
  | n + 1 => Un_addRoot_15b N a0 p1 p2 p3 (Un_addRoot_15 N a0 p1 p2 p3 n)
def Un_addRoot_0 (N : HN) (a0 : Nat) (p1 : Int32) (p2 : Int32) (p3 : Int32) (I : HI) : Option (HI) :=
  if (I a0 9) < (3 : Int32) then
    bd (I a0 9) fun v2 =>
    Un_addRoot_15 N a0 p1 p2 p3 256 I v2
  else
    some I
def Un_addRoot (N : HN) (a0 : Nat) (p1 : Int32) (p2 : Int32) (p3 : Int32) (I : HI) : Option (HI) := Un_addRoot_0 N a0 p1 p2 p3 I
def Un_findRoots_83 (N : HN) (a0 : Nat) (k22 : HI → HJ → Int32 → Option (HI × HJ)) (k30 : HI → HJ → Int32 → Int32 → Option (HI × HJ)) (I : HI) (J : HJ) (x1 : Int32) (x2 : Int32) : Option (HI × HJ) :=
  k30 I J x1 (x2 + 1)
def Un_findRoots_30b (N : HN) (a0 : Nat) (k22 : HI → HJ → Int32 → Option (HI × HJ)) (k30 : HI → HJ → Int32 → Int32 → Option (HI × HJ)) (I : HI) (J : HJ) (x1 : Int32) (x2 : Int32) : Option (HI × HJ) :=
  if (9 : Int32) < x2 then
    k22 I J (x1 + 1)
  else
    if x1 = 0 then
      Un_findRoots_83 N a0 k22 k30 I J x1 x2
    else
      rq Tc nC (N a0 2) (0, 5) fun b3 =>
      rq Tc nC (N b3 1) (0, 6) fun b4 =>
      bn1 (Po_valueAtMinus J N b4 x1.toInt64 x2.toInt64) fun r5 =>
      if r5 = (0 : Int64) then
        bn1 (Lm_commonDivisor x1.toInt64 x2.toInt64) fun r8 =>
        if r8 = (1 : Int64) then
          bn2 (Un_timesInRest N a0 x1 x2 J) fun J11 r12 =>
          bn1 (Un_addRoot N a0 x1 x2 r12 I) fun I14 =>
          Un_findRoots_83 N a0 k22 k30 I14 J11 x1 x2
        else
          Un_findRoots_83 N a0 k22 k30 I J x1 x2
      else
        Un_findRoots_83 N a0 k22 k30 I J x1 x2
def Un_findRoots_30 (N : HN) (a0 : Nat) (k22 : HI → HJ → Int32 → Option (HI × HJ)) : Nat → HI → HJ → Int32 → Int32 → Option (HI × HJ)
  | 0 => fun _ _ _ _ => none
  | n + 1 => Un_findRoots_30b N a0 k22 (Un_findRoots_30 N a0 k22 n)
def Un_findRoots_22b (N : HN) (a0 : Nat) (k22 : HI → HJ → Int32 → Option (HI × HJ)) (I : HI) (J : HJ) (x1 : Int32) : Option (HI × HJ) :=
  if (9 : Int32) < x1 then
    some (I, J)
  else
    Un_findRoots_30 N a0 k22 256 I J x1 (1 : Int32)
def Un_findRoots_22 (N : HN) (a0 : Nat) : Nat → HI → HJ → Int32 → Option (HI × HJ)
  | 0 => fun _ _ _ => none
  | n + 1 => Un_findRoots_22b N a0 (Un_findRoots_22 N a0 n)
def Un_findRoots_0 (N : HN) (a0 : Nat) (I : HI) (J : HJ) : Option (HI × HJ) :=
  bd (up2 I a0 9 (0 : Int32)) fun I1 =>
  rq Tc nC (N a0 3) (0, 6) fun b2 =>
  rq Tc nC (N a0 2) (0, 5) fun b3 =>
  rq Tc nC (N b3 1) (0, 6) fun b4 =>
  bn1 (Po_load N b2 b4 J) fun J5 =>
  Un_findRoots_22 N a0 256 I1 J5 (-9 : Int32)
def Un_findRoots (N : HN) (a0 : Nat) (I : HI) (J : HJ) : Option (HI × HJ) := Un_findRoots_0 N a0 I J
def Un_poleAtGreatest_77 (N : HN) (a0 : Nat) (p1 : Int32) (I : HI) (J : HJ) : Option (HI × HJ × Int32) :=
  bn1 (Un_unlawful (0 : Int32)) fun r1 =>
  some (I, J, r1)
def Un_poleAtGreatest_0 (N : HN) (a0 : Nat) (p1 : Int32) (I : HI) (J : HJ) : Option (HI × HJ × Int32) :=
  rq Tc nC (N a0 2) (0, 5) fun b1 =>
  rq Tc nC (N b1 0) (0, 6) fun b2 =>
  bn1 (Po_degree J N b2) fun r3 =>
  rq Tc nC (N a0 2) (0, 5) fun b5 =>
  rq Tc nC (N b5 1) (0, 6) fun b6 =>
  bn1 (Po_degree J N b6) fun r7 =>
  if r7 < r3 then
    rq Tc nC (N a0 4) (0, 2) fun b10 =>
    rq Tc nC (N a0 2) (0, 5) fun b11 =>
    rq Tc nC (N b11 0) (0, 6) fun b12 =>
    bn1 (Po_at J N b12 r3) fun r13 =>
    rq Tc nC (N a0 2) (0, 5) fun b15 =>
    rq Tc nC (N b15 1) (0, 6) fun b16 =>
    bn1 (Po_at J N b16 r7) fun r17 =>
    bn1 (Fr_put b10 r13 r17 J) fun J19 =>
    if (r7 + (1 : Int32)) < r3 then
      Un_poleAtGreatest_77 N a0 p1 I J19
    else
      rq Tc nC (N a0 4) (0, 2) fun b22 =>
      if (0 : Int64) < (J19 b22 0) then
        rq Tc nC (N a0 4) (0, 2) fun b24 =>
        bn1 (Fr_isHandy J19 b24) fun r25 =>
        if r25 = 0 then
          some (I, J19, (-5 : Int32))
        else
          bn1 (Un_addRising J19 N a0 p1 I) fun I28 =>
          some (I28, J19, (0 : Int32))
      else
        Un_poleAtGreatest_77 N a0 p1 I J19
  else
    some (I, J, (0 : Int32))
def Un_poleAtGreatest (N : HN) (a0 : Nat) (p1 : Int32) (I : HI) (J : HJ) : Option (HI × HJ × Int32) := Un_poleAtGreatest_0 N a0 p1 I J
def Un_poleAtZero_0 (N : HN) (a0 : Nat) (p1 : Int32) (I : HI) (J : HJ) : Option (HI × HJ × Int32) :=
  rq Tc nC (N a0 2) (0, 5) fun b1 =>
  rq Tc nC (N b1 1) (0, 6) fun b2 =>
  bn1 (Po_at J N b2 (0 : Int32)) fun r3 =>
  if r3 = (0 : Int64) then
    bn1 (Un_unlawful (1 : Int32)) fun r32 =>
    some (I, J, r32)
  else
    rq Tc nC (N a0 2) (0, 5) fun b6 =>
    rq Tc nC (N b6 0) (0, 6) fun b7 =>
    bn1 (Po_at J N b7 (0 : Int32)) fun r8 =>
    if r8 = (0 : Int64) then
      some (I, J, (0 : Int32))
    else
      rq Tc nC (N a0 4) (0, 2) fun b11 =>
      rq Tc nC (N a0 2) (0, 5) fun b12 =>
      rq Tc nC (N b12 0) (0, 6) fun b13 =>
      bn1 (Po_at J N b13 (0 : Int32)) fun r14 =>
      rq Tc nC (N a0 2) (0, 5) fun b16 =>
      rq Tc nC (N b16 1) (0, 6) fun b17 =>
      bn1 (Po_at J N b17 (0 : Int32)) fun r18 =>
      bn1 (Fr_put b11 r14 r18 J) fun J20 =>
      rq Tc nC (N a0 4) (0, 2) fun b22 =>
      if (0 : Int64) < (J20 b22 0) then
        rq Tc nC (N a0 4) (0, 2) fun b24 =>
        bn1 (Fr_isHandy J20 b24) fun r25 =>
        if r25 = 0 then
          some (I, J20, (-5 : Int32))
        else
          bn1 (Un_addFalling J20 N a0 p1 I) fun I28 =>
          some (I28, J20, (0 : Int32))
      else
        bn1 (Un_unlawful (1 : Int32)) fun r30 =>
        some (I, J20, r30)
def Un_poleAtZero (N : HN) (a0 : Nat) (p1 : Int32) (I : HI) (J : HJ) : Option (HI × HJ × Int32) := Un_poleAtZero_0 N a0 p1 I J
def Un_addBoth_0 (J : HJ) (N : HN) (a0 : Nat) (p1 : Int32) (I : HI) : Option (HI) :=
  rq Tc nC (N a0 5) (0, 2) fun b1 =>
  bd ((J b1 0).toInt32) fun v2 =>
  rq Tc nC (N a0 5) (0, 2) fun b3 =>
  bd ((J b3 1).toInt32) fun v4 =>
  rq Tc nC (N a0 4) (0, 2) fun b5 =>
  bd ((J b5 1).toInt32) fun v6 =>
  rq Tc nC (N a0 4) (0, 2) fun b7 =>
  bd ((J b7 0).toInt32) fun v8 =>
  if p1 = 0 then
    rq Tc nC (N a0 0) (0, 3) fun b14 =>
    bn2 (La_add N b14 p1 v2 v4 v6 v8 I) fun I15 r16 =>
    some I15
  else
    rq Tc nC (N a0 0) (0, 3) fun b10 =>
    bn2 (La_add N b10 p1 v6 v8 v2 v4 I) fun I11 r12 =>
    some I11
def Un_addBoth (J : HJ) (N : HN) (a0 : Nat) (p1 : Int32) (I : HI) : Option (HI) := Un_addBoth_0 J N a0 p1 I
def Un_poleAtRoot_28 (N : HN) (a0 : Nat) (p1 : Int32) (p2 : Int32) (I : HI) (J : HJ) : Option (HI × HJ × Int32) :=
  bn1 (Un_unlawful ((2 : Int32) + p2)) fun r1 =>
  some (I, J, r1)
def Un_poleAtRoot_0 (N : HN) (a0 : Nat) (p1 : Int32) (p2 : Int32) (I : HI) (J : HJ) : Option (HI × HJ × Int32) :=
  if p2 < 0 then
    Un_poleAtRoot_28 N a0 p1 p2 I J
  else
    if (3 : Int32) ≤ p2 then
      Un_poleAtRoot_28 N a0 p1 p2 I J
    else
      ra Tc nC (N a0 6) 1 fun b3 =>
      gd (inb p2 (Tc b3).2) <|
      if (I b3 p2.toNatClampNeg) ≤ 0 then
        Un_poleAtRoot_28 N a0 p1 p2 I J
      else
        ra Tc nC (N a0 8) 1 fun b6 =>
        gd (inb p2 (Tc b6).2) <|
        if (I b6 p2.toNatClampNeg) ≤ (1 : Int32) then
          ra Tc nC (N a0 6) 1 fun b9 =>
          gd (inb p2 (Tc b9).2) <|
          bd (I b9 p2.toNatClampNeg) fun v11 =>
          ra Tc nC (N a0 7) 1 fun b12 =>
          gd (inb p2 (Tc b12).2) <|
          bd (I b12 p2.toNatClampNeg) fun v14 =>
          rq Tc nC (N a0 3) (0, 6) fun b15 =>
          rq Tc nC (N a0 2) (0, 5) fun b16 =>
          rq Tc nC (N b16 1) (0, 6) fun b17 =>
          bn1 (Po_load N b15 b17 J) fun J18 =>
          rq Tc nC (N a0 3) (0, 6) fun b20 =>
          bn1 (Po_divideByRoot N b20 v11.toInt64 v14.toInt64 J18) fun J21 =>
          rq Tc nC (N a0 4) (0, 2) fun b23 =>
          rq Tc nC (N a0 2) (0, 5) fun b24 =>
          rq Tc nC (N b24 0) (0, 6) fun b25 =>
          bn1 (Po_valueAtMinus J21 N b25 v11.toInt64 v14.toInt64) fun r26 =>
          rq Tc nC (N a0 3) (0, 6) fun b28 =>
          bn1 (Po_valueAtMinus J21 N b28 v11.toInt64 v14.toInt64) fun r29 =>
          bn1 (Fr_put b23 r26 ((-v11).toInt64 * r29) J21) fun J31 =>
          rq Tc nC (N a0 4) (0, 2) fun b33 =>
          if (J31 b33 0) = (0 : Int64) then
            some (I, J31, (0 : Int32))
          else
            rq Tc nC (N a0 4) (0, 2) fun b35 =>
            if (0 : Int64) ≤ (J31 b35 0) then
              rq Tc nC (N a0 5) (0, 2) fun b37 =>
              rq Tc nC (N a0 4) (0, 2) fun b38 =>
              rq Tc nC (N a0 4) (0, 2) fun b39 =>
              bn1 (Fr_put b37 ((J31 b38 0) * v14.toInt64) ((J31 b39 1) * v11.toInt64) J31) fun J40 =>
              rq Tc nC (N a0 4) (0, 2) fun b42 =>
              bn1 (Fr_isHandy J40 b42) fun r43 =>
              if r43 = 0 then
                some (I, J40, (-5 : Int32))
              else
                rq Tc nC (N a0 5) (0, 2) fun b46 =>
                bn1 (Fr_isHandy J40 b46) fun r47 =>
                if r47 = 0 then
                  some (I, J40, (-5 : Int32))
                else
                  bn1 (Un_addBoth J40 N a0 p1 I) fun I50 =>
                  some (I50, J40, (0 : Int32))
            else
              bn1 (Un_unlawful ((2 : Int32) + p2)) fun r52 =>
              some (I, J31, r52)
        else
          Un_poleAtRoot_28 N a0 p1 p2 I J
def Un_poleAtRoot (N : HN) (a0 : Nat) (p1 : Int32) (p2 : Int32) (I : HI) (J : HJ) : Option (HI × HJ × Int32) := Un_poleAtRoot_0 N a0 p1 p2 I J
def Un_divideByPoles_71 (N : HN) (a0 : Nat) (p1 : Int32) (I : HI) (J : HJ) (x2 : Int32) : Option (HI × HJ × Int32) :=
  if x2 = 0 then
    rq Tc nC (N a0 0) (0, 3) fun b2 =>
    bn1 (La_valueCount I N b2) fun r3 =>
    some (I, J, r3)
  else
    some (I, J, x2)
def Un_divideByPoles_46b (N : HN) (a0 : Nat) (p1 : Int32) (k46 : HI → HJ → Int32 → Int32 → Option (HI × HJ × Int32)) (I : HI) (J : HJ) (x2 : Int32) (x3 : Int32) : Option (HI × HJ × Int32) :=
  if (I a0 9) ≤ x3 then
    Un_divideByPoles_71 N a0 p1 I J x2
  else
    if x2 = 0 then
      bn3 (Un_poleAtRoot N a0 p1 x3 I J) fun I3 J4 r5 =>
      k46 I3 J4 r5 (x3 + 1)
    else
      Un_divideByPoles_71 N a0 p1 I J x2
def Un_divideByPoles_46 (N : HN) (a0 : Nat) (p1 : Int32) : Nat → HI → HJ → Int32 → Int32 → Option (HI × HJ × Int32)
  | 0 => fun _ _ _ _ => none
  | n + 1 => Un_divideByPoles_46b N a0 p1 (Un_divideByPoles_46 N a0 p1 n)
def Un_divideByPoles_44 (N : HN) (a0 : Nat) (p1 : Int32) (I : HI) (J : HJ) (x2 : Int32) : Option (HI × HJ × Int32) :=
  Un_divideByPoles_46 N a0 p1 256 I J x2 (0 : Int32)
def Un_divideByPoles_0 (N : HN) (a0 : Nat) (p1 : Int32) (I : HI) (J : HJ) : Option (HI × HJ × Int32) :=
  bn1 (Un_loadInX N a0 J) fun J1 =>
  bn2 (Un_findRoots N a0 I J1) fun I3 J4 =>
  rq Tc nC (N a0 3) (0, 6) fun b6 =>
  bn1 (Po_degree J4 N b6) fun r7 =>
  rq Tc nC (N a0 3) (0, 6) fun b9 =>
  bn1 (Po_leastPower J4 N b9) fun r10 =>
  if r7 = r10 then
    bn3 (Un_poleAtGreatest N a0 p1 I3 J4) fun I13 J14 r15 =>
    if r15 = 0 then
      bn3 (Un_poleAtZero N a0 p1 I13 J14) fun I18 J19 r20 =>
      Un_divideByPoles_44 N a0 p1 I18 J19 r20
    else
      Un_divideByPoles_44 N a0 p1 I13 J14 r15
  else
    some (I3, J4, (-6 : Int32))
def Un_divideByPoles (N : HN) (a0 : Nat) (p1 : Int32) (I : HI) (J : HJ) : Option (HI × HJ × Int32) := Un_divideByPoles_0 N a0 p1 I J
def Un_tryWay_57  (a0 : Nat) (a1 : Nat) (p2 : Int32) (I : HI) (J : HJ) (N : HN) (bs0 : Nat) (s1 : Int32) : Option (HI × HJ × HN × Int32) :=
  bn3 (Un_divideByPoles N bs0 s1 I J) fun I1 J2 r3 =>
  some (I1, J2, N, r3)
def Un_tryWay_46  (a0 : Nat) (a1 : Nat) (p2 : Int32) (I : HI) (J : HJ) (N : HN) : Option (HI × HJ × HN × Int32) :=
  if p2 = (2 : Int32) then
    Un_tryWay_57 a0 a1 p2 I J N a0 (0 : Int32)
  else
    Un_tryWay_57 a0 a1 p2 I J N a0 (1 : Int32)
def Un_tryWay_30  (a0 : Nat) (a1 : Nat) (p2 : Int32) (I : HI) (J : HJ) (N : HN) (bs0 : Nat) (s1 : Int32) : Option (HI × HJ × HN × Int32) :=
  bn4 (Un_divideOn bs0 s1 I J N) fun I1 J2 N3 r4 =>
  some (I1, J2, N3, r4)
def Un_tryWay_0  (a0 : Nat) (a1 : Nat) (p2 : Int32) (I : HI) (J : HJ) (N : HN) : Option (HI × HJ × HN × Int32) :=
  rq Tc nC (N a0 0) (0, 3) fun b1 =>
  bn1 (La_clear b1 I) fun I2 =>
  rq Tc nC (N a0 1) (0, 5) fun b4 =>
  bn1 (Pa_load N b4 a1 J) fun J5 =>
  if (1 : Int32) < p2 then
    if p2 = (3 : Int32) then
      rq Tc nC (N a0 1) (0, 5) fun b9 =>
      bn1 (Pa_swap b9 N) fun N10 =>
      Un_tryWay_46 a0 a1 p2 I2 J5 N10
    else
      Un_tryWay_46 a0 a1 p2 I2 J5 N
  else
    if p2 = 0 then
      Un_tryWay_30 a0 a1 p2 I2 J5 N a0 (1 : Int32)
    else
      Un_tryWay_30 a0 a1 p2 I2 J5 N a0 (0 : Int32)
def Un_tryWay  (a0 : Nat) (a1 : Nat) (p2 : Int32) (I : HI) (J : HJ) (N : HN) : Option (HI × HJ × HN × Int32) := Un_tryWay_0 a0 a1 p2 I J N
def Lm_isPlace_0  (p0 : Int32) : Option (Int32) :=
  if p0 = 0 then
    some (1 : Int32)
  else
    if p0 = (1 : Int32) then
      some (1 : Int32)
    else
      some (0 : Int32)
def Lm_isPlace  (p0 : Int32) : Option (Int32) := Lm_isPlace_0 p0
def Lm_isPower_0  (p0 : Int32) : Option (Int32) :=
  if p0 < 0 then
    some (0 : Int32)
  else
    if (7 : Int32) ≤ p0 then
      some (0 : Int32)
    else
      some (1 : Int32)
def Lm_isPower  (p0 : Int32) : Option (Int32) := Lm_isPower_0 p0
def Lm_isWishNumber_0  (p0 : Int64) : Option (Int32) :=
  if p0 < (-9 : Int64) then
    some (0 : Int32)
  else
    if (9 : Int64) < p0 then
      some (0 : Int32)
    else
      some (1 : Int32)
def Lm_isWishNumber  (p0 : Int64) : Option (Int32) := Lm_isWishNumber_0 p0
def Lm_tell_0 (N : HN) (a0 : Nat) (p1 : Int32) (p2 : Int32) (p3 : Int32) (J : HJ) : Option (HJ × Int32) :=
  bn1 (Lm_isPlace p1) fun r1 =>
  if r1 = 0 then
    some (J, (-2147483648 : Int32))
  else
    bn1 (Lm_isPower p2) fun r4 =>
    if r4 = 0 then
      some (J, (-2147483648 : Int32))
    else
      bn1 (Lm_isWishNumber p3.toInt64) fun r7 =>
      if r7 = 0 then
        some (J, (-2147483648 : Int32))
      else
        rq Tc nC (N a0 0) (0, 5) fun b10 =>
        bn1 (Pa_side N b10 p1) fun b11 =>
        gd (decide (b11 < nC ∧ Tc b11 = (0, 6))) <|
        bn1 (Po_at J N b11 p2) fun r13 =>
        bn1 (Po_put N b11 p2 p3.toInt64 J) fun J15 =>
        some (J15, r13.toInt32)
def Lm_tell (N : HN) (a0 : Nat) (p1 : Int32) (p2 : Int32) (p3 : Int32) (J : HJ) : Option (HJ × Int32) := Lm_tell_0 N a0 p1 p2 p3 J
def Lm_told_0 (J : HJ) (N : HN) (a0 : Nat) (p1 : Int32) (p2 : Int32) : Option (Int32) :=
  bn1 (Lm_isPlace p1) fun r1 =>
  if r1 = 0 then
    some (-2147483648 : Int32)
  else
    bn1 (Lm_isPower p2) fun r4 =>
    if r4 = 0 then
      some (-2147483648 : Int32)
    else
      rq Tc nC (N a0 0) (0, 5) fun b7 =>
      bn1 (Pa_side N b7 p1) fun b8 =>
      gd (decide (b8 < nC ∧ Tc b8 = (0, 6))) <|
      bn1 (Po_at J N b8 p2) fun r10 =>
      some r10.toInt32
def Lm_told (J : HJ) (N : HN) (a0 : Nat) (p1 : Int32) (p2 : Int32) : Option (Int32) := Lm_told_0 J N a0 p1 p2
def Lm_turn_0 (J : HJ) (a0 : Nat) (N : HN) : Option (HN × Int32) :=
  rq Tc nC (N a0 0) (0, 5) fun b1 =>
  bn1 (Pa_swap b1 N) fun N2 =>
  rq Tc nC (N2 a0 0) (0, 5) fun b4 =>
  bn1 (Pa_isLawful J N2 b4) fun r5 =>
  if r5 = 0 then
    some (N2, (0 : Int32))
  else
    some (N2, (1 : Int32))
def Lm_turn (J : HJ) (a0 : Nat) (N : HN) : Option (HN × Int32) := Lm_turn_0 J a0 N
def Lm_reverse_0 (N : HN) (a0 : Nat) (J : HJ) : Option (HJ × Int32) :=
  rq Tc nC (N a0 0) (0, 5) fun b1 =>
  bn1 (Pa_greaterDegree J N b1) fun r2 =>
  if r2 = (-1 : Int32) then
    some (J, (-3 : Int32))
  else
    rq Tc nC (N a0 0) (0, 5) fun b5 =>
    bn1 (Pa_side N b5 (0 : Int32)) fun b6 =>
    gd (decide (b6 < nC ∧ Tc b6 = (0, 6))) <|
    bn1 (Po_runBackwards N b6 r2 J) fun J8 =>
    rq Tc nC (N a0 0) (0, 5) fun b10 =>
    bn1 (Pa_side N b10 (1 : Int32)) fun b11 =>
    gd (decide (b11 < nC ∧ Tc b11 = (0, 6))) <|
    bn1 (Po_runBackwards N b11 r2 J8) fun J13 =>
    some (J13, r2)
def Lm_reverse (N : HN) (a0 : Nat) (J : HJ) : Option (HJ × Int32) := Lm_reverse_0 N a0 J
def Lm_finding_0  (a0 : Nat) (p1 : Int32) (I : HI) : Option (HI × Int32) :=
  bd (up2 I a0 8 p1) fun I1 =>
  some (I1, (-10 : Int32) - p1)
def Lm_finding  (a0 : Nat) (p1 : Int32) (I : HI) : Option (HI × Int32) := Lm_finding_0 a0 p1 I
def Lm_sheetRefusal_0 (N : HN) (a0 : Nat) (p1 : Int32) (I : HI) : Option (HI × Int32) :=
  rq Tc nC (N a0 6) (0, 8) fun b1 =>
  bn1 (Sh_isSheet b1 p1) fun r2 =>
  if r2 = 0 then
    some (I, (-2 : Int32))
  else
    rq Tc nC (N a0 6) (0, 8) fun b5 =>
    bn1 (Sh_isLost I N b5 p1) fun r6 =>
    if r6 = 0 then
      some (I, (0 : Int32))
    else
      bn2 (Lm_finding a0 (1 : Int32) I) fun I9 r10 =>
      some (I9, r10)
def Lm_sheetRefusal (N : HN) (a0 : Nat) (p1 : Int32) (I : HI) : Option (HI × Int32) := Lm_sheetRefusal_0 N a0 p1 I
def Lm_read_72b (N : HN) (a0 : Nat) (p1 : Int32) (p2 : Int32) (k72 : HI → HJ → Int32 → Option (HI × HJ × Int32)) (I : HI) (J : HJ) (x4 : Int32) : Option (HI × HJ × Int32) :=
  if (14 : Int32) ≤ x4 then
    some (I, J, (14 : Int32))
  else
    rq Tc nC (N a0 0) (0, 5) fun b2 =>
    rq Tc nC (N a0 6) (0, 8) fun b3 =>
    bn1 (Sh_item I J N b3 p1 (p2 + x4)) fun r4 =>
    bn1 (Pa_putNumber N b2 x4 r4 J) fun J6 =>
    k72 I J6 (x4 + 1)
def Lm_read_72 (N : HN) (a0 : Nat) (p1 : Int32) (p2 : Int32) : Nat → HI → HJ → Int32 → Option (HI × HJ × Int32)
  | 0 => fun _ _ _ => none
  | n + 1 => Lm_read_72b N a0 p1 p2 (Lm_read_72 N a0 p1 p2 n)
def Lm_read_35b (N : HN) (a0 : Nat) (p1 : Int32) (p2 : Int32) (k35 : HI → HJ → Int32 → Option (HI × HJ × Int32)) (I : HI) (J : HJ) (x4 : Int32) : Option (HI × HJ × Int32) :=
  if (14 : Int32) ≤ x4 then
    Lm_read_72 N a0 p1 p2 256 I J (0 : Int32)
  else
    rq Tc nC (N a0 6) (0, 8) fun b2 =>
    bn1 (Sh_item I J N b2 p1 (p2 + x4)) fun r3 =>
    bn1 (Lm_isWishNumber r3) fun r5 =>
    if r5 = 0 then
      some (I, J, (-2 : Int32))
    else
      k35 I J (x4 + 1)
def Lm_read_35 (N : HN) (a0 : Nat) (p1 : Int32) (p2 : Int32) : Nat → HI → HJ → Int32 → Option (HI × HJ × Int32)
  | 0 => fun _ _ _ => none
  | n + 1 => Lm_read_35b N a0 p1 p2 (Lm_read_35 N a0 p1 p2 n)
def Lm_read_0 (N : HN) (a0 : Nat) (p1 : Int32) (p2 : Int32) (I : HI) (J : HJ) : Option (HI × HJ × Int32) :=
  bn2 (Lm_sheetRefusal N a0 p1 I) fun I1 r2 =>
  if r2 = 0 then
    rq Tc nC (N a0 6) (0, 8) fun b5 =>
    bn1 (Sh_hasRun I1 N b5 p1 p2 (14 : Int32)) fun r6 =>
    if r6 = 0 then
      bn2 (Lm_finding a0 (2 : Int32) I1) fun I9 r10 =>
      some (I9, J, r10)
    else
      Lm_read_35 N a0 p1 p2 256 I1 J (0 : Int32)
  else
    some (I1, J, r2)
def Lm_read (N : HN) (a0 : Nat) (p1 : Int32) (p2 : Int32) (I : HI) (J : HJ) : Option (HI × HJ × Int32) := Lm_read_0 N a0 p1 p2 I J
def Lm_info_0 (J : HJ) (N : HN) (a0 : Nat) (p1 : Int32) : Option (Int32) :=
  if p1 = (0 : Int32) then
    rq Tc nC (N a0 0) (0, 5) fun b2 =>
    bn1 (Pa_side N b2 (0 : Int32)) fun b3 =>
    gd (decide (b3 < nC ∧ Tc b3 = (0, 6))) <|
    bn1 (Po_degree J N b3) fun r5 =>
    some r5
  else
  if p1 = (1 : Int32) then
    rq Tc nC (N a0 0) (0, 5) fun b8 =>
    bn1 (Pa_side N b8 (1 : Int32)) fun b9 =>
    gd (decide (b9 < nC ∧ Tc b9 = (0, 6))) <|
    bn1 (Po_degree J N b9) fun r11 =>
    some r11
  else
  if p1 = (2 : Int32) then
    rq Tc nC (N a0 0) (0, 5) fun b14 =>
    bn1 (Pa_isLawful J N b14) fun r15 =>
    if r15 = 0 then
      some (0 : Int32)
    else
      some (1 : Int32)
  else
  if p1 = (3 : Int32) then
    rq Tc nC (N a0 0) (0, 5) fun b19 =>
    bn1 (Pa_side N b19 (0 : Int32)) fun b20 =>
    gd (decide (b20 < nC ∧ Tc b20 = (0, 6))) <|
    bn1 (Po_leastPower J N b20) fun r22 =>
    some r22
  else
  if p1 = (4 : Int32) then
    rq Tc nC (N a0 0) (0, 5) fun b25 =>
    bn1 (Pa_side N b25 (1 : Int32)) fun b26 =>
    gd (decide (b26 < nC ∧ Tc b26 = (0, 6))) <|
    bn1 (Po_leastPower J N b26) fun r28 =>
    some r28
  else
  some (-9 : Int32)
def Lm_info (J : HJ) (N : HN) (a0 : Nat) (p1 : Int32) : Option (Int32) := Lm_info_0 J N a0 p1
def Lm_asLong_0  (p0 : Int32) : Option (Int64) :=
  some ((-9223372036854775808 : Int64) - p0.toInt64)
def Lm_asLong  (p0 : Int32) : Option (Int64) := Lm_asLong_0 p0
def Lm_reactance_63 (N : HN) (a0 : Nat) (p1 : Int32) (p2 : Int32) (p3 : Int32) (J : HJ) : Option (HJ × Int64) :=
  bn1 (Lm_asLong (-3 : Int32)) fun r1 =>
  some (J, r1)
def Lm_reactance_31 (N : HN) (a0 : Nat) (p1 : Int32) (p2 : Int32) (p3 : Int32) (J : HJ) : Option (HJ × Int64) :=
  bn1 (Lm_asLong (-2 : Int32)) fun r1 =>
  some (J, r1)
def Lm_reactance_0 (N : HN) (a0 : Nat) (p1 : Int32) (p2 : Int32) (p3 : Int32) (J : HJ) : Option (HJ × Int64) :=
  if p1 < (1 : Int32) then
    Lm_reactance_31 N a0 p1 p2 p3 J
  else
    if (9 : Int32) < p1 then
      Lm_reactance_31 N a0 p1 p2 p3 J
    else
      if p2 < (1 : Int32) then
        Lm_reactance_31 N a0 p1 p2 p3 J
      else
        if (9 : Int32) < p2 then
          Lm_reactance_31 N a0 p1 p2 p3 J
        else
          if p3 < 0 then
            Lm_reactance_31 N a0 p1 p2 p3 J
          else
            if p3 ≤ (1 : Int32) then
              rq Tc nC (N a0 0) (0, 5) fun b7 =>
              bn1 (Pa_isLawful J N b7) fun r8 =>
              if r8 = 0 then
                Lm_reactance_63 N a0 p1 p2 p3 J
              else
                rq Tc nC (N a0 7) (0, 7) fun b11 =>
                rq Tc nC (N a0 0) (0, 5) fun b12 =>
                bn2 (Re_workOut N b11 b12 p1 p2 J) fun J13 r14 =>
                if r14 = 0 then
                  Lm_reactance_63 N a0 p1 p2 p3 J13
                else
                  if p3 = 0 then
                    rq Tc nC (N a0 7) (0, 7) fun b20 =>
                    rq Tc nC (N b20 1) (0, 2) fun b21 =>
                    some (J13, J13 b21 0)
                  else
                    rq Tc nC (N a0 7) (0, 7) fun b18 =>
                    rq Tc nC (N b18 1) (0, 2) fun b19 =>
                    some (J13, J13 b19 1)
            else
              Lm_reactance_31 N a0 p1 p2 p3 J
def Lm_reactance (N : HN) (a0 : Nat) (p1 : Int32) (p2 : Int32) (p3 : Int32) (J : HJ) : Option (HJ × Int64) := Lm_reactance_0 N a0 p1 p2 p3 J
def Lm_ladderChanged_0  (a0 : Nat) (I : HI) (J : HJ) (N : HN) : Option (HI × HJ × HN) :=
  rq Tc nC (N a0 2) (0, 1) fun b1 =>
  rq Tc nC (N a0 1) (0, 3) fun b2 =>
  bn2 (Fo_foldUp I b1 b2 J N) fun J3 N4 =>
  rq Tc nC (N4 a0 4) (0, 0) fun b6 =>
  rq Tc nC (N4 a0 1) (0, 3) fun b7 =>
  bn1 (Bi_countUp N4 b6 b7 I) fun I8 =>
  some (I8, J3, N4)
def Lm_ladderChanged  (a0 : Nat) (I : HI) (J : HJ) (N : HN) : Option (HI × HJ × HN) := Lm_ladderChanged_0 a0 I J N
def Lm_arm_61  (a0 : Nat) (p1 : Int32) (p2 : Int32) (p3 : Int32) (I : HI) (J : HJ) (N : HN) (x4 : Int32) (s0 : Int32) : Option (HI × HJ × HN × Int32) :=
  rq Tc nC (N a0 1) (0, 3) fun b1 =>
  bn2 (La_add N b1 p1 p2 x4 p3 s0 I) fun I2 r3 =>
  if r3 = 0 then
    some (I2, J, N, (-4 : Int32))
  else
    bn3 (Lm_ladderChanged a0 I2 J N) fun I6 J7 N8 =>
    rq Tc nC (N8 a0 1) (0, 3) fun b10 =>
    some (I6, J7, N8, (I6 b10 1) - (1 : Int32))
def Lm_arm_50  (a0 : Nat) (p1 : Int32) (p2 : Int32) (p3 : Int32) (I : HI) (J : HJ) (N : HN) (s0 : Int32) : Option (HI × HJ × HN × Int32) :=
  if p3 = 0 then
    Lm_arm_61 a0 p1 p2 p3 I J N s0 (0 : Int32)
  else
    Lm_arm_61 a0 p1 p2 p3 I J N s0 (1 : Int32)
def Lm_arm_41  (a0 : Nat) (p1 : Int32) (p2 : Int32) (p3 : Int32) (I : HI) (J : HJ) (N : HN) : Option (HI × HJ × HN × Int32) :=
  if p2 = 0 then
    Lm_arm_50 a0 p1 p2 p3 I J N (0 : Int32)
  else
    Lm_arm_50 a0 p1 p2 p3 I J N (1 : Int32)
def Lm_arm_0  (a0 : Nat) (p1 : Int32) (p2 : Int32) (p3 : Int32) (I : HI) (J : HJ) (N : HN) : Option (HI × HJ × HN × Int32) :=
  bn1 (Lm_isPlace p1) fun r1 =>
  if r1 = 0 then
    some (I, J, N, (-2 : Int32))
  else
    if p2 < 0 then
      some (I, J, N, (-2 : Int32))
    else
      if (9 : Int32) < p2 then
        some (I, J, N, (-2 : Int32))
      else
        if p3 < 0 then
          some (I, J, N, (-2 : Int32))
        else
          if p3 ≤ (9 : Int32) then
            if p2 = 0 then
              if p3 = 0 then
                some (I, J, N, (-2 : Int32))
              else
                Lm_arm_41 a0 p1 p2 p3 I J N
            else
              Lm_arm_41 a0 p1 p2 p3 I J N
          else
            some (I, J, N, (-2 : Int32))
def Lm_arm  (a0 : Nat) (p1 : Int32) (p2 : Int32) (p3 : Int32) (I : HI) (J : HJ) (N : HN) : Option (HI × HJ × HN × Int32) := Lm_arm_0 a0 p1 p2 p3 I J N
def Lm_back_0  (a0 : Nat) (I : HI) (J : HJ) (N : HN) : Option (HI × HJ × HN × Int32) :=
  rq Tc nC (N a0 1) (0, 3) fun b1 =>
  if (I b1 1) = 0 then
    some (I, J, N, (-3 : Int32))
  else
    rq Tc nC (N a0 1) (0, 3) fun b3 =>
    bn1 (La_dropLast b3 I) fun I4 =>
    bn3 (Lm_ladderChanged a0 I4 J N) fun I6 J7 N8 =>
    rq Tc nC (N8 a0 1) (0, 3) fun b10 =>
    some (I6, J7, N8, I6 b10 1)
def Lm_back  (a0 : Nat) (I : HI) (J : HJ) (N : HN) : Option (HI × HJ × HN × Int32) := Lm_back_0 a0 I J N
def Lm_would_0  (a0 : Nat) (p1 : Int32) (I : HI) (J : HJ) (N : HN) : Option (HI × HJ × HN × Int32) :=
  if p1 < 0 then
    some (I, J, N, (-2 : Int32))
  else
    if p1 < (4 : Int32) then
      rq Tc nC (N a0 0) (0, 5) fun b3 =>
      bn1 (Pa_isLawful J N b3) fun r4 =>
      if r4 = 0 then
        some (I, J, N, (-3 : Int32))
      else
        rq Tc nC (N a0 3) (0, 9) fun b7 =>
        rq Tc nC (N a0 0) (0, 5) fun b8 =>
        bn4 (Un_tryWay b7 b8 p1 I J N) fun I9 J10 N11 r12 =>
        some (I9, J10, N11, r12)
    else
      some (I, J, N, (-2 : Int32))
def Lm_would  (a0 : Nat) (p1 : Int32) (I : HI) (J : HJ) (N : HN) : Option (HI × HJ × HN × Int32) := Lm_would_0 a0 p1 I J N
def Lm_unfold_0  (a0 : Nat) (p1 : Int32) (I : HI) (J : HJ) (N : HN) : Option (HI × HJ × HN × Int32) :=
  bn4 (Lm_would a0 p1 I J N) fun I1 J2 N3 r4 =>
  if r4 < 0 then
    some (I1, J2, N3, r4)
  else
    rq Tc nC (N3 a0 1) (0, 3) fun b7 =>
    rq Tc nC (N3 a0 3) (0, 9) fun b8 =>
    rq Tc nC (N3 b8 0) (0, 3) fun b9 =>
    bn1 (La_load N3 b7 b9 I1) fun I10 =>
    bn3 (Lm_ladderChanged a0 I10 J2 N3) fun I12 J13 N14 =>
    some (I12, J13, N14, r4)
def Lm_unfold  (a0 : Nat) (p1 : Int32) (I : HI) (J : HJ) (N : HN) : Option (HI × HJ × HN × Int32) := Lm_unfold_0 a0 p1 I J N
def Lm_element_0 (I : HI) (N : HN) (a0 : Nat) (p1 : Int32) (p2 : Int32) : Option (Int32) :=
  if p1 < 0 then
    some (-2 : Int32)
  else
    rq Tc nC (N a0 1) (0, 3) fun b2 =>
    if (I b2 1) ≤ p1 then
      some (-2 : Int32)
    else
      if p2 < 0 then
        some (-2 : Int32)
      else
        if p2 < (5 : Int32) then
          rq Tc nC (N a0 1) (0, 3) fun b6 =>
          bn1 (La_item I N b6 p1 p2) fun r7 =>
          some r7
        else
          some (-2 : Int32)
def Lm_element (I : HI) (N : HN) (a0 : Nat) (p1 : Int32) (p2 : Int32) : Option (Int32) := Lm_element_0 I N a0 p1 p2
def Lm_fold_0 (I : HI) (J : HJ) (N : HN) (a0 : Nat) (p1 : Int32) (p2 : Int32) : Option (Int64) :=
  bn1 (Lm_isPlace p1) fun r1 =>
  if r1 = 0 then
    some (0 : Int64)
  else
    bn1 (Lm_isPower p2) fun r4 =>
    if r4 = 0 then
      some (0 : Int64)
    else
      rq Tc nC (N a0 1) (0, 3) fun b7 =>
      if (I b7 1) = 0 then
        some (0 : Int64)
      else
        rq Tc nC (N a0 2) (0, 1) fun b9 =>
        rq Tc nC (N b9 0) (0, 5) fun b10 =>
        bn1 (Pa_side N b10 p1) fun b11 =>
        gd (decide (b11 < nC ∧ Tc b11 = (0, 6))) <|
        bn1 (Po_at J N b11 p2) fun r13 =>
        some r13
def Lm_fold (I : HI) (J : HJ) (N : HN) (a0 : Nat) (p1 : Int32) (p2 : Int32) : Option (Int64) := Lm_fold_0 I J N a0 p1 p2
def Lm_alike_0 (I : HI) (J : HJ) (N : HN) (a0 : Nat) : Option (Int32) :=
  rq Tc nC (N a0 1) (0, 3) fun b1 =>
  if (I b1 1) = 0 then
    some (-3 : Int32)
  else
    rq Tc nC (N a0 0) (0, 5) fun b3 =>
    bn1 (Pa_side N b3 (1 : Int32)) fun b4 =>
    gd (decide (b4 < nC ∧ Tc b4 = (0, 6))) <|
    bn1 (Po_degree J N b4) fun r6 =>
    if r6 = (-1 : Int32) then
      some (-3 : Int32)
    else
      rq Tc nC (N a0 2) (0, 1) fun b9 =>
      rq Tc nC (N b9 0) (0, 5) fun b10 =>
      rq Tc nC (N a0 0) (0, 5) fun b11 =>
      bn1 (Pa_isFractionOf J N b10 b11) fun r12 =>
      if r12 = 0 then
        some (0 : Int32)
      else
        some (1 : Int32)
def Lm_alike (I : HI) (J : HJ) (N : HN) (a0 : Nat) : Option (Int32) := Lm_alike_0 I J N a0
def Lm_take_15b (I : HI) (N : HN) (a0 : Nat) (k15 : HJ → Int32 → Option (HJ × Int32)) (J : HJ) (x1 : Int32) : Option (HJ × Int32) :=
  if (14 : Int32) ≤ x1 then
    rq Tc nC (N a0 0) (0, 5) fun b2 =>
    rq Tc nC (N a0 2) (0, 1) fun b3 =>
    rq Tc nC (N b3 0) (0, 5) fun b4 =>
    bn1 (Pa_load N b2 b4 J) fun J5 =>
    rq Tc nC (N a0 0) (0, 5) fun b7 =>
    bn1 (Pa_greaterDegree J5 N b7) fun r8 =>
    some (J5, r8)
  else
    rq Tc nC (N a0 2) (0, 1) fun b10 =>
    rq Tc nC (N b10 0) (0, 5) fun b11 =>
    bn1 (Pa_number J N b11 x1) fun r12 =>
    bn1 (Lm_isWishNumber r12) fun r14 =>
    if r14 = 0 then
      some (J, (-5 : Int32))
    else
      k15 J (x1 + 1)
def Lm_take_15 (I : HI) (N : HN) (a0 : Nat) : Nat → HJ → Int32 → Option (HJ × Int32)
  | 0 => fun _ _ => none
  | n + 1 => Lm_take_15b I N a0 (Lm_take_15 I N a0 n)
def Lm_take_0 (I : HI) (N : HN) (a0 : Nat) (J : HJ) : Option (HJ × Int32) :=
  rq Tc nC (N a0 1) (0, 3) fun b1 =>
  if (I b1 1) = 0 then
    some (J, (-3 : Int32))
  else
    Lm_take_15 I N a0 256 J (0 : Int32)
def Lm_take (I : HI) (N : HN) (a0 : Nat) (J : HJ) : Option (HJ × Int32) := Lm_take_0 I N a0 J
def Lm_bill_0 (I : HI) (N : HN) (a0 : Nat) (p1 : Int32) (p2 : Int32) : Option (Int32) :=
  if p1 < 0 then
    some (-2 : Int32)
  else
    rq Tc nC (N a0 4) (0, 0) fun b2 =>
    if (I b2 1) ≤ p1 then
      some (-2 : Int32)
    else
      if p2 < 0 then
        some (-2 : Int32)
      else
        if p2 < (4 : Int32) then
          rq Tc nC (N a0 4) (0, 0) fun b6 =>
          bn1 (Bi_item I N b6 p1 p2) fun r7 =>
          some r7
        else
          some (-2 : Int32)
def Lm_bill (I : HI) (N : HN) (a0 : Nat) (p1 : Int32) (p2 : Int32) : Option (Int32) := Lm_bill_0 I N a0 p1 p2
def Lm_values_0 (I : HI) (N : HN) (a0 : Nat) : Option (Int32) :=
  rq Tc nC (N a0 4) (0, 0) fun b1 =>
  bn1 (Bi_differentValues I N b1) fun r2 =>
  some r2
def Lm_values (I : HI) (N : HN) (a0 : Nat) : Option (Int32) := Lm_values_0 I N a0
def Lm_keep_0 (N : HN) (a0 : Nat) (I : HI) (J : HJ) : Option (HI × HJ × Int32) :=
  rq Tc nC (N a0 5) (0, 4) fun b1 =>
  rq Tc nC (N a0 0) (0, 5) fun b2 =>
  bn3 (Me_keepOnce N b1 b2 I J) fun I3 J4 r5 =>
  some (I3, J4, r5)
def Lm_keep (N : HN) (a0 : Nat) (I : HI) (J : HJ) : Option (HI × HJ × Int32) := Lm_keep_0 N a0 I J
def Lm_find_0 (I : HI) (N : HN) (a0 : Nat) (J : HJ) : Option (HJ × Int32) :=
  rq Tc nC (N a0 5) (0, 4) fun b1 =>
  rq Tc nC (N a0 0) (0, 5) fun b2 =>
  bn2 (Me_numberOf I N b1 b2 J) fun J3 r4 =>
  some (J3, r4)
def Lm_find (I : HI) (N : HN) (a0 : Nat) (J : HJ) : Option (HJ × Int32) := Lm_find_0 I N a0 J
def Lm_kept_0 (I : HI) (N : HN) (a0 : Nat) (p1 : Int32) (p2 : Int32) : Option (Int32) :=
  rq Tc nC (N a0 5) (0, 4) fun b1 =>
  bn1 (Me_holds I b1 p1) fun r2 =>
  if r2 = 0 then
    some (-2147483648 : Int32)
  else
    if p2 < 0 then
      some (-2147483648 : Int32)
    else
      if p2 < (15 : Int32) then
        rq Tc nC (N a0 5) (0, 4) fun b7 =>
        bn1 (Me_item I N b7 p1 p2) fun r8 =>
        some r8
      else
        some (-2147483648 : Int32)
def Lm_kept (I : HI) (N : HN) (a0 : Nat) (p1 : Int32) (p2 : Int32) : Option (Int32) := Lm_kept_0 I N a0 p1 p2
def Lm_recall_16b (I : HI) (N : HN) (a0 : Nat) (p1 : Int32) (k16 : HJ → Int32 → Option (HJ × Int32)) (J : HJ) (x2 : Int32) : Option (HJ × Int32) :=
  if (14 : Int32) ≤ x2 then
    rq Tc nC (N a0 5) (0, 4) fun b2 =>
    bn1 (Me_item I N b2 p1 (0 : Int32)) fun r3 =>
    some (J, r3)
  else
    rq Tc nC (N a0 0) (0, 5) fun b5 =>
    rq Tc nC (N a0 5) (0, 4) fun b6 =>
    bn1 (Me_item I N b6 p1 ((1 : Int32) + x2)) fun r7 =>
    bn1 (Pa_putNumber N b5 x2 r7.toInt64 J) fun J9 =>
    k16 J9 (x2 + 1)
def Lm_recall_16 (I : HI) (N : HN) (a0 : Nat) (p1 : Int32) : Nat → HJ → Int32 → Option (HJ × Int32)
  | 0 => fun _ _ => none
  | n + 1 => Lm_recall_16b I N a0 p1 (Lm_recall_16 I N a0 p1 n)
def Lm_recall_0 (I : HI) (N : HN) (a0 : Nat) (p1 : Int32) (J : HJ) : Option (HJ × Int32) :=
  rq Tc nC (N a0 5) (0, 4) fun b1 =>
  bn1 (Me_holds I b1 p1) fun r2 =>
  if r2 = 0 then
    some (J, (-2 : Int32))
  else
    Lm_recall_16 I N a0 p1 256 J (0 : Int32)
def Lm_recall (I : HI) (N : HN) (a0 : Nat) (p1 : Int32) (J : HJ) : Option (HJ × Int32) := Lm_recall_0 I N a0 p1 J
def Lm_sheet_0 (N : HN) (a0 : Nat) (p1 : Int32) (p2 : Int32) (I : HI) (J : HJ) : Option (HI × HJ × Int32) :=
  rq Tc nC (N a0 6) (0, 8) fun b1 =>
  bn1 (Sh_isSheet b1 p1) fun r2 =>
  if r2 = 0 then
    some (I, J, (-2 : Int32))
  else
    if p2 ≤ (40 : Int32) then
      if 0 ≤ p2 then
        rq Tc nC (N a0 6) (0, 8) fun b7 =>
        bn2 (Sh_renew N b7 p1 p2 I J) fun I8 J9 =>
        some (I8, J9, p2)
      else
        bn2 (Lm_finding a0 (3 : Int32) I) fun I11 r12 =>
        some (I11, J, r12)
    else
      some (I, J, (-2 : Int32))
def Lm_sheet (N : HN) (a0 : Nat) (p1 : Int32) (p2 : Int32) (I : HI) (J : HJ) : Option (HI × HJ × Int32) := Lm_sheet_0 N a0 p1 p2 I J
def Lm_lose_0 (N : HN) (a0 : Nat) (p1 : Int32) (I : HI) : Option (HI × Int32) :=
  bn2 (Lm_sheetRefusal N a0 p1 I) fun I1 r2 =>
  if r2 = 0 then
    rq Tc nC (N a0 6) (0, 8) fun b5 =>
    bn1 (Sh_size I1 N b5 p1) fun r6 =>
    rq Tc nC (N a0 6) (0, 8) fun b8 =>
    bn1 (Sh_forget N b8 p1 I1) fun I9 =>
    some (I9, r6)
  else
    some (I1, r2)
def Lm_lose (N : HN) (a0 : Nat) (p1 : Int32) (I : HI) : Option (HI × Int32) := Lm_lose_0 N a0 p1 I
def Lm_itemRefusal_0 (N : HN) (a0 : Nat) (p1 : Int32) (p2 : Int32) (I : HI) : Option (HI × Int32) :=
  bn2 (Lm_sheetRefusal N a0 p1 I) fun I1 r2 =>
  if r2 = 0 then
    rq Tc nC (N a0 6) (0, 8) fun b5 =>
    bn1 (Sh_hasRun I1 N b5 p1 p2 (1 : Int32)) fun r6 =>
    if r6 = 0 then
      bn2 (Lm_finding a0 (2 : Int32) I1) fun I9 r10 =>
      some (I9, r10)
    else
      some (I1, (0 : Int32))
  else
    some (I1, r2)
def Lm_itemRefusal (N : HN) (a0 : Nat) (p1 : Int32) (p2 : Int32) (I : HI) : Option (HI × Int32) := Lm_itemRefusal_0 N a0 p1 p2 I
def Lm_lay_0 (N : HN) (a0 : Nat) (p1 : Int32) (p2 : Int32) (p3 : Int32) (I : HI) (J : HJ) : Option (HI × HJ × Int32) :=
  bn2 (Lm_itemRefusal N a0 p1 p2 I) fun I1 r2 =>
  if r2 = 0 then
    rq Tc nC (N a0 6) (0, 8) fun b5 =>
    bn1 (Sh_put I1 N b5 p1 p2 p3.toInt64 J) fun J6 =>
    some (I1, J6, (1 : Int32))
  else
    some (I1, J, r2)
def Lm_lay (N : HN) (a0 : Nat) (p1 : Int32) (p2 : Int32) (p3 : Int32) (I : HI) (J : HJ) : Option (HI × HJ × Int32) := Lm_lay_0 N a0 p1 p2 p3 I J
def Lm_get_0 (J : HJ) (N : HN) (a0 : Nat) (p1 : Int32) (p2 : Int32) (I : HI) : Option (HI × Int64) :=
  bn2 (Lm_itemRefusal N a0 p1 p2 I) fun I1 r2 =>
  if r2 = 0 then
    rq Tc nC (N a0 6) (0, 8) fun b5 =>
    bn1 (Sh_item I1 J N b5 p1 p2) fun r6 =>
    some (I1, r6)
  else
    bn1 (Lm_asLong r2) fun r8 =>
    some (I1, r8)
def Lm_get (J : HJ) (N : HN) (a0 : Nat) (p1 : Int32) (p2 : Int32) (I : HI) : Option (HI × Int64) := Lm_get_0 J N a0 p1 p2 I
def Lm_copy_82 (N : HN) (a0 : Nat) (p1 : Int32) (p2 : Int32) (p3 : Int32) (p4 : Int32) (p5 : Int32) (I : HI) (J : HJ) : Option (HI × HJ × Int32) :=
  bn2 (Lm_finding a0 (2 : Int32) I) fun I1 r2 =>
  some (I1, J, r2)
def Lm_copy_47 (N : HN) (a0 : Nat) (p1 : Int32) (p2 : Int32) (p3 : Int32) (p4 : Int32) (p5 : Int32) (I : HI) (J : HJ) : Option (HI × HJ × Int32) :=
  bn2 (Lm_finding a0 (1 : Int32) I) fun I1 r2 =>
  some (I1, J, r2)
def Lm_copy_0 (N : HN) (a0 : Nat) (p1 : Int32) (p2 : Int32) (p3 : Int32) (p4 : Int32) (p5 : Int32) (I : HI) (J : HJ) : Option (HI × HJ × Int32) :=
  rq Tc nC (N a0 6) (0, 8) fun b1 =>
  bn1 (Sh_isSheet b1 p1) fun r2 =>
  if r2 = 0 then
    some (I, J, (-2 : Int32))
  else
    rq Tc nC (N a0 6) (0, 8) fun b5 =>
    bn1 (Sh_isSheet b5 p3) fun r6 =>
    if r6 = 0 then
      some (I, J, (-2 : Int32))
    else
      rq Tc nC (N a0 6) (0, 8) fun b9 =>
      bn1 (Sh_isLost I N b9 p1) fun r10 =>
      if r10 = 0 then
        rq Tc nC (N a0 6) (0, 8) fun b13 =>
        bn1 (Sh_isLost I N b13 p3) fun r14 =>
        if r14 = 0 then
          rq Tc nC (N a0 6) (0, 8) fun b17 =>
          bn1 (Sh_hasRun I N b17 p1 p2 p5) fun r18 =>
          if r18 = 0 then
            Lm_copy_82 N a0 p1 p2 p3 p4 p5 I J
          else
            rq Tc nC (N a0 6) (0, 8) fun b21 =>
            bn1 (Sh_hasRun I N b21 p3 p4 p5) fun r22 =>
            if r22 = 0 then
              Lm_copy_82 N a0 p1 p2 p3 p4 p5 I J
            else
              rq Tc nC (N a0 6) (0, 8) fun b25 =>
              bn1 (Sh_move I N b25 p1 p2 p3 p4 p5 J) fun J26 =>
              some (I, J26, (1 : Int32))
        else
          Lm_copy_47 N a0 p1 p2 p3 p4 p5 I J
      else
        Lm_copy_47 N a0 p1 p2 p3 p4 p5 I J
def Lm_copy (N : HN) (a0 : Nat) (p1 : Int32) (p2 : Int32) (p3 : Int32) (p4 : Int32) (p5 : Int32) (I : HI) (J : HJ) : Option (HI × HJ × Int32) := Lm_copy_0 N a0 p1 p2 p3 p4 p5 I J
def Lm_write_36b (N : HN) (a0 : Nat) (p1 : Int32) (k36 : HI → HJ → Int32 → Int32 → Option (HI × HJ × Int32)) (I : HI) (J : HJ) (x3 : Int32) (x4 : Int32) : Option (HI × HJ × Int32) :=
  if x3 ≤ x4 then
    some (I, J, x3)
  else
    rq Tc nC (N a0 6) (0, 8) fun b2 =>
    rq Tc nC (N a0 1) (0, 3) fun b3 =>
    bn1 (La_item I N b3 (x4 / (5 : Int32)) (x4 - x4 / (5 : Int32) * (5 : Int32))) fun r4 =>
    bn1 (Sh_put I N b2 p1 x4 r4.toInt64 J) fun J6 =>
    k36 I J6 x3 (x4 + 1)
def Lm_write_36 (N : HN) (a0 : Nat) (p1 : Int32) : Nat → HI → HJ → Int32 → Int32 → Option (HI × HJ × Int32)
  | 0 => fun _ _ _ _ => none
  | n + 1 => Lm_write_36b N a0 p1 (Lm_write_36 N a0 p1 n)
def Lm_write_0 (N : HN) (a0 : Nat) (p1 : Int32) (I : HI) (J : HJ) : Option (HI × HJ × Int32) :=
  bn2 (Lm_sheetRefusal N a0 p1 I) fun I1 r2 =>
  if r2 = 0 then
    rq Tc nC (N a0 6) (0, 8) fun b5 =>
    bn1 (Sh_size I1 N b5 p1) fun r6 =>
    rq Tc nC (N a0 1) (0, 3) fun b8 =>
    bd (if ((I1 b8 1) * (5 : Int32)) < r6 then ((I1 b8 1) * (5 : Int32)) else r6) fun v9 =>
    Lm_write_36 N a0 p1 256 I1 J v9 (0 : Int32)
  else
    some (I1, J, r2)
def Lm_write (N : HN) (a0 : Nat) (p1 : Int32) (I : HI) (J : HJ) : Option (HI × HJ × Int32) := Lm_write_0 N a0 p1 I J
def Lm_count_0 (I : HI) (J : HJ) (N : HN) (a0 : Nat) (p1 : Int32) : Option (Int32) :=
  if p1 = (0 : Int32) then
    rq Tc nC (N a0 1) (0, 3) fun b2 =>
    some (I b2 1)
  else
  if p1 = (1 : Int32) then
    rq Tc nC (N a0 1) (0, 3) fun b4 =>
    bn1 (La_valueCount I N b4) fun r5 =>
    some r5
  else
  if p1 = (2 : Int32) then
    rq Tc nC (N a0 0) (0, 5) fun b8 =>
    bn1 (Pa_isLawful J N b8) fun r9 =>
    if r9 = 0 then
      some (0 : Int32)
    else
      some (1 : Int32)
  else
  if p1 = (3 : Int32) then
    rq Tc nC (N a0 4) (0, 0) fun b13 =>
    some (I b13 1)
  else
  if p1 = (4 : Int32) then
    rq Tc nC (N a0 5) (0, 4) fun b15 =>
    some (I b15 2)
  else
  if p1 = (5 : Int32) then
    rq Tc nC (N a0 5) (0, 4) fun b17 =>
    bn1 (Me_timesOfAll I N b17) fun r18 =>
    some r18
  else
  if p1 = (6 : Int32) then
    bn1 (Lm_alike I J N a0) fun r21 =>
    some r21
  else
  if p1 = (7 : Int32) then
    rq Tc nC (N a0 6) (0, 8) fun b24 =>
    bn1 (Sh_notLost I N b24) fun r25 =>
    some r25
  else
  if p1 = (8 : Int32) then
    some (I a0 8)
  else
  some (-2 : Int32)
def Lm_count (I : HI) (J : HJ) (N : HN) (a0 : Nat) (p1 : Int32) : Option (Int32) := Lm_count_0 I J N a0 p1
def Lm_digestOfRows_148b (I : HI) (N : HN) (a0 : Nat) (p1 : Int64) (k133 : HJ → Int64 → Int32 → Option (HJ × Int64)) (k148 : HJ → Int64 → Int32 → Int32 → Option (HJ × Int64)) (J : HJ) (x3 : Int64) (x5 : Int32) (x6 : Int32) : Option (HJ × Int64) :=
  if (15 : Int32) ≤ x6 then
    k133 J x3 (x5 + 1)
  else
    bn1 (Lm_kept I N a0 x5 x6) fun r2 =>
    bd (((31 : Int64) * x3) + r2.toInt64) fun v4 =>
    k148 J v4 x5 (x6 + 1)
def Lm_digestOfRows_148 (I : HI) (N : HN) (a0 : Nat) (p1 : Int64) (k133 : HJ → Int64 → Int32 → Option (HJ × Int64)) : Nat → HJ → Int64 → Int32 → Int32 → Option (HJ × Int64)
  | 0 => fun _ _ _ _ => none
  | n + 1 => Lm_digestOfRows_148b I N a0 p1 k133 (Lm_digestOfRows_148 I N a0 p1 k133 n)
def Lm_digestOfRows_133b (I : HI) (N : HN) (a0 : Nat) (p1 : Int64) (k133 : HJ → Int64 → Int32 → Option (HJ × Int64)) (J : HJ) (x3 : Int64) (x5 : Int32) : Option (HJ × Int64) :=
  rq Tc nC (N a0 5) (0, 4) fun b1 =>
  if (I b1 2) ≤ x5 then
    some (J, x3)
  else
    Lm_digestOfRows_148 I N a0 p1 k133 256 J x3 x5 (0 : Int32)
def Lm_digestOfRows_133 (I : HI) (N : HN) (a0 : Nat) (p1 : Int64) : Nat → HJ → Int64 → Int32 → Option (HJ × Int64)
  | 0 => fun _ _ _ => none
  | n + 1 => Lm_digestOfRows_133b I N a0 p1 (Lm_digestOfRows_133 I N a0 p1 n)
def Lm_digestOfRows_72b (I : HI) (N : HN) (a0 : Nat) (p1 : Int64) (k57 : HJ → Int64 → Int32 → Option (HJ × Int64)) (k72 : HJ → Int64 → Int32 → Int32 → Option (HJ × Int64)) (J : HJ) (x3 : Int64) (x5 : Int32) (x6 : Int32) : Option (HJ × Int64) :=
  if (4 : Int32) ≤ x6 then
    k57 J x3 (x5 + 1)
  else
    bn1 (Lm_bill I N a0 x5 x6) fun r2 =>
    bd (((31 : Int64) * x3) + r2.toInt64) fun v4 =>
    k72 J v4 x5 (x6 + 1)
def Lm_digestOfRows_72 (I : HI) (N : HN) (a0 : Nat) (p1 : Int64) (k57 : HJ → Int64 → Int32 → Option (HJ × Int64)) : Nat → HJ → Int64 → Int32 → Int32 → Option (HJ × Int64)
  | 0 => fun _ _ _ _ => none
  | n + 1 => Lm_digestOfRows_72b I N a0 p1 k57 (Lm_digestOfRows_72 I N a0 p1 k57 n)
def Lm_digestOfRows_57b (I : HI) (N : HN) (a0 : Nat) (p1 : Int64) (k57 : HJ → Int64 → Int32 → Option (HJ × Int64)) (J : HJ) (x3 : Int64) (x5 : Int32) : Option (HJ × Int64) :=
  rq Tc nC (N a0 4) (0, 0) fun b1 =>
  if (I b1 1) ≤ x5 then
    bn1 (Lm_values I N a0) fun r3 =>
    bd (((31 : Int64) * x3) + r3.toInt64) fun v5 =>
    bn2 (Lm_find I N a0 J) fun J6 r7 =>
    bd (((31 : Int64) * v5) + r7.toInt64) fun v9 =>
    Lm_digestOfRows_133 I N a0 p1 256 J6 v9 (0 : Int32)
  else
    Lm_digestOfRows_72 I N a0 p1 k57 256 J x3 x5 (0 : Int32)
def Lm_digestOfRows_57 (I : HI) (N : HN) (a0 : Nat) (p1 : Int64) : Nat → HJ → Int64 → Int32 → Option (HJ × Int64)
  | 0 => fun _ _ _ => none
  | n + 1 => Lm_digestOfRows_57b I N a0 p1 (Lm_digestOfRows_57 I N a0 p1 n)
def Lm_digestOfRows_20b (I : HI) (N : HN) (a0 : Nat) (p1 : Int64) (k5 : HJ → Int64 → Int32 → Option (HJ × Int64)) (k20 : HJ → Int64 → Int32 → Int32 → Option (HJ × Int64)) (J : HJ) (x3 : Int64) (x5 : Int32) (x6 : Int32) : Option (HJ × Int64) :=
  if (5 : Int32) ≤ x6 then
    k5 J x3 (x5 + 1)
  else
    bn1 (Lm_element I N a0 x5 x6) fun r2 =>
    bd (((31 : Int64) * x3) + r2.toInt64) fun v4 =>
    k20 J v4 x5 (x6 + 1)
def Lm_digestOfRows_20 (I : HI) (N : HN) (a0 : Nat) (p1 : Int64) (k5 : HJ → Int64 → Int32 → Option (HJ × Int64)) : Nat → HJ → Int64 → Int32 → Int32 → Option (HJ × Int64)
  | 0 => fun _ _ _ _ => none
  | n + 1 => Lm_digestOfRows_20b I N a0 p1 k5 (Lm_digestOfRows_20 I N a0 p1 k5 n)
def Lm_digestOfRows_5b (I : HI) (N : HN) (a0 : Nat) (p1 : Int64) (k5 : HJ → Int64 → Int32 → Option (HJ × Int64)) (J : HJ) (x3 : Int64) (x5 : Int32) : Option (HJ × Int64) :=
  rq Tc nC (N a0 1) (0, 3) fun b1 =>
  if (I b1 1) ≤ x5 then
    Lm_digestOfRows_57 I N a0 p1 256 J x3 (0 : Int32)
  else
    Lm_digestOfRows_20 I N a0 p1 k5 256 J x3 x5 (0 : Int32)
def Lm_digestOfRows_5 (I : HI) (N : HN) (a0 : Nat) (p1 : Int64) : Nat → HJ → Int64 → Int32 → Option (HJ × Int64)
  | 0 => fun _ _ _ => none
  | n + 1 => Lm_digestOfRows_5b I N a0 p1 (Lm_digestOfRows_5 I N a0 p1 n)
def Lm_digestOfRows_0 (I : HI) (N : HN) (a0 : Nat) (p1 : Int64) (J : HJ) : Option (HJ × Int64) :=
  Lm_digestOfRows_5 I N a0 p1 256 J p1 (0 : Int32)
def Lm_digestOfRows (I : HI) (N : HN) (a0 : Nat) (p1 : Int64) (J : HJ) : Option (HJ × Int64) := Lm_digestOfRows_0 I N a0 p1 J
def Lm_digest_127b  (a0 : Nat) (k127 : HI → HJ → HN → Int64 → Int32 → Option (HI × HJ × HN × Int64)) (I : HI) (J : HJ) (N : HN) (x1 : Int64) (x3 : Int32) : Option (HI × HJ × HN × Int64) :=
  if (4 : Int32) ≤ x3 then
    bn2 (Lm_reactance N a0 (1 : Int32) (1 : Int32) (0 : Int32) J) fun J2 r3 =>
    bd (((31 : Int64) * x1) + r3) fun v5 =>
    bn2 (Lm_reactance N a0 (1 : Int32) (1 : Int32) (1 : Int32) J2) fun J6 r7 =>
    bd (((31 : Int64) * v5) + r7) fun v9 =>
    bn2 (Lm_reactance N a0 (3 : Int32) (2 : Int32) (0 : Int32) J6) fun J10 r11 =>
    bd (((31 : Int64) * v9) + r11) fun v13 =>
    bn2 (Lm_reactance N a0 (3 : Int32) (2 : Int32) (1 : Int32) J10) fun J14 r15 =>
    bd (((31 : Int64) * v13) + r15) fun v17 =>
    bn2 (Lm_digestOfRows I N a0 v17 J14) fun J18 r19 =>
    some (I, J18, N, r19)
  else
    bn4 (Lm_would a0 x3 I J N) fun I21 J22 N23 r24 =>
    bd (((31 : Int64) * x1) + r24.toInt64) fun v26 =>
    k127 I21 J22 N23 v26 (x3 + 1)
def Lm_digest_127  (a0 : Nat) : Nat → HI → HJ → HN → Int64 → Int32 → Option (HI × HJ × HN × Int64)
  | 0 => fun _ _ _ _ _ => none
  | n + 1 => Lm_digest_127b a0 (Lm_digest_127 a0 n)
def Lm_digest_101b  (a0 : Nat) (k101 : HI → HJ → HN → Int64 → Int32 → Option (HI × HJ × HN × Int64)) (I : HI) (J : HJ) (N : HN) (x1 : Int64) (x3 : Int32) : Option (HI × HJ × HN × Int64) :=
  if (4 : Int32) < x3 then
    Lm_digest_127 a0 256 I J N x1 (0 : Int32)
  else
    bn1 (Lm_info J N a0 x3) fun r2 =>
    bd (((31 : Int64) * x1) + r2.toInt64) fun v4 =>
    k101 I J N v4 (x3 + 1)
def Lm_digest_101  (a0 : Nat) : Nat → HI → HJ → HN → Int64 → Int32 → Option (HI × HJ × HN × Int64)
  | 0 => fun _ _ _ _ _ => none
  | n + 1 => Lm_digest_101b a0 (Lm_digest_101 a0 n)
def Lm_digest_33b  (a0 : Nat) (k33 : HI → HJ → HN → Int64 → Int32 → Option (HI × HJ × HN × Int64)) (I : HI) (J : HJ) (N : HN) (x1 : Int64) (x3 : Int32) : Option (HI × HJ × HN × Int64) :=
  if (7 : Int32) ≤ x3 then
    Lm_digest_101 a0 256 I J N x1 (0 : Int32)
  else
    bn1 (Lm_told J N a0 (0 : Int32) x3) fun r2 =>
    bd (((31 : Int64) * x1) + r2.toInt64) fun v4 =>
    bn1 (Lm_told J N a0 (1 : Int32) x3) fun r5 =>
    bd (((31 : Int64) * v4) + r5.toInt64) fun v7 =>
    bn1 (Lm_fold I J N a0 (0 : Int32) x3) fun r8 =>
    bd (((31 : Int64) * v7) + r8) fun v10 =>
    bn1 (Lm_fold I J N a0 (1 : Int32) x3) fun r11 =>
    bd (((31 : Int64) * v10) + r11) fun v13 =>
    k33 I J N v13 (x3 + 1)
def Lm_digest_33  (a0 : Nat) : Nat → HI → HJ → HN → Int64 → Int32 → Option (HI × HJ × HN × Int64)
  | 0 => fun _ _ _ _ _ => none
  | n + 1 => Lm_digest_33b a0 (Lm_digest_33 a0 n)
def Lm_digest_6b  (a0 : Nat) (k6 : HI → HJ → HN → Int64 → Int32 → Option (HI × HJ × HN × Int64)) (I : HI) (J : HJ) (N : HN) (x1 : Int64) (x3 : Int32) : Option (HI × HJ × HN × Int64) :=
  if (7 : Int32) < x3 then
    Lm_digest_33 a0 256 I J N x1 (0 : Int32)
  else
    bn1 (Lm_count I J N a0 x3) fun r2 =>
    bd (((31 : Int64) * x1) + r2.toInt64) fun v4 =>
    k6 I J N v4 (x3 + 1)
def Lm_digest_6  (a0 : Nat) : Nat → HI → HJ → HN → Int64 → Int32 → Option (HI × HJ × HN × Int64)
  | 0 => fun _ _ _ _ _ => none
  | n + 1 => Lm_digest_6b a0 (Lm_digest_6 a0 n)
def Lm_digest_0  (a0 : Nat) (I : HI) (J : HJ) (N : HN) : Option (HI × HJ × HN × Int64) :=
  Lm_digest_6 a0 256 I J N (17 : Int64) (0 : Int32)
def Lm_digest  (a0 : Nat) (I : HI) (J : HJ) (N : HN) : Option (HI × HJ × HN × Int64) := Lm_digest_0 a0 I J N
def Mo_in_0  (p0 : Int64) (p2 : Int64) (p4 : Int64) : Option (Int32) :=
  if p0 < p2 then
    some (0 : Int32)
  else
    if p4 < p0 then
      some (0 : Int32)
    else
      some (1 : Int32)
def Mo_in  (p0 : Int64) (p2 : Int64) (p4 : Int64) : Option (Int32) := Mo_in_0 p0 p2 p4
def Mo_isTwo_0  (p0 : Int32) : Option (Int32) :=
  bn1 (Mo_in p0.toInt64 (0 : Int64) (1 : Int64)) fun r1 =>
  gd (isB r1) <|
  some r1
def Mo_isTwo  (p0 : Int32) : Option (Int32) := Mo_isTwo_0 p0
def Mo_no_0  (p0 : Int32) : Option (Int64) :=
  some ((-9223372036854775808 : Int64) - p0.toInt64)
def Mo_no  (p0 : Int32) : Option (Int64) := Mo_no_0 p0
def Mo_greater_0  (p0 : Int32) (p1 : Int32) : Option (Int32) :=
  if p0 ≤ p1 then
    some p1
  else
    some p0
def Mo_greater  (p0 : Int32) (p1 : Int32) : Option (Int32) := Mo_greater_0 p0 p1
def Mo_lesser_0  (p0 : Int32) (p1 : Int32) : Option (Int32) :=
  if p1 ≤ p0 then
    some p1
  else
    some p0
def Mo_lesser  (p0 : Int32) (p1 : Int32) : Option (Int32) := Mo_lesser_0 p0 p1
def Mo_divisor_33b  (p0 : Int64) (p2 : Int64) (k33 : Int64 → Int64 → Int32 → Option (Int64)) (x4 : Int64) (x6 : Int64) (x8 : Int32) : Option (Int64) :=
  if (200 : Int32) ≤ x8 then
    some x4
  else
    if x6 = (0 : Int64) then
      some x4
    else
      gd (decide (¬ x6 = 0)) <|
      bd (x4 - x4 / x6 * x6) fun v4 =>
      k33 x6 v4 (x8 + 1)
def Mo_divisor_33  (p0 : Int64) (p2 : Int64) : Nat → Int64 → Int64 → Int32 → Option (Int64)
  | 0 => fun _ _ _ => none
  | n + 1 => Mo_divisor_33b p0 p2 (Mo_divisor_33 p0 p2 n)
def Mo_divisor_28  (p0 : Int64) (p2 : Int64) (x4 : Int64) (s0 : Int64) : Option (Int64) :=
  Mo_divisor_33 p0 p2 256 x4 s0 (0 : Int32)
def Mo_divisor_13  (p0 : Int64) (p2 : Int64) (s0 : Int64) : Option (Int64) :=
  if (0 : Int64) ≤ p2 then
    Mo_divisor_28 p0 p2 s0 p2
  else
    Mo_divisor_28 p0 p2 s0 ((0 : Int64) - p2)
def Mo_divisor_0  (p0 : Int64) (p2 : Int64) : Option (Int64) :=
  if (0 : Int64) ≤ p0 then
    Mo_divisor_13 p0 p2 p0
  else
    Mo_divisor_13 p0 p2 ((0 : Int64) - p0)
def Mo_divisor  (p0 : Int64) (p2 : Int64) : Option (Int64) := Mo_divisor_0 p0 p2
def Mo_finds_0  (a0 : Nat) (p1 : Int32) (I : HI) : Option (HI × Int32) :=
  bd (up2 I a0 0 p1) fun I1 =>
  some (I1, (-10 : Int32) - p1)
def Mo_finds  (a0 : Nat) (p1 : Int32) (I : HI) : Option (HI × Int32) := Mo_finds_0 a0 p1 I
def Mo_isSheet_0  (p0 : Int32) : Option (Int32) :=
  bn1 (Mo_in p0.toInt64 (0 : Int64) (2 : Int64)) fun r1 =>
  gd (isB r1) <|
  some r1
def Mo_isSheet  (p0 : Int32) : Option (Int32) := Mo_isSheet_0 p0
def Mo_sheet_35b (N : HN) (a0 : Nat) (p1 : Int32) (p2 : Int32) (k35 : HI → HJ → Int32 → Option (HI × HJ × Int32)) (I : HI) (J : HJ) (x3 : Int32) : Option (HI × HJ × Int32) :=
  if p2 ≤ x3 then
    some (I, J, p2)
  else
    ra Tm nM (N a0 2) 2 fun b2 =>
    gd (inb (((40 : Int32) * p1) + x3) (Tm b2).2) <|
    bd (up2 J b2 (((40 : Int32) * p1) + x3).toNatClampNeg (0 : Int64)) fun J4 =>
    k35 I J4 (x3 + 1)
def Mo_sheet_35 (N : HN) (a0 : Nat) (p1 : Int32) (p2 : Int32) : Nat → HI → HJ → Int32 → Option (HI × HJ × Int32)
  | 0 => fun _ _ _ => none
  | n + 1 => Mo_sheet_35b N a0 p1 p2 (Mo_sheet_35 N a0 p1 p2 n)
def Mo_sheet_0 (N : HN) (a0 : Nat) (p1 : Int32) (p2 : Int32) (I : HI) (J : HJ) : Option (HI × HJ × Int32) :=
  bn1 (Mo_isSheet p1) fun r1 =>
  if r1 = 0 then
    some (I, J, (-2 : Int32))
  else
    if p2 ≤ (40 : Int32) then
      if 0 ≤ p2 then
        ra Tm nM (N a0 1) 1 fun b6 =>
        gd (inb p1 (Tm b6).2) <|
        bd (up2 I b6 p1.toNatClampNeg p2) fun I8 =>
        Mo_sheet_35 N a0 p1 p2 256 I8 J (0 : Int32)
      else
        bn2 (Mo_finds a0 (3 : Int32) I) fun I9 r10 =>
        some (I9, J, r10)
    else
      some (I, J, (-2 : Int32))
def Mo_sheet (N : HN) (a0 : Nat) (p1 : Int32) (p2 : Int32) (I : HI) (J : HJ) : Option (HI × HJ × Int32) := Mo_sheet_0 N a0 p1 p2 I J
def Mo_lose_0 (N : HN) (a0 : Nat) (p1 : Int32) (I : HI) : Option (HI × Int32) :=
  bn1 (Mo_isSheet p1) fun r1 =>
  if r1 = 0 then
    some (I, (-2 : Int32))
  else
    ra Tm nM (N a0 1) 1 fun b4 =>
    gd (inb p1 (Tm b4).2) <|
    if (I b4 p1.toNatClampNeg) = (-1 : Int32) then
      bn2 (Mo_finds a0 (1 : Int32) I) fun I13 r14 =>
      some (I13, r14)
    else
      ra Tm nM (N a0 1) 1 fun b7 =>
      gd (inb p1 (Tm b7).2) <|
      bd (I b7 p1.toNatClampNeg) fun v9 =>
      ra Tm nM (N a0 1) 1 fun b10 =>
      gd (inb p1 (Tm b10).2) <|
      bd (up2 I b10 p1.toNatClampNeg (-1 : Int32)) fun I12 =>
      some (I12, v9)
def Mo_lose (N : HN) (a0 : Nat) (p1 : Int32) (I : HI) : Option (HI × Int32) := Mo_lose_0 N a0 p1 I
def Mo_lacks_0 (N : HN) (a0 : Nat) (p1 : Int32) (p2 : Int32) (I : HI) : Option (HI × Int32) :=
  ra Tm nM (N a0 1) 1 fun b1 =>
  gd (inb p1 (Tm b1).2) <|
  if (I b1 p1.toNatClampNeg) = (-1 : Int32) then
    bn2 (Mo_finds a0 (1 : Int32) I) fun I12 r13 =>
    some (I12, r13)
  else
    ra Tm nM (N a0 1) 1 fun b4 =>
    gd (inb p1 (Tm b4).2) <|
    bn1 (Mo_in p2.toInt64 (0 : Int64) (((I b4 p1.toNatClampNeg) - (1 : Int32)).toInt64)) fun r6 =>
    if r6 = 0 then
      bn2 (Mo_finds a0 (2 : Int32) I) fun I9 r10 =>
      some (I9, r10)
    else
      some (I, (0 : Int32))
def Mo_lacks (N : HN) (a0 : Nat) (p1 : Int32) (p2 : Int32) (I : HI) : Option (HI × Int32) := Mo_lacks_0 N a0 p1 p2 I
def Mo_lay_0 (N : HN) (a0 : Nat) (p1 : Int32) (p2 : Int32) (p3 : Int32) (I : HI) (J : HJ) : Option (HI × HJ × Int32) :=
  bn1 (Mo_isSheet p1) fun r1 =>
  if r1 = 0 then
    some (I, J, (-2 : Int32))
  else
    bn2 (Mo_lacks N a0 p1 p2 I) fun I4 r5 =>
    if r5 = 0 then
      ra Tm nM (N a0 2) 2 fun b8 =>
      gd (inb (((40 : Int32) * p1) + p2) (Tm b8).2) <|
      bd (up2 J b8 (((40 : Int32) * p1) + p2).toNatClampNeg p3.toInt64) fun J10 =>
      some (I4, J10, (1 : Int32))
    else
      some (I4, J, r5)
def Mo_lay (N : HN) (a0 : Nat) (p1 : Int32) (p2 : Int32) (p3 : Int32) (I : HI) (J : HJ) : Option (HI × HJ × Int32) := Mo_lay_0 N a0 p1 p2 p3 I J
def Mo_get_0 (J : HJ) (N : HN) (a0 : Nat) (p1 : Int32) (p2 : Int32) (I : HI) : Option (HI × Int64) :=
  bn1 (Mo_isSheet p1) fun r1 =>
  if r1 = 0 then
    bn1 (Mo_no (-2 : Int32)) fun r12 =>
    some (I, r12)
  else
    bn2 (Mo_lacks N a0 p1 p2 I) fun I4 r5 =>
    if r5 = 0 then
      ra Tm nM (N a0 2) 2 fun b8 =>
      gd (inb (((40 : Int32) * p1) + p2) (Tm b8).2) <|
      some (I4, J b8 (((40 : Int32) * p1) + p2).toNatClampNeg)
    else
      bn1 (Mo_no r5) fun r10 =>
      some (I4, r10)
def Mo_get (J : HJ) (N : HN) (a0 : Nat) (p1 : Int32) (p2 : Int32) (I : HI) : Option (HI × Int64) := Mo_get_0 J N a0 p1 p2 I
def Mo_copy_138b (N : HN) (a0 : Nat) (p1 : Int32) (p2 : Int32) (p3 : Int32) (p4 : Int32) (p5 : Int32) (k138 : HI → HJ → Int32 → Option (HI × HJ × Int32)) (I : HI) (J : HJ) (x6 : Int32) : Option (HI × HJ × Int32) :=
  if p5 ≤ x6 then
    some (I, J, (1 : Int32))
  else
    ra Tm nM (N a0 2) 2 fun b2 =>
    ra Tm nM (N a0 3) 2 fun b3 =>
    gd (inb x6 (Tm b3).2) <|
    gd (inb ((((40 : Int32) * p3) + p4) + x6) (Tm b2).2) <|
    bd (up2 J b2 ((((40 : Int32) * p3) + p4) + x6).toNatClampNeg (J b3 x6.toNatClampNeg)) fun J6 =>
    k138 I J6 (x6 + 1)
def Mo_copy_138 (N : HN) (a0 : Nat) (p1 : Int32) (p2 : Int32) (p3 : Int32) (p4 : Int32) (p5 : Int32) : Nat → HI → HJ → Int32 → Option (HI × HJ × Int32)
  | 0 => fun _ _ _ => none
  | n + 1 => Mo_copy_138b N a0 p1 p2 p3 p4 p5 (Mo_copy_138 N a0 p1 p2 p3 p4 p5 n)
def Mo_copy_101b (N : HN) (a0 : Nat) (p1 : Int32) (p2 : Int32) (p3 : Int32) (p4 : Int32) (p5 : Int32) (k101 : HI → HJ → Int32 → Option (HI × HJ × Int32)) (I : HI) (J : HJ) (x6 : Int32) : Option (HI × HJ × Int32) :=
  if p5 ≤ x6 then
    Mo_copy_138 N a0 p1 p2 p3 p4 p5 256 I J (0 : Int32)
  else
    ra Tm nM (N a0 3) 2 fun b2 =>
    ra Tm nM (N a0 2) 2 fun b3 =>
    gd (inb ((((40 : Int32) * p1) + p2) + x6) (Tm b3).2) <|
    gd (inb x6 (Tm b2).2) <|
    bd (up2 J b2 x6.toNatClampNeg (J b3 ((((40 : Int32) * p1) + p2) + x6).toNatClampNeg)) fun J6 =>
    k101 I J6 (x6 + 1)
def Mo_copy_101 (N : HN) (a0 : Nat) (p1 : Int32) (p2 : Int32) (p3 : Int32) (p4 : Int32) (p5 : Int32) : Nat → HI → HJ → Int32 → Option (HI × HJ × Int32)
  | 0 => fun _ _ _ => none
  | n + 1 => Mo_copy_101b N a0 p1 p2 p3 p4 p5 (Mo_copy_101 N a0 p1 p2 p3 p4 p5 n)
def Mo_copy_92 (N : HN) (a0 : Nat) (p1 : Int32) (p2 : Int32) (p3 : Int32) (p4 : Int32) (p5 : Int32) (I : HI) (J : HJ) : Option (HI × HJ × Int32) :=
  bn2 (Mo_finds a0 (2 : Int32) I) fun I1 r2 =>
  some (I1, J, r2)
def Mo_copy_37 (N : HN) (a0 : Nat) (p1 : Int32) (p2 : Int32) (p3 : Int32) (p4 : Int32) (p5 : Int32) (I : HI) (J : HJ) : Option (HI × HJ × Int32) :=
  bn2 (Mo_finds a0 (1 : Int32) I) fun I1 r2 =>
  some (I1, J, r2)
def Mo_copy_0 (N : HN) (a0 : Nat) (p1 : Int32) (p2 : Int32) (p3 : Int32) (p4 : Int32) (p5 : Int32) (I : HI) (J : HJ) : Option (HI × HJ × Int32) :=
  bn1 (Mo_isSheet p1) fun r1 =>
  if r1 = 0 then
    some (I, J, (-2 : Int32))
  else
    bn1 (Mo_isSheet p3) fun r4 =>
    if r4 = 0 then
      some (I, J, (-2 : Int32))
    else
      ra Tm nM (N a0 1) 1 fun b7 =>
      gd (inb p1 (Tm b7).2) <|
      if (I b7 p1.toNatClampNeg) = (-1 : Int32) then
        Mo_copy_37 N a0 p1 p2 p3 p4 p5 I J
      else
        ra Tm nM (N a0 1) 1 fun b10 =>
        gd (inb p3 (Tm b10).2) <|
        if (I b10 p3.toNatClampNeg) = (-1 : Int32) then
          Mo_copy_37 N a0 p1 p2 p3 p4 p5 I J
        else
          if p2 < 0 then
            Mo_copy_92 N a0 p1 p2 p3 p4 p5 I J
          else
            if p4 < 0 then
              Mo_copy_92 N a0 p1 p2 p3 p4 p5 I J
            else
              if p5 < 0 then
                Mo_copy_92 N a0 p1 p2 p3 p4 p5 I J
              else
                ra Tm nM (N a0 1) 1 fun b16 =>
                gd (inb p1 (Tm b16).2) <|
                if ((I b16 p1.toNatClampNeg).toInt64) < (p2.toInt64 + p5.toInt64) then
                  Mo_copy_92 N a0 p1 p2 p3 p4 p5 I J
                else
                  ra Tm nM (N a0 1) 1 fun b19 =>
                  gd (inb p3 (Tm b19).2) <|
                  if (p4.toInt64 + p5.toInt64) ≤ ((I b19 p3.toNatClampNeg).toInt64) then
                    Mo_copy_101 N a0 p1 p2 p3 p4 p5 256 I J (0 : Int32)
                  else
                    Mo_copy_92 N a0 p1 p2 p3 p4 p5 I J
def Mo_copy (N : HN) (a0 : Nat) (p1 : Int32) (p2 : Int32) (p3 : Int32) (p4 : Int32) (p5 : Int32) (I : HI) (J : HJ) : Option (HI × HJ × Int32) := Mo_copy_0 N a0 p1 p2 p3 p4 p5 I J
def Mo_tell_0 (N : HN) (a0 : Nat) (p1 : Int32) (p2 : Int32) (p3 : Int32) (I : HI) : Option (HI × Int32) :=
  bn1 (Mo_isTwo p1) fun r1 =>
  if r1 = 0 then
    some (I, (-2147483648 : Int32))
  else
    bn1 (Mo_in p2.toInt64 (0 : Int64) (6 : Int64)) fun r4 =>
    if r4 = 0 then
      some (I, (-2147483648 : Int32))
    else
      bn1 (Mo_in p3.toInt64 (-9 : Int64) (9 : Int64)) fun r7 =>
      if r7 = 0 then
        some (I, (-2147483648 : Int32))
      else
        ra Tm nM (N a0 4) 1 fun b10 =>
        gd (inb (((7 : Int32) * p1) + p2) (Tm b10).2) <|
        bd (I b10 (((7 : Int32) * p1) + p2).toNatClampNeg) fun v12 =>
        ra Tm nM (N a0 4) 1 fun b13 =>
        gd (inb (((7 : Int32) * p1) + p2) (Tm b13).2) <|
        bd (up2 I b13 (((7 : Int32) * p1) + p2).toNatClampNeg p3) fun I15 =>
        some (I15, v12)
def Mo_tell (N : HN) (a0 : Nat) (p1 : Int32) (p2 : Int32) (p3 : Int32) (I : HI) : Option (HI × Int32) := Mo_tell_0 N a0 p1 p2 p3 I
def Mo_told_0 (I : HI) (N : HN) (a0 : Nat) (p1 : Int32) (p2 : Int32) : Option (Int32) :=
  bn1 (Mo_isTwo p1) fun r1 =>
  if r1 = 0 then
    some (-2147483648 : Int32)
  else
    bn1 (Mo_in p2.toInt64 (0 : Int64) (6 : Int64)) fun r4 =>
    if r4 = 0 then
      some (-2147483648 : Int32)
    else
      ra Tm nM (N a0 4) 1 fun b7 =>
      gd (inb (((7 : Int32) * p1) + p2) (Tm b7).2) <|
      some (I b7 (((7 : Int32) * p1) + p2).toNatClampNeg)
def Mo_told (I : HI) (N : HN) (a0 : Nat) (p1 : Int32) (p2 : Int32) : Option (Int32) := Mo_told_0 I N a0 p1 p2
def Mo_degree_29 (I : HI) (N : HN) (a0 : Nat) (p1 : Int32) (k4 : Int32 → Int32 → Option (Int32)) (x3 : Int32) (s0 : Int32) : Option (Int32) :=
  k4 s0 (x3 + 1)
def Mo_degree_4b (I : HI) (N : HN) (a0 : Nat) (p1 : Int32) (k4 : Int32 → Int32 → Option (Int32)) (x2 : Int32) (x3 : Int32) : Option (Int32) :=
  if (7 : Int32) ≤ x3 then
    some x2
  else
    ra Tm nM (N a0 4) 1 fun b2 =>
    gd (inb (((7 : Int32) * p1) + x3) (Tm b2).2) <|
    if (I b2 (((7 : Int32) * p1) + x3).toNatClampNeg) = 0 then
      Mo_degree_29 I N a0 p1 k4 x3 x2
    else
      Mo_degree_29 I N a0 p1 k4 x3 x3
def Mo_degree_4 (I : HI) (N : HN) (a0 : Nat) (p1 : Int32) : Nat → Int32 → Int32 → Option (Int32)
  | 0 => fun _ _ => none
  | n + 1 => Mo_degree_4b I N a0 p1 (Mo_degree_4 I N a0 p1 n)
def Mo_degree_0 (I : HI) (N : HN) (a0 : Nat) (p1 : Int32) : Option (Int32) :=
  Mo_degree_4 I N a0 p1 256 (-1 : Int32) (0 : Int32)
def Mo_degree (I : HI) (N : HN) (a0 : Nat) (p1 : Int32) : Option (Int32) := Mo_degree_0 I N a0 p1
def Mo_lowest_28 (I : HI) (N : HN) (a0 : Nat) (p1 : Int32) (k5 : Int32 → Int32 → Option (Int32)) (x3 : Int32) (s0 : Int32) : Option (Int32) :=
  k5 s0 (x3 + (-1))
def Mo_lowest_5b (I : HI) (N : HN) (a0 : Nat) (p1 : Int32) (k5 : Int32 → Int32 → Option (Int32)) (x2 : Int32) (x3 : Int32) : Option (Int32) :=
  if x3 < 0 then
    some x2
  else
    ra Tm nM (N a0 4) 1 fun b2 =>
    gd (inb (((7 : Int32) * p1) + x3) (Tm b2).2) <|
    if (I b2 (((7 : Int32) * p1) + x3).toNatClampNeg) = 0 then
      Mo_lowest_28 I N a0 p1 k5 x3 x2
    else
      Mo_lowest_28 I N a0 p1 k5 x3 x3
def Mo_lowest_5 (I : HI) (N : HN) (a0 : Nat) (p1 : Int32) : Nat → Int32 → Int32 → Option (Int32)
  | 0 => fun _ _ => none
  | n + 1 => Mo_lowest_5b I N a0 p1 (Mo_lowest_5 I N a0 p1 n)
def Mo_lowest_0 (I : HI) (N : HN) (a0 : Nat) (p1 : Int32) : Option (Int32) :=
  Mo_lowest_5 I N a0 p1 256 (-1 : Int32) (6 : Int32)
def Mo_lowest (I : HI) (N : HN) (a0 : Nat) (p1 : Int32) : Option (Int32) := Mo_lowest_0 I N a0 p1
def Mo_sort_78 (I : HI) (N : HN) (a0 : Nat) (p1 : Int32) (k7 : Int32 → Int32 → Int32 → Option (Int32)) (x2 : Int32) (x4 : Int32) (s0 : Int32) : Option (Int32) :=
  k7 x2 s0 (x4 + 1)
def Mo_sort_77 (I : HI) (N : HN) (a0 : Nat) (p1 : Int32) (k7 : Int32 → Int32 → Int32 → Option (Int32)) (x2 : Int32) (x4 : Int32) : Option (Int32) :=
  Mo_sort_78 I N a0 p1 k7 x2 x4 (0 : Int32)
def Mo_sort_73 (I : HI) (N : HN) (a0 : Nat) (p1 : Int32) (k7 : Int32 → Int32 → Int32 → Option (Int32)) (x2 : Int32) (x4 : Int32) : Option (Int32) :=
  Mo_sort_78 I N a0 p1 k7 x2 x4 (1 : Int32)
def Mo_sort_45 (I : HI) (N : HN) (a0 : Nat) (p1 : Int32) (k7 : Int32 → Int32 → Int32 → Option (Int32)) (x3 : Int32) (x4 : Int32) (s0 : Int32) : Option (Int32) :=
  if x3 = 0 then
    ra Tm nM (N a0 4) 1 fun b2 =>
    gd (inb (((7 : Int32) * p1) + x4) (Tm b2).2) <|
    if (I b2 (((7 : Int32) * p1) + x4).toNatClampNeg) = 0 then
      Mo_sort_77 I N a0 p1 k7 s0 x4
    else
      if (x4 - x4 / (2 : Int32) * (2 : Int32)) = (1 : Int32) then
        Mo_sort_73 I N a0 p1 k7 s0 x4
      else
        Mo_sort_77 I N a0 p1 k7 s0 x4
  else
    Mo_sort_73 I N a0 p1 k7 s0 x4
def Mo_sort_44 (I : HI) (N : HN) (a0 : Nat) (p1 : Int32) (k7 : Int32 → Int32 → Int32 → Option (Int32)) (x3 : Int32) (x4 : Int32) : Option (Int32) :=
  Mo_sort_45 I N a0 p1 k7 x3 x4 (0 : Int32)
def Mo_sort_40 (I : HI) (N : HN) (a0 : Nat) (p1 : Int32) (k7 : Int32 → Int32 → Int32 → Option (Int32)) (x3 : Int32) (x4 : Int32) : Option (Int32) :=
  Mo_sort_45 I N a0 p1 k7 x3 x4 (1 : Int32)
def Mo_sort_7b (I : HI) (N : HN) (a0 : Nat) (p1 : Int32) (k7 : Int32 → Int32 → Int32 → Option (Int32)) (x2 : Int32) (x3 : Int32) (x4 : Int32) : Option (Int32) :=
  if (7 : Int32) ≤ x4 then
    if x2 = x3 then
      some (2 : Int32)
    else
      if x2 = 0 then
        some (1 : Int32)
      else
        some (0 : Int32)
  else
    if x2 = 0 then
      ra Tm nM (N a0 4) 1 fun b5 =>
      gd (inb (((7 : Int32) * p1) + x4) (Tm b5).2) <|
      if (I b5 (((7 : Int32) * p1) + x4).toNatClampNeg) = 0 then
        Mo_sort_44 I N a0 p1 k7 x3 x4
      else
        if (x4 - x4 / (2 : Int32) * (2 : Int32)) = 0 then
          Mo_sort_40 I N a0 p1 k7 x3 x4
        else
          Mo_sort_44 I N a0 p1 k7 x3 x4
    else
      Mo_sort_40 I N a0 p1 k7 x3 x4
def Mo_sort_7 (I : HI) (N : HN) (a0 : Nat) (p1 : Int32) : Nat → Int32 → Int32 → Int32 → Option (Int32)
  | 0 => fun _ _ _ => none
  | n + 1 => Mo_sort_7b I N a0 p1 (Mo_sort_7 I N a0 p1 n)
def Mo_sort_0 (I : HI) (N : HN) (a0 : Nat) (p1 : Int32) : Option (Int32) :=
  Mo_sort_7 I N a0 p1 256 (0 : Int32) (0 : Int32) (0 : Int32)
def Mo_sort (I : HI) (N : HN) (a0 : Nat) (p1 : Int32) : Option (Int32) := Mo_sort_0 I N a0 p1
def Mo_isLawful_0 (I : HI) (N : HN) (a0 : Nat) : Option (Int32) :=
  bn1 (Mo_sort I N a0 (0 : Int32)) fun r1 =>
  bn1 (Mo_sort I N a0 (1 : Int32)) fun r3 =>
  if (r1 + r3) = (1 : Int32) then
    some (1 : Int32)
  else
    some (0 : Int32)
def Mo_isLawful (I : HI) (N : HN) (a0 : Nat) : Option (Int32) := Mo_isLawful_0 I N a0
def Mo_turn_2b (N : HN) (a0 : Nat) (k2 : HI → Int32 → Option (HI × Int32)) (I : HI) (x1 : Int32) : Option (HI × Int32) :=
  if (7 : Int32) ≤ x1 then
    bn1 (Mo_isLawful I N a0) fun r2 =>
    if r2 = 0 then
      some (I, (0 : Int32))
    else
      some (I, (1 : Int32))
  else
    ra Tm nM (N a0 4) 1 fun b5 =>
    gd (inb x1 (Tm b5).2) <|
    bd (I b5 x1.toNatClampNeg) fun v7 =>
    ra Tm nM (N a0 4) 1 fun b8 =>
    ra Tm nM (N a0 4) 1 fun b9 =>
    gd (inb ((7 : Int32) + x1) (Tm b9).2) <|
    gd (inb x1 (Tm b8).2) <|
    bd (up2 I b8 x1.toNatClampNeg (I b9 ((7 : Int32) + x1).toNatClampNeg)) fun I12 =>
    ra Tm nM (N a0 4) 1 fun b13 =>
    gd (inb ((7 : Int32) + x1) (Tm b13).2) <|
    bd (up2 I12 b13 ((7 : Int32) + x1).toNatClampNeg v7) fun I15 =>
    k2 I15 (x1 + 1)
def Mo_turn_2 (N : HN) (a0 : Nat) : Nat → HI → Int32 → Option (HI × Int32)
  | 0 => fun _ _ => none
  | n + 1 => Mo_turn_2b N a0 (Mo_turn_2 N a0 n)
def Mo_turn_0 (N : HN) (a0 : Nat) (I : HI) : Option (HI × Int32) :=
  Mo_turn_2 N a0 256 I (0 : Int32)
def Mo_turn (N : HN) (a0 : Nat) (I : HI) : Option (HI × Int32) := Mo_turn_0 N a0 I
def Mo_reverse_31b (N : HN) (a0 : Nat) (k24 : HI → Int32 → Int32 → Option (HI × Int32)) (k31 : HI → Int32 → Int32 → Int32 → Option (HI × Int32)) (I : HI) (x1 : Int32) (x2 : Int32) (x3 : Int32) : Option (HI × Int32) :=
  if (x1 - x3) ≤ x3 then
    k24 I x1 (x2 + 1)
  else
    ra Tm nM (N a0 4) 1 fun b2 =>
    gd (inb (((7 : Int32) * x2) + x3) (Tm b2).2) <|
    bd (I b2 (((7 : Int32) * x2) + x3).toNatClampNeg) fun v4 =>
    ra Tm nM (N a0 4) 1 fun b5 =>
    ra Tm nM (N a0 4) 1 fun b6 =>
    gd (inb ((((7 : Int32) * x2) + x1) - x3) (Tm b6).2) <|
    gd (inb (((7 : Int32) * x2) + x3) (Tm b5).2) <|
    bd (up2 I b5 (((7 : Int32) * x2) + x3).toNatClampNeg (I b6 ((((7 : Int32) * x2) + x1) - x3).toNatClampNeg)) fun I9 =>
    ra Tm nM (N a0 4) 1 fun b10 =>
    gd (inb ((((7 : Int32) * x2) + x1) - x3) (Tm b10).2) <|
    bd (up2 I9 b10 ((((7 : Int32) * x2) + x1) - x3).toNatClampNeg v4) fun I12 =>
    k31 I12 x1 x2 (x3 + 1)
def Mo_reverse_31 (N : HN) (a0 : Nat) (k24 : HI → Int32 → Int32 → Option (HI × Int32)) : Nat → HI → Int32 → Int32 → Int32 → Option (HI × Int32)
  | 0 => fun _ _ _ _ => none
  | n + 1 => Mo_reverse_31b N a0 k24 (Mo_reverse_31 N a0 k24 n)
def Mo_reverse_24b (N : HN) (a0 : Nat) (k24 : HI → Int32 → Int32 → Option (HI × Int32)) (I : HI) (x1 : Int32) (x2 : Int32) : Option (HI × Int32) :=
  if (2 : Int32) ≤ x2 then
    some (I, x1)
  else
    Mo_reverse_31 N a0 k24 256 I x1 x2 (0 : Int32)
def Mo_reverse_24 (N : HN) (a0 : Nat) : Nat → HI → Int32 → Int32 → Option (HI × Int32)
  | 0 => fun _ _ _ => none
  | n + 1 => Mo_reverse_24b N a0 (Mo_reverse_24 N a0 n)
def Mo_reverse_0 (N : HN) (a0 : Nat) (I : HI) : Option (HI × Int32) :=
  bn1 (Mo_degree I N a0 (0 : Int32)) fun r1 =>
  bn1 (Mo_degree I N a0 (1 : Int32)) fun r3 =>
  bn1 (Mo_greater r1 r3) fun r5 =>
  if r5 = (-1 : Int32) then
    some (I, (-3 : Int32))
  else
    Mo_reverse_24 N a0 256 I r5 (0 : Int32)
def Mo_reverse (N : HN) (a0 : Nat) (I : HI) : Option (HI × Int32) := Mo_reverse_0 N a0 I
def Mo_read_97b (J : HJ) (N : HN) (a0 : Nat) (p1 : Int32) (p2 : Int32) (k97 : HI → Int32 → Option (HI × Int32)) (I : HI) (x3 : Int32) : Option (HI × Int32) :=
  if (14 : Int32) ≤ x3 then
    some (I, (14 : Int32))
  else
    ra Tm nM (N a0 4) 1 fun b2 =>
    ra Tm nM (N a0 2) 2 fun b3 =>
    gd (inb ((((40 : Int32) * p1) + p2) + x3) (Tm b3).2) <|
    gd (inb x3 (Tm b2).2) <|
    bd (up2 I b2 x3.toNatClampNeg ((J b3 ((((40 : Int32) * p1) + p2) + x3).toNatClampNeg).toInt32)) fun I6 =>
    k97 I6 (x3 + 1)
def Mo_read_97 (J : HJ) (N : HN) (a0 : Nat) (p1 : Int32) (p2 : Int32) : Nat → HI → Int32 → Option (HI × Int32)
  | 0 => fun _ _ => none
  | n + 1 => Mo_read_97b J N a0 p1 p2 (Mo_read_97 J N a0 p1 p2 n)
def Mo_read_55b (J : HJ) (N : HN) (a0 : Nat) (p1 : Int32) (p2 : Int32) (k55 : HI → Int32 → Option (HI × Int32)) (I : HI) (x3 : Int32) : Option (HI × Int32) :=
  if (14 : Int32) ≤ x3 then
    Mo_read_97 J N a0 p1 p2 256 I (0 : Int32)
  else
    ra Tm nM (N a0 2) 2 fun b2 =>
    gd (inb ((((40 : Int32) * p1) + p2) + x3) (Tm b2).2) <|
    bn1 (Mo_in (J b2 ((((40 : Int32) * p1) + p2) + x3).toNatClampNeg) (-9 : Int64) (9 : Int64)) fun r4 =>
    if r4 = 0 then
      some (I, (-2 : Int32))
    else
      k55 I (x3 + 1)
def Mo_read_55 (J : HJ) (N : HN) (a0 : Nat) (p1 : Int32) (p2 : Int32) : Nat → HI → Int32 → Option (HI × Int32)
  | 0 => fun _ _ => none
  | n + 1 => Mo_read_55b J N a0 p1 p2 (Mo_read_55 J N a0 p1 p2 n)
def Mo_read_47 (J : HJ) (N : HN) (a0 : Nat) (p1 : Int32) (p2 : Int32) (I : HI) : Option (HI × Int32) :=
  bn2 (Mo_finds a0 (2 : Int32) I) fun I1 r2 =>
  some (I1, r2)
def Mo_read_0 (J : HJ) (N : HN) (a0 : Nat) (p1 : Int32) (p2 : Int32) (I : HI) : Option (HI × Int32) :=
  bn1 (Mo_isSheet p1) fun r1 =>
  if r1 = 0 then
    some (I, (-2 : Int32))
  else
    ra Tm nM (N a0 1) 1 fun b4 =>
    gd (inb p1 (Tm b4).2) <|
    if (I b4 p1.toNatClampNeg) = (-1 : Int32) then
      bn2 (Mo_finds a0 (1 : Int32) I) fun I11 r12 =>
      some (I11, r12)
    else
      if p2 < 0 then
        Mo_read_47 J N a0 p1 p2 I
      else
        ra Tm nM (N a0 1) 1 fun b8 =>
        gd (inb p1 (Tm b8).2) <|
        if (p2.toInt64 + (14 : Int64)) ≤ ((I b8 p1.toNatClampNeg).toInt64) then
          Mo_read_55 J N a0 p1 p2 256 I (0 : Int32)
        else
          Mo_read_47 J N a0 p1 p2 I
def Mo_read (J : HJ) (N : HN) (a0 : Nat) (p1 : Int32) (p2 : Int32) (I : HI) : Option (HI × Int32) := Mo_read_0 J N a0 p1 p2 I
def Mo_infoBy_0 (I : HI) (N : HN) (a0 : Nat) (p1 : Int32) : Option (Int32) :=
  if p1 = (0 : Int32) then
    bn1 (Mo_degree I N a0 p1) fun r2 =>
    some r2
  else
  if p1 = (1 : Int32) then
    bn1 (Mo_degree I N a0 p1) fun r5 =>
    some r5
  else
  if p1 = (2 : Int32) then
    bn1 (Mo_isLawful I N a0) fun r8 =>
    if r8 = 0 then
      some (0 : Int32)
    else
      some (1 : Int32)
  else
  bn1 (Mo_lowest I N a0 (p1 - (3 : Int32))) fun r11 =>
  some r11
def Mo_infoBy (I : HI) (N : HN) (a0 : Nat) (p1 : Int32) : Option (Int32) := Mo_infoBy_0 I N a0 p1
def Mo_info_0 (I : HI) (N : HN) (a0 : Nat) (p1 : Int32) : Option (Int32) :=
  bn1 (Mo_in p1.toInt64 (0 : Int64) (4 : Int64)) fun r1 =>
  if r1 = 0 then
    some (-9 : Int32)
  else
    bn1 (Mo_infoBy I N a0 p1) fun r4 =>
    some r4
def Mo_info (I : HI) (N : HN) (a0 : Nat) (p1 : Int32) : Option (Int32) := Mo_info_0 I N a0 p1
def Mo_power_5b  (p0 : Int64) (p2 : Int32) (k5 : Int64 → Int32 → Option (Int64)) (x3 : Int64) (x5 : Int32) : Option (Int64) :=
  if p2 ≤ x5 then
    some x3
  else
    bd (x3 * p0) fun v2 =>
    k5 v2 (x5 + 1)
def Mo_power_5  (p0 : Int64) (p2 : Int32) : Nat → Int64 → Int32 → Option (Int64)
  | 0 => fun _ _ => none
  | n + 1 => Mo_power_5b p0 p2 (Mo_power_5 p0 p2 n)
def Mo_power_0  (p0 : Int64) (p2 : Int32) : Option (Int64) :=
  Mo_power_5 p0 p2 256 (1 : Int64) (0 : Int32)
def Mo_power  (p0 : Int64) (p2 : Int32) : Option (Int64) := Mo_power_0 p0 p2
def Mo_turnedValue_67 (I : HI) (N : HN) (a0 : Nat) (p1 : Int32) (p2 : Int32) (p3 : Int32) (k6 : Int64 → Int32 → Option (Int64)) (x6 : Int32) (s0 : Int64) (s1 : Int64) : Option (Int64) :=
  bd (s0 + s1) fun v1 =>
  k6 v1 (x6 + 1)
def Mo_turnedValue_6b (I : HI) (N : HN) (a0 : Nat) (p1 : Int32) (p2 : Int32) (p3 : Int32) (k6 : Int64 → Int32 → Option (Int64)) (x4 : Int64) (x6 : Int32) : Option (Int64) :=
  if (7 : Int32) ≤ x6 then
    some x4
  else
    ra Tm nM (N a0 4) 1 fun b2 =>
    gd (inb (((7 : Int32) * p1) + x6) (Tm b2).2) <|
    bn1 (Mo_power p2.toInt64 x6) fun r4 =>
    bn1 (Mo_power p3.toInt64 ((6 : Int32) - x6)) fun r6 =>
    bd ((((I b2 (((7 : Int32) * p1) + x6).toNatClampNeg).toInt64) * r4) * r6) fun v8 =>
    if ((x6 / (2 : Int32)) - (x6 / (2 : Int32)) / (2 : Int32) * (2 : Int32)) = 0 then
      Mo_turnedValue_67 I N a0 p1 p2 p3 k6 x6 x4 v8
    else
      Mo_turnedValue_67 I N a0 p1 p2 p3 k6 x6 x4 ((0 : Int64) - v8)
def Mo_turnedValue_6 (I : HI) (N : HN) (a0 : Nat) (p1 : Int32) (p2 : Int32) (p3 : Int32) : Nat → Int64 → Int32 → Option (Int64)
  | 0 => fun _ _ => none
  | n + 1 => Mo_turnedValue_6b I N a0 p1 p2 p3 (Mo_turnedValue_6 I N a0 p1 p2 p3 n)
def Mo_turnedValue_0 (I : HI) (N : HN) (a0 : Nat) (p1 : Int32) (p2 : Int32) (p3 : Int32) : Option (Int64) :=
  Mo_turnedValue_6 I N a0 p1 p2 p3 256 (0 : Int64) (0 : Int32)
def Mo_turnedValue (I : HI) (N : HN) (a0 : Nat) (p1 : Int32) (p2 : Int32) (p3 : Int32) : Option (Int64) := Mo_turnedValue_0 I N a0 p1 p2 p3
def Mo_reactanceBy_89 (I : HI) (N : HN) (a0 : Nat) (p1 : Int32) (p2 : Int32) (p3 : Int32) (x4 : Int64) (x6 : Int64) (s0 : Int64) : Option (Int64) :=
  if p3 = 0 then
    gd (decide (¬ s0 = 0)) <|
    some (x4 / s0)
  else
    gd (decide (¬ s0 = 0)) <|
    some (x6 / s0)
def Mo_reactanceBy_62 (I : HI) (N : HN) (a0 : Nat) (p1 : Int32) (p2 : Int32) (p3 : Int32) (x6 : Int64) (s0 : Int64) : Option (Int64) :=
  bn1 (Mo_divisor s0 x6) fun r1 =>
  if (0 : Int64) ≤ x6 then
    Mo_reactanceBy_89 I N a0 p1 p2 p3 s0 x6 r1
  else
    Mo_reactanceBy_89 I N a0 p1 p2 p3 s0 x6 ((0 : Int64) - r1)
def Mo_reactanceBy_0 (I : HI) (N : HN) (a0 : Nat) (p1 : Int32) (p2 : Int32) (p3 : Int32) : Option (Int64) :=
  bn1 (Mo_isLawful I N a0) fun r1 =>
  if r1 = 0 then
    bn1 (Mo_no (-3 : Int32)) fun r14 =>
    some r14
  else
    bn1 (Mo_turnedValue I N a0 (0 : Int32) p1 p2) fun r4 =>
    bn1 (Mo_turnedValue I N a0 (1 : Int32) p1 p2) fun r6 =>
    if r6 = (0 : Int64) then
      bn1 (Mo_no (-3 : Int32)) fun r12 =>
      some r12
    else
      bn1 (Mo_sort I N a0 (1 : Int32)) fun r9 =>
      if r9 = (1 : Int32) then
        Mo_reactanceBy_62 I N a0 p1 p2 p3 r6 ((0 : Int64) - r4)
      else
        Mo_reactanceBy_62 I N a0 p1 p2 p3 r6 r4
def Mo_reactanceBy (I : HI) (N : HN) (a0 : Nat) (p1 : Int32) (p2 : Int32) (p3 : Int32) : Option (Int64) := Mo_reactanceBy_0 I N a0 p1 p2 p3
def Mo_reactance_41 (I : HI) (N : HN) (a0 : Nat) (p1 : Int32) (p2 : Int32) (p3 : Int32) : Option (Int64) :=
  bn1 (Mo_no (-2 : Int32)) fun r1 =>
  some r1
def Mo_reactance_0 (I : HI) (N : HN) (a0 : Nat) (p1 : Int32) (p2 : Int32) (p3 : Int32) : Option (Int64) :=
  bn1 (Mo_in p1.toInt64 (1 : Int64) (9 : Int64)) fun r1 =>
  if r1 = 0 then
    Mo_reactance_41 I N a0 p1 p2 p3
  else
    bn1 (Mo_in p2.toInt64 (1 : Int64) (9 : Int64)) fun r4 =>
    if r4 = 0 then
      Mo_reactance_41 I N a0 p1 p2 p3
    else
      bn1 (Mo_isTwo p3) fun r7 =>
      if r7 = 0 then
        Mo_reactance_41 I N a0 p1 p2 p3
      else
        bn1 (Mo_reactanceBy I N a0 p1 p2 p3) fun r10 =>
        some r10
def Mo_reactance (I : HI) (N : HN) (a0 : Nat) (p1 : Int32) (p2 : Int32) (p3 : Int32) : Option (Int64) := Mo_reactance_0 I N a0 p1 p2 p3
def Mo_valuesIn_40 (I : HI) (a0 : Nat) (p1 : Int32) (k4 : Int32 → Int32 → Option (Int32)) (x3 : Int32) (s0 : Int32) (s1 : Int32) (s2 : Int32) : Option (Int32) :=
  bd (s0 + (s1 + s2)) fun v1 =>
  k4 v1 (x3 + 1)
def Mo_valuesIn_25 (I : HI) (a0 : Nat) (p1 : Int32) (k4 : Int32 → Int32 → Option (Int32)) (x3 : Int32) (s0 : Int32) (s1 : Int32) : Option (Int32) :=
  gd (inb (((5 : Int32) * x3) + (3 : Int32)) (Tm a0).2) <|
  if (I a0 (((5 : Int32) * x3) + (3 : Int32)).toNatClampNeg) ≤ 0 then
    Mo_valuesIn_40 I a0 p1 k4 x3 s0 s1 (0 : Int32)
  else
    Mo_valuesIn_40 I a0 p1 k4 x3 s0 s1 (1 : Int32)
def Mo_valuesIn_4b (I : HI) (a0 : Nat) (p1 : Int32) (k4 : Int32 → Int32 → Option (Int32)) (x2 : Int32) (x3 : Int32) : Option (Int32) :=
  if p1 ≤ x3 then
    some x2
  else
    gd (inb (((5 : Int32) * x3) + (1 : Int32)) (Tm a0).2) <|
    if (I a0 (((5 : Int32) * x3) + (1 : Int32)).toNatClampNeg) ≤ 0 then
      Mo_valuesIn_25 I a0 p1 k4 x3 x2 (0 : Int32)
    else
      Mo_valuesIn_25 I a0 p1 k4 x3 x2 (1 : Int32)
def Mo_valuesIn_4 (I : HI) (a0 : Nat) (p1 : Int32) : Nat → Int32 → Int32 → Option (Int32)
  | 0 => fun _ _ => none
  | n + 1 => Mo_valuesIn_4b I a0 p1 (Mo_valuesIn_4 I a0 p1 n)
def Mo_valuesIn_0 (I : HI) (a0 : Nat) (p1 : Int32) : Option (Int32) :=
  Mo_valuesIn_4 I a0 p1 256 (0 : Int32) (0 : Int32)
def Mo_valuesIn (I : HI) (a0 : Nat) (p1 : Int32) : Option (Int32) := Mo_valuesIn_0 I a0 p1
def Mo_arm_162 (N : HN) (a0 : Nat) (p1 : Int32) (p2 : Int32) (p3 : Int32) (I : HI) (bs0 : Nat) (s1 : Int32) (s2 : Int32) : Option (HI × Int32) :=
  gd (inb s1 (Tm bs0).2) <|
  bd (up2 I bs0 s1.toNatClampNeg s2) fun I2 =>
  bd (up2 I2 a0 6 ((I2 a0 6) + (1 : Int32))) fun I3 =>
  some (I3, (I3 a0 6) - (1 : Int32))
def Mo_arm_126 (N : HN) (a0 : Nat) (p1 : Int32) (p2 : Int32) (p3 : Int32) (I : HI) (bs0 : Nat) (s1 : Int32) (s2 : Int32) : Option (HI × Int32) :=
  gd (inb s1 (Tm bs0).2) <|
  bd (up2 I bs0 s1.toNatClampNeg s2) fun I2 =>
  ra Tm nM (N a0 5) 1 fun b3 =>
  gd (inb (((5 : Int32) * (I2 a0 6)) + (3 : Int32)) (Tm b3).2) <|
  bd (up2 I2 b3 (((5 : Int32) * (I2 a0 6)) + (3 : Int32)).toNatClampNeg p3) fun I5 =>
  ra Tm nM (N a0 5) 1 fun b6 =>
  if p3 ≤ 0 then
    Mo_arm_162 N a0 p1 p2 p3 I5 b6 (((5 : Int32) * (I5 a0 6)) + (4 : Int32)) (0 : Int32)
  else
    Mo_arm_162 N a0 p1 p2 p3 I5 b6 (((5 : Int32) * (I5 a0 6)) + (4 : Int32)) (1 : Int32)
def Mo_arm_70 (N : HN) (a0 : Nat) (p1 : Int32) (p2 : Int32) (p3 : Int32) (I : HI) (s0 : Int32) (s1 : Int32) : Option (HI × Int32) :=
  if (s0 + s1) ≤ (6 : Int32) then
    ra Tm nM (N a0 5) 1 fun b2 =>
    gd (inb ((5 : Int32) * (I a0 6)) (Tm b2).2) <|
    bd (up2 I b2 ((5 : Int32) * (I a0 6)).toNatClampNeg p1) fun I4 =>
    ra Tm nM (N a0 5) 1 fun b5 =>
    gd (inb (((5 : Int32) * (I4 a0 6)) + (1 : Int32)) (Tm b5).2) <|
    bd (up2 I4 b5 (((5 : Int32) * (I4 a0 6)) + (1 : Int32)).toNatClampNeg p2) fun I7 =>
    ra Tm nM (N a0 5) 1 fun b8 =>
    if p2 ≤ 0 then
      Mo_arm_126 N a0 p1 p2 p3 I7 b8 (((5 : Int32) * (I7 a0 6)) + (2 : Int32)) (0 : Int32)
    else
      Mo_arm_126 N a0 p1 p2 p3 I7 b8 (((5 : Int32) * (I7 a0 6)) + (2 : Int32)) (1 : Int32)
  else
    some (I, (-4 : Int32))
def Mo_arm_60 (N : HN) (a0 : Nat) (p1 : Int32) (p2 : Int32) (p3 : Int32) (I : HI) (s0 : Int32) (s1 : Int32) : Option (HI × Int32) :=
  if p3 ≤ 0 then
    Mo_arm_70 N a0 p1 p2 p3 I (s0 + s1) (0 : Int32)
  else
    Mo_arm_70 N a0 p1 p2 p3 I (s0 + s1) (1 : Int32)
def Mo_arm_0 (N : HN) (a0 : Nat) (p1 : Int32) (p2 : Int32) (p3 : Int32) (I : HI) : Option (HI × Int32) :=
  bn1 (Mo_isTwo p1) fun r1 =>
  if r1 = 0 then
    some (I, (-2 : Int32))
  else
    bn1 (Mo_in p2.toInt64 (0 : Int64) (9 : Int64)) fun r4 =>
    if r4 = 0 then
      some (I, (-2 : Int32))
    else
      bn1 (Mo_in p3.toInt64 (0 : Int64) (9 : Int64)) fun r7 =>
      if r7 = 0 then
        some (I, (-2 : Int32))
      else
        if (p2 + p3) = 0 then
          some (I, (-2 : Int32))
        else
          ra Tm nM (N a0 5) 1 fun b11 =>
          bn1 (Mo_valuesIn I b11 (I a0 6)) fun r12 =>
          if p2 ≤ 0 then
            Mo_arm_60 N a0 p1 p2 p3 I r12 (0 : Int32)
          else
            Mo_arm_60 N a0 p1 p2 p3 I r12 (1 : Int32)
def Mo_arm (N : HN) (a0 : Nat) (p1 : Int32) (p2 : Int32) (p3 : Int32) (I : HI) : Option (HI × Int32) := Mo_arm_0 N a0 p1 p2 p3 I
def Mo_back_0  (a0 : Nat) (I : HI) : Option (HI × Int32) :=
  if (I a0 6) = 0 then
    some (I, (-3 : Int32))
  else
    bd (up2 I a0 6 ((I a0 6) - (1 : Int32))) fun I2 =>
    some (I2, I2 a0 6)
def Mo_back  (a0 : Nat) (I : HI) : Option (HI × Int32) := Mo_back_0 a0 I
def Mo_element_0 (I : HI) (N : HN) (a0 : Nat) (p1 : Int32) (p2 : Int32) : Option (Int32) :=
  bn1 (Mo_in p1.toInt64 (0 : Int64) (((I a0 6) - (1 : Int32)).toInt64)) fun r1 =>
  if r1 = 0 then
    some (-2 : Int32)
  else
    bn1 (Mo_in p2.toInt64 (0 : Int64) (4 : Int64)) fun r4 =>
    if r4 = 0 then
      some (-2 : Int32)
    else
      ra Tm nM (N a0 5) 1 fun b7 =>
      gd (inb (((5 : Int32) * p1) + p2) (Tm b7).2) <|
      some (I b7 (((5 : Int32) * p1) + p2).toNatClampNeg)
def Mo_element (I : HI) (N : HN) (a0 : Nat) (p1 : Int32) (p2 : Int32) : Option (Int32) := Mo_element_0 I N a0 p1 p2
def Mo_takes_22  (a0 : Nat) (p1 : Int64) (p3 : Int64) (J : HJ) (s0 : Int64) : Option (HJ) :=
  gd (decide (¬ s0 = 0)) <|
  bd (up2 J a0 9 (p1 / s0)) fun J2 =>
  gd (decide (¬ s0 = 0)) <|
  bd (up2 J2 a0 10 (p3 / s0)) fun J4 =>
  some J4
def Mo_takes_0  (a0 : Nat) (p1 : Int64) (p3 : Int64) (J : HJ) : Option (HJ) :=
  bn1 (Mo_divisor p1 p3) fun r1 =>
  if (0 : Int64) ≤ p3 then
    Mo_takes_22 a0 p1 p3 J r1
  else
    Mo_takes_22 a0 p1 p3 J ((0 : Int64) - r1)
def Mo_takes  (a0 : Nat) (p1 : Int64) (p3 : Int64) (J : HJ) : Option (HJ) := Mo_takes_0 a0 p1 p3 J
def Mo_isHandy_0 (J : HJ) (a0 : Nat) : Option (Int32) :=
  if (99 : Int64) < (J a0 9) then
    some (0 : Int32)
  else
    if (99 : Int64) < (J a0 10) then
      some (0 : Int32)
    else
      some (1 : Int32)
def Mo_isHandy (J : HJ) (a0 : Nat) : Option (Int32) := Mo_isHandy_0 J a0
def Mo_makes_14b (N : HN) (a0 : Nat) (p1 : Int32) (k14 : HI → Int32 → Option (HI)) (I : HI) (x2 : Int32) : Option (HI) :=
  if (5 : Int32) ≤ x2 then
    some I
  else
    ra Tm nM (N a0 7) 1 fun b2 =>
    gd (inb (((5 : Int32) * (I a0 8)) + x2) (Tm b2).2) <|
    bd (up2 I b2 (((5 : Int32) * (I a0 8)) + x2).toNatClampNeg (0 : Int32)) fun I4 =>
    k14 I4 (x2 + 1)
def Mo_makes_14 (N : HN) (a0 : Nat) (p1 : Int32) : Nat → HI → Int32 → Option (HI)
  | 0 => fun _ _ => none
  | n + 1 => Mo_makes_14b N a0 p1 (Mo_makes_14 N a0 p1 n)
def Mo_makes_0 (N : HN) (a0 : Nat) (p1 : Int32) (I : HI) : Option (HI) :=
  ra Tm nM (N a0 7) 1 fun b1 =>
  gd (inb ((5 : Int32) * (I a0 8)) (Tm b1).2) <|
  bd (up2 I b1 ((5 : Int32) * (I a0 8)).toNatClampNeg p1) fun I3 =>
  Mo_makes_14 N a0 p1 256 I3 (1 : Int32)
def Mo_makes (N : HN) (a0 : Nat) (p1 : Int32) (I : HI) : Option (HI) := Mo_makes_0 N a0 p1 I
def Mo_lays_0 (J : HJ) (N : HN) (a0 : Nat) (p1 : Int32) (I : HI) : Option (HI) :=
  ra Tm nM (N a0 7) 1 fun b1 =>
  gd (inb (((5 : Int32) * (I a0 8)) + p1) (Tm b1).2) <|
  bd (up2 I b1 (((5 : Int32) * (I a0 8)) + p1).toNatClampNeg ((J a0 9).toInt32)) fun I3 =>
  ra Tm nM (N a0 7) 1 fun b4 =>
  gd (inb ((((5 : Int32) * (I3 a0 8)) + p1) + (1 : Int32)) (Tm b4).2) <|
  bd (up2 I3 b4 ((((5 : Int32) * (I3 a0 8)) + p1) + (1 : Int32)).toNatClampNeg ((J a0 10).toInt32)) fun I6 =>
  some I6
def Mo_lays (J : HJ) (N : HN) (a0 : Nat) (p1 : Int32) (I : HI) : Option (HI) := Mo_lays_0 J N a0 p1 I
def Mo_top_23 (J : HJ) (a0 : Nat) (k4 : Int32 → Int32 → Option (Int32)) (x2 : Int32) (s0 : Int32) : Option (Int32) :=
  k4 s0 (x2 + 1)
def Mo_top_4b (J : HJ) (a0 : Nat) (k4 : Int32 → Int32 → Option (Int32)) (x1 : Int32) (x2 : Int32) : Option (Int32) :=
  if (7 : Int32) ≤ x2 then
    some x1
  else
    gd (inb x2 (Tm a0).2) <|
    if (J a0 x2.toNatClampNeg) = (0 : Int64) then
      Mo_top_23 J a0 k4 x2 x1
    else
      Mo_top_23 J a0 k4 x2 x2
def Mo_top_4 (J : HJ) (a0 : Nat) : Nat → Int32 → Int32 → Option (Int32)
  | 0 => fun _ _ => none
  | n + 1 => Mo_top_4b J a0 (Mo_top_4 J a0 n)
def Mo_top_0 (J : HJ) (a0 : Nat) : Option (Int32) :=
  Mo_top_4 J a0 256 (-1 : Int32) (0 : Int32)
def Mo_top (J : HJ) (a0 : Nat) : Option (Int32) := Mo_top_0 J a0
def Mo_content_26b  (a0 : Nat) (k26 : HJ → Int64 → Int32 → Option (HJ × Int64)) (J : HJ) (x1 : Int64) (x3 : Int32) : Option (HJ × Int64) :=
  if (7 : Int32) ≤ x3 then
    some (J, x1)
  else
    if x1 ≤ (1 : Int64) then
      some (J, x1)
    else
      gd (inb x3 (Tm a0).2) <|
      gd (decide (¬ x1 = 0)) <|
      gd (inb x3 (Tm a0).2) <|
      bd (up2 J a0 x3.toNatClampNeg ((J a0 x3.toNatClampNeg) / x1)) fun J6 =>
      k26 J6 x1 (x3 + 1)
def Mo_content_26  (a0 : Nat) : Nat → HJ → Int64 → Int32 → Option (HJ × Int64)
  | 0 => fun _ _ _ => none
  | n + 1 => Mo_content_26b a0 (Mo_content_26 a0 n)
def Mo_content_4b  (a0 : Nat) (k4 : HJ → Int64 → Int32 → Option (HJ × Int64)) (J : HJ) (x1 : Int64) (x3 : Int32) : Option (HJ × Int64) :=
  if (7 : Int32) ≤ x3 then
    Mo_content_26 a0 256 J x1 (0 : Int32)
  else
    gd (inb x3 (Tm a0).2) <|
    bn1 (Mo_divisor x1 (J a0 x3.toNatClampNeg)) fun r3 =>
    k4 J r3 (x3 + 1)
def Mo_content_4  (a0 : Nat) : Nat → HJ → Int64 → Int32 → Option (HJ × Int64)
  | 0 => fun _ _ _ => none
  | n + 1 => Mo_content_4b a0 (Mo_content_4 a0 n)
def Mo_content_0  (a0 : Nat) (J : HJ) : Option (HJ × Int64) :=
  Mo_content_4 a0 256 J (0 : Int64) (0 : Int32)
def Mo_content  (a0 : Nat) (J : HJ) : Option (HJ × Int64) := Mo_content_0 a0 J
def Mo_scales_0  (a0 : Nat) (p1 : Int64) (p3 : Int64) (p5 : Int64) (p7 : Int64) (J : HJ) : Option (HJ) :=
  bn1 (Mo_divisor p1 p7) fun r1 =>
  bn1 (Mo_divisor p5 p3) fun r3 =>
  gd (decide (¬ r1 = 0)) <|
  gd (decide (¬ r3 = 0)) <|
  bd (up2 J a0 13 ((p1 / r1) * (p5 / r3))) fun J7 =>
  gd (decide (¬ r3 = 0)) <|
  gd (decide (¬ r1 = 0)) <|
  bd (up2 J7 a0 14 ((p3 / r3) * (p7 / r1))) fun J10 =>
  if (0 : Int64) ≤ (J10 a0 14) then
    some J10
  else
    bd (up2 J10 a0 13 ((0 : Int64) - (J10 a0 13))) fun J12 =>
    bd (up2 J12 a0 14 ((0 : Int64) - (J12 a0 14))) fun J13 =>
    some J13
def Mo_scales  (a0 : Nat) (p1 : Int64) (p3 : Int64) (p5 : Int64) (p7 : Int64) (J : HJ) : Option (HJ) := Mo_scales_0 a0 p1 p3 p5 p7 J
def Mo_swaps_2b (N : HN) (a0 : Nat) (k2 : HJ → Int32 → Option (HJ)) (J : HJ) (x1 : Int32) : Option (HJ) :=
  if (7 : Int32) ≤ x1 then
    some J
  else
    ra Tm nM (N a0 11) 2 fun b2 =>
    gd (inb x1 (Tm b2).2) <|
    bd (J b2 x1.toNatClampNeg) fun v4 =>
    ra Tm nM (N a0 11) 2 fun b5 =>
    ra Tm nM (N a0 12) 2 fun b6 =>
    gd (inb x1 (Tm b6).2) <|
    gd (inb x1 (Tm b5).2) <|
    bd (up2 J b5 x1.toNatClampNeg (J b6 x1.toNatClampNeg)) fun J9 =>
    ra Tm nM (N a0 12) 2 fun b10 =>
    gd (inb x1 (Tm b10).2) <|
    bd (up2 J9 b10 x1.toNatClampNeg v4) fun J12 =>
    k2 J12 (x1 + 1)
def Mo_swaps_2 (N : HN) (a0 : Nat) : Nat → HJ → Int32 → Option (HJ)
  | 0 => fun _ _ => none
  | n + 1 => Mo_swaps_2b N a0 (Mo_swaps_2 N a0 n)
def Mo_swaps_0 (N : HN) (a0 : Nat) (J : HJ) : Option (HJ) :=
  Mo_swaps_2 N a0 256 J (0 : Int32)
def Mo_swaps (N : HN) (a0 : Nat) (J : HJ) : Option (HJ) := Mo_swaps_0 N a0 J
def Mo_dividesOnce_223 (N : HN) (a0 : Nat) (p1 : Int32) (p2 : Int32) (p3 : Int32) (k181 : HI → HJ → Int64 → Int64 → Int64 → Int64 → Int32 → Option (HI × HJ × Int32)) (I : HI) (J : HJ) (x5 : Int64) (x7 : Int64) (x9 : Int64) (x11 : Int64) (x17 : Int32) (bs0 : Nat) (s1 : Int32) (s2 : Int64) (s3 : Int64) : Option (HI × HJ × Int32) :=
  gd (inb s1 (Tm bs0).2) <|
  bd (up2 J bs0 s1.toNatClampNeg (s2 - s3)) fun J2 =>
  k181 I J2 x5 x7 x9 x11 (x17 + (-1))
def Mo_dividesOnce_181b (N : HN) (a0 : Nat) (p1 : Int32) (p2 : Int32) (p3 : Int32) (k181 : HI → HJ → Int64 → Int64 → Int64 → Int64 → Int32 → Option (HI × HJ × Int32)) (I : HI) (J : HJ) (x5 : Int64) (x7 : Int64) (x9 : Int64) (x11 : Int64) (x17 : Int32) : Option (HI × HJ × Int32) :=
  if x17 < 0 then
    ra Tm nM (N a0 11) 2 fun b2 =>
    bn2 (Mo_content b2 J) fun J3 r4 =>
    bn1 (Mo_swaps N a0 J3) fun J6 =>
    if r4 ≤ (0 : Int64) then
      some (I, J6, (0 : Int32))
    else
      bn1 (Mo_scales a0 x11 x9 x7 r4 J6) fun J9 =>
      some (I, J9, (0 : Int32))
  else
    ra Tm nM (N a0 11) 2 fun b11 =>
    ra Tm nM (N a0 11) 2 fun b12 =>
    gd (inb x17 (Tm b12).2) <|
    if x17 ≤ 0 then
      Mo_dividesOnce_223 N a0 p1 p2 p3 k181 I J x5 x7 x9 x11 x17 b11 x17 (x7 * (J b12 x17.toNatClampNeg)) (0 : Int64)
    else
      ra Tm nM (N a0 12) 2 fun b15 =>
      gd (inb (x17 - (1 : Int32)) (Tm b15).2) <|
      Mo_dividesOnce_223 N a0 p1 p2 p3 k181 I J x5 x7 x9 x11 x17 b11 x17 (x7 * (J b12 x17.toNatClampNeg)) (x5 * (J b15 (x17 - (1 : Int32)).toNatClampNeg))
def Mo_dividesOnce_181 (N : HN) (a0 : Nat) (p1 : Int32) (p2 : Int32) (p3 : Int32) : Nat → HI → HJ → Int64 → Int64 → Int64 → Int64 → Int32 → Option (HI × HJ × Int32)
  | 0 => fun _ _ _ _ _ _ _ => none
  | n + 1 => Mo_dividesOnce_181b N a0 p1 p2 p3 (Mo_dividesOnce_181 N a0 p1 p2 p3 n)
def Mo_dividesOnce_164 (N : HN) (a0 : Nat) (p1 : Int32) (p2 : Int32) (p3 : Int32) (I : HI) (J : HJ) (x5 : Int64) (x7 : Int64) (x9 : Int64) (x11 : Int64) (bs0 : Nat) (s1 : Int32) : Option (HI × HJ × Int32) :=
  bn1 (Mo_lays J N bs0 s1 I) fun I1 =>
  bd (up2 I1 a0 8 ((I1 a0 8) + (1 : Int32))) fun I3 =>
  Mo_dividesOnce_181 N a0 p1 p2 p3 256 I3 J x5 x7 x9 x11 (6 : Int32)
def Mo_dividesOnce_156 (N : HN) (a0 : Nat) (p1 : Int32) (p2 : Int32) (p3 : Int32) (I : HI) (J : HJ) (x5 : Int64) (x7 : Int64) (x9 : Int64) (x11 : Int64) (bs0 : Nat) (s1 : Int32) (s2 : Int32) : Option (HI × HJ × Int32) :=
  if s1 = s2 then
    Mo_dividesOnce_164 N a0 p1 p2 p3 I J x5 x7 x9 x11 bs0 (1 : Int32)
  else
    Mo_dividesOnce_164 N a0 p1 p2 p3 I J x5 x7 x9 x11 bs0 (3 : Int32)
def Mo_dividesOnce_147 (N : HN) (a0 : Nat) (p1 : Int32) (p2 : Int32) (p3 : Int32) (I : HI) (J : HJ) (x5 : Int64) (x7 : Int64) (x9 : Int64) (x11 : Int64) (bs0 : Nat) (s1 : Int32) : Option (HI × HJ × Int32) :=
  if p2 = 0 then
    Mo_dividesOnce_156 N a0 p1 p2 p3 I J x5 x7 x9 x11 bs0 s1 (1 : Int32)
  else
    Mo_dividesOnce_156 N a0 p1 p2 p3 I J x5 x7 x9 x11 bs0 s1 (0 : Int32)
def Mo_dividesOnce_119 (N : HN) (a0 : Nat) (p1 : Int32) (p2 : Int32) (p3 : Int32) (I : HI) (J : HJ) (x5 : Int64) (x7 : Int64) (x9 : Int64) (x11 : Int64) (bs0 : Nat) (s1 : Int64) (s2 : Int64) : Option (HI × HJ × Int32) :=
  bn1 (Mo_takes bs0 s1 s2 J) fun J1 =>
  bn1 (Mo_isHandy J1 a0) fun r3 =>
  if r3 = 0 then
    some (I, J1, (-5 : Int32))
  else
    bn1 (Mo_makes N a0 p2 I) fun I6 =>
    if p1 = 0 then
      Mo_dividesOnce_147 N a0 p1 p2 p3 I6 J1 x5 x7 x9 x11 a0 (1 : Int32)
    else
      Mo_dividesOnce_147 N a0 p1 p2 p3 I6 J1 x5 x7 x9 x11 a0 (0 : Int32)
def Mo_dividesOnce_108 (N : HN) (a0 : Nat) (p1 : Int32) (p2 : Int32) (p3 : Int32) (I : HI) (J : HJ) (x5 : Int64) (x7 : Int64) (x9 : Int64) (x11 : Int64) (x13 : Int64) (x15 : Int64) (bs0 : Nat) (s1 : Int64) : Option (HI × HJ × Int32) :=
  if p1 = 0 then
    Mo_dividesOnce_119 N a0 p1 p2 p3 I J x5 x7 x9 x11 bs0 s1 x15
  else
    Mo_dividesOnce_119 N a0 p1 p2 p3 I J x5 x7 x9 x11 bs0 s1 x13
def Mo_dividesOnce_0 (N : HN) (a0 : Nat) (p1 : Int32) (p2 : Int32) (p3 : Int32) (I : HI) (J : HJ) : Option (HI × HJ × Int32) :=
  ra Tm nM (N a0 12) 2 fun b1 =>
  bn1 (Mo_top J b1) fun r2 =>
  ra Tm nM (N a0 11) 2 fun b4 =>
  bn1 (Mo_top J b4) fun r5 =>
  if r5 = (r2 + (1 : Int32)) then
    ra Tm nM (N a0 11) 2 fun b8 =>
    gd (inb (r2 + (1 : Int32)) (Tm b8).2) <|
    bd (J b8 (r2 + (1 : Int32)).toNatClampNeg) fun v10 =>
    ra Tm nM (N a0 12) 2 fun b11 =>
    gd (inb r2 (Tm b11).2) <|
    bd (J b11 r2.toNatClampNeg) fun v13 =>
    bd (J a0 13) fun v14 =>
    bd (J a0 14) fun v15 =>
    bn1 (Mo_scales a0 v14 v15 v10 v13 J) fun J16 =>
    bd (J16 a0 13) fun v18 =>
    bd (J16 a0 14) fun v19 =>
    if (0 : Int64) < v18 then
      if p1 = 0 then
        Mo_dividesOnce_108 N a0 p1 p2 p3 I J16 v10 v13 v14 v15 v18 v19 a0 v18
      else
        Mo_dividesOnce_108 N a0 p1 p2 p3 I J16 v10 v13 v14 v15 v18 v19 a0 v19
    else
      some (I, J16, (-100 : Int32) - p3)
  else
    some (I, J, (-100 : Int32) - p3)
def Mo_dividesOnce (N : HN) (a0 : Nat) (p1 : Int32) (p2 : Int32) (p3 : Int32) (I : HI) (J : HJ) : Option (HI × HJ × Int32) := Mo_dividesOnce_0 N a0 p1 p2 p3 I J
def Mo_divides_168 (N : HN) (a0 : Nat) (p1 : Int32) (I : HI) (J : HJ) : Option (HI × HJ × Int32) :=
  ra Tm nM (N a0 7) 1 fun b1 =>
  bn1 (Mo_valuesIn I b1 (I a0 8)) fun r2 =>
  some (I, J, r2)
def Mo_divides_122b (N : HN) (a0 : Nat) (p1 : Int32) (k122 : HI → HJ → Int32 → Int32 → Option (HI × HJ × Int32)) (I : HI) (J : HJ) (x2 : Int32) (x7 : Int32) : Option (HI × HJ × Int32) :=
  if (8 : Int32) ≤ x7 then
    Mo_divides_168 N a0 p1 I J
  else
    ra Tm nM (N a0 12) 2 fun b2 =>
    bn1 (Mo_top J b2) fun r3 =>
    if r3 = (-1 : Int32) then
      Mo_divides_168 N a0 p1 I J
    else
      bn3 (Mo_dividesOnce N a0 p1 x2 x7 I J) fun I6 J7 r8 =>
      if r8 = 0 then
        bd ((1 : Int32) - x2) fun v11 =>
        k122 I6 J7 v11 (x7 + 1)
      else
        some (I6, J7, r8)
def Mo_divides_122 (N : HN) (a0 : Nat) (p1 : Int32) : Nat → HI → HJ → Int32 → Int32 → Option (HI × HJ × Int32)
  | 0 => fun _ _ _ _ => none
  | n + 1 => Mo_divides_122b N a0 p1 (Mo_divides_122 N a0 p1 n)
def Mo_divides_88 (N : HN) (a0 : Nat) (p1 : Int32) (I : HI) (J : HJ) (x2 : Int32) : Option (HI × HJ × Int32) :=
  ra Tm nM (N a0 11) 2 fun b1 =>
  bn2 (Mo_content b1 J) fun J2 r3 =>
  ra Tm nM (N a0 12) 2 fun b5 =>
  bn2 (Mo_content b5 J2) fun J6 r7 =>
  bn1 (Mo_scales a0 r3 r7 (1 : Int64) (1 : Int64) J6) fun J9 =>
  bd (up2 I a0 8 (0 : Int32)) fun I11 =>
  Mo_divides_122 N a0 p1 256 I11 J9 x2 (0 : Int32)
def Mo_divides_78 (N : HN) (a0 : Nat) (p1 : Int32) (I : HI) (J : HJ) (s0 : Int32) : Option (HI × HJ × Int32) :=
  if s0 = (1 : Int32) then
    bn1 (Mo_swaps N a0 J) fun J2 =>
    Mo_divides_88 N a0 p1 I J2 s0
  else
    Mo_divides_88 N a0 p1 I J s0
def Mo_divides_20 (N : HN) (a0 : Nat) (p1 : Int32) (k2 : HI → HJ → Int32 → Option (HI × HJ × Int32)) (I : HI) (J : HJ) (x2 : Int32) (s0 : Int32) : Option (HI × HJ × Int32) :=
  ra Tm nM (N a0 11) 2 fun b1 =>
  ra Tm nM (N a0 4) 1 fun b2 =>
  gd (inb s0 (Tm b2).2) <|
  gd (inb x2 (Tm b1).2) <|
  bd (up2 J b1 x2.toNatClampNeg ((I b2 s0.toNatClampNeg).toInt64)) fun J5 =>
  ra Tm nM (N a0 12) 2 fun b6 =>
  ra Tm nM (N a0 4) 1 fun b7 =>
  gd (inb ((7 : Int32) + s0) (Tm b7).2) <|
  gd (inb x2 (Tm b6).2) <|
  bd (up2 J5 b6 x2.toNatClampNeg ((I b7 ((7 : Int32) + s0).toNatClampNeg).toInt64)) fun J10 =>
  k2 I J10 (x2 + 1)
def Mo_divides_2b (N : HN) (a0 : Nat) (p1 : Int32) (k2 : HI → HJ → Int32 → Option (HI × HJ × Int32)) (I : HI) (J : HJ) (x2 : Int32) : Option (HI × HJ × Int32) :=
  if (7 : Int32) ≤ x2 then
    ra Tm nM (N a0 11) 2 fun b2 =>
    bn1 (Mo_top J b2) fun r3 =>
    ra Tm nM (N a0 12) 2 fun b5 =>
    bn1 (Mo_top J b5) fun r6 =>
    if r3 ≤ r6 then
      Mo_divides_78 N a0 p1 I J (1 : Int32)
    else
      Mo_divides_78 N a0 p1 I J (0 : Int32)
  else
    if p1 = 0 then
      Mo_divides_20 N a0 p1 k2 I J x2 x2
    else
      Mo_divides_20 N a0 p1 k2 I J x2 ((6 : Int32) - x2)
def Mo_divides_2 (N : HN) (a0 : Nat) (p1 : Int32) : Nat → HI → HJ → Int32 → Option (HI × HJ × Int32)
  | 0 => fun _ _ _ => none
  | n + 1 => Mo_divides_2b N a0 p1 (Mo_divides_2 N a0 p1 n)
def Mo_divides_0 (N : HN) (a0 : Nat) (p1 : Int32) (I : HI) (J : HJ) : Option (HI × HJ × Int32) :=
  Mo_divides_2 N a0 p1 256 I J (0 : Int32)
def Mo_divides (N : HN) (a0 : Nat) (p1 : Int32) (I : HI) (J : HJ) : Option (HI × HJ × Int32) := Mo_divides_0 N a0 p1 I J
def Mo_squares_62 (I : HI) (N : HN) (a0 : Nat) (p1 : Int32) (p2 : Int32) (a3 : Nat) (k24 : HJ → Int32 → Option (HJ)) (J : HJ) (x4 : Int32) (s0 : Int32) : Option (HJ) :=
  gd (inb s0 (Tm a3).2) <|
  ra Tm nM (N a0 4) 1 fun b2 =>
  gd (inb (((7 : Int32) * p1) + x4) (Tm b2).2) <|
  gd (inb s0 (Tm a3).2) <|
  bd (up2 J a3 s0.toNatClampNeg ((J a3 s0.toNatClampNeg) + ((I b2 (((7 : Int32) * p1) + x4).toNatClampNeg).toInt64))) fun J5 =>
  k24 J5 (x4 + 1)
def Mo_squares_24b (I : HI) (N : HN) (a0 : Nat) (p1 : Int32) (p2 : Int32) (a3 : Nat) (k24 : HJ → Int32 → Option (HJ)) (J : HJ) (x4 : Int32) : Option (HJ) :=
  if (7 : Int32) ≤ x4 then
    some J
  else
    if (x4 - x4 / (2 : Int32) * (2 : Int32)) = 0 then
      Mo_squares_62 I N a0 p1 p2 a3 k24 J x4 (x4 / (2 : Int32))
    else
      if p2 = 0 then
        Mo_squares_62 I N a0 p1 p2 a3 k24 J x4 (x4 / (2 : Int32))
      else
        Mo_squares_62 I N a0 p1 p2 a3 k24 J x4 ((x4 + (1 : Int32)) / (2 : Int32))
def Mo_squares_24 (I : HI) (N : HN) (a0 : Nat) (p1 : Int32) (p2 : Int32) (a3 : Nat) : Nat → HJ → Int32 → Option (HJ)
  | 0 => fun _ _ => none
  | n + 1 => Mo_squares_24b I N a0 p1 p2 a3 (Mo_squares_24 I N a0 p1 p2 a3 n)
def Mo_squares_3b (I : HI) (N : HN) (a0 : Nat) (p1 : Int32) (p2 : Int32) (a3 : Nat) (k3 : HJ → Int32 → Option (HJ)) (J : HJ) (x4 : Int32) : Option (HJ) :=
  if (7 : Int32) ≤ x4 then
    Mo_squares_24 I N a0 p1 p2 a3 256 J (0 : Int32)
  else
    gd (inb x4 (Tm a3).2) <|
    bd (up2 J a3 x4.toNatClampNeg (0 : Int64)) fun J3 =>
    k3 J3 (x4 + 1)
def Mo_squares_3 (I : HI) (N : HN) (a0 : Nat) (p1 : Int32) (p2 : Int32) (a3 : Nat) : Nat → HJ → Int32 → Option (HJ)
  | 0 => fun _ _ => none
  | n + 1 => Mo_squares_3b I N a0 p1 p2 a3 (Mo_squares_3 I N a0 p1 p2 a3 n)
def Mo_squares_0 (I : HI) (N : HN) (a0 : Nat) (p1 : Int32) (p2 : Int32) (a3 : Nat) (J : HJ) : Option (HJ) :=
  Mo_squares_3 I N a0 p1 p2 a3 256 J (0 : Int32)
def Mo_squares (I : HI) (N : HN) (a0 : Nat) (p1 : Int32) (p2 : Int32) (a3 : Nat) (J : HJ) : Option (HJ) := Mo_squares_0 I N a0 p1 p2 a3 J
def Mo_downs_2b  (a0 : Nat) (k2 : HJ → Int32 → Option (HJ)) (J : HJ) (x1 : Int32) : Option (HJ) :=
  if (6 : Int32) ≤ x1 then
    gd (inb (6 : Int32) (Tm a0).2) <|
    bd (up2 J a0 (6 : Int32).toNatClampNeg (0 : Int64)) fun J3 =>
    some J3
  else
    gd (inb (x1 + (1 : Int32)) (Tm a0).2) <|
    gd (inb x1 (Tm a0).2) <|
    bd (up2 J a0 x1.toNatClampNeg (J a0 (x1 + (1 : Int32)).toNatClampNeg)) fun J6 =>
    k2 J6 (x1 + 1)
def Mo_downs_2  (a0 : Nat) : Nat → HJ → Int32 → Option (HJ)
  | 0 => fun _ _ => none
  | n + 1 => Mo_downs_2b a0 (Mo_downs_2 a0 n)
def Mo_downs_0  (a0 : Nat) (J : HJ) : Option (HJ) :=
  Mo_downs_2 a0 256 J (0 : Int32)
def Mo_downs  (a0 : Nat) (J : HJ) : Option (HJ) := Mo_downs_0 a0 J
def Mo_valueAt_12b (J : HJ) (a0 : Nat) (p1 : Int64) (p3 : Int64) (k12 : Int32 → Int64 → Int32 → Option (Int64)) (x5 : Int32) (x6 : Int64) (x8 : Int32) : Option (Int64) :=
  if x5 < x8 then
    some x6
  else
    gd (inb x8 (Tm a0).2) <|
    bn1 (Mo_power p1 x8) fun r3 =>
    bn1 (Mo_power p3 (x5 - x8)) fun r5 =>
    bd (x6 + (((J a0 x8.toNatClampNeg) * r3) * r5)) fun v7 =>
    k12 x5 v7 (x8 + 1)
def Mo_valueAt_12 (J : HJ) (a0 : Nat) (p1 : Int64) (p3 : Int64) : Nat → Int32 → Int64 → Int32 → Option (Int64)
  | 0 => fun _ _ _ => none
  | n + 1 => Mo_valueAt_12b J a0 p1 p3 (Mo_valueAt_12 J a0 p1 p3 n)
def Mo_valueAt_0 (J : HJ) (a0 : Nat) (p1 : Int64) (p3 : Int64) : Option (Int64) :=
  bn1 (Mo_top J a0) fun r1 =>
  Mo_valueAt_12 J a0 p1 p3 256 r1 (0 : Int64) (0 : Int32)
def Mo_valueAt (J : HJ) (a0 : Nat) (p1 : Int64) (p3 : Int64) : Option (Int64) := Mo_valueAt_0 J a0 p1 p3
def Mo_takesOut_83b (N : HN) (a0 : Nat) (p1 : Int64) (p3 : Int64) (k83 : HJ → Int32 → Int32 → Option (HJ × Int32)) (J : HJ) (x5 : Int32) (x8 : Int32) : Option (HJ × Int32) :=
  if x5 ≤ x8 then
    ra Tm nM (N a0 17) 2 fun b2 =>
    gd (inb x5 (Tm b2).2) <|
    bd (up2 J b2 x5.toNatClampNeg (0 : Int64)) fun J4 =>
    some (J4, (1 : Int32))
  else
    ra Tm nM (N a0 17) 2 fun b5 =>
    ra Tm nM (N a0 18) 2 fun b6 =>
    gd (inb x8 (Tm b6).2) <|
    gd (inb x8 (Tm b5).2) <|
    bd (up2 J b5 x8.toNatClampNeg (J b6 x8.toNatClampNeg)) fun J9 =>
    k83 J9 x5 (x8 + 1)
def Mo_takesOut_83 (N : HN) (a0 : Nat) (p1 : Int64) (p3 : Int64) : Nat → HJ → Int32 → Int32 → Option (HJ × Int32)
  | 0 => fun _ _ _ => none
  | n + 1 => Mo_takesOut_83b N a0 p1 p3 (Mo_takesOut_83 N a0 p1 p3 n)
def Mo_takesOut_38b (N : HN) (a0 : Nat) (p1 : Int64) (p3 : Int64) (k38 : HJ → Int32 → Int64 → Int32 → Option (HJ × Int32)) (J : HJ) (x5 : Int32) (x6 : Int64) (x8 : Int32) : Option (HJ × Int32) :=
  if x8 ≤ 0 then
    Mo_takesOut_83 N a0 p1 p3 256 J x5 (0 : Int32)
  else
    ra Tm nM (N a0 17) 2 fun b2 =>
    gd (inb x8 (Tm b2).2) <|
    gd (decide (¬ p3 = 0)) <|
    bd (((J b2 x8.toNatClampNeg) + (p1 * x6)) / p3) fun v5 =>
    ra Tm nM (N a0 18) 2 fun b6 =>
    gd (inb (x8 - (1 : Int32)) (Tm b6).2) <|
    bd (up2 J b6 (x8 - (1 : Int32)).toNatClampNeg v5) fun J8 =>
    k38 J8 x5 v5 (x8 + (-1))
def Mo_takesOut_38 (N : HN) (a0 : Nat) (p1 : Int64) (p3 : Int64) : Nat → HJ → Int32 → Int64 → Int32 → Option (HJ × Int32)
  | 0 => fun _ _ _ _ => none
  | n + 1 => Mo_takesOut_38b N a0 p1 p3 (Mo_takesOut_38 N a0 p1 p3 n)
def Mo_takesOut_0 (N : HN) (a0 : Nat) (p1 : Int64) (p3 : Int64) (J : HJ) : Option (HJ × Int32) :=
  ra Tm nM (N a0 17) 2 fun b1 =>
  bn1 (Mo_top J b1) fun r2 =>
  if r2 < (1 : Int32) then
    some (J, (0 : Int32))
  else
    ra Tm nM (N a0 17) 2 fun b5 =>
    bn1 (Mo_valueAt J b5 p1 p3) fun r6 =>
    if r6 = (0 : Int64) then
      Mo_takesOut_38 N a0 p1 p3 256 J r2 (0 : Int64) r2
    else
      some (J, (0 : Int32))
def Mo_takesOut (N : HN) (a0 : Nat) (p1 : Int64) (p3 : Int64) (J : HJ) : Option (HJ × Int32) := Mo_takesOut_0 N a0 p1 p3 J
def Mo_candidate_145  (p0 : Int32) (p1 : Int32) (k17 : Int32 → Int32 → Int32 → Int32 → Int32 → Option (Int32)) (k30 : Int32 → Int32 → Int32 → Int32 → Int32 → Int32 → Option (Int32)) (x2 : Int32) (x5 : Int32) (x6 : Int32) (x7 : Int32) (x8 : Int32) (s0 : Int32) : Option (Int32) :=
  k30 x2 s0 x5 x6 x7 (x8 + 1)
def Mo_candidate_132  (p0 : Int32) (p1 : Int32) (k17 : Int32 → Int32 → Int32 → Int32 → Int32 → Option (Int32)) (k30 : Int32 → Int32 → Int32 → Int32 → Int32 → Int32 → Option (Int32)) (x3 : Int32) (x4 : Int32) (x5 : Int32) (x6 : Int32) (x7 : Int32) (x8 : Int32) (x10 : Int32) (s0 : Int32) : Option (Int32) :=
  if x4 = (-1 : Int32) then
    Mo_candidate_145 p0 p1 k17 k30 s0 x5 x6 x7 x8 x3
  else
    Mo_candidate_145 p0 p1 k17 k30 s0 x5 x6 x7 x8 x10
def Mo_candidate_118  (p0 : Int32) (p1 : Int32) (k17 : Int32 → Int32 → Int32 → Int32 → Int32 → Option (Int32)) (k30 : Int32 → Int32 → Int32 → Int32 → Int32 → Int32 → Option (Int32)) (x2 : Int32) (x3 : Int32) (x5 : Int32) (x6 : Int32) (x7 : Int32) (x8 : Int32) (x9 : Int32) (x10 : Int32) (s0 : Int32) : Option (Int32) :=
  if s0 = (-1 : Int32) then
    Mo_candidate_132 p0 p1 k17 k30 x3 s0 x5 x6 x7 x8 x10 x2
  else
    Mo_candidate_132 p0 p1 k17 k30 x3 s0 x5 x6 x7 x8 x10 x9
def Mo_candidate_117  (p0 : Int32) (p1 : Int32) (k17 : Int32 → Int32 → Int32 → Int32 → Int32 → Option (Int32)) (k30 : Int32 → Int32 → Int32 → Int32 → Int32 → Int32 → Option (Int32)) (x2 : Int32) (x3 : Int32) (x5 : Int32) (x6 : Int32) (x7 : Int32) (x8 : Int32) (x9 : Int32) (x10 : Int32) : Option (Int32) :=
  Mo_candidate_118 p0 p1 k17 k30 x2 x3 x5 x6 x7 x8 x9 x10 (-1 : Int32)
def Mo_candidate_112  (p0 : Int32) (p1 : Int32) (k17 : Int32 → Int32 → Int32 → Int32 → Int32 → Option (Int32)) (k30 : Int32 → Int32 → Int32 → Int32 → Int32 → Int32 → Option (Int32)) (x2 : Int32) (x3 : Int32) (x5 : Int32) (x6 : Int32) (x7 : Int32) (x8 : Int32) (x9 : Int32) (x10 : Int32) : Option (Int32) :=
  Mo_candidate_118 p0 p1 k17 k30 x2 x3 x5 x6 x7 x8 x9 x10 x8
def Mo_candidate_90  (p0 : Int32) (p1 : Int32) (k17 : Int32 → Int32 → Int32 → Int32 → Int32 → Option (Int32)) (k30 : Int32 → Int32 → Int32 → Int32 → Int32 → Int32 → Option (Int32)) (x2 : Int32) (x3 : Int32) (x5 : Int32) (x6 : Int32) (x7 : Int32) (x8 : Int32) (x9 : Int32) (x10 : Int32) (s0 : Int32) : Option (Int32) :=
  if s0 = 0 then
    Mo_candidate_117 p0 p1 k17 k30 x2 x3 x5 x6 x7 x8 x9 x10
  else
    if x3 = 0 then
      Mo_candidate_112 p0 p1 k17 k30 x2 x3 x5 x6 x7 x8 x9 x10
    else
      if (x2 * x10) ≤ (x9 * x3) then
        Mo_candidate_117 p0 p1 k17 k30 x2 x3 x5 x6 x7 x8 x9 x10
      else
        Mo_candidate_112 p0 p1 k17 k30 x2 x3 x5 x6 x7 x8 x9 x10
def Mo_candidate_60  (p0 : Int32) (p1 : Int32) (k17 : Int32 → Int32 → Int32 → Int32 → Int32 → Option (Int32)) (k30 : Int32 → Int32 → Int32 → Int32 → Int32 → Int32 → Option (Int32)) (x2 : Int32) (x3 : Int32) (x5 : Int32) (x6 : Int32) (x7 : Int32) (x8 : Int32) (s0 : Int32) (s1 : Int32) : Option (Int32) :=
  bd (s0 * s1) fun v1 =>
  bd ((x8 - x8 / (9 : Int32) * (9 : Int32)) + (1 : Int32)) fun v2 =>
  if (v1 * x6) ≤ (x5 * v2) then
    Mo_candidate_90 p0 p1 k17 k30 x2 x3 x5 x6 x7 x8 v1 v2 (0 : Int32)
  else
    Mo_candidate_90 p0 p1 k17 k30 x2 x3 x5 x6 x7 x8 v1 v2 (1 : Int32)
def Mo_candidate_30b  (p0 : Int32) (p1 : Int32) (k17 : Int32 → Int32 → Int32 → Int32 → Int32 → Option (Int32)) (k30 : Int32 → Int32 → Int32 → Int32 → Int32 → Int32 → Option (Int32)) (x2 : Int32) (x3 : Int32) (x5 : Int32) (x6 : Int32) (x7 : Int32) (x8 : Int32) : Option (Int32) :=
  if (162 : Int32) ≤ x8 then
    if x3 = 0 then
      some (0 : Int32)
    else
      k17 x2 x3 x2 x3 (x7 + 1)
  else
    if (81 : Int32) ≤ x8 then
      Mo_candidate_60 p0 p1 k17 k30 x2 x3 x5 x6 x7 x8 (((x8 - x8 / (81 : Int32) * (81 : Int32)) / (9 : Int32)) + (1 : Int32)) (1 : Int32)
    else
      Mo_candidate_60 p0 p1 k17 k30 x2 x3 x5 x6 x7 x8 (((x8 - x8 / (81 : Int32) * (81 : Int32)) / (9 : Int32)) + (1 : Int32)) (-1 : Int32)
def Mo_candidate_30  (p0 : Int32) (p1 : Int32) (k17 : Int32 → Int32 → Int32 → Int32 → Int32 → Option (Int32)) : Nat → Int32 → Int32 → Int32 → Int32 → Int32 → Int32 → Option (Int32)
  | 0 => fun _ _ _ _ _ _ => none
  | n + 1 => Mo_candidate_30b p0 p1 k17 (Mo_candidate_30 p0 p1 k17 n)
def Mo_candidate_17b  (p0 : Int32) (p1 : Int32) (k17 : Int32 → Int32 → Int32 → Int32 → Int32 → Option (Int32)) (x2 : Int32) (x3 : Int32) (x5 : Int32) (x6 : Int32) (x7 : Int32) : Option (Int32) :=
  if p0 < x7 then
    if p1 = 0 then
      some x2
    else
      some x3
  else
    Mo_candidate_30 p0 p1 k17 256 (0 : Int32) (0 : Int32) x5 x6 x7 (0 : Int32)
def Mo_candidate_17  (p0 : Int32) (p1 : Int32) : Nat → Int32 → Int32 → Int32 → Int32 → Int32 → Option (Int32)
  | 0 => fun _ _ _ _ _ => none
  | n + 1 => Mo_candidate_17b p0 p1 (Mo_candidate_17 p0 p1 n)
def Mo_candidate_0  (p0 : Int32) (p1 : Int32) : Option (Int32) :=
  Mo_candidate_17 p0 p1 256 (0 : Int32) (0 : Int32) (-10 : Int32) (1 : Int32) (0 : Int32)
def Mo_candidate  (p0 : Int32) (p1 : Int32) : Option (Int32) := Mo_candidate_0 p0 p1
def Mo_candidates_10b (N : HN) (a0 : Nat) (k10 : HI → Int32 → Option (HI)) (I : HI) (x1 : Int32) : Option (HI) :=
  if (120 : Int32) ≤ x1 then
    some I
  else
    bn1 (Mo_candidate x1 (1 : Int32)) fun r2 =>
    if r2 = 0 then
      some I
    else
      ra Tm nM (N a0 19) 1 fun b5 =>
      bn1 (Mo_candidate x1 (0 : Int32)) fun r6 =>
      gd (inb x1 (Tm b5).2) <|
      bd (up2 I b5 x1.toNatClampNeg r6) fun I9 =>
      ra Tm nM (N a0 20) 1 fun b10 =>
      gd (inb x1 (Tm b10).2) <|
      bd (up2 I9 b10 x1.toNatClampNeg r2) fun I12 =>
      bd (up2 I12 a0 21 ((I12 a0 21) + (1 : Int32))) fun I13 =>
      k10 I13 (x1 + 1)
def Mo_candidates_10 (N : HN) (a0 : Nat) : Nat → HI → Int32 → Option (HI)
  | 0 => fun _ _ => none
  | n + 1 => Mo_candidates_10b N a0 (Mo_candidates_10 N a0 n)
def Mo_candidates_0 (N : HN) (a0 : Nat) (I : HI) : Option (HI) :=
  if (I a0 21) ≤ 0 then
    Mo_candidates_10 N a0 256 I (0 : Int32)
  else
    some I
def Mo_candidates (N : HN) (a0 : Nat) (I : HI) : Option (HI) := Mo_candidates_0 N a0 I
def Mo_isDark_98 (I : HI) (N : HN) (a0 : Nat) (k49 : HJ → Int32 → Option (HJ × Int32)) (J : HJ) (x1 : Int32) : Option (HJ × Int32) :=
  k49 J (x1 + 1)
def Mo_isDark_61b (I : HI) (N : HN) (a0 : Nat) (k49 : HJ → Int32 → Option (HJ × Int32)) (k61 : HJ → Int32 → Int32 → Int32 → Option (HJ × Int32)) (J : HJ) (x1 : Int32) (x2 : Int32) (x3 : Int32) : Option (HJ × Int32) :=
  if (7 : Int32) ≤ x3 then
    Mo_isDark_98 I N a0 k49 J x1
  else
    if x2 = 0 then
      Mo_isDark_98 I N a0 k49 J x1
    else
      ra Tm nM (N a0 19) 1 fun b3 =>
      gd (inb x1 (Tm b3).2) <|
      ra Tm nM (N a0 20) 1 fun b5 =>
      gd (inb x1 (Tm b5).2) <|
      bn2 (Mo_takesOut N a0 ((0 : Int64) - ((I b3 x1.toNatClampNeg).toInt64)) ((I b5 x1.toNatClampNeg).toInt64) J) fun J7 r8 =>
      k61 J7 x1 r8 (x3 + 1)
def Mo_isDark_61 (I : HI) (N : HN) (a0 : Nat) (k49 : HJ → Int32 → Option (HJ × Int32)) : Nat → HJ → Int32 → Int32 → Int32 → Option (HJ × Int32)
  | 0 => fun _ _ _ _ => none
  | n + 1 => Mo_isDark_61b I N a0 k49 (Mo_isDark_61 I N a0 k49 n)
def Mo_isDark_49b (I : HI) (N : HN) (a0 : Nat) (k49 : HJ → Int32 → Option (HJ × Int32)) (J : HJ) (x1 : Int32) : Option (HJ × Int32) :=
  if (I a0 21) ≤ x1 then
    ra Tm nM (N a0 17) 2 fun b2 =>
    bn1 (Mo_top J b2) fun r3 =>
    if r3 ≤ 0 then
      some (J, (0 : Int32))
    else
      some (J, (1 : Int32))
  else
    Mo_isDark_61 I N a0 k49 256 J x1 (1 : Int32) (0 : Int32)
def Mo_isDark_49 (I : HI) (N : HN) (a0 : Nat) : Nat → HJ → Int32 → Option (HJ × Int32)
  | 0 => fun _ _ => none
  | n + 1 => Mo_isDark_49b I N a0 (Mo_isDark_49 I N a0 n)
def Mo_isDark_26b (I : HI) (N : HN) (a0 : Nat) (k26 : HJ → Option (HJ × Int32)) (J : HJ) : Option (HJ × Int32) :=
  ra Tm nM (N a0 17) 2 fun b1 =>
  gd (inb (0 : Int32) (Tm b1).2) <|
  if (J b1 (0 : Int32).toNatClampNeg) = (0 : Int64) then
    ra Tm nM (N a0 17) 2 fun b4 =>
    bn1 (Mo_downs b4 J) fun J5 =>
    k26 J5
  else
    Mo_isDark_49 I N a0 256 J (0 : Int32)
def Mo_isDark_26 (I : HI) (N : HN) (a0 : Nat) : Nat → HJ → Option (HJ × Int32)
  | 0 => fun _ => none
  | n + 1 => Mo_isDark_26b I N a0 (Mo_isDark_26 I N a0 n)
def Mo_isDark_2b (I : HI) (N : HN) (a0 : Nat) (k2 : HJ → Int32 → Option (HJ × Int32)) (J : HJ) (x1 : Int32) : Option (HJ × Int32) :=
  if (7 : Int32) ≤ x1 then
    Mo_isDark_26 I N a0 256 J
  else
    ra Tm nM (N a0 17) 2 fun b2 =>
    ra Tm nM (N a0 16) 2 fun b3 =>
    gd (inb x1 (Tm b3).2) <|
    gd (inb x1 (Tm b2).2) <|
    bd (up2 J b2 x1.toNatClampNeg (J b3 x1.toNatClampNeg)) fun J6 =>
    k2 J6 (x1 + 1)
def Mo_isDark_2 (I : HI) (N : HN) (a0 : Nat) : Nat → HJ → Int32 → Option (HJ × Int32)
  | 0 => fun _ _ => none
  | n + 1 => Mo_isDark_2b I N a0 (Mo_isDark_2 I N a0 n)
def Mo_isDark_0 (I : HI) (N : HN) (a0 : Nat) (J : HJ) : Option (HJ × Int32) :=
  Mo_isDark_2 I N a0 256 J (0 : Int32)
def Mo_isDark (I : HI) (N : HN) (a0 : Nat) (J : HJ) : Option (HJ × Int32) := Mo_isDark_0 I N a0 J
def Mo_isRoot_0 (I : HI) (J : HJ) (N : HN) (a0 : Nat) (p1 : Int32) : Option (Int32) :=
  ra Tm nM (N a0 16) 2 fun b1 =>
  ra Tm nM (N a0 19) 1 fun b2 =>
  gd (inb p1 (Tm b2).2) <|
  ra Tm nM (N a0 20) 1 fun b4 =>
  gd (inb p1 (Tm b4).2) <|
  bn1 (Mo_valueAt J b1 ((0 : Int64) - ((I b2 p1.toNatClampNeg).toInt64)) ((I b4 p1.toNatClampNeg).toInt64)) fun r6 =>
  if r6 = (0 : Int64) then
    some (1 : Int32)
  else
    some (0 : Int32)
def Mo_isRoot (I : HI) (J : HJ) (N : HN) (a0 : Nat) (p1 : Int32) : Option (Int32) := Mo_isRoot_0 I J N a0 p1
def Mo_slopes_2b (N : HN) (a0 : Nat) (k2 : HJ → Int32 → Option (HJ)) (J : HJ) (x1 : Int32) : Option (HJ) :=
  if (6 : Int32) ≤ x1 then
    ra Tm nM (N a0 22) 2 fun b2 =>
    gd (inb (6 : Int32) (Tm b2).2) <|
    bd (up2 J b2 (6 : Int32).toNatClampNeg (0 : Int64)) fun J4 =>
    some J4
  else
    ra Tm nM (N a0 22) 2 fun b5 =>
    ra Tm nM (N a0 16) 2 fun b6 =>
    gd (inb (x1 + (1 : Int32)) (Tm b6).2) <|
    gd (inb x1 (Tm b5).2) <|
    bd (up2 J b5 x1.toNatClampNeg (((x1 + (1 : Int32)).toInt64) * (J b6 (x1 + (1 : Int32)).toNatClampNeg))) fun J9 =>
    k2 J9 (x1 + 1)
def Mo_slopes_2 (N : HN) (a0 : Nat) : Nat → HJ → Int32 → Option (HJ)
  | 0 => fun _ _ => none
  | n + 1 => Mo_slopes_2b N a0 (Mo_slopes_2 N a0 n)
def Mo_slopes_0 (N : HN) (a0 : Nat) (J : HJ) : Option (HJ) :=
  Mo_slopes_2 N a0 256 J (0 : Int32)
def Mo_slopes (N : HN) (a0 : Nat) (J : HJ) : Option (HJ) := Mo_slopes_0 N a0 J
def Mo_alone_62 (N : HN) (a0 : Nat) (p1 : Int32) (p2 : Int32) (p3 : Int32) (p4 : Int64) (p6 : Int64) (I : HI) (J : HJ) (bs0 : Nat) (s1 : Int64) (s2 : Int64) : Option (HI × HJ × Int32) :=
  bn1 (Mo_takes bs0 s1 s2 J) fun J1 =>
  bn1 (Mo_isHandy J1 a0) fun r3 =>
  if r3 = 0 then
    some (I, J1, (-5 : Int32))
  else
    bn1 (Mo_makes N a0 (p1 - (2 : Int32)) I) fun I6 =>
    bn1 (Mo_lays J1 N a0 p2 I6) fun I8 =>
    bd (up2 I8 a0 8 ((I8 a0 8) + (1 : Int32))) fun I10 =>
    some (I10, J1, (0 : Int32))
def Mo_alone_51 (N : HN) (a0 : Nat) (p1 : Int32) (p2 : Int32) (p3 : Int32) (p4 : Int64) (p6 : Int64) (I : HI) (J : HJ) (bs0 : Nat) (s1 : Int64) : Option (HI × HJ × Int32) :=
  if p3 = 0 then
    Mo_alone_62 N a0 p1 p2 p3 p4 p6 I J bs0 s1 p6
  else
    Mo_alone_62 N a0 p1 p2 p3 p4 p6 I J bs0 s1 p4
def Mo_alone_34 (N : HN) (a0 : Nat) (p1 : Int32) (p2 : Int32) (p3 : Int32) (p4 : Int64) (p6 : Int64) (I : HI) (J : HJ) : Option (HI × HJ × Int32) :=
  some (I, J, (-100 : Int32) - p3)
def Mo_alone_31 (N : HN) (a0 : Nat) (p1 : Int32) (p2 : Int32) (p3 : Int32) (p4 : Int64) (p6 : Int64) (I : HI) (J : HJ) (s0 : Int32) (s1 : Int32) : Option (HI × HJ × Int32) :=
  if s0 = s1 then
    if p3 = 0 then
      Mo_alone_51 N a0 p1 p2 p3 p4 p6 I J a0 p4
    else
      Mo_alone_51 N a0 p1 p2 p3 p4 p6 I J a0 p6
  else
    Mo_alone_34 N a0 p1 p2 p3 p4 p6 I J
def Mo_alone_19 (N : HN) (a0 : Nat) (p1 : Int32) (p2 : Int32) (p3 : Int32) (p4 : Int64) (p6 : Int64) (I : HI) (J : HJ) (s0 : Int32) : Option (HI × HJ × Int32) :=
  if (0 : Int64) ≤ p6 then
    Mo_alone_31 N a0 p1 p2 p3 p4 p6 I J s0 (0 : Int32)
  else
    Mo_alone_31 N a0 p1 p2 p3 p4 p6 I J s0 (1 : Int32)
def Mo_alone_0 (N : HN) (a0 : Nat) (p1 : Int32) (p2 : Int32) (p3 : Int32) (p4 : Int64) (p6 : Int64) (I : HI) (J : HJ) : Option (HI × HJ × Int32) :=
  if p4 = (0 : Int64) then
    Mo_alone_34 N a0 p1 p2 p3 p4 p6 I J
  else
    if (0 : Int64) ≤ p4 then
      Mo_alone_19 N a0 p1 p2 p3 p4 p6 I J (0 : Int32)
    else
      Mo_alone_19 N a0 p1 p2 p3 p4 p6 I J (1 : Int32)
def Mo_alone (N : HN) (a0 : Nat) (p1 : Int32) (p2 : Int32) (p3 : Int32) (p4 : Int64) (p6 : Int64) (I : HI) (J : HJ) : Option (HI × HJ × Int32) := Mo_alone_0 N a0 p1 p2 p3 p4 p6 I J
def Mo_ends_131 (N : HN) (a0 : Nat) (p1 : Int32) (I : HI) (J : HJ) (bs0 : Nat) (s1 : Int32) (s2 : Int32) : Option (HI × HJ × Int32) :=
  ra Tm nM (N a0 15) 2 fun b1 =>
  gd (inb (0 : Int32) (Tm b1).2) <|
  ra Tm nM (N a0 16) 2 fun b3 =>
  gd (inb (0 : Int32) (Tm b3).2) <|
  bn3 (Mo_alone N bs0 s1 s2 (1 : Int32) (J b1 (0 : Int32).toNatClampNeg) (J b3 (0 : Int32).toNatClampNeg) I J) fun I5 J6 r7 =>
  some (I5, J6, r7)
def Mo_ends_84 (N : HN) (a0 : Nat) (p1 : Int32) (I : HI) (J : HJ) (x2 : Int32) : Option (HI × HJ × Int32) :=
  if x2 = 0 then
    ra Tm nM (N a0 16) 2 fun b2 =>
    gd (inb (0 : Int32) (Tm b2).2) <|
    if (J b2 (0 : Int32).toNatClampNeg) = (0 : Int64) then
      some (I, J, (-101 : Int32))
    else
      ra Tm nM (N a0 15) 2 fun b5 =>
      gd (inb (0 : Int32) (Tm b5).2) <|
      if (J b5 (0 : Int32).toNatClampNeg) = (0 : Int64) then
        some (I, J, (0 : Int32))
      else
        if p1 = (2 : Int32) then
          Mo_ends_131 N a0 p1 I J a0 p1 (3 : Int32)
        else
          Mo_ends_131 N a0 p1 I J a0 p1 (1 : Int32)
  else
    some (I, J, x2)
def Mo_ends_83 (N : HN) (a0 : Nat) (p1 : Int32) (I : HI) (J : HJ) (s0 : Int32) : Option (HI × HJ × Int32) :=
  Mo_ends_84 N a0 p1 I J s0
def Mo_ends_55 (N : HN) (a0 : Nat) (p1 : Int32) (I : HI) (J : HJ) (bs0 : Nat) (s1 : Int32) (s2 : Int32) : Option (HI × HJ × Int32) :=
  ra Tm nM (N a0 15) 2 fun b1 =>
  ra Tm nM (N a0 15) 2 fun b2 =>
  bn1 (Mo_top J b2) fun r3 =>
  gd (inb r3 (Tm b1).2) <|
  ra Tm nM (N a0 16) 2 fun b6 =>
  ra Tm nM (N a0 16) 2 fun b7 =>
  bn1 (Mo_top J b7) fun r8 =>
  gd (inb r8 (Tm b6).2) <|
  bn3 (Mo_alone N bs0 s1 s2 (0 : Int32) (J b1 r3.toNatClampNeg) (J b6 r8.toNatClampNeg) I J) fun I11 J12 r13 =>
  Mo_ends_83 N a0 p1 I11 J12 r13
def Mo_ends_0 (N : HN) (a0 : Nat) (p1 : Int32) (I : HI) (J : HJ) : Option (HI × HJ × Int32) :=
  ra Tm nM (N a0 15) 2 fun b1 =>
  bn1 (Mo_top J b1) fun r2 =>
  ra Tm nM (N a0 16) 2 fun b4 =>
  bn1 (Mo_top J b4) fun r5 =>
  if r2 ≤ r5 then
    Mo_ends_84 N a0 p1 I J (0 : Int32)
  else
    ra Tm nM (N a0 15) 2 fun b8 =>
    bn1 (Mo_top J b8) fun r9 =>
    ra Tm nM (N a0 16) 2 fun b11 =>
    bn1 (Mo_top J b11) fun r12 =>
    if r9 ≤ (r12 + (1 : Int32)) then
      if p1 = (2 : Int32) then
        Mo_ends_55 N a0 p1 I J a0 p1 (1 : Int32)
      else
        Mo_ends_55 N a0 p1 I J a0 p1 (3 : Int32)
    else
      Mo_ends_83 N a0 p1 I J (-100 : Int32)
def Mo_ends (N : HN) (a0 : Nat) (p1 : Int32) (I : HI) (J : HJ) : Option (HI × HJ × Int32) := Mo_ends_0 N a0 p1 I J
def Mo_rootOnce_262 (N : HN) (a0 : Nat) (p1 : Int32) (p2 : Int32) (p3 : Int64) (p5 : Int64) (I : HI) (J : HJ) (bs0 : Nat) (s1 : Int32) : Option (HI × HJ × Int32) :=
  bn1 (Mo_lays J N bs0 s1 I) fun I1 =>
  bd (up2 I1 a0 8 ((I1 a0 8) + (1 : Int32))) fun I3 =>
  some (I3, J, (0 : Int32))
def Mo_rootOnce_241 (N : HN) (a0 : Nat) (p1 : Int32) (p2 : Int32) (p3 : Int64) (p5 : Int64) (I : HI) (J : HJ) (s0 : Int32) : Option (HI × HJ × Int32) :=
  if s0 = 0 then
    some (I, J, (-5 : Int32))
  else
    if p1 = (2 : Int32) then
      Mo_rootOnce_262 N a0 p1 p2 p3 p5 I J a0 (3 : Int32)
    else
      Mo_rootOnce_262 N a0 p1 p2 p3 p5 I J a0 (1 : Int32)
def Mo_rootOnce_240 (N : HN) (a0 : Nat) (p1 : Int32) (p2 : Int32) (p3 : Int64) (p5 : Int64) (I : HI) (J : HJ) : Option (HI × HJ × Int32) :=
  Mo_rootOnce_241 N a0 p1 p2 p3 p5 I J (0 : Int32)
def Mo_rootOnce_213 (N : HN) (a0 : Nat) (p1 : Int32) (p2 : Int32) (p3 : Int64) (p5 : Int64) (I : HI) (J : HJ) (x18 : Int64) (x20 : Int64) (x22 : Int32) (bs0 : Nat) (s1 : Int32) : Option (HI × HJ × Int32) :=
  bn1 (Mo_lays J N bs0 s1 I) fun I1 =>
  bn1 (Mo_takes a0 x20 x18 J) fun J3 =>
  if x22 = 0 then
    Mo_rootOnce_240 N a0 p1 p2 p3 p5 I1 J3
  else
    bn1 (Mo_isHandy J3 a0) fun r6 =>
    if r6 = 0 then
      Mo_rootOnce_240 N a0 p1 p2 p3 p5 I1 J3
    else
      Mo_rootOnce_241 N a0 p1 p2 p3 p5 I1 J3 (1 : Int32)
def Mo_rootOnce_148 (N : HN) (a0 : Nat) (p1 : Int32) (p2 : Int32) (p3 : Int64) (p5 : Int64) (I : HI) (J : HJ) (x14 : Int64) (x16 : Int64) (s0 : Int32) (s1 : Int32) : Option (HI × HJ × Int32) :=
  if s0 = s1 then
    bn1 (Mo_takes a0 x14 x16 J) fun J2 =>
    bd (J2 a0 9) fun v4 =>
    bd (J2 a0 10) fun v5 =>
    bn1 (Mo_makes N a0 (p1 - (2 : Int32)) I) fun I6 =>
    bn1 (Mo_takes a0 (v4 * p5) (v5 * p3) J2) fun J8 =>
    bn1 (Mo_isHandy J8 a0) fun r10 =>
    if p1 = (2 : Int32) then
      Mo_rootOnce_213 N a0 p1 p2 p3 p5 I6 J8 v4 v5 r10 a0 (1 : Int32)
    else
      Mo_rootOnce_213 N a0 p1 p2 p3 p5 I6 J8 v4 v5 r10 a0 (3 : Int32)
  else
    some (I, J, (-100 : Int32) - p2)
def Mo_rootOnce_136 (N : HN) (a0 : Nat) (p1 : Int32) (p2 : Int32) (p3 : Int64) (p5 : Int64) (I : HI) (J : HJ) (x14 : Int64) (x16 : Int64) (s0 : Int32) : Option (HI × HJ × Int32) :=
  if (0 : Int64) ≤ x16 then
    Mo_rootOnce_148 N a0 p1 p2 p3 p5 I J x14 x16 s0 (0 : Int32)
  else
    Mo_rootOnce_148 N a0 p1 p2 p3 p5 I J x14 x16 s0 (1 : Int32)
def Mo_rootOnce_121 (N : HN) (a0 : Nat) (p1 : Int32) (p2 : Int32) (p3 : Int64) (p5 : Int64) (I : HI) (J : HJ) (x14 : Int64) (s0 : Int64) (s1 : Int64) : Option (HI × HJ × Int32) :=
  bd (s0 * s1) fun v1 =>
  if (0 : Int64) ≤ x14 then
    Mo_rootOnce_136 N a0 p1 p2 p3 p5 I J x14 v1 (0 : Int32)
  else
    Mo_rootOnce_136 N a0 p1 p2 p3 p5 I J x14 v1 (1 : Int32)
def Mo_rootOnce_95 (N : HN) (a0 : Nat) (p1 : Int32) (p2 : Int32) (p3 : Int64) (p5 : Int64) (I : HI) (J : HJ) (x7 : Int64) (x9 : Int64) (x13 : Int32) (s0 : Int64) (s1 : Int64) : Option (HI × HJ × Int32) :=
  bd (s0 * s1) fun v1 =>
  if 0 ≤ x13 then
    Mo_rootOnce_121 N a0 p1 p2 p3 p5 I J v1 (x7 * x9) (1 : Int64)
  else
    bn1 (Mo_power p5 ((0 : Int32) - x13)) fun r3 =>
    Mo_rootOnce_121 N a0 p1 p2 p3 p5 I J v1 (x7 * x9) r3
def Mo_rootOnce_31 (N : HN) (a0 : Nat) (p1 : Int32) (p2 : Int32) (p3 : Int64) (p5 : Int64) (I : HI) (J : HJ) : Option (HI × HJ × Int32) :=
  some (I, J, (-100 : Int32) - p2)
def Mo_rootOnce_0 (N : HN) (a0 : Nat) (p1 : Int32) (p2 : Int32) (p3 : Int64) (p5 : Int64) (I : HI) (J : HJ) : Option (HI × HJ × Int32) :=
  bd ((0 : Int64) - p3) fun v1 =>
  ra Tm nM (N a0 22) 2 fun b2 =>
  bn1 (Mo_valueAt J b2 v1 p5) fun r3 =>
  if p3 ≤ (0 : Int64) then
    Mo_rootOnce_31 N a0 p1 p2 p3 p5 I J
  else
    if r3 = (0 : Int64) then
      Mo_rootOnce_31 N a0 p1 p2 p3 p5 I J
    else
      ra Tm nM (N a0 15) 2 fun b7 =>
      bn1 (Mo_valueAt J b7 v1 p5) fun r8 =>
      if r8 = (0 : Int64) then
        some (I, J, (0 : Int32))
      else
        ra Tm nM (N a0 22) 2 fun b11 =>
        bn1 (Mo_top J b11) fun r12 =>
        ra Tm nM (N a0 15) 2 fun b14 =>
        bn1 (Mo_top J b14) fun r15 =>
        bd ((r12 + (1 : Int32)) - r15) fun v17 =>
        if v17 ≤ 0 then
          Mo_rootOnce_95 N a0 p1 p2 p3 p5 I J v1 r3 v17 r8 (1 : Int64)
        else
          bn1 (Mo_power p5 v17) fun r19 =>
          Mo_rootOnce_95 N a0 p1 p2 p3 p5 I J v1 r3 v17 r8 r19
def Mo_rootOnce (N : HN) (a0 : Nat) (p1 : Int32) (p2 : Int32) (p3 : Int64) (p5 : Int64) (I : HI) (J : HJ) : Option (HI × HJ × Int32) := Mo_rootOnce_0 N a0 p1 p2 p3 p5 I J
def Mo_byRoots_180 (N : HN) (a0 : Nat) (p1 : Int32) (I : HI) (J : HJ) (x4 : Int32) : Option (HI × HJ × Int32) :=
  if x4 = 0 then
    ra Tm nM (N a0 7) 1 fun b2 =>
    bn1 (Mo_valuesIn I b2 (I a0 8)) fun r3 =>
    some (I, J, r3)
  else
    some (I, J, x4)
def Mo_byRoots_174 (N : HN) (a0 : Nat) (p1 : Int32) (k123 : HI → HJ → Int32 → Int32 → Int32 → Option (HI × HJ × Int32)) (I : HI) (J : HJ) (x4 : Int32) (x5 : Int32) (x6 : Int32) : Option (HI × HJ × Int32) :=
  k123 I J x4 x5 (x6 + 1)
def Mo_byRoots_123b (N : HN) (a0 : Nat) (p1 : Int32) (k123 : HI → HJ → Int32 → Int32 → Int32 → Option (HI × HJ × Int32)) (I : HI) (J : HJ) (x4 : Int32) (x5 : Int32) (x6 : Int32) : Option (HI × HJ × Int32) :=
  if (I a0 21) ≤ x6 then
    Mo_byRoots_180 N a0 p1 I J x4
  else
    if x4 = 0 then
      bn1 (Mo_isRoot I J N a0 x6) fun r3 =>
      if r3 = 0 then
        Mo_byRoots_174 N a0 p1 k123 I J x4 x5 x6
      else
        ra Tm nM (N a0 19) 1 fun b6 =>
        gd (inb x6 (Tm b6).2) <|
        ra Tm nM (N a0 20) 1 fun b8 =>
        gd (inb x6 (Tm b8).2) <|
        bn3 (Mo_rootOnce N a0 p1 x5 ((I b6 x6.toNatClampNeg).toInt64) ((I b8 x6.toNatClampNeg).toInt64) I J) fun I10 J11 r12 =>
        Mo_byRoots_174 N a0 p1 k123 I10 J11 r12 (x5 + 1) x6
    else
      Mo_byRoots_180 N a0 p1 I J x4
def Mo_byRoots_123 (N : HN) (a0 : Nat) (p1 : Int32) : Nat → HI → HJ → Int32 → Int32 → Int32 → Option (HI × HJ × Int32)
  | 0 => fun _ _ _ _ _ => none
  | n + 1 => Mo_byRoots_123b N a0 p1 (Mo_byRoots_123 N a0 p1 n)
def Mo_byRoots_91 (N : HN) (a0 : Nat) (p1 : Int32) (I : HI) (J : HJ) : Option (HI × HJ × Int32) :=
  bn2 (Mo_isDark I N a0 J) fun J1 r2 =>
  if r2 = 0 then
    bd (up2 I a0 8 (0 : Int32)) fun I5 =>
    bn3 (Mo_ends N a0 p1 I5 J1) fun I6 J7 r8 =>
    bn1 (Mo_slopes N a0 J7) fun J10 =>
    Mo_byRoots_123 N a0 p1 256 I6 J10 r8 (2 : Int32) (0 : Int32)
  else
    some (I, J1, (-6 : Int32))
def Mo_byRoots_52b (N : HN) (a0 : Nat) (p1 : Int32) (k52 : HI → HJ → Option (HI × HJ × Int32)) (I : HI) (J : HJ) : Option (HI × HJ × Int32) :=
  ra Tm nM (N a0 15) 2 fun b1 =>
  gd (inb (0 : Int32) (Tm b1).2) <|
  if (J b1 (0 : Int32).toNatClampNeg) = (0 : Int64) then
    ra Tm nM (N a0 16) 2 fun b4 =>
    gd (inb (0 : Int32) (Tm b4).2) <|
    if (J b4 (0 : Int32).toNatClampNeg) = (0 : Int64) then
      ra Tm nM (N a0 15) 2 fun b7 =>
      bn1 (Mo_downs b7 J) fun J8 =>
      ra Tm nM (N a0 16) 2 fun b10 =>
      bn1 (Mo_downs b10 J8) fun J11 =>
      k52 I J11
    else
      Mo_byRoots_91 N a0 p1 I J
  else
    Mo_byRoots_91 N a0 p1 I J
def Mo_byRoots_52 (N : HN) (a0 : Nat) (p1 : Int32) : Nat → HI → HJ → Option (HI × HJ × Int32)
  | 0 => fun _ _ => none
  | n + 1 => Mo_byRoots_52b N a0 p1 (Mo_byRoots_52 N a0 p1 n)
def Mo_byRoots_29 (N : HN) (a0 : Nat) (p1 : Int32) (I : HI) (J : HJ) (x2 : Int32) (s0 : Int32) : Option (HI × HJ × Int32) :=
  ra Tm nM (N a0 15) 2 fun b1 =>
  bn1 (Mo_squares I N a0 x2 s0 b1 J) fun J2 =>
  ra Tm nM (N a0 16) 2 fun b4 =>
  bn1 (Mo_squares I N a0 ((1 : Int32) - x2) (0 : Int32) b4 J2) fun J5 =>
  Mo_byRoots_52 N a0 p1 256 I J5
def Mo_byRoots_14 (N : HN) (a0 : Nat) (p1 : Int32) (I : HI) (J : HJ) (s0 : Int32) : Option (HI × HJ × Int32) :=
  bn1 (Mo_sort I N a0 s0) fun r1 =>
  if r1 = (1 : Int32) then
    Mo_byRoots_29 N a0 p1 I J s0 (1 : Int32)
  else
    Mo_byRoots_29 N a0 p1 I J s0 (0 : Int32)
def Mo_byRoots_0 (N : HN) (a0 : Nat) (p1 : Int32) (I : HI) (J : HJ) : Option (HI × HJ × Int32) :=
  bn1 (Mo_candidates N a0 I) fun I1 =>
  if p1 = (2 : Int32) then
    Mo_byRoots_14 N a0 p1 I1 J (0 : Int32)
  else
    Mo_byRoots_14 N a0 p1 I1 J (1 : Int32)
def Mo_byRoots (N : HN) (a0 : Nat) (p1 : Int32) (I : HI) (J : HJ) : Option (HI × HJ × Int32) := Mo_byRoots_0 N a0 p1 I J
def Mo_unfolds_0 (N : HN) (a0 : Nat) (p1 : Int32) (I : HI) (J : HJ) : Option (HI × HJ × Int32) :=
  bn1 (Mo_isLawful I N a0) fun r1 =>
  if r1 = 0 then
    some (I, J, (-3 : Int32))
  else
    if (2 : Int32) ≤ p1 then
      bn3 (Mo_byRoots N a0 p1 I J) fun I5 J6 r7 =>
      some (I5, J6, r7)
    else
      bn3 (Mo_divides N a0 p1 I J) fun I9 J10 r11 =>
      some (I9, J10, r11)
def Mo_unfolds (N : HN) (a0 : Nat) (p1 : Int32) (I : HI) (J : HJ) : Option (HI × HJ × Int32) := Mo_unfolds_0 N a0 p1 I J
def Mo_would_0 (N : HN) (a0 : Nat) (p1 : Int32) (I : HI) (J : HJ) : Option (HI × HJ × Int32) :=
  bn1 (Mo_in p1.toInt64 (0 : Int64) (3 : Int64)) fun r1 =>
  if r1 = 0 then
    some (I, J, (-2 : Int32))
  else
    bn3 (Mo_unfolds N a0 p1 I J) fun I4 J5 r6 =>
    some (I4, J5, r6)
def Mo_would (N : HN) (a0 : Nat) (p1 : Int32) (I : HI) (J : HJ) : Option (HI × HJ × Int32) := Mo_would_0 N a0 p1 I J
def Mo_unfold_37b (N : HN) (a0 : Nat) (p1 : Int32) (k37 : HI → HJ → Int32 → Int32 → Option (HI × HJ × Int32)) (I : HI) (J : HJ) (x2 : Int32) (x3 : Int32) : Option (HI × HJ × Int32) :=
  if ((5 : Int32) * (I a0 6)) ≤ x3 then
    some (I, J, x2)
  else
    ra Tm nM (N a0 5) 1 fun b2 =>
    ra Tm nM (N a0 7) 1 fun b3 =>
    gd (inb x3 (Tm b3).2) <|
    gd (inb x3 (Tm b2).2) <|
    bd (up2 I b2 x3.toNatClampNeg (I b3 x3.toNatClampNeg)) fun I6 =>
    k37 I6 J x2 (x3 + 1)
def Mo_unfold_37 (N : HN) (a0 : Nat) (p1 : Int32) : Nat → HI → HJ → Int32 → Int32 → Option (HI × HJ × Int32)
  | 0 => fun _ _ _ _ => none
  | n + 1 => Mo_unfold_37b N a0 p1 (Mo_unfold_37 N a0 p1 n)
def Mo_unfold_0 (N : HN) (a0 : Nat) (p1 : Int32) (I : HI) (J : HJ) : Option (HI × HJ × Int32) :=
  bn1 (Mo_in p1.toInt64 (0 : Int64) (3 : Int64)) fun r1 =>
  if r1 = 0 then
    some (I, J, (-2 : Int32))
  else
    bn3 (Mo_unfolds N a0 p1 I J) fun I4 J5 r6 =>
    if 0 ≤ r6 then
      bd (up2 I4 a0 6 (I4 a0 8)) fun I9 =>
      Mo_unfold_37 N a0 p1 256 I9 J5 r6 (0 : Int32)
    else
      some (I4, J5, r6)
def Mo_unfold (N : HN) (a0 : Nat) (p1 : Int32) (I : HI) (J : HJ) : Option (HI × HJ × Int32) := Mo_unfold_0 N a0 p1 I J
def Mo_armOf_95b (I : HI) (N : HN) (a0 : Nat) (p1 : Int32) (k95 : HJ → Int64 → Int64 → Int64 → Int64 → Int32 → Option (HJ)) (J : HJ) (x3 : Int64) (x5 : Int64) (x7 : Int64) (x9 : Int64) (x11 : Int32) : Option (HJ) :=
  if (3 : Int32) ≤ x11 then
    if x7 = (0 : Int64) then
      ra Tm nM (N a0 25) 2 fun b19 =>
      gd (inb (1 : Int32) (Tm b19).2) <|
      bd (up2 J b19 (1 : Int32).toNatClampNeg x3) fun J21 =>
      ra Tm nM (N a0 26) 2 fun b22 =>
      gd (inb (0 : Int32) (Tm b22).2) <|
      bd (up2 J21 b22 (0 : Int32).toNatClampNeg x5) fun J24 =>
      some J24
    else
      if x3 = (0 : Int64) then
        ra Tm nM (N a0 25) 2 fun b13 =>
        gd (inb (0 : Int32) (Tm b13).2) <|
        bd (up2 J b13 (0 : Int32).toNatClampNeg x9) fun J15 =>
        ra Tm nM (N a0 26) 2 fun b16 =>
        gd (inb (1 : Int32) (Tm b16).2) <|
        bd (up2 J15 b16 (1 : Int32).toNatClampNeg x7) fun J18 =>
        some J18
      else
        ra Tm nM (N a0 25) 2 fun b4 =>
        gd (inb (1 : Int32) (Tm b4).2) <|
        bd (up2 J b4 (1 : Int32).toNatClampNeg (x3 * x9)) fun J6 =>
        ra Tm nM (N a0 26) 2 fun b7 =>
        gd (inb (0 : Int32) (Tm b7).2) <|
        bd (up2 J6 b7 (0 : Int32).toNatClampNeg (x5 * x9)) fun J9 =>
        ra Tm nM (N a0 26) 2 fun b10 =>
        gd (inb (2 : Int32) (Tm b10).2) <|
        bd (up2 J9 b10 (2 : Int32).toNatClampNeg (x3 * x7)) fun J12 =>
        some J12
  else
    ra Tm nM (N a0 25) 2 fun b25 =>
    gd (inb x11 (Tm b25).2) <|
    bd (up2 J b25 x11.toNatClampNeg (0 : Int64)) fun J27 =>
    ra Tm nM (N a0 26) 2 fun b28 =>
    gd (inb x11 (Tm b28).2) <|
    bd (up2 J27 b28 x11.toNatClampNeg (0 : Int64)) fun J30 =>
    k95 J30 x3 x5 x7 x9 (x11 + 1)
def Mo_armOf_95 (I : HI) (N : HN) (a0 : Nat) (p1 : Int32) : Nat → HJ → Int64 → Int64 → Int64 → Int64 → Int32 → Option (HJ)
  | 0 => fun _ _ _ _ _ _ => none
  | n + 1 => Mo_armOf_95b I N a0 p1 (Mo_armOf_95 I N a0 p1 n)
def Mo_armOf_87 (I : HI) (N : HN) (a0 : Nat) (p1 : Int32) (J : HJ) (x3 : Int64) (x5 : Int64) (x7 : Int64) (bs0 : Nat) (s1 : Int32) (s2 : Int32) : Option (HJ) :=
  gd (inb (s1 + s2) (Tm bs0).2) <|
  bd ((I bs0 (s1 + s2).toNatClampNeg).toInt64) fun v2 =>
  Mo_armOf_95 I N a0 p1 256 J x3 x5 x7 v2 (0 : Int32)
def Mo_armOf_66 (I : HI) (N : HN) (a0 : Nat) (p1 : Int32) (J : HJ) (x2 : Int32) (x3 : Int64) (x5 : Int64) (bs0 : Nat) (s1 : Int32) (s2 : Int32) : Option (HJ) :=
  gd (inb (s1 + s2) (Tm bs0).2) <|
  bd ((I bs0 (s1 + s2).toNatClampNeg).toInt64) fun v2 =>
  ra Tm nM (N a0 5) 1 fun b3 =>
  if x2 = 0 then
    Mo_armOf_87 I N a0 p1 J x3 x5 v2 b3 ((5 : Int32) * p1) (4 : Int32)
  else
    Mo_armOf_87 I N a0 p1 J x3 x5 v2 b3 ((5 : Int32) * p1) (2 : Int32)
def Mo_armOf_45 (I : HI) (N : HN) (a0 : Nat) (p1 : Int32) (J : HJ) (x2 : Int32) (x3 : Int64) (bs0 : Nat) (s1 : Int32) (s2 : Int32) : Option (HJ) :=
  gd (inb (s1 + s2) (Tm bs0).2) <|
  bd ((I bs0 (s1 + s2).toNatClampNeg).toInt64) fun v2 =>
  ra Tm nM (N a0 5) 1 fun b3 =>
  if x2 = 0 then
    Mo_armOf_66 I N a0 p1 J x2 x3 v2 b3 ((5 : Int32) * p1) (3 : Int32)
  else
    Mo_armOf_66 I N a0 p1 J x2 x3 v2 b3 ((5 : Int32) * p1) (1 : Int32)
def Mo_armOf_25 (I : HI) (N : HN) (a0 : Nat) (p1 : Int32) (J : HJ) (x2 : Int32) (bs0 : Nat) (s1 : Int32) (s2 : Int32) : Option (HJ) :=
  gd (inb (s1 + s2) (Tm bs0).2) <|
  bd ((I bs0 (s1 + s2).toNatClampNeg).toInt64) fun v2 =>
  ra Tm nM (N a0 5) 1 fun b3 =>
  if x2 = 0 then
    Mo_armOf_45 I N a0 p1 J x2 v2 b3 ((5 : Int32) * p1) (2 : Int32)
  else
    Mo_armOf_45 I N a0 p1 J x2 v2 b3 ((5 : Int32) * p1) (4 : Int32)
def Mo_armOf_0 (I : HI) (N : HN) (a0 : Nat) (p1 : Int32) (J : HJ) : Option (HJ) :=
  ra Tm nM (N a0 5) 1 fun b1 =>
  gd (inb ((5 : Int32) * p1) (Tm b1).2) <|
  bd (I b1 ((5 : Int32) * p1).toNatClampNeg) fun v3 =>
  ra Tm nM (N a0 5) 1 fun b4 =>
  if v3 = 0 then
    Mo_armOf_25 I N a0 p1 J v3 b4 ((5 : Int32) * p1) (1 : Int32)
  else
    Mo_armOf_25 I N a0 p1 J v3 b4 ((5 : Int32) * p1) (3 : Int32)
def Mo_armOf (I : HI) (N : HN) (a0 : Nat) (p1 : Int32) (J : HJ) : Option (HJ) := Mo_armOf_0 I N a0 p1 J
def Mo_turnsOver_2b (N : HN) (a0 : Nat) (k2 : HJ → Int32 → Option (HJ)) (J : HJ) (x1 : Int32) : Option (HJ) :=
  if (14 : Int32) ≤ x1 then
    some J
  else
    ra Tm nM (N a0 23) 2 fun b2 =>
    gd (inb x1 (Tm b2).2) <|
    bd (J b2 x1.toNatClampNeg) fun v4 =>
    ra Tm nM (N a0 23) 2 fun b5 =>
    ra Tm nM (N a0 24) 2 fun b6 =>
    gd (inb x1 (Tm b6).2) <|
    gd (inb x1 (Tm b5).2) <|
    bd (up2 J b5 x1.toNatClampNeg (J b6 x1.toNatClampNeg)) fun J9 =>
    ra Tm nM (N a0 24) 2 fun b10 =>
    gd (inb x1 (Tm b10).2) <|
    bd (up2 J9 b10 x1.toNatClampNeg v4) fun J12 =>
    k2 J12 (x1 + 1)
def Mo_turnsOver_2 (N : HN) (a0 : Nat) : Nat → HJ → Int32 → Option (HJ)
  | 0 => fun _ _ => none
  | n + 1 => Mo_turnsOver_2b N a0 (Mo_turnsOver_2 N a0 n)
def Mo_turnsOver_0 (N : HN) (a0 : Nat) (J : HJ) : Option (HJ) :=
  Mo_turnsOver_2 N a0 256 J (0 : Int32)
def Mo_turnsOver (N : HN) (a0 : Nat) (J : HJ) : Option (HJ) := Mo_turnsOver_0 N a0 J
def Mo_asPair_118b (N : HN) (a0 : Nat) (k118 : HJ → Int64 → Int32 → Option (HJ)) (J : HJ) (x1 : Int64) (x5 : Int32) : Option (HJ) :=
  if (14 : Int32) ≤ x5 then
    some J
  else
    if x1 = (0 : Int64) then
      some J
    else
      ra Tm nM (N a0 23) 2 fun b3 =>
      gd (inb x5 (Tm b3).2) <|
      gd (decide (¬ x1 = 0)) <|
      gd (inb x5 (Tm b3).2) <|
      bd (up2 J b3 x5.toNatClampNeg ((J b3 x5.toNatClampNeg) / x1)) fun J7 =>
      ra Tm nM (N a0 24) 2 fun b8 =>
      gd (inb x5 (Tm b8).2) <|
      gd (decide (¬ x1 = 0)) <|
      gd (inb x5 (Tm b8).2) <|
      bd (up2 J7 b8 x5.toNatClampNeg ((J7 b8 x5.toNatClampNeg) / x1)) fun J12 =>
      k118 J12 x1 (x5 + 1)
def Mo_asPair_118 (N : HN) (a0 : Nat) : Nat → HJ → Int64 → Int32 → Option (HJ)
  | 0 => fun _ _ _ => none
  | n + 1 => Mo_asPair_118b N a0 (Mo_asPair_118 N a0 n)
def Mo_asPair_114 (N : HN) (a0 : Nat) (J : HJ) (s0 : Int64) : Option (HJ) :=
  Mo_asPair_118 N a0 256 J s0 (0 : Int32)
def Mo_asPair_101 (N : HN) (a0 : Nat) (J : HJ) (x1 : Int64) (x3 : Int64) : Option (HJ) :=
  if (0 : Int64) ≤ x3 then
    Mo_asPair_114 N a0 J x1
  else
    Mo_asPair_114 N a0 J ((0 : Int64) - x1)
def Mo_asPair_71b (N : HN) (a0 : Nat) (k71 : HJ → Int64 → Int64 → Int32 → Option (HJ)) (J : HJ) (x1 : Int64) (x3 : Int64) (x5 : Int32) : Option (HJ) :=
  if (14 : Int32) ≤ x5 then
    Mo_asPair_101 N a0 J x1 x3
  else
    if x3 = (0 : Int64) then
      ra Tm nM (N a0 23) 2 fun b3 =>
      gd (inb ((13 : Int32) - x5) (Tm b3).2) <|
      bd (J b3 ((13 : Int32) - x5).toNatClampNeg) fun v5 =>
      k71 J x1 v5 (x5 + 1)
    else
      Mo_asPair_101 N a0 J x1 x3
def Mo_asPair_71 (N : HN) (a0 : Nat) : Nat → HJ → Int64 → Int64 → Int32 → Option (HJ)
  | 0 => fun _ _ _ _ => none
  | n + 1 => Mo_asPair_71b N a0 (Mo_asPair_71 N a0 n)
def Mo_asPair_61 (N : HN) (a0 : Nat) (k7 : HJ → Int64 → Int64 → Int32 → Option (HJ)) (J : HJ) (x1 : Int64) (x5 : Int32) (s0 : Int64) : Option (HJ) :=
  k7 J x1 s0 (x5 + 1)
def Mo_asPair_7b (N : HN) (a0 : Nat) (k7 : HJ → Int64 → Int64 → Int32 → Option (HJ)) (J : HJ) (x1 : Int64) (x3 : Int64) (x5 : Int32) : Option (HJ) :=
  if (14 : Int32) ≤ x5 then
    Mo_asPair_71 N a0 256 J x1 x3 (0 : Int32)
  else
    ra Tm nM (N a0 23) 2 fun b2 =>
    gd (inb x5 (Tm b2).2) <|
    bn1 (Mo_divisor x1 (J b2 x5.toNatClampNeg)) fun r4 =>
    ra Tm nM (N a0 24) 2 fun b6 =>
    gd (inb x5 (Tm b6).2) <|
    bn1 (Mo_divisor r4 (J b6 x5.toNatClampNeg)) fun r8 =>
    ra Tm nM (N a0 24) 2 fun b10 =>
    gd (inb x5 (Tm b10).2) <|
    if (J b10 x5.toNatClampNeg) = (0 : Int64) then
      Mo_asPair_61 N a0 k7 J r8 x5 x3
    else
      ra Tm nM (N a0 24) 2 fun b13 =>
      gd (inb x5 (Tm b13).2) <|
      Mo_asPair_61 N a0 k7 J r8 x5 (J b13 x5.toNatClampNeg)
def Mo_asPair_7 (N : HN) (a0 : Nat) : Nat → HJ → Int64 → Int64 → Int32 → Option (HJ)
  | 0 => fun _ _ _ _ => none
  | n + 1 => Mo_asPair_7b N a0 (Mo_asPair_7 N a0 n)
def Mo_asPair_0 (N : HN) (a0 : Nat) (J : HJ) : Option (HJ) :=
  Mo_asPair_7 N a0 256 J (0 : Int64) (0 : Int64) (0 : Int32)
def Mo_asPair (N : HN) (a0 : Nat) (J : HJ) : Option (HJ) := Mo_asPair_0 N a0 J
def Mo_adds_117b (N : HN) (a0 : Nat) (k117 : HJ → Int32 → Option (HJ)) (J : HJ) (x1 : Int32) : Option (HJ) :=
  if (14 : Int32) ≤ x1 then
    some J
  else
    ra Tm nM (N a0 23) 2 fun b2 =>
    ra Tm nM (N a0 27) 2 fun b3 =>
    gd (inb x1 (Tm b3).2) <|
    gd (inb x1 (Tm b2).2) <|
    bd (up2 J b2 x1.toNatClampNeg (J b3 x1.toNatClampNeg)) fun J6 =>
    ra Tm nM (N a0 24) 2 fun b7 =>
    ra Tm nM (N a0 28) 2 fun b8 =>
    gd (inb x1 (Tm b8).2) <|
    gd (inb x1 (Tm b7).2) <|
    bd (up2 J6 b7 x1.toNatClampNeg (J6 b8 x1.toNatClampNeg)) fun J11 =>
    k117 J11 (x1 + 1)
def Mo_adds_117 (N : HN) (a0 : Nat) : Nat → HJ → Int32 → Option (HJ)
  | 0 => fun _ _ => none
  | n + 1 => Mo_adds_117b N a0 (Mo_adds_117 N a0 n)
def Mo_adds_94 (N : HN) (a0 : Nat) (k2 : HJ → Int32 → Option (HJ)) (J : HJ) (x1 : Int32) (x2 : Int64) (x4 : Int64) : Option (HJ) :=
  ra Tm nM (N a0 27) 2 fun b1 =>
  gd (inb x1 (Tm b1).2) <|
  bd (up2 J b1 x1.toNatClampNeg x2) fun J3 =>
  ra Tm nM (N a0 28) 2 fun b4 =>
  gd (inb x1 (Tm b4).2) <|
  bd (up2 J3 b4 x1.toNatClampNeg x4) fun J6 =>
  k2 J6 (x1 + 1)
def Mo_adds_16b (N : HN) (a0 : Nat) (k2 : HJ → Int32 → Option (HJ)) (k16 : HJ → Int32 → Int64 → Int64 → Int32 → Option (HJ)) (J : HJ) (x1 : Int32) (x2 : Int64) (x4 : Int64) (x6 : Int32) : Option (HJ) :=
  if (3 : Int32) ≤ x6 then
    Mo_adds_94 N a0 k2 J x1 x2 x4
  else
    if x1 < x6 then
      Mo_adds_94 N a0 k2 J x1 x2 x4
    else
      ra Tm nM (N a0 23) 2 fun b3 =>
      gd (inb (x1 - x6) (Tm b3).2) <|
      ra Tm nM (N a0 26) 2 fun b5 =>
      gd (inb x6 (Tm b5).2) <|
      ra Tm nM (N a0 24) 2 fun b7 =>
      gd (inb (x1 - x6) (Tm b7).2) <|
      ra Tm nM (N a0 25) 2 fun b9 =>
      gd (inb x6 (Tm b9).2) <|
      bd (x2 + (((J b3 (x1 - x6).toNatClampNeg) * (J b5 x6.toNatClampNeg)) + ((J b7 (x1 - x6).toNatClampNeg) * (J b9 x6.toNatClampNeg)))) fun v11 =>
      ra Tm nM (N a0 24) 2 fun b12 =>
      gd (inb (x1 - x6) (Tm b12).2) <|
      ra Tm nM (N a0 26) 2 fun b14 =>
      gd (inb x6 (Tm b14).2) <|
      bd (x4 + ((J b12 (x1 - x6).toNatClampNeg) * (J b14 x6.toNatClampNeg))) fun v16 =>
      k16 J x1 v11 v16 (x6 + 1)
def Mo_adds_16 (N : HN) (a0 : Nat) (k2 : HJ → Int32 → Option (HJ)) : Nat → HJ → Int32 → Int64 → Int64 → Int32 → Option (HJ)
  | 0 => fun _ _ _ _ _ => none
  | n + 1 => Mo_adds_16b N a0 k2 (Mo_adds_16 N a0 k2 n)
def Mo_adds_2b (N : HN) (a0 : Nat) (k2 : HJ → Int32 → Option (HJ)) (J : HJ) (x1 : Int32) : Option (HJ) :=
  if (14 : Int32) ≤ x1 then
    Mo_adds_117 N a0 256 J (0 : Int32)
  else
    Mo_adds_16 N a0 k2 256 J x1 (0 : Int64) (0 : Int64) (0 : Int32)
def Mo_adds_2 (N : HN) (a0 : Nat) : Nat → HJ → Int32 → Option (HJ)
  | 0 => fun _ _ => none
  | n + 1 => Mo_adds_2b N a0 (Mo_adds_2 N a0 n)
def Mo_adds_0 (N : HN) (a0 : Nat) (J : HJ) : Option (HJ) :=
  Mo_adds_2 N a0 256 J (0 : Int32)
def Mo_adds (N : HN) (a0 : Nat) (J : HJ) : Option (HJ) := Mo_adds_0 N a0 J
def Mo_folds_136 (I : HI) (N : HN) (a0 : Nat) (k35 : HJ → Int32 → Option (HJ)) (J : HJ) (x1 : Int32) : Option (HJ) :=
  bn1 (Mo_asPair N a0 J) fun J1 =>
  k35 J1 (x1 + (-1))
def Mo_folds_124 (I : HI) (N : HN) (a0 : Nat) (k35 : HJ → Int32 → Option (HJ)) (J : HJ) (x1 : Int32) (x2 : Int32) : Option (HJ) :=
  bn1 (Mo_adds N a0 J) fun J1 =>
  if x2 = 0 then
    Mo_folds_136 I N a0 k35 J1 x1
  else
    bn1 (Mo_turnsOver N a0 J1) fun J4 =>
    Mo_folds_136 I N a0 k35 J4 x1
def Mo_folds_115 (I : HI) (N : HN) (a0 : Nat) (k35 : HJ → Int32 → Option (HJ)) (J : HJ) (x1 : Int32) (s0 : Int32) : Option (HJ) :=
  if s0 = 0 then
    Mo_folds_124 I N a0 k35 J x1 s0
  else
    bn1 (Mo_turnsOver N a0 J) fun J2 =>
    Mo_folds_124 I N a0 k35 J2 x1 s0
def Mo_folds_93 (I : HI) (N : HN) (a0 : Nat) (k35 : HJ → Int32 → Option (HJ)) (J : HJ) (x1 : Int32) : Option (HJ) :=
  bn1 (Mo_armOf I N a0 x1 J) fun J1 =>
  ra Tm nM (N a0 5) 1 fun b3 =>
  gd (inb ((5 : Int32) * x1) (Tm b3).2) <|
  if (I b3 ((5 : Int32) * x1).toNatClampNeg) = (1 : Int32) then
    Mo_folds_115 I N a0 k35 J1 x1 (1 : Int32)
  else
    Mo_folds_115 I N a0 k35 J1 x1 (0 : Int32)
def Mo_folds_92 (I : HI) (N : HN) (a0 : Nat) (k35 : HJ → Int32 → Option (HJ)) (J : HJ) (x1 : Int32) (bs0 : Nat) (s1 : Int32) (s2 : Int64) : Option (HJ) :=
  gd (inb s1 (Tm bs0).2) <|
  bd (up2 J bs0 s1.toNatClampNeg s2) fun J2 =>
  Mo_folds_93 I N a0 k35 J2 x1
def Mo_folds_70 (I : HI) (N : HN) (a0 : Nat) (k35 : HJ → Int32 → Option (HJ)) (J : HJ) (x1 : Int32) (bs0 : Nat) (s1 : Int32) (s2 : Int64) : Option (HJ) :=
  gd (inb s1 (Tm bs0).2) <|
  bd (up2 J bs0 s1.toNatClampNeg s2) fun J2 =>
  ra Tm nM (N a0 24) 2 fun b3 =>
  ra Tm nM (N a0 5) 1 fun b4 =>
  gd (inb ((5 : Int32) * x1) (Tm b4).2) <|
  if (I b4 ((5 : Int32) * x1).toNatClampNeg) = 0 then
    Mo_folds_92 I N a0 k35 J2 x1 b3 (0 : Int32) (1 : Int64)
  else
    Mo_folds_92 I N a0 k35 J2 x1 b3 (0 : Int32) (0 : Int64)
def Mo_folds_35b (I : HI) (N : HN) (a0 : Nat) (k35 : HJ → Int32 → Option (HJ)) (J : HJ) (x1 : Int32) : Option (HJ) :=
  if x1 < 0 then
    some J
  else
    if x1 = ((I a0 6) - (1 : Int32)) then
      ra Tm nM (N a0 23) 2 fun b3 =>
      ra Tm nM (N a0 5) 1 fun b4 =>
      gd (inb ((5 : Int32) * x1) (Tm b4).2) <|
      if (I b4 ((5 : Int32) * x1).toNatClampNeg) = 0 then
        Mo_folds_70 I N a0 k35 J x1 b3 (0 : Int32) (0 : Int64)
      else
        Mo_folds_70 I N a0 k35 J x1 b3 (0 : Int32) (1 : Int64)
    else
      Mo_folds_93 I N a0 k35 J x1
def Mo_folds_35 (I : HI) (N : HN) (a0 : Nat) : Nat → HJ → Int32 → Option (HJ)
  | 0 => fun _ _ => none
  | n + 1 => Mo_folds_35b I N a0 (Mo_folds_35 I N a0 n)
def Mo_folds_2b (I : HI) (N : HN) (a0 : Nat) (k2 : HJ → Int32 → Option (HJ)) (J : HJ) (x1 : Int32) : Option (HJ) :=
  if (14 : Int32) ≤ x1 then
    bd ((I a0 6) - (1 : Int32)) fun v2 =>
    Mo_folds_35 I N a0 256 J v2
  else
    ra Tm nM (N a0 23) 2 fun b3 =>
    gd (inb x1 (Tm b3).2) <|
    bd (up2 J b3 x1.toNatClampNeg (0 : Int64)) fun J5 =>
    ra Tm nM (N a0 24) 2 fun b6 =>
    gd (inb x1 (Tm b6).2) <|
    bd (up2 J5 b6 x1.toNatClampNeg (0 : Int64)) fun J8 =>
    k2 J8 (x1 + 1)
def Mo_folds_2 (I : HI) (N : HN) (a0 : Nat) : Nat → HJ → Int32 → Option (HJ)
  | 0 => fun _ _ => none
  | n + 1 => Mo_folds_2b I N a0 (Mo_folds_2 I N a0 n)
def Mo_folds_0 (I : HI) (N : HN) (a0 : Nat) (J : HJ) : Option (HJ) :=
  Mo_folds_2 I N a0 256 J (0 : Int32)
def Mo_folds (I : HI) (N : HN) (a0 : Nat) (J : HJ) : Option (HJ) := Mo_folds_0 I N a0 J
def Mo_foldBy_0 (I : HI) (J : HJ) (N : HN) (a0 : Nat) (p1 : Int32) (p2 : Int32) : Option (Int64) :=
  if (I a0 6) = 0 then
    some (0 : Int64)
  else
    if p1 = 0 then
      ra Tm nM (N a0 23) 2 fun b5 =>
      gd (inb p2 (Tm b5).2) <|
      some (J b5 p2.toNatClampNeg)
    else
      ra Tm nM (N a0 24) 2 fun b3 =>
      gd (inb p2 (Tm b3).2) <|
      some (J b3 p2.toNatClampNeg)
def Mo_foldBy (I : HI) (J : HJ) (N : HN) (a0 : Nat) (p1 : Int32) (p2 : Int32) : Option (Int64) := Mo_foldBy_0 I J N a0 p1 p2
def Mo_fold_0 (I : HI) (N : HN) (a0 : Nat) (p1 : Int32) (p2 : Int32) (J : HJ) : Option (HJ × Int64) :=
  bn1 (Mo_folds I N a0 J) fun J1 =>
  bn1 (Mo_isTwo p1) fun r3 =>
  if r3 = 0 then
    some (J1, (0 : Int64))
  else
    bn1 (Mo_in p2.toInt64 (0 : Int64) (6 : Int64)) fun r6 =>
    if r6 = 0 then
      some (J1, (0 : Int64))
    else
      bn1 (Mo_foldBy I J1 N a0 p1 p2) fun r9 =>
      some (J1, r9)
def Mo_fold (I : HI) (N : HN) (a0 : Nat) (p1 : Int32) (p2 : Int32) (J : HJ) : Option (HJ × Int64) := Mo_fold_0 I N a0 p1 p2 J
def Mo_alikeNow_151 (I : HI) (J : HJ) (N : HN) (a0 : Nat) (k23 : Int32 → Int32 → Option (Int32)) (x2 : Int32) (s0 : Int32) : Option (Int32) :=
  k23 s0 (x2 + 1)
def Mo_alikeNow_150 (I : HI) (J : HJ) (N : HN) (a0 : Nat) (k23 : Int32 → Int32 → Option (Int32)) (x2 : Int32) : Option (Int32) :=
  Mo_alikeNow_151 I J N a0 k23 x2 (0 : Int32)
def Mo_alikeNow_126 (I : HI) (J : HJ) (N : HN) (a0 : Nat) (k23 : Int32 → Int32 → Option (Int32)) (k37 : Int32 → Int32 → Int64 → Int64 → Int32 → Option (Int32)) (x1 : Int32) (x2 : Int32) (x3 : Int64) (x7 : Int32) (s0 : Int64) (s1 : Int64) : Option (Int32) :=
  bd (s0 + s1) fun v1 =>
  k37 x1 x2 x3 v1 (x7 + 1)
def Mo_alikeNow_85 (I : HI) (J : HJ) (N : HN) (a0 : Nat) (k23 : Int32 → Int32 → Option (Int32)) (k37 : Int32 → Int32 → Int64 → Int64 → Int32 → Option (Int32)) (x1 : Int32) (x2 : Int32) (x5 : Int64) (x7 : Int32) (s0 : Int64) (s1 : Int64) : Option (Int32) :=
  bd (s0 + s1) fun v1 =>
  bn1 (Mo_in ((x2 - x7).toInt64) (0 : Int64) (13 : Int64)) fun r2 =>
  if r2 = 0 then
    Mo_alikeNow_126 I J N a0 k23 k37 x1 x2 v1 x7 x5 (0 : Int64)
  else
    ra Tm nM (N a0 4) 1 fun b5 =>
    gd (inb x7 (Tm b5).2) <|
    ra Tm nM (N a0 24) 2 fun b7 =>
    gd (inb (x2 - x7) (Tm b7).2) <|
    Mo_alikeNow_126 I J N a0 k23 k37 x1 x2 v1 x7 x5 (((I b5 x7.toNatClampNeg).toInt64) * (J b7 (x2 - x7).toNatClampNeg))
def Mo_alikeNow_37b (I : HI) (J : HJ) (N : HN) (a0 : Nat) (k23 : Int32 → Int32 → Option (Int32)) (k37 : Int32 → Int32 → Int64 → Int64 → Int32 → Option (Int32)) (x1 : Int32) (x2 : Int32) (x3 : Int64) (x5 : Int64) (x7 : Int32) : Option (Int32) :=
  if (7 : Int32) ≤ x7 then
    if x1 = 0 then
      Mo_alikeNow_150 I J N a0 k23 x2
    else
      if x3 = x5 then
        Mo_alikeNow_151 I J N a0 k23 x2 (1 : Int32)
      else
        Mo_alikeNow_150 I J N a0 k23 x2
  else
    bn1 (Mo_in ((x2 - x7).toInt64) (0 : Int64) (13 : Int64)) fun r4 =>
    if r4 = 0 then
      Mo_alikeNow_85 I J N a0 k23 k37 x1 x2 x5 x7 x3 (0 : Int64)
    else
      ra Tm nM (N a0 4) 1 fun b7 =>
      gd (inb ((7 : Int32) + x7) (Tm b7).2) <|
      ra Tm nM (N a0 23) 2 fun b9 =>
      gd (inb (x2 - x7) (Tm b9).2) <|
      Mo_alikeNow_85 I J N a0 k23 k37 x1 x2 x5 x7 x3 (((I b7 ((7 : Int32) + x7).toNatClampNeg).toInt64) * (J b9 (x2 - x7).toNatClampNeg))
def Mo_alikeNow_37 (I : HI) (J : HJ) (N : HN) (a0 : Nat) (k23 : Int32 → Int32 → Option (Int32)) : Nat → Int32 → Int32 → Int64 → Int64 → Int32 → Option (Int32)
  | 0 => fun _ _ _ _ _ => none
  | n + 1 => Mo_alikeNow_37b I J N a0 k23 (Mo_alikeNow_37 I J N a0 k23 n)
def Mo_alikeNow_23b (I : HI) (J : HJ) (N : HN) (a0 : Nat) (k23 : Int32 → Int32 → Option (Int32)) (x1 : Int32) (x2 : Int32) : Option (Int32) :=
  if (20 : Int32) ≤ x2 then
    if x1 = 0 then
      some (0 : Int32)
    else
      some (1 : Int32)
  else
    Mo_alikeNow_37 I J N a0 k23 256 x1 x2 (0 : Int64) (0 : Int64) (0 : Int32)
def Mo_alikeNow_23 (I : HI) (J : HJ) (N : HN) (a0 : Nat) : Nat → Int32 → Int32 → Option (Int32)
  | 0 => fun _ _ => none
  | n + 1 => Mo_alikeNow_23b I J N a0 (Mo_alikeNow_23 I J N a0 n)
def Mo_alikeNow_0 (I : HI) (J : HJ) (N : HN) (a0 : Nat) : Option (Int32) :=
  if (I a0 6) = 0 then
    some (-3 : Int32)
  else
    bn1 (Mo_degree I N a0 (1 : Int32)) fun r2 =>
    if r2 = (-1 : Int32) then
      some (-3 : Int32)
    else
      Mo_alikeNow_23 I J N a0 256 (1 : Int32) (0 : Int32)
def Mo_alikeNow (I : HI) (J : HJ) (N : HN) (a0 : Nat) : Option (Int32) := Mo_alikeNow_0 I J N a0
def Mo_alike_0 (I : HI) (N : HN) (a0 : Nat) (J : HJ) : Option (HJ × Int32) :=
  bn1 (Mo_folds I N a0 J) fun J1 =>
  bn1 (Mo_alikeNow I J1 N a0) fun r3 =>
  some (J1, r3)
def Mo_alike (I : HI) (N : HN) (a0 : Nat) (J : HJ) : Option (HJ × Int32) := Mo_alike_0 I N a0 J
def Mo_take_69b (N : HN) (a0 : Nat) (k69 : HI → HJ → Int32 → Option (HI × HJ × Int32)) (I : HI) (J : HJ) (x1 : Int32) : Option (HI × HJ × Int32) :=
  if (7 : Int32) ≤ x1 then
    bn1 (Mo_degree I N a0 (0 : Int32)) fun r2 =>
    bn1 (Mo_degree I N a0 (1 : Int32)) fun r4 =>
    bn1 (Mo_greater r2 r4) fun r6 =>
    some (I, J, r6)
  else
    ra Tm nM (N a0 4) 1 fun b8 =>
    ra Tm nM (N a0 23) 2 fun b9 =>
    gd (inb x1 (Tm b9).2) <|
    gd (inb x1 (Tm b8).2) <|
    bd (up2 I b8 x1.toNatClampNeg ((J b9 x1.toNatClampNeg).toInt32)) fun I12 =>
    ra Tm nM (N a0 4) 1 fun b13 =>
    ra Tm nM (N a0 24) 2 fun b14 =>
    gd (inb x1 (Tm b14).2) <|
    gd (inb ((7 : Int32) + x1) (Tm b13).2) <|
    bd (up2 I12 b13 ((7 : Int32) + x1).toNatClampNeg ((J b14 x1.toNatClampNeg).toInt32)) fun I17 =>
    k69 I17 J (x1 + 1)
def Mo_take_69 (N : HN) (a0 : Nat) : Nat → HI → HJ → Int32 → Option (HI × HJ × Int32)
  | 0 => fun _ _ _ => none
  | n + 1 => Mo_take_69b N a0 (Mo_take_69 N a0 n)
def Mo_take_16b (N : HN) (a0 : Nat) (k16 : HI → HJ → Int32 → Option (HI × HJ × Int32)) (I : HI) (J : HJ) (x1 : Int32) : Option (HI × HJ × Int32) :=
  if (7 : Int32) ≤ x1 then
    Mo_take_69 N a0 256 I J (0 : Int32)
  else
    ra Tm nM (N a0 23) 2 fun b2 =>
    gd (inb x1 (Tm b2).2) <|
    bn1 (Mo_in (J b2 x1.toNatClampNeg) (-9 : Int64) (9 : Int64)) fun r4 =>
    if r4 = 0 then
      some (I, J, (-5 : Int32))
    else
      ra Tm nM (N a0 24) 2 fun b7 =>
      gd (inb x1 (Tm b7).2) <|
      bn1 (Mo_in (J b7 x1.toNatClampNeg) (-9 : Int64) (9 : Int64)) fun r9 =>
      if r9 = 0 then
        some (I, J, (-5 : Int32))
      else
        k16 I J (x1 + 1)
def Mo_take_16 (N : HN) (a0 : Nat) : Nat → HI → HJ → Int32 → Option (HI × HJ × Int32)
  | 0 => fun _ _ _ => none
  | n + 1 => Mo_take_16b N a0 (Mo_take_16 N a0 n)
def Mo_take_0 (N : HN) (a0 : Nat) (I : HI) (J : HJ) : Option (HI × HJ × Int32) :=
  if (I a0 6) = 0 then
    some (I, J, (-3 : Int32))
  else
    bn1 (Mo_folds I N a0 J) fun J2 =>
    Mo_take_16 N a0 256 I J2 (0 : Int32)
def Mo_take (N : HN) (a0 : Nat) (I : HI) (J : HJ) : Option (HI × HJ × Int32) := Mo_take_0 N a0 I J
def Mo_partUp_0 (I : HI) (N : HN) (a0 : Nat) (p1 : Int32) : Option (Int32) :=
  ra Tm nM (N a0 5) 1 fun b1 =>
  gd (inb ((((5 : Int32) * (p1 / (2 : Int32))) + (1 : Int32)) + ((2 : Int32) * (p1 - p1 / (2 : Int32) * (2 : Int32)))) (Tm b1).2) <|
  some (I b1 ((((5 : Int32) * (p1 / (2 : Int32))) + (1 : Int32)) + ((2 : Int32) * (p1 - p1 / (2 : Int32) * (2 : Int32)))).toNatClampNeg)
def Mo_partUp (I : HI) (N : HN) (a0 : Nat) (p1 : Int32) : Option (Int32) := Mo_partUp_0 I N a0 p1
def Mo_partDown_0 (I : HI) (N : HN) (a0 : Nat) (p1 : Int32) : Option (Int32) :=
  ra Tm nM (N a0 5) 1 fun b1 =>
  gd (inb ((((5 : Int32) * (p1 / (2 : Int32))) + (2 : Int32)) + ((2 : Int32) * (p1 - p1 / (2 : Int32) * (2 : Int32)))) (Tm b1).2) <|
  some (I b1 ((((5 : Int32) * (p1 / (2 : Int32))) + (2 : Int32)) + ((2 : Int32) * (p1 - p1 / (2 : Int32) * (2 : Int32)))).toNatClampNeg)
def Mo_partDown (I : HI) (N : HN) (a0 : Nat) (p1 : Int32) : Option (Int32) := Mo_partDown_0 I N a0 p1
def Mo_isLike_0 (I : HI) (N : HN) (a0 : Nat) (p1 : Int32) (p2 : Int32) (p3 : Int32) : Option (Int32) :=
  bn1 (Mo_partUp I N a0 p1) fun r1 =>
  bn1 (Mo_partUp I N a0 p2) fun r3 =>
  if r1 = r3 then
    bn1 (Mo_partDown I N a0 p1) fun r6 =>
    bn1 (Mo_partDown I N a0 p2) fun r8 =>
    if r6 = r8 then
      if p3 = 0 then
        some (1 : Int32)
      else
        if (p1 - p1 / (2 : Int32) * (2 : Int32)) = (p2 - p2 / (2 : Int32) * (2 : Int32)) then
          some (1 : Int32)
        else
          some (0 : Int32)
    else
      some (0 : Int32)
  else
    some (0 : Int32)
def Mo_isLike (I : HI) (N : HN) (a0 : Nat) (p1 : Int32) (p2 : Int32) (p3 : Int32) : Option (Int32) := Mo_isLike_0 I N a0 p1 p2 p3
def Mo_isFirst_43 (I : HI) (N : HN) (a0 : Nat) (p1 : Int32) (p2 : Int32) (k17 : Int32 → Int32 → Option (Int32)) (x4 : Int32) (s0 : Int32) : Option (Int32) :=
  k17 s0 (x4 + 1)
def Mo_isFirst_42 (I : HI) (N : HN) (a0 : Nat) (p1 : Int32) (p2 : Int32) (k17 : Int32 → Int32 → Option (Int32)) (x4 : Int32) : Option (Int32) :=
  Mo_isFirst_43 I N a0 p1 p2 k17 x4 (0 : Int32)
def Mo_isFirst_17b (I : HI) (N : HN) (a0 : Nat) (p1 : Int32) (p2 : Int32) (k17 : Int32 → Int32 → Option (Int32)) (x3 : Int32) (x4 : Int32) : Option (Int32) :=
  if p1 ≤ x4 then
    gd (isB x3) <|
    some x3
  else
    if x3 = 0 then
      Mo_isFirst_42 I N a0 p1 p2 k17 x4
    else
      bn1 (Mo_isLike I N a0 x4 p1 p2) fun r4 =>
      if r4 = 0 then
        Mo_isFirst_43 I N a0 p1 p2 k17 x4 (1 : Int32)
      else
        Mo_isFirst_42 I N a0 p1 p2 k17 x4
def Mo_isFirst_17 (I : HI) (N : HN) (a0 : Nat) (p1 : Int32) (p2 : Int32) : Nat → Int32 → Int32 → Option (Int32)
  | 0 => fun _ _ => none
  | n + 1 => Mo_isFirst_17b I N a0 p1 p2 (Mo_isFirst_17 I N a0 p1 p2 n)
def Mo_isFirst_13 (I : HI) (N : HN) (a0 : Nat) (p1 : Int32) (p2 : Int32) (s0 : Int32) : Option (Int32) :=
  Mo_isFirst_17 I N a0 p1 p2 256 s0 (0 : Int32)
def Mo_isFirst_0 (I : HI) (N : HN) (a0 : Nat) (p1 : Int32) (p2 : Int32) : Option (Int32) :=
  bn1 (Mo_partUp I N a0 p1) fun r1 =>
  if r1 ≤ 0 then
    Mo_isFirst_13 I N a0 p1 p2 (0 : Int32)
  else
    Mo_isFirst_13 I N a0 p1 p2 (1 : Int32)
def Mo_isFirst (I : HI) (N : HN) (a0 : Nat) (p1 : Int32) (p2 : Int32) : Option (Int32) := Mo_isFirst_0 I N a0 p1 p2
def Mo_parts_29 (I : HI) (N : HN) (a0 : Nat) (p1 : Int32) (k4 : Int32 → Int32 → Option (Int32)) (x3 : Int32) (s0 : Int32) (s1 : Int32) : Option (Int32) :=
  bd (s0 + s1) fun v1 =>
  k4 v1 (x3 + 1)
def Mo_parts_4b (I : HI) (N : HN) (a0 : Nat) (p1 : Int32) (k4 : Int32 → Int32 → Option (Int32)) (x2 : Int32) (x3 : Int32) : Option (Int32) :=
  if ((2 : Int32) * (I a0 6)) ≤ x3 then
    some x2
  else
    bn1 (Mo_isFirst I N a0 x3 p1) fun r2 =>
    if r2 = 0 then
      Mo_parts_29 I N a0 p1 k4 x3 x2 (0 : Int32)
    else
      Mo_parts_29 I N a0 p1 k4 x3 x2 (1 : Int32)
def Mo_parts_4 (I : HI) (N : HN) (a0 : Nat) (p1 : Int32) : Nat → Int32 → Int32 → Option (Int32)
  | 0 => fun _ _ => none
  | n + 1 => Mo_parts_4b I N a0 p1 (Mo_parts_4 I N a0 p1 n)
def Mo_parts_0 (I : HI) (N : HN) (a0 : Nat) (p1 : Int32) : Option (Int32) :=
  Mo_parts_4 I N a0 p1 256 (0 : Int32) (0 : Int32)
def Mo_parts (I : HI) (N : HN) (a0 : Nat) (p1 : Int32) : Option (Int32) := Mo_parts_0 I N a0 p1
def Mo_billBy_67 (I : HI) (N : HN) (a0 : Nat) (p1 : Int32) (p2 : Int32) (k39 : Int32 → Int32 → Option (Int32)) (x4 : Int32) (s0 : Int32) (s1 : Int32) : Option (Int32) :=
  bd (s0 + s1) fun v1 =>
  k39 v1 (x4 + 1)
def Mo_billBy_39b (I : HI) (N : HN) (a0 : Nat) (p1 : Int32) (p2 : Int32) (k39 : Int32 → Int32 → Option (Int32)) (x3 : Int32) (x4 : Int32) : Option (Int32) :=
  if ((2 : Int32) * (I a0 6)) ≤ x4 then
    some x3
  else
    bn1 (Mo_isLike I N a0 x4 p1 (1 : Int32)) fun r2 =>
    if r2 = 0 then
      Mo_billBy_67 I N a0 p1 p2 k39 x4 x3 (0 : Int32)
    else
      Mo_billBy_67 I N a0 p1 p2 k39 x4 x3 (1 : Int32)
def Mo_billBy_39 (I : HI) (N : HN) (a0 : Nat) (p1 : Int32) (p2 : Int32) : Nat → Int32 → Int32 → Option (Int32)
  | 0 => fun _ _ => none
  | n + 1 => Mo_billBy_39b I N a0 p1 p2 (Mo_billBy_39 I N a0 p1 p2 n)
def Mo_billBy_0 (I : HI) (N : HN) (a0 : Nat) (p1 : Int32) (p2 : Int32) : Option (Int32) :=
  if (3 : Int32) ≤ p2 then
    Mo_billBy_39 I N a0 p1 p2 256 (0 : Int32) (0 : Int32)
  else
    if p2 = 0 then
      some (p1 - p1 / (2 : Int32) * (2 : Int32))
    else
      if p2 = (1 : Int32) then
        bn1 (Mo_partUp I N a0 p1) fun r6 =>
        some r6
      else
        bn1 (Mo_partDown I N a0 p1) fun r4 =>
        some r4
def Mo_billBy (I : HI) (N : HN) (a0 : Nat) (p1 : Int32) (p2 : Int32) : Option (Int32) := Mo_billBy_0 I N a0 p1 p2
def Mo_nthPart_33 (I : HI) (N : HN) (a0 : Nat) (p1 : Int32) (k4 : Int32 → Int32 → Option (Int32)) (x2 : Int32) (x3 : Int32) : Option (Int32) :=
  k4 x2 (x3 + 1)
def Mo_nthPart_4b (I : HI) (N : HN) (a0 : Nat) (p1 : Int32) (k4 : Int32 → Int32 → Option (Int32)) (x2 : Int32) (x3 : Int32) : Option (Int32) :=
  if ((2 : Int32) * (I a0 6)) ≤ x3 then
    some (-1 : Int32)
  else
    bn1 (Mo_isFirst I N a0 x3 (1 : Int32)) fun r2 =>
    if r2 = 0 then
      Mo_nthPart_33 I N a0 p1 k4 x2 x3
    else
      if x2 = p1 then
        some x3
      else
        Mo_nthPart_33 I N a0 p1 k4 (x2 + 1) x3
def Mo_nthPart_4 (I : HI) (N : HN) (a0 : Nat) (p1 : Int32) : Nat → Int32 → Int32 → Option (Int32)
  | 0 => fun _ _ => none
  | n + 1 => Mo_nthPart_4b I N a0 p1 (Mo_nthPart_4 I N a0 p1 n)
def Mo_nthPart_0 (I : HI) (N : HN) (a0 : Nat) (p1 : Int32) : Option (Int32) :=
  Mo_nthPart_4 I N a0 p1 256 (0 : Int32) (0 : Int32)
def Mo_nthPart (I : HI) (N : HN) (a0 : Nat) (p1 : Int32) : Option (Int32) := Mo_nthPart_0 I N a0 p1
def Mo_bill_0 (I : HI) (N : HN) (a0 : Nat) (p1 : Int32) (p2 : Int32) : Option (Int32) :=
  bn1 (Mo_parts I N a0 (1 : Int32)) fun r1 =>
  bn1 (Mo_in p1.toInt64 (0 : Int64) ((r1 - (1 : Int32)).toInt64)) fun r3 =>
  if r3 = 0 then
    some (-2 : Int32)
  else
    bn1 (Mo_in p2.toInt64 (0 : Int64) (3 : Int64)) fun r6 =>
    if r6 = 0 then
      some (-2 : Int32)
    else
      bn1 (Mo_nthPart I N a0 p1) fun r9 =>
      bn1 (Mo_billBy I N a0 r9 p2) fun r11 =>
      some r11
def Mo_bill (I : HI) (N : HN) (a0 : Nat) (p1 : Int32) (p2 : Int32) : Option (Int32) := Mo_bill_0 I N a0 p1 p2
def Mo_values_0 (I : HI) (N : HN) (a0 : Nat) : Option (Int32) :=
  bn1 (Mo_parts I N a0 (0 : Int32)) fun r1 =>
  some r1
def Mo_values (I : HI) (N : HN) (a0 : Nat) : Option (Int32) := Mo_values_0 I N a0
def Mo_wishAsPair_69b (N : HN) (a0 : Nat) (k69 : HI → HJ → Int32 → Option (HI × HJ)) (I : HI) (J : HJ) (x1 : Int32) : Option (HI × HJ) :=
  if (7 : Int32) ≤ x1 then
    some (I, J)
  else
    ra Tm nM (N a0 32) 1 fun b2 =>
    ra Tm nM (N a0 23) 2 fun b3 =>
    gd (inb x1 (Tm b3).2) <|
    gd (inb x1 (Tm b2).2) <|
    bd (up2 I b2 x1.toNatClampNeg ((J b3 x1.toNatClampNeg).toInt32)) fun I6 =>
    ra Tm nM (N a0 32) 1 fun b7 =>
    ra Tm nM (N a0 24) 2 fun b8 =>
    gd (inb x1 (Tm b8).2) <|
    gd (inb ((7 : Int32) + x1) (Tm b7).2) <|
    bd (up2 I6 b7 ((7 : Int32) + x1).toNatClampNeg ((J b8 x1.toNatClampNeg).toInt32)) fun I11 =>
    k69 I11 J (x1 + 1)
def Mo_wishAsPair_69 (N : HN) (a0 : Nat) : Nat → HI → HJ → Int32 → Option (HI × HJ)
  | 0 => fun _ _ _ => none
  | n + 1 => Mo_wishAsPair_69b N a0 (Mo_wishAsPair_69 N a0 n)
def Mo_wishAsPair_56 (N : HN) (a0 : Nat) (k2 : HI → HJ → Int32 → Option (HI × HJ)) (I : HI) (J : HJ) (x1 : Int32) (bs0 : Nat) (s1 : Int32) (s2 : Int64) : Option (HI × HJ) :=
  gd (inb s1 (Tm bs0).2) <|
  bd (up2 J bs0 s1.toNatClampNeg s2) fun J2 =>
  k2 I J2 (x1 + 1)
def Mo_wishAsPair_30 (N : HN) (a0 : Nat) (k2 : HI → HJ → Int32 → Option (HI × HJ)) (I : HI) (J : HJ) (x1 : Int32) (bs0 : Nat) (s1 : Int32) (s2 : Int64) : Option (HI × HJ) :=
  gd (inb s1 (Tm bs0).2) <|
  bd (up2 J bs0 s1.toNatClampNeg s2) fun J2 =>
  ra Tm nM (N a0 24) 2 fun b3 =>
  if (7 : Int32) ≤ x1 then
    Mo_wishAsPair_56 N a0 k2 I J2 x1 b3 x1 (0 : Int64)
  else
    ra Tm nM (N a0 4) 1 fun b5 =>
    gd (inb ((7 : Int32) + x1) (Tm b5).2) <|
    Mo_wishAsPair_56 N a0 k2 I J2 x1 b3 x1 ((I b5 ((7 : Int32) + x1).toNatClampNeg).toInt64)
def Mo_wishAsPair_2b (N : HN) (a0 : Nat) (k2 : HI → HJ → Int32 → Option (HI × HJ)) (I : HI) (J : HJ) (x1 : Int32) : Option (HI × HJ) :=
  if (14 : Int32) ≤ x1 then
    bn1 (Mo_asPair N a0 J) fun J2 =>
    Mo_wishAsPair_69 N a0 256 I J2 (0 : Int32)
  else
    ra Tm nM (N a0 23) 2 fun b4 =>
    if (7 : Int32) ≤ x1 then
      Mo_wishAsPair_30 N a0 k2 I J x1 b4 x1 (0 : Int64)
    else
      ra Tm nM (N a0 4) 1 fun b6 =>
      gd (inb x1 (Tm b6).2) <|
      Mo_wishAsPair_30 N a0 k2 I J x1 b4 x1 ((I b6 x1.toNatClampNeg).toInt64)
def Mo_wishAsPair_2 (N : HN) (a0 : Nat) : Nat → HI → HJ → Int32 → Option (HI × HJ)
  | 0 => fun _ _ _ => none
  | n + 1 => Mo_wishAsPair_2b N a0 (Mo_wishAsPair_2 N a0 n)
def Mo_wishAsPair_0 (N : HN) (a0 : Nat) (I : HI) (J : HJ) : Option (HI × HJ) :=
  Mo_wishAsPair_2 N a0 256 I J (0 : Int32)
def Mo_wishAsPair (N : HN) (a0 : Nat) (I : HI) (J : HJ) : Option (HI × HJ) := Mo_wishAsPair_0 N a0 I J
def Mo_found_53 (N : HN) (a0 : Nat) (k6 : HI → HJ → Int32 → Option (HI × HJ × Int32)) (k18 : HI → HJ → Int32 → Int32 → Int32 → Option (HI × HJ × Int32)) (I : HI) (J : HJ) (x1 : Int32) (x3 : Int32) (s0 : Int32) : Option (HI × HJ × Int32) :=
  k18 I J x1 s0 (x3 + 1)
def Mo_found_52 (N : HN) (a0 : Nat) (k6 : HI → HJ → Int32 → Option (HI × HJ × Int32)) (k18 : HI → HJ → Int32 → Int32 → Int32 → Option (HI × HJ × Int32)) (I : HI) (J : HJ) (x1 : Int32) (x3 : Int32) : Option (HI × HJ × Int32) :=
  Mo_found_53 N a0 k6 k18 I J x1 x3 (0 : Int32)
def Mo_found_18b (N : HN) (a0 : Nat) (k6 : HI → HJ → Int32 → Option (HI × HJ × Int32)) (k18 : HI → HJ → Int32 → Int32 → Int32 → Option (HI × HJ × Int32)) (I : HI) (J : HJ) (x1 : Int32) (x2 : Int32) (x3 : Int32) : Option (HI × HJ × Int32) :=
  if (14 : Int32) ≤ x3 then
    if x2 = 0 then
      k6 I J (x1 + 1)
    else
      some (I, J, x1)
  else
    if x2 = 0 then
      Mo_found_52 N a0 k6 k18 I J x1 x3
    else
      ra Tm nM (N a0 29) 1 fun b4 =>
      gd (inb (((14 : Int32) * x1) + x3) (Tm b4).2) <|
      ra Tm nM (N a0 32) 1 fun b6 =>
      gd (inb x3 (Tm b6).2) <|
      if (I b4 (((14 : Int32) * x1) + x3).toNatClampNeg) = (I b6 x3.toNatClampNeg) then
        Mo_found_53 N a0 k6 k18 I J x1 x3 (1 : Int32)
      else
        Mo_found_52 N a0 k6 k18 I J x1 x3
def Mo_found_18 (N : HN) (a0 : Nat) (k6 : HI → HJ → Int32 → Option (HI × HJ × Int32)) : Nat → HI → HJ → Int32 → Int32 → Int32 → Option (HI × HJ × Int32)
  | 0 => fun _ _ _ _ _ => none
  | n + 1 => Mo_found_18b N a0 k6 (Mo_found_18 N a0 k6 n)
def Mo_found_6b (N : HN) (a0 : Nat) (k6 : HI → HJ → Int32 → Option (HI × HJ × Int32)) (I : HI) (J : HJ) (x1 : Int32) : Option (HI × HJ × Int32) :=
  if (I a0 31) ≤ x1 then
    some (I, J, (-1 : Int32))
  else
    Mo_found_18 N a0 k6 256 I J x1 (1 : Int32) (0 : Int32)
def Mo_found_6 (N : HN) (a0 : Nat) : Nat → HI → HJ → Int32 → Option (HI × HJ × Int32)
  | 0 => fun _ _ _ => none
  | n + 1 => Mo_found_6b N a0 (Mo_found_6 N a0 n)
def Mo_found_0 (N : HN) (a0 : Nat) (I : HI) (J : HJ) : Option (HI × HJ × Int32) :=
  bn2 (Mo_wishAsPair N a0 I J) fun I1 J2 =>
  Mo_found_6 N a0 256 I1 J2 (0 : Int32)
def Mo_found (N : HN) (a0 : Nat) (I : HI) (J : HJ) : Option (HI × HJ × Int32) := Mo_found_0 N a0 I J
def Mo_keep_80 (N : HN) (a0 : Nat) (I : HI) (J : HJ) (x1 : Int32) : Option (HI × HJ × Int32) :=
  ra Tm nM (N a0 30) 1 fun b1 =>
  gd (inb x1 (Tm b1).2) <|
  gd (inb x1 (Tm b1).2) <|
  bd (up2 I b1 x1.toNatClampNeg ((I b1 x1.toNatClampNeg) + (1 : Int32))) fun I4 =>
  some (I4, J, x1)
def Mo_keep_51b (N : HN) (a0 : Nat) (k51 : HI → HJ → Int32 → Int32 → Option (HI × HJ × Int32)) (I : HI) (J : HJ) (x1 : Int32) (x2 : Int32) : Option (HI × HJ × Int32) :=
  if (14 : Int32) ≤ x2 then
    Mo_keep_80 N a0 I J x1
  else
    ra Tm nM (N a0 29) 1 fun b2 =>
    ra Tm nM (N a0 32) 1 fun b3 =>
    gd (inb x2 (Tm b3).2) <|
    gd (inb (((14 : Int32) * x1) + x2) (Tm b2).2) <|
    bd (up2 I b2 (((14 : Int32) * x1) + x2).toNatClampNeg (I b3 x2.toNatClampNeg)) fun I6 =>
    k51 I6 J x1 (x2 + 1)
def Mo_keep_51 (N : HN) (a0 : Nat) : Nat → HI → HJ → Int32 → Int32 → Option (HI × HJ × Int32)
  | 0 => fun _ _ _ _ => none
  | n + 1 => Mo_keep_51b N a0 (Mo_keep_51 N a0 n)
def Mo_keep_22 (N : HN) (a0 : Nat) (I : HI) (J : HJ) (x1 : Int32) : Option (HI × HJ × Int32) :=
  if x1 = (-1 : Int32) then
    bd (I a0 31) fun v2 =>
    bd (up2 I a0 31 ((I a0 31) + (1 : Int32))) fun I3 =>
    ra Tm nM (N a0 30) 1 fun b4 =>
    gd (inb v2 (Tm b4).2) <|
    bd (up2 I3 b4 v2.toNatClampNeg (0 : Int32)) fun I6 =>
    Mo_keep_51 N a0 256 I6 J v2 (0 : Int32)
  else
    Mo_keep_80 N a0 I J x1
def Mo_keep_0 (N : HN) (a0 : Nat) (I : HI) (J : HJ) : Option (HI × HJ × Int32) :=
  bn3 (Mo_found N a0 I J) fun I1 J2 r3 =>
  if r3 = (-1 : Int32) then
    if (I1 a0 31) = (12 : Int32) then
      some (I1, J2, (-4 : Int32))
    else
      Mo_keep_22 N a0 I1 J2 r3
  else
    Mo_keep_22 N a0 I1 J2 r3
def Mo_keep (N : HN) (a0 : Nat) (I : HI) (J : HJ) : Option (HI × HJ × Int32) := Mo_keep_0 N a0 I J
def Mo_find_0 (N : HN) (a0 : Nat) (I : HI) (J : HJ) : Option (HI × HJ × Int32) :=
  bn3 (Mo_found N a0 I J) fun I1 J2 r3 =>
  some (I1, J2, r3)
def Mo_find (N : HN) (a0 : Nat) (I : HI) (J : HJ) : Option (HI × HJ × Int32) := Mo_find_0 N a0 I J
def Mo_keptBy_0 (I : HI) (N : HN) (a0 : Nat) (p1 : Int32) (p2 : Int32) : Option (Int32) :=
  if p2 = 0 then
    ra Tm nM (N a0 30) 1 fun b4 =>
    gd (inb p1 (Tm b4).2) <|
    some (I b4 p1.toNatClampNeg)
  else
    ra Tm nM (N a0 29) 1 fun b2 =>
    gd (inb ((((14 : Int32) * p1) + p2) - (1 : Int32)) (Tm b2).2) <|
    some (I b2 ((((14 : Int32) * p1) + p2) - (1 : Int32)).toNatClampNeg)
def Mo_keptBy (I : HI) (N : HN) (a0 : Nat) (p1 : Int32) (p2 : Int32) : Option (Int32) := Mo_keptBy_0 I N a0 p1 p2
def Mo_kept_0 (I : HI) (N : HN) (a0 : Nat) (p1 : Int32) (p2 : Int32) : Option (Int32) :=
  bn1 (Mo_in p1.toInt64 (0 : Int64) (((I a0 31) - (1 : Int32)).toInt64)) fun r1 =>
  if r1 = 0 then
    some (-2147483648 : Int32)
  else
    bn1 (Mo_in p2.toInt64 (0 : Int64) (14 : Int64)) fun r4 =>
    if r4 = 0 then
      some (-2147483648 : Int32)
    else
      bn1 (Mo_keptBy I N a0 p1 p2) fun r7 =>
      some r7
def Mo_kept (I : HI) (N : HN) (a0 : Nat) (p1 : Int32) (p2 : Int32) : Option (Int32) := Mo_kept_0 I N a0 p1 p2
def Mo_recall_21b (N : HN) (a0 : Nat) (p1 : Int32) (k21 : HI → Int32 → Option (HI × Int32)) (I : HI) (x2 : Int32) : Option (HI × Int32) :=
  if (14 : Int32) ≤ x2 then
    ra Tm nM (N a0 30) 1 fun b2 =>
    gd (inb p1 (Tm b2).2) <|
    some (I, I b2 p1.toNatClampNeg)
  else
    ra Tm nM (N a0 4) 1 fun b4 =>
    ra Tm nM (N a0 29) 1 fun b5 =>
    gd (inb (((14 : Int32) * p1) + x2) (Tm b5).2) <|
    gd (inb x2 (Tm b4).2) <|
    bd (up2 I b4 x2.toNatClampNeg (I b5 (((14 : Int32) * p1) + x2).toNatClampNeg)) fun I8 =>
    k21 I8 (x2 + 1)
def Mo_recall_21 (N : HN) (a0 : Nat) (p1 : Int32) : Nat → HI → Int32 → Option (HI × Int32)
  | 0 => fun _ _ => none
  | n + 1 => Mo_recall_21b N a0 p1 (Mo_recall_21 N a0 p1 n)
def Mo_recall_0 (N : HN) (a0 : Nat) (p1 : Int32) (I : HI) : Option (HI × Int32) :=
  bn1 (Mo_in p1.toInt64 (0 : Int64) (((I a0 31) - (1 : Int32)).toInt64)) fun r1 =>
  if r1 = 0 then
    some (I, (-2 : Int32))
  else
    Mo_recall_21 N a0 p1 256 I (0 : Int32)
def Mo_recall (N : HN) (a0 : Nat) (p1 : Int32) (I : HI) : Option (HI × Int32) := Mo_recall_0 N a0 p1 I
def Mo_write_44b (N : HN) (a0 : Nat) (p1 : Int32) (k44 : HI → HJ → Int32 → Int32 → Option (HI × HJ × Int32)) (I : HI) (J : HJ) (x2 : Int32) (x3 : Int32) : Option (HI × HJ × Int32) :=
  if x2 ≤ x3 then
    some (I, J, x2)
  else
    ra Tm nM (N a0 2) 2 fun b2 =>
    ra Tm nM (N a0 5) 1 fun b3 =>
    gd (inb x3 (Tm b3).2) <|
    gd (inb (((40 : Int32) * p1) + x3) (Tm b2).2) <|
    bd (up2 J b2 (((40 : Int32) * p1) + x3).toNatClampNeg ((I b3 x3.toNatClampNeg).toInt64)) fun J6 =>
    k44 I J6 x2 (x3 + 1)
def Mo_write_44 (N : HN) (a0 : Nat) (p1 : Int32) : Nat → HI → HJ → Int32 → Int32 → Option (HI × HJ × Int32)
  | 0 => fun _ _ _ _ => none
  | n + 1 => Mo_write_44b N a0 p1 (Mo_write_44 N a0 p1 n)
def Mo_write_0 (N : HN) (a0 : Nat) (p1 : Int32) (I : HI) (J : HJ) : Option (HI × HJ × Int32) :=
  bn1 (Mo_isSheet p1) fun r1 =>
  if r1 = 0 then
    some (I, J, (-2 : Int32))
  else
    ra Tm nM (N a0 1) 1 fun b4 =>
    gd (inb p1 (Tm b4).2) <|
    if (I b4 p1.toNatClampNeg) = (-1 : Int32) then
      bn2 (Mo_finds a0 (1 : Int32) I) fun I11 r12 =>
      some (I11, J, r12)
    else
      ra Tm nM (N a0 1) 1 fun b7 =>
      gd (inb p1 (Tm b7).2) <|
      bn1 (Mo_lesser (I b7 p1.toNatClampNeg) ((5 : Int32) * (I a0 6))) fun r9 =>
      Mo_write_44 N a0 p1 256 I J r9 (0 : Int32)
def Mo_write (N : HN) (a0 : Nat) (p1 : Int32) (I : HI) (J : HJ) : Option (HI × HJ × Int32) := Mo_write_0 N a0 p1 I J
def Mo_keptAll_4b (I : HI) (N : HN) (a0 : Nat) (k4 : Int32 → Int32 → Option (Int32)) (x1 : Int32) (x2 : Int32) : Option (Int32) :=
  if (I a0 31) ≤ x2 then
    some x1
  else
    ra Tm nM (N a0 30) 1 fun b2 =>
    gd (inb x2 (Tm b2).2) <|
    bd (x1 + (I b2 x2.toNatClampNeg)) fun v4 =>
    k4 v4 (x2 + 1)
def Mo_keptAll_4 (I : HI) (N : HN) (a0 : Nat) : Nat → Int32 → Int32 → Option (Int32)
  | 0 => fun _ _ => none
  | n + 1 => Mo_keptAll_4b I N a0 (Mo_keptAll_4 I N a0 n)
def Mo_keptAll_0 (I : HI) (N : HN) (a0 : Nat) : Option (Int32) :=
  Mo_keptAll_4 I N a0 256 (0 : Int32) (0 : Int32)
def Mo_keptAll (I : HI) (N : HN) (a0 : Nat) : Option (Int32) := Mo_keptAll_0 I N a0
def Mo_sheets_25 (I : HI) (N : HN) (a0 : Nat) (k4 : Int32 → Int32 → Option (Int32)) (x2 : Int32) (s0 : Int32) (s1 : Int32) : Option (Int32) :=
  bd (s0 + s1) fun v1 =>
  k4 v1 (x2 + 1)
def Mo_sheets_4b (I : HI) (N : HN) (a0 : Nat) (k4 : Int32 → Int32 → Option (Int32)) (x1 : Int32) (x2 : Int32) : Option (Int32) :=
  if (3 : Int32) ≤ x2 then
    some x1
  else
    ra Tm nM (N a0 1) 1 fun b2 =>
    gd (inb x2 (Tm b2).2) <|
    if (I b2 x2.toNatClampNeg) = (-1 : Int32) then
      Mo_sheets_25 I N a0 k4 x2 x1 (0 : Int32)
    else
      Mo_sheets_25 I N a0 k4 x2 x1 (1 : Int32)
def Mo_sheets_4 (I : HI) (N : HN) (a0 : Nat) : Nat → Int32 → Int32 → Option (Int32)
  | 0 => fun _ _ => none
  | n + 1 => Mo_sheets_4b I N a0 (Mo_sheets_4 I N a0 n)
def Mo_sheets_0 (I : HI) (N : HN) (a0 : Nat) : Option (Int32) :=
  Mo_sheets_4 I N a0 256 (0 : Int32) (0 : Int32)
def Mo_sheets (I : HI) (N : HN) (a0 : Nat) : Option (Int32) := Mo_sheets_0 I N a0
def Mo_count_0 (I : HI) (N : HN) (a0 : Nat) (p1 : Int32) (J : HJ) : Option (HJ × Int32) :=
  if p1 = (0 : Int32) then
    some (J, I a0 6)
  else
  if p1 = (1 : Int32) then
    ra Tm nM (N a0 5) 1 fun b3 =>
    bn1 (Mo_valuesIn I b3 (I a0 6)) fun r4 =>
    some (J, r4)
  else
  if p1 = (2 : Int32) then
    bn1 (Mo_isLawful I N a0) fun r7 =>
    if r7 = 0 then
      some (J, (0 : Int32))
    else
      some (J, (1 : Int32))
  else
  if p1 = (3 : Int32) then
    bn1 (Mo_parts I N a0 (1 : Int32)) fun r11 =>
    some (J, r11)
  else
  if p1 = (4 : Int32) then
    some (J, I a0 31)
  else
  if p1 = (5 : Int32) then
    bn1 (Mo_keptAll I N a0) fun r15 =>
    some (J, r15)
  else
  if p1 = (6 : Int32) then
    bn2 (Mo_alike I N a0 J) fun J18 r19 =>
    some (J18, r19)
  else
  if p1 = (7 : Int32) then
    bn1 (Mo_sheets I N a0) fun r22 =>
    some (J, r22)
  else
  if p1 = (8 : Int32) then
    some (J, I a0 0)
  else
  some (J, (-2 : Int32))
def Mo_count (I : HI) (N : HN) (a0 : Nat) (p1 : Int32) (J : HJ) : Option (HJ × Int32) := Mo_count_0 I N a0 p1 J
def Mo_ladderTells_57b (I : HI) (N : HN) (a0 : Nat) (p1 : Int64) (k47 : Int64 → Int32 → Int32 → Option (Int64)) (k57 : Int64 → Int32 → Int32 → Int32 → Option (Int64)) (x3 : Int64) (x5 : Int32) (x6 : Int32) (x7 : Int32) : Option (Int64) :=
  if (4 : Int32) ≤ x7 then
    k47 x3 x5 (x6 + 1)
  else
    bn1 (Mo_nthPart I N a0 x6) fun r2 =>
    bn1 (Mo_billBy I N a0 r2 x7) fun r4 =>
    bd (((31 : Int64) * x3) + r4.toInt64) fun v6 =>
    k57 v6 x5 x6 (x7 + 1)
def Mo_ladderTells_57 (I : HI) (N : HN) (a0 : Nat) (p1 : Int64) (k47 : Int64 → Int32 → Int32 → Option (Int64)) : Nat → Int64 → Int32 → Int32 → Int32 → Option (Int64)
  | 0 => fun _ _ _ _ => none
  | n + 1 => Mo_ladderTells_57b I N a0 p1 k47 (Mo_ladderTells_57 I N a0 p1 k47 n)
def Mo_ladderTells_47b (I : HI) (N : HN) (a0 : Nat) (p1 : Int64) (k47 : Int64 → Int32 → Int32 → Option (Int64)) (x3 : Int64) (x5 : Int32) (x6 : Int32) : Option (Int64) :=
  if x5 ≤ x6 then
    bn1 (Mo_values I N a0) fun r2 =>
    some (((31 : Int64) * x3) + r2.toInt64)
  else
    Mo_ladderTells_57 I N a0 p1 k47 256 x3 x5 x6 (0 : Int32)
def Mo_ladderTells_47 (I : HI) (N : HN) (a0 : Nat) (p1 : Int64) : Nat → Int64 → Int32 → Int32 → Option (Int64)
  | 0 => fun _ _ _ => none
  | n + 1 => Mo_ladderTells_47b I N a0 p1 (Mo_ladderTells_47 I N a0 p1 n)
def Mo_ladderTells_5b (I : HI) (N : HN) (a0 : Nat) (p1 : Int64) (k5 : Int64 → Int32 → Option (Int64)) (x3 : Int64) (x5 : Int32) : Option (Int64) :=
  if ((5 : Int32) * (I a0 6)) ≤ x5 then
    bn1 (Mo_parts I N a0 (1 : Int32)) fun r2 =>
    Mo_ladderTells_47 I N a0 p1 256 x3 r2 (0 : Int32)
  else
    ra Tm nM (N a0 5) 1 fun b4 =>
    gd (inb x5 (Tm b4).2) <|
    bd (((31 : Int64) * x3) + ((I b4 x5.toNatClampNeg).toInt64)) fun v6 =>
    k5 v6 (x5 + 1)
def Mo_ladderTells_5 (I : HI) (N : HN) (a0 : Nat) (p1 : Int64) : Nat → Int64 → Int32 → Option (Int64)
  | 0 => fun _ _ => none
  | n + 1 => Mo_ladderTells_5b I N a0 p1 (Mo_ladderTells_5 I N a0 p1 n)
def Mo_ladderTells_0 (I : HI) (N : HN) (a0 : Nat) (p1 : Int64) : Option (Int64) :=
  Mo_ladderTells_5 I N a0 p1 256 p1 (0 : Int32)
def Mo_ladderTells (I : HI) (N : HN) (a0 : Nat) (p1 : Int64) : Option (Int64) := Mo_ladderTells_0 I N a0 p1
def Mo_digest_243b (N : HN) (a0 : Nat) (k232 : HI → HJ → Int64 → Int32 → Option (HI × HJ × Int64)) (k243 : HI → HJ → Int64 → Int32 → Int32 → Option (HI × HJ × Int64)) (I : HI) (J : HJ) (x1 : Int64) (x3 : Int32) (x4 : Int32) : Option (HI × HJ × Int64) :=
  if (15 : Int32) ≤ x4 then
    k232 I J x1 (x3 + 1)
  else
    bn1 (Mo_keptBy I N a0 x3 x4) fun r2 =>
    bd (((31 : Int64) * x1) + r2.toInt64) fun v4 =>
    k243 I J v4 x3 (x4 + 1)
def Mo_digest_243 (N : HN) (a0 : Nat) (k232 : HI → HJ → Int64 → Int32 → Option (HI × HJ × Int64)) : Nat → HI → HJ → Int64 → Int32 → Int32 → Option (HI × HJ × Int64)
  | 0 => fun _ _ _ _ _ => none
  | n + 1 => Mo_digest_243b N a0 k232 (Mo_digest_243 N a0 k232 n)
def Mo_digest_232b (N : HN) (a0 : Nat) (k232 : HI → HJ → Int64 → Int32 → Option (HI × HJ × Int64)) (I : HI) (J : HJ) (x1 : Int64) (x3 : Int32) : Option (HI × HJ × Int64) :=
  if (I a0 31) ≤ x3 then
    some (I, J, x1)
  else
    Mo_digest_243 N a0 k232 256 I J x1 x3 (0 : Int32)
def Mo_digest_232 (N : HN) (a0 : Nat) : Nat → HI → HJ → Int64 → Int32 → Option (HI × HJ × Int64)
  | 0 => fun _ _ _ _ => none
  | n + 1 => Mo_digest_232b N a0 (Mo_digest_232 N a0 n)
def Mo_digest_187b (N : HN) (a0 : Nat) (k187 : HI → HJ → Int64 → Int32 → Option (HI × HJ × Int64)) (I : HI) (J : HJ) (x1 : Int64) (x3 : Int32) : Option (HI × HJ × Int64) :=
  if (2 : Int32) ≤ x3 then
    bn1 (Mo_ladderTells I N a0 x1) fun r2 =>
    bn3 (Mo_found N a0 I J) fun I4 J5 r6 =>
    bd (((31 : Int64) * r2) + r6.toInt64) fun v8 =>
    Mo_digest_232 N a0 256 I4 J5 v8 (0 : Int32)
  else
    bn1 (Mo_reactanceBy I N a0 (3 : Int32) (2 : Int32) x3) fun r9 =>
    bd (((31 : Int64) * x1) + r9) fun v11 =>
    k187 I J v11 (x3 + 1)
def Mo_digest_187 (N : HN) (a0 : Nat) : Nat → HI → HJ → Int64 → Int32 → Option (HI × HJ × Int64)
  | 0 => fun _ _ _ _ => none
  | n + 1 => Mo_digest_187b N a0 (Mo_digest_187 N a0 n)
def Mo_digest_160b (N : HN) (a0 : Nat) (k160 : HI → HJ → Int64 → Int32 → Option (HI × HJ × Int64)) (I : HI) (J : HJ) (x1 : Int64) (x3 : Int32) : Option (HI × HJ × Int64) :=
  if (2 : Int32) ≤ x3 then
    Mo_digest_187 N a0 256 I J x1 (0 : Int32)
  else
    bn1 (Mo_reactanceBy I N a0 (1 : Int32) (1 : Int32) x3) fun r2 =>
    bd (((31 : Int64) * x1) + r2) fun v4 =>
    k160 I J v4 (x3 + 1)
def Mo_digest_160 (N : HN) (a0 : Nat) : Nat → HI → HJ → Int64 → Int32 → Option (HI × HJ × Int64)
  | 0 => fun _ _ _ _ => none
  | n + 1 => Mo_digest_160b N a0 (Mo_digest_160 N a0 n)
def Mo_digest_134b (N : HN) (a0 : Nat) (k134 : HI → HJ → Int64 → Int32 → Option (HI × HJ × Int64)) (I : HI) (J : HJ) (x1 : Int64) (x3 : Int32) : Option (HI × HJ × Int64) :=
  if (4 : Int32) ≤ x3 then
    Mo_digest_160 N a0 256 I J x1 (0 : Int32)
  else
    bn3 (Mo_unfolds N a0 x3 I J) fun I2 J3 r4 =>
    bd (((31 : Int64) * x1) + r4.toInt64) fun v6 =>
    k134 I2 J3 v6 (x3 + 1)
def Mo_digest_134 (N : HN) (a0 : Nat) : Nat → HI → HJ → Int64 → Int32 → Option (HI × HJ × Int64)
  | 0 => fun _ _ _ _ => none
  | n + 1 => Mo_digest_134b N a0 (Mo_digest_134 N a0 n)
def Mo_digest_108b (N : HN) (a0 : Nat) (k108 : HI → HJ → Int64 → Int32 → Option (HI × HJ × Int64)) (I : HI) (J : HJ) (x1 : Int64) (x3 : Int32) : Option (HI × HJ × Int64) :=
  if (5 : Int32) ≤ x3 then
    Mo_digest_134 N a0 256 I J x1 (0 : Int32)
  else
    bn1 (Mo_infoBy I N a0 x3) fun r2 =>
    bd (((31 : Int64) * x1) + r2.toInt64) fun v4 =>
    k108 I J v4 (x3 + 1)
def Mo_digest_108 (N : HN) (a0 : Nat) : Nat → HI → HJ → Int64 → Int32 → Option (HI × HJ × Int64)
  | 0 => fun _ _ _ _ => none
  | n + 1 => Mo_digest_108b N a0 (Mo_digest_108 N a0 n)
def Mo_digest_37b (N : HN) (a0 : Nat) (k37 : HI → HJ → Int64 → Int32 → Option (HI × HJ × Int64)) (I : HI) (J : HJ) (x1 : Int64) (x3 : Int32) : Option (HI × HJ × Int64) :=
  if (7 : Int32) ≤ x3 then
    Mo_digest_108 N a0 256 I J x1 (0 : Int32)
  else
    ra Tm nM (N a0 4) 1 fun b2 =>
    gd (inb x3 (Tm b2).2) <|
    bd (((31 : Int64) * x1) + ((I b2 x3.toNatClampNeg).toInt64)) fun v4 =>
    ra Tm nM (N a0 4) 1 fun b5 =>
    gd (inb ((7 : Int32) + x3) (Tm b5).2) <|
    bd (((31 : Int64) * v4) + ((I b5 ((7 : Int32) + x3).toNatClampNeg).toInt64)) fun v7 =>
    bn1 (Mo_foldBy I J N a0 (0 : Int32) x3) fun r8 =>
    bd (((31 : Int64) * v7) + r8) fun v10 =>
    bn1 (Mo_foldBy I J N a0 (1 : Int32) x3) fun r11 =>
    bd (((31 : Int64) * v10) + r11) fun v13 =>
    k37 I J v13 (x3 + 1)
def Mo_digest_37 (N : HN) (a0 : Nat) : Nat → HI → HJ → Int64 → Int32 → Option (HI × HJ × Int64)
  | 0 => fun _ _ _ _ => none
  | n + 1 => Mo_digest_37b N a0 (Mo_digest_37 N a0 n)
def Mo_digest_6b (N : HN) (a0 : Nat) (k6 : HI → HJ → Int64 → Int32 → Option (HI × HJ × Int64)) (I : HI) (J : HJ) (x1 : Int64) (x3 : Int32) : Option (HI × HJ × Int64) :=
  if (8 : Int32) ≤ x3 then
    bn1 (Mo_folds I N a0 J) fun J2 =>
    Mo_digest_37 N a0 256 I J2 x1 (0 : Int32)
  else
    bn2 (Mo_count I N a0 x3 J) fun J4 r5 =>
    bd (((31 : Int64) * x1) + r5.toInt64) fun v7 =>
    k6 I J4 v7 (x3 + 1)
def Mo_digest_6 (N : HN) (a0 : Nat) : Nat → HI → HJ → Int64 → Int32 → Option (HI × HJ × Int64)
  | 0 => fun _ _ _ _ => none
  | n + 1 => Mo_digest_6b N a0 (Mo_digest_6 N a0 n)
def Mo_digest_0 (N : HN) (a0 : Nat) (I : HI) (J : HJ) : Option (HI × HJ × Int64) :=
  Mo_digest_6 N a0 256 I J (17 : Int64) (0 : Int32)
def Mo_digest (N : HN) (a0 : Nat) (I : HI) (J : HJ) : Option (HI × HJ × Int64) := Mo_digest_0 N a0 I J
end
section
abbrev c_Bi_init : ByteArray := prog_2_method_1_code
def y_Bi_init : MethodName := ⟨RX0, "<init>", "()V"⟩
abbrev c_La_item : ByteArray := prog_5_method_2_code
def y_La_item : MethodName := ⟨RX3, "item", "(II)I"⟩
def rm_La_item : Room := { frames := 0, cells := 0, slots := 0, locals := 0 }
abbrev c_Bi_addPart : ByteArray := prog_2_method_3_code
def y_Bi_addPart : MethodName := ⟨RX0, "addPart", "(III)V"⟩
def rm_Bi_addPart : Room := { frames := 0, cells := 0, slots := 0, locals := 0 }
abbrev c_Bi_countUp : ByteArray := prog_2_method_2_code
def y_Bi_countUp : MethodName := ⟨RX0, "countUp", "(LLadderMaker$Ladder;)V"⟩
def rm_Bi_countUp : Room := { frames := 1, cells := 0, slots := 0, locals := 25 }
abbrev c_Bi_item : ByteArray := prog_2_method_4_code
def y_Bi_item : MethodName := ⟨RX0, "item", "(II)I"⟩
def rm_Bi_item : Room := { frames := 0, cells := 0, slots := 0, locals := 0 }
abbrev c_Bi_differentValues : ByteArray := prog_2_method_5_code
def y_Bi_differentValues : MethodName := ⟨RX0, "differentValues", "()I"⟩
def rm_Bi_differentValues : Room := { frames := 1, cells := 0, slots := 0, locals := 23 }
abbrev c_Po_init : ByteArray := prog_8_method_1_code
def y_Po_init : MethodName := ⟨RX6, "<init>", "()V"⟩
abbrev c_Pa_init : ByteArray := prog_7_method_1_code
def y_Pa_init : MethodName := ⟨RX5, "<init>", "()V"⟩
abbrev c_Fo_init : ByteArray := prog_3_method_1_code
def y_Fo_init : MethodName := ⟨RX1, "<init>", "()V"⟩
abbrev c_Po_clear : ByteArray := prog_8_method_4_code
def y_Po_clear : MethodName := ⟨RX6, "clear", "()V"⟩
def rm_Po_clear : Room := { frames := 0, cells := 0, slots := 0, locals := 0 }
abbrev c_Pa_side : ByteArray := prog_7_method_2_code
def y_Pa_side : MethodName := ⟨RX5, "side", "(I)LLadderMaker$Polynomial;"⟩
def rm_Pa_side : Room := { frames := 0, cells := 0, slots := 0, locals := 0 }
abbrev c_Po_put : ByteArray := prog_8_method_3_code
def y_Po_put : MethodName := ⟨RX6, "put", "(IJ)V"⟩
def rm_Po_put : Room := { frames := 0, cells := 0, slots := 0, locals := 0 }
abbrev c_Fo_loadArm : ByteArray := prog_3_method_3_code
def y_Fo_loadArm : MethodName := ⟨RX1, "loadArm", "(LLadderMaker$Ladder;I)V"⟩
def rm_Fo_loadArm : Room := { frames := 1, cells := 0, slots := 0, locals := 23 }
abbrev c_Pa_swap : ByteArray := prog_7_method_6_code
def y_Pa_swap : MethodName := ⟨RX5, "swap", "()V"⟩
def rm_Pa_swap : Room := { frames := 0, cells := 0, slots := 0, locals := 0 }
abbrev c_Po_addProduct : ByteArray := prog_8_method_11_code
def y_Po_addProduct : MethodName := ⟨RX6, "addProduct", "(LLadderMaker$Polynomial;LLadderMaker$Polynomial;)V"⟩
def rm_Po_addProduct : Room := { frames := 0, cells := 0, slots := 0, locals := 0 }
abbrev c_Po_load : ByteArray := prog_8_method_5_code
def y_Po_load : MethodName := ⟨RX6, "load", "(LLadderMaker$Polynomial;)V"⟩
def rm_Po_load : Room := { frames := 0, cells := 0, slots := 0, locals := 0 }
abbrev c_Pa_load : ByteArray := prog_7_method_5_code
def y_Pa_load : MethodName := ⟨RX5, "load", "(LLadderMaker$Pair;)V"⟩
def rm_Pa_load : Room := { frames := 1, cells := 0, slots := 0, locals := 22 }
abbrev c_Fo_addArm : ByteArray := prog_3_method_4_code
def y_Fo_addArm : MethodName := ⟨RX1, "addArm", "()V"⟩
def rm_Fo_addArm : Room := { frames := 2, cells := 0, slots := 0, locals := 43 }
abbrev c_Po_at : ByteArray := prog_8_method_2_code
def y_Po_at : MethodName := ⟨RX6, "at", "(I)J"⟩
def rm_Po_at : Room := { frames := 0, cells := 0, slots := 0, locals := 0 }
abbrev c_Pa_number : ByteArray := prog_7_method_3_code
def y_Pa_number : MethodName := ⟨RX5, "number", "(I)J"⟩
def rm_Pa_number : Room := { frames := 1, cells := 0, slots := 0, locals := 21 }
abbrev c_Lm_commonDivisor : ByteArray := prog_1_method_40_code
def y_Lm_commonDivisor : MethodName := ⟨RX10, "commonDivisor", "(JJ)J"⟩
def rm_Lm_commonDivisor : Room := { frames := 1, cells := 0, slots := 0, locals := 24 }
abbrev c_Po_degree : ByteArray := prog_8_method_7_code
def y_Po_degree : MethodName := ⟨RX6, "degree", "()I"⟩
def rm_Po_degree : Room := { frames := 0, cells := 0, slots := 0, locals := 0 }
abbrev c_Po_divideBy : ByteArray := prog_8_method_13_code
def y_Po_divideBy : MethodName := ⟨RX6, "divideBy", "(J)V"⟩
def rm_Po_divideBy : Room := { frames := 0, cells := 0, slots := 0, locals := 0 }
abbrev c_Pa_becomeAsPair : ByteArray := prog_7_method_9_code
def y_Pa_becomeAsPair : MethodName := ⟨RX5, "becomeAsPair", "()V"⟩
def rm_Pa_becomeAsPair : Room := { frames := 2, cells := 0, slots := 0, locals := 54 }
abbrev c_Fo_foldUp : ByteArray := prog_3_method_2_code
def y_Fo_foldUp : MethodName := ⟨RX1, "foldUp", "(LLadderMaker$Ladder;)V"⟩
def rm_Fo_foldUp : Room := { frames := 3, cells := 0, slots := 0, locals := 79 }
abbrev c_Fr_init : ByteArray := prog_4_method_1_code
def y_Fr_init : MethodName := ⟨RX2, "<init>", "()V"⟩
abbrev c_Fr_put : ByteArray := prog_4_method_2_code
def y_Fr_put : MethodName := ⟨RX2, "put", "(JJ)V"⟩
def rm_Fr_put : Room := { frames := 2, cells := 0, slots := 0, locals := 54 }
abbrev c_Fr_isHandy : ByteArray := prog_4_method_3_code
def y_Fr_isHandy : MethodName := ⟨RX2, "isHandy", "()Z"⟩
def rm_Fr_isHandy : Room := { frames := 0, cells := 0, slots := 0, locals := 0 }
abbrev c_La_init : ByteArray := prog_5_method_1_code
def y_La_init : MethodName := ⟨RX3, "<init>", "()V"⟩
abbrev c_La_valueCount : ByteArray := prog_5_method_3_code
def y_La_valueCount : MethodName := ⟨RX3, "valueCount", "()I"⟩
def rm_La_valueCount : Room := { frames := 0, cells := 0, slots := 0, locals := 0 }
abbrev c_La_add : ByteArray := prog_5_method_4_code
def y_La_add : MethodName := ⟨RX3, "add", "(IIIII)Z"⟩
def rm_La_add : Room := { frames := 1, cells := 0, slots := 0, locals := 22 }
abbrev c_La_dropLast : ByteArray := prog_5_method_5_code
def y_La_dropLast : MethodName := ⟨RX3, "dropLast", "()V"⟩
def rm_La_dropLast : Room := { frames := 0, cells := 0, slots := 0, locals := 0 }
abbrev c_La_clear : ByteArray := prog_5_method_6_code
def y_La_clear : MethodName := ⟨RX3, "clear", "()V"⟩
def rm_La_clear : Room := { frames := 0, cells := 0, slots := 0, locals := 0 }
abbrev c_La_load : ByteArray := prog_5_method_7_code
def y_La_load : MethodName := ⟨RX3, "load", "(LLadderMaker$Ladder;)V"⟩
def rm_La_load : Room := { frames := 1, cells := 0, slots := 0, locals := 23 }
abbrev c_Me_init : ByteArray := prog_6_method_1_code
def y_Me_init : MethodName := ⟨RX4, "<init>", "()V"⟩
abbrev c_Me_holds : ByteArray := prog_6_method_2_code
def y_Me_holds : MethodName := ⟨RX4, "holds", "(I)Z"⟩
def rm_Me_holds : Room := { frames := 0, cells := 0, slots := 0, locals := 0 }
abbrev c_Me_item : ByteArray := prog_6_method_3_code
def y_Me_item : MethodName := ⟨RX4, "item", "(II)I"⟩
def rm_Me_item : Room := { frames := 1, cells := 0, slots := 0, locals := 21 }
abbrev c_Me_isSought : ByteArray := prog_6_method_5_code
def y_Me_isSought : MethodName := ⟨RX4, "isSought", "(I)Z"⟩
def rm_Me_isSought : Room := { frames := 2, cells := 0, slots := 0, locals := 44 }
abbrev c_Me_numberOf : ByteArray := prog_6_method_4_code
def y_Me_numberOf : MethodName := ⟨RX4, "numberOf", "(LLadderMaker$Pair;)I"⟩
def rm_Me_numberOf : Room := { frames := 3, cells := 0, slots := 0, locals := 79 }
abbrev c_Me_keepOnce : ByteArray := prog_6_method_6_code
def y_Me_keepOnce : MethodName := ⟨RX4, "keepOnce", "(LLadderMaker$Pair;)I"⟩
def rm_Me_keepOnce : Room := { frames := 4, cells := 0, slots := 0, locals := 101 }
abbrev c_Me_timesOfAll : ByteArray := prog_6_method_7_code
def y_Me_timesOfAll : MethodName := ⟨RX4, "timesOfAll", "()I"⟩
def rm_Me_timesOfAll : Room := { frames := 2, cells := 0, slots := 0, locals := 44 }
abbrev c_Pa_putNumber : ByteArray := prog_7_method_4_code
def y_Pa_putNumber : MethodName := ⟨RX5, "putNumber", "(IJ)V"⟩
def rm_Pa_putNumber : Room := { frames := 1, cells := 0, slots := 0, locals := 23 }
abbrev c_Po_isOfParity : ByteArray := prog_8_method_9_code
def y_Po_isOfParity : MethodName := ⟨RX6, "isOfParity", "(I)Z"⟩
def rm_Po_isOfParity : Room := { frames := 0, cells := 0, slots := 0, locals := 0 }
abbrev c_Pa_isLawful : ByteArray := prog_7_method_7_code
def y_Pa_isLawful : MethodName := ⟨RX5, "isLawful", "()Z"⟩
def rm_Pa_isLawful : Room := { frames := 1, cells := 0, slots := 0, locals := 23 }
abbrev c_Pa_greaterDegree : ByteArray := prog_7_method_8_code
def y_Pa_greaterDegree : MethodName := ⟨RX5, "greaterDegree", "()I"⟩
def rm_Pa_greaterDegree : Room := { frames := 1, cells := 0, slots := 0, locals := 24 }
abbrev c_Pa_isFractionOf : ByteArray := prog_7_method_10_code
def y_Pa_isFractionOf : MethodName := ⟨RX5, "isFractionOf", "(LLadderMaker$Pair;)Z"⟩
def rm_Pa_isFractionOf : Room := { frames := 1, cells := 0, slots := 0, locals := 21 }
abbrev c_Po_multiplyBy : ByteArray := prog_8_method_12_code
def y_Po_multiplyBy : MethodName := ⟨RX6, "multiplyBy", "(J)V"⟩
def rm_Po_multiplyBy : Room := { frames := 0, cells := 0, slots := 0, locals := 0 }
abbrev c_Pa_goOn : ByteArray := prog_7_method_11_code
def y_Pa_goOn : MethodName := ⟨RX5, "goOn", "(LLadderMaker$Fraction;I)V"⟩
def rm_Pa_goOn : Room := { frames := 1, cells := 0, slots := 0, locals := 23 }
abbrev c_Po_loadEveryOther : ByteArray := prog_8_method_6_code
def y_Po_loadEveryOther : MethodName := ⟨RX6, "loadEveryOther", "(LLadderMaker$Polynomial;I)V"⟩
def rm_Po_loadEveryOther : Room := { frames := 1, cells := 0, slots := 0, locals := 21 }
abbrev c_Po_leastPower : ByteArray := prog_8_method_8_code
def y_Po_leastPower : MethodName := ⟨RX6, "leastPower", "()I"⟩
def rm_Po_leastPower : Room := { frames := 0, cells := 0, slots := 0, locals := 0 }
abbrev c_Po_runBackwards : ByteArray := prog_8_method_10_code
def y_Po_runBackwards : MethodName := ⟨RX6, "runBackwards", "(I)V"⟩
def rm_Po_runBackwards : Room := { frames := 1, cells := 0, slots := 0, locals := 23 }
abbrev c_Po_valueAtMinus : ByteArray := prog_8_method_14_code
def y_Po_valueAtMinus : MethodName := ⟨RX6, "valueAtMinus", "(JJ)J"⟩
def rm_Po_valueAtMinus : Room := { frames := 0, cells := 0, slots := 0, locals := 0 }
abbrev c_Po_divideByRoot : ByteArray := prog_8_method_15_code
def y_Po_divideByRoot : MethodName := ⟨RX6, "divideByRoot", "(JJ)V"⟩
def rm_Po_divideByRoot : Room := { frames := 0, cells := 0, slots := 0, locals := 0 }
abbrev c_Re_init : ByteArray := prog_9_method_1_code
def y_Re_init : MethodName := ⟨RX7, "<init>", "()V"⟩
abbrev c_Re_halfValue : ByteArray := prog_9_method_3_code
def y_Re_halfValue : MethodName := ⟨RX7, "halfValue", "(LLadderMaker$Polynomial;III)J"⟩
def rm_Re_halfValue : Room := { frames := 2, cells := 0, slots := 0, locals := 44 }
abbrev c_Re_workOut : ByteArray := prog_9_method_2_code
def y_Re_workOut : MethodName := ⟨RX7, "workOut", "(LLadderMaker$Pair;II)Z"⟩
def rm_Re_workOut : Room := { frames := 3, cells := 0, slots := 0, locals := 80 }
abbrev c_Sh_init : ByteArray := prog_10_method_1_code
def y_Sh_init : MethodName := ⟨RX8, "<init>", "()V"⟩
abbrev c_Sh_isSheet : ByteArray := prog_10_method_2_code
def y_Sh_isSheet : MethodName := ⟨RX8, "isSheet", "(I)Z"⟩
def rm_Sh_isSheet : Room := { frames := 0, cells := 0, slots := 0, locals := 0 }
abbrev c_Sh_size : ByteArray := prog_10_method_3_code
def y_Sh_size : MethodName := ⟨RX8, "size", "(I)I"⟩
def rm_Sh_size : Room := { frames := 1, cells := 0, slots := 0, locals := 21 }
abbrev c_Sh_isLost : ByteArray := prog_10_method_4_code
def y_Sh_isLost : MethodName := ⟨RX8, "isLost", "(I)Z"⟩
def rm_Sh_isLost : Room := { frames := 2, cells := 0, slots := 0, locals := 42 }
abbrev c_Sh_notLost : ByteArray := prog_10_method_5_code
def y_Sh_notLost : MethodName := ⟨RX8, "notLost", "()I"⟩
def rm_Sh_notLost : Room := { frames := 3, cells := 0, slots := 0, locals := 63 }
abbrev c_Sh_renew : ByteArray := prog_10_method_6_code
def y_Sh_renew : MethodName := ⟨RX8, "renew", "(II)V"⟩
def rm_Sh_renew : Room := { frames := 1, cells := 0, slots := 0, locals := 21 }
abbrev c_Sh_forget : ByteArray := prog_10_method_7_code
def y_Sh_forget : MethodName := ⟨RX8, "forget", "(I)V"⟩
def rm_Sh_forget : Room := { frames := 1, cells := 0, slots := 0, locals := 21 }
abbrev c_Sh_hasRun : ByteArray := prog_10_method_8_code
def y_Sh_hasRun : MethodName := ⟨RX8, "hasRun", "(III)Z"⟩
def rm_Sh_hasRun : Room := { frames := 2, cells := 0, slots := 0, locals := 42 }
abbrev c_Sh_item : ByteArray := prog_10_method_9_code
def y_Sh_item : MethodName := ⟨RX8, "item", "(II)J"⟩
def rm_Sh_item : Room := { frames := 3, cells := 0, slots := 0, locals := 65 }
abbrev c_Sh_put : ByteArray := prog_10_method_10_code
def y_Sh_put : MethodName := ⟨RX8, "put", "(IIJ)V"⟩
def rm_Sh_put : Room := { frames := 3, cells := 0, slots := 0, locals := 65 }
abbrev c_Sh_move : ByteArray := prog_10_method_11_code
def y_Sh_move : MethodName := ⟨RX8, "move", "(IIIII)V"⟩
def rm_Sh_move : Room := { frames := 3, cells := 0, slots := 0, locals := 65 }
abbrev c_Un_init : ByteArray := prog_11_method_1_code
def y_Un_init : MethodName := ⟨RX9, "<init>", "()V"⟩
abbrev c_Un_endOf : ByteArray := prog_11_method_4_code
def y_Un_endOf : MethodName := ⟨RX9, "endOf", "(LLadderMaker$Polynomial;Z)I"⟩
def rm_Un_endOf : Room := { frames := 1, cells := 0, slots := 0, locals := 21 }
abbrev c_Un_unlawful : ByteArray := prog_11_method_13_code
def y_Un_unlawful : MethodName := ⟨RX9, "unlawful", "(I)I"⟩
def rm_Un_unlawful : Room := { frames := 0, cells := 0, slots := 0, locals := 0 }
abbrev c_Un_addRising : ByteArray := prog_11_method_14_code
def y_Un_addRising : MethodName := ⟨RX9, "addRising", "(I)V"⟩
def rm_Un_addRising : Room := { frames := 2, cells := 0, slots := 0, locals := 49 }
abbrev c_Un_addFalling : ByteArray := prog_11_method_15_code
def y_Un_addFalling : MethodName := ⟨RX9, "addFalling", "(I)V"⟩
def rm_Un_addFalling : Room := { frames := 2, cells := 0, slots := 0, locals := 49 }
abbrev c_Un_divideOn : ByteArray := prog_11_method_3_code
def y_Un_divideOn : MethodName := ⟨RX9, "divideOn", "(Z)I"⟩
def rm_Un_divideOn : Room := { frames := 3, cells := 0, slots := 0, locals := 80 }
abbrev c_Un_loadInX : ByteArray := prog_11_method_6_code
def y_Un_loadInX : MethodName := ⟨RX9, "loadInX", "()V"⟩
def rm_Un_loadInX : Room := { frames := 2, cells := 0, slots := 0, locals := 44 }
abbrev c_Un_timesInRest : ByteArray := prog_11_method_8_code
def y_Un_timesInRest : MethodName := ⟨RX9, "timesInRest", "(II)I"⟩
def rm_Un_timesInRest : Room := { frames := 1, cells := 0, slots := 0, locals := 29 }
abbrev c_Un_addRoot : ByteArray := prog_11_method_9_code
def y_Un_addRoot : MethodName := ⟨RX9, "addRoot", "(III)V"⟩
def rm_Un_addRoot : Room := { frames := 0, cells := 0, slots := 0, locals := 0 }
abbrev c_Un_findRoots : ByteArray := prog_11_method_7_code
def y_Un_findRoots : MethodName := ⟨RX9, "findRoots", "()V"⟩
def rm_Un_findRoots : Room := { frames := 2, cells := 0, slots := 0, locals := 54 }
abbrev c_Un_poleAtGreatest : ByteArray := prog_11_method_10_code
def y_Un_poleAtGreatest : MethodName := ⟨RX9, "poleAtGreatest", "(I)I"⟩
def rm_Un_poleAtGreatest : Room := { frames := 3, cells := 0, slots := 0, locals := 80 }
abbrev c_Un_poleAtZero : ByteArray := prog_11_method_11_code
def y_Un_poleAtZero : MethodName := ⟨RX9, "poleAtZero", "(I)I"⟩
def rm_Un_poleAtZero : Room := { frames := 3, cells := 0, slots := 0, locals := 80 }
abbrev c_Un_addBoth : ByteArray := prog_11_method_16_code
def y_Un_addBoth : MethodName := ⟨RX9, "addBoth", "(I)V"⟩
def rm_Un_addBoth : Room := { frames := 2, cells := 0, slots := 0, locals := 49 }
abbrev c_Un_poleAtRoot : ByteArray := prog_11_method_12_code
def y_Un_poleAtRoot : MethodName := ⟨RX9, "poleAtRoot", "(II)I"⟩
def rm_Un_poleAtRoot : Room := { frames := 3, cells := 0, slots := 0, locals := 80 }
abbrev c_Un_divideByPoles : ByteArray := prog_11_method_5_code
def y_Un_divideByPoles : MethodName := ⟨RX9, "divideByPoles", "(I)I"⟩
def rm_Un_divideByPoles : Room := { frames := 4, cells := 0, slots := 0, locals := 104 }
abbrev c_Un_tryWay : ByteArray := prog_11_method_2_code
def y_Un_tryWay : MethodName := ⟨RX9, "tryWay", "(LLadderMaker$Pair;I)I"⟩
def rm_Un_tryWay : Room := { frames := 5, cells := 0, slots := 0, locals := 127 }
abbrev c_Lm_init : ByteArray := prog_1_method_1_code
def y_Lm_init : MethodName := ⟨RX10, "<init>", "()V"⟩
abbrev c_Lm_isPlace : ByteArray := prog_1_method_37_code
def y_Lm_isPlace : MethodName := ⟨RX10, "isPlace", "(I)Z"⟩
def rm_Lm_isPlace : Room := { frames := 0, cells := 0, slots := 0, locals := 0 }
abbrev c_Lm_isPower : ByteArray := prog_1_method_38_code
def y_Lm_isPower : MethodName := ⟨RX10, "isPower", "(I)Z"⟩
def rm_Lm_isPower : Room := { frames := 0, cells := 0, slots := 0, locals := 0 }
abbrev c_Lm_isWishNumber : ByteArray := prog_1_method_39_code
def y_Lm_isWishNumber : MethodName := ⟨RX10, "isWishNumber", "(J)Z"⟩
def rm_Lm_isWishNumber : Room := { frames := 0, cells := 0, slots := 0, locals := 0 }
abbrev c_Lm_tell : ByteArray := prog_1_method_2_code
def y_Lm_tell : MethodName := ⟨RX10, "tell", "(III)I"⟩
def rm_Lm_tell : Room := { frames := 1, cells := 0, slots := 0, locals := 23 }
abbrev c_Lm_told : ByteArray := prog_1_method_3_code
def y_Lm_told : MethodName := ⟨RX10, "told", "(II)I"⟩
def rm_Lm_told : Room := { frames := 1, cells := 0, slots := 0, locals := 21 }
abbrev c_Lm_turn : ByteArray := prog_1_method_4_code
def y_Lm_turn : MethodName := ⟨RX10, "turn", "()I"⟩
def rm_Lm_turn : Room := { frames := 2, cells := 0, slots := 0, locals := 43 }
abbrev c_Lm_reverse : ByteArray := prog_1_method_5_code
def y_Lm_reverse : MethodName := ⟨RX10, "reverse", "()I"⟩
def rm_Lm_reverse : Room := { frames := 2, cells := 0, slots := 0, locals := 47 }
abbrev c_Lm_finding : ByteArray := prog_1_method_33_code
def y_Lm_finding : MethodName := ⟨RX10, "finding", "(I)I"⟩
def rm_Lm_finding : Room := { frames := 0, cells := 0, slots := 0, locals := 0 }
abbrev c_Lm_sheetRefusal : ByteArray := prog_1_method_34_code
def y_Lm_sheetRefusal : MethodName := ⟨RX10, "sheetRefusal", "(I)I"⟩
def rm_Lm_sheetRefusal : Room := { frames := 3, cells := 0, slots := 0, locals := 63 }
abbrev c_Lm_read : ByteArray := prog_1_method_6_code
def y_Lm_read : MethodName := ⟨RX10, "read", "(II)I"⟩
def rm_Lm_read : Room := { frames := 4, cells := 0, slots := 0, locals := 87 }
abbrev c_Lm_info : ByteArray := prog_1_method_7_code
def y_Lm_info : MethodName := ⟨RX10, "info", "(I)I"⟩
def rm_Lm_info : Room := { frames := 2, cells := 0, slots := 0, locals := 43 }
abbrev c_Lm_asLong : ByteArray := prog_1_method_36_code
def y_Lm_asLong : MethodName := ⟨RX10, "asLong", "(I)J"⟩
def rm_Lm_asLong : Room := { frames := 0, cells := 0, slots := 0, locals := 0 }
abbrev c_Lm_reactance : ByteArray := prog_1_method_8_code
def y_Lm_reactance : MethodName := ⟨RX10, "reactance", "(III)J"⟩
def rm_Lm_reactance : Room := { frames := 4, cells := 0, slots := 0, locals := 108 }
abbrev c_Lm_ladderChanged : ByteArray := prog_1_method_32_code
def y_Lm_ladderChanged : MethodName := ⟨RX10, "ladderChanged", "()V"⟩
def rm_Lm_ladderChanged : Room := { frames := 4, cells := 0, slots := 0, locals := 104 }
abbrev c_Lm_arm : ByteArray := prog_1_method_9_code
def y_Lm_arm : MethodName := ⟨RX10, "arm", "(III)I"⟩
def rm_Lm_arm : Room := { frames := 5, cells := 0, slots := 0, locals := 124 }
abbrev c_Lm_back : ByteArray := prog_1_method_10_code
def y_Lm_back : MethodName := ⟨RX10, "back", "()I"⟩
def rm_Lm_back : Room := { frames := 5, cells := 0, slots := 0, locals := 124 }
abbrev c_Lm_would : ByteArray := prog_1_method_12_code
def y_Lm_would : MethodName := ⟨RX10, "would", "(I)I"⟩
def rm_Lm_would : Room := { frames := 6, cells := 0, slots := 0, locals := 149 }
abbrev c_Lm_unfold : ByteArray := prog_1_method_11_code
def y_Lm_unfold : MethodName := ⟨RX10, "unfold", "(I)I"⟩
def rm_Lm_unfold : Room := { frames := 7, cells := 0, slots := 0, locals := 170 }
abbrev c_Lm_element : ByteArray := prog_1_method_13_code
def y_Lm_element : MethodName := ⟨RX10, "element", "(II)I"⟩
def rm_Lm_element : Room := { frames := 1, cells := 0, slots := 0, locals := 23 }
abbrev c_Lm_fold : ByteArray := prog_1_method_14_code
def y_Lm_fold : MethodName := ⟨RX10, "fold", "(II)J"⟩
def rm_Lm_fold : Room := { frames := 1, cells := 0, slots := 0, locals := 21 }
abbrev c_Lm_alike : ByteArray := prog_1_method_15_code
def y_Lm_alike : MethodName := ⟨RX10, "alike", "()I"⟩
def rm_Lm_alike : Room := { frames := 2, cells := 0, slots := 0, locals := 46 }
abbrev c_Lm_take : ByteArray := prog_1_method_16_code
def y_Lm_take : MethodName := ⟨RX10, "take", "()I"⟩
def rm_Lm_take : Room := { frames := 2, cells := 0, slots := 0, locals := 44 }
abbrev c_Lm_bill : ByteArray := prog_1_method_17_code
def y_Lm_bill : MethodName := ⟨RX10, "bill", "(II)I"⟩
def rm_Lm_bill : Room := { frames := 1, cells := 0, slots := 0, locals := 23 }
abbrev c_Lm_values : ByteArray := prog_1_method_18_code
def y_Lm_values : MethodName := ⟨RX10, "values", "()I"⟩
def rm_Lm_values : Room := { frames := 2, cells := 0, slots := 0, locals := 47 }
abbrev c_Lm_keep : ByteArray := prog_1_method_19_code
def y_Lm_keep : MethodName := ⟨RX10, "keep", "()I"⟩
def rm_Lm_keep : Room := { frames := 5, cells := 0, slots := 0, locals := 124 }
abbrev c_Lm_find : ByteArray := prog_1_method_20_code
def y_Lm_find : MethodName := ⟨RX10, "find", "()I"⟩
def rm_Lm_find : Room := { frames := 4, cells := 0, slots := 0, locals := 101 }
abbrev c_Lm_kept : ByteArray := prog_1_method_21_code
def y_Lm_kept : MethodName := ⟨RX10, "kept", "(II)I"⟩
def rm_Lm_kept : Room := { frames := 2, cells := 0, slots := 0, locals := 44 }
abbrev c_Lm_recall : ByteArray := prog_1_method_22_code
def y_Lm_recall : MethodName := ⟨RX10, "recall", "(I)I"⟩
def rm_Lm_recall : Room := { frames := 2, cells := 0, slots := 0, locals := 46 }
abbrev c_Lm_sheet : ByteArray := prog_1_method_23_code
def y_Lm_sheet : MethodName := ⟨RX10, "sheet", "(II)I"⟩
def rm_Lm_sheet : Room := { frames := 2, cells := 0, slots := 0, locals := 44 }
abbrev c_Lm_lose : ByteArray := prog_1_method_24_code
def y_Lm_lose : MethodName := ⟨RX10, "lose", "(I)I"⟩
def rm_Lm_lose : Room := { frames := 4, cells := 0, slots := 0, locals := 84 }
abbrev c_Lm_itemRefusal : ByteArray := prog_1_method_35_code
def y_Lm_itemRefusal : MethodName := ⟨RX10, "itemRefusal", "(II)I"⟩
def rm_Lm_itemRefusal : Room := { frames := 4, cells := 0, slots := 0, locals := 84 }
abbrev c_Lm_lay : ByteArray := prog_1_method_25_code
def y_Lm_lay : MethodName := ⟨RX10, "lay", "(III)I"⟩
def rm_Lm_lay : Room := { frames := 5, cells := 0, slots := 0, locals := 107 }
abbrev c_Lm_get : ByteArray := prog_1_method_26_code
def y_Lm_get : MethodName := ⟨RX10, "get", "(II)J"⟩
def rm_Lm_get : Room := { frames := 5, cells := 0, slots := 0, locals := 107 }
abbrev c_Lm_copy : ByteArray := prog_1_method_27_code
def y_Lm_copy : MethodName := ⟨RX10, "copy", "(IIIII)I"⟩
def rm_Lm_copy : Room := { frames := 4, cells := 0, slots := 0, locals := 90 }
abbrev c_Lm_write : ByteArray := prog_1_method_28_code
def y_Lm_write : MethodName := ⟨RX10, "write", "(I)I"⟩
def rm_Lm_write : Room := { frames := 4, cells := 0, slots := 0, locals := 89 }
abbrev c_Lm_count : ByteArray := prog_1_method_29_code
def y_Lm_count : MethodName := ⟨RX10, "count", "(I)I"⟩
def rm_Lm_count : Room := { frames := 4, cells := 0, slots := 0, locals := 85 }
abbrev c_Lm_digestOfRows : ByteArray := prog_1_method_31_code
def y_Lm_digestOfRows : MethodName := ⟨RX10, "digestOfRows", "(J)J"⟩
def rm_Lm_digestOfRows : Room := { frames := 5, cells := 0, slots := 0, locals := 121 }
abbrev c_Lm_digest : ByteArray := prog_1_method_30_code
def y_Lm_digest : MethodName := ⟨RX10, "digest", "()J"⟩
def rm_Lm_digest : Room := { frames := 7, cells := 0, slots := 0, locals := 170 }
abbrev c_Mo_init : ByteArray := prog_13_method_1_code
def y_Mo_init : MethodName := ⟨RX11, "<init>", "()V"⟩
abbrev c_Mo_in : ByteArray := prog_13_method_3_code
def y_Mo_in : MethodName := ⟨RX11, "in", "(JJJ)Z"⟩
def rm_Mo_in : Room := { frames := 0, cells := 0, slots := 0, locals := 0 }
abbrev c_Mo_isTwo : ByteArray := prog_13_method_4_code
def y_Mo_isTwo : MethodName := ⟨RX11, "isTwo", "(I)Z"⟩
def rm_Mo_isTwo : Room := { frames := 1, cells := 0, slots := 0, locals := 25 }
abbrev c_Mo_no : ByteArray := prog_13_method_5_code
def y_Mo_no : MethodName := ⟨RX11, "no", "(I)J"⟩
def rm_Mo_no : Room := { frames := 0, cells := 0, slots := 0, locals := 0 }
abbrev c_Mo_greater : ByteArray := prog_13_method_6_code
def y_Mo_greater : MethodName := ⟨RX11, "greater", "(II)I"⟩
def rm_Mo_greater : Room := { frames := 0, cells := 0, slots := 0, locals := 0 }
abbrev c_Mo_lesser : ByteArray := prog_13_method_7_code
def y_Mo_lesser : MethodName := ⟨RX11, "lesser", "(II)I"⟩
def rm_Mo_lesser : Room := { frames := 0, cells := 0, slots := 0, locals := 0 }
abbrev c_Mo_divisor : ByteArray := prog_13_method_8_code
def y_Mo_divisor : MethodName := ⟨RX11, "divisor", "(JJ)J"⟩
def rm_Mo_divisor : Room := { frames := 0, cells := 0, slots := 0, locals := 0 }
abbrev c_Mo_finds : ByteArray := prog_13_method_9_code
def y_Mo_finds : MethodName := ⟨RX11, "finds", "(I)I"⟩
def rm_Mo_finds : Room := { frames := 0, cells := 0, slots := 0, locals := 0 }
abbrev c_Mo_isSheet : ByteArray := prog_13_method_10_code
def y_Mo_isSheet : MethodName := ⟨RX11, "isSheet", "(I)Z"⟩
def rm_Mo_isSheet : Room := { frames := 1, cells := 0, slots := 0, locals := 25 }
abbrev c_Mo_sheet : ByteArray := prog_13_method_11_code
def y_Mo_sheet : MethodName := ⟨RX11, "sheet", "(II)I"⟩
def rm_Mo_sheet : Room := { frames := 2, cells := 0, slots := 0, locals := 45 }
abbrev c_Mo_lose : ByteArray := prog_13_method_12_code
def y_Mo_lose : MethodName := ⟨RX11, "lose", "(I)I"⟩
def rm_Mo_lose : Room := { frames := 2, cells := 0, slots := 0, locals := 45 }
abbrev c_Mo_lacks : ByteArray := prog_13_method_13_code
def y_Mo_lacks : MethodName := ⟨RX11, "lacks", "(II)I"⟩
def rm_Mo_lacks : Room := { frames := 1, cells := 0, slots := 0, locals := 25 }
abbrev c_Mo_lay : ByteArray := prog_13_method_14_code
def y_Mo_lay : MethodName := ⟨RX11, "lay", "(III)I"⟩
def rm_Mo_lay : Room := { frames := 2, cells := 0, slots := 0, locals := 47 }
abbrev c_Mo_get : ByteArray := prog_13_method_15_code
def y_Mo_get : MethodName := ⟨RX11, "get", "(II)J"⟩
def rm_Mo_get : Room := { frames := 2, cells := 0, slots := 0, locals := 47 }
abbrev c_Mo_copy : ByteArray := prog_13_method_16_code
def y_Mo_copy : MethodName := ⟨RX11, "copy", "(IIIII)I"⟩
def rm_Mo_copy : Room := { frames := 2, cells := 0, slots := 0, locals := 45 }
abbrev c_Mo_tell : ByteArray := prog_13_method_17_code
def y_Mo_tell : MethodName := ⟨RX11, "tell", "(III)I"⟩
def rm_Mo_tell : Room := { frames := 2, cells := 0, slots := 0, locals := 45 }
abbrev c_Mo_told : ByteArray := prog_13_method_18_code
def y_Mo_told : MethodName := ⟨RX11, "told", "(II)I"⟩
def rm_Mo_told : Room := { frames := 2, cells := 0, slots := 0, locals := 45 }
abbrev c_Mo_degree : ByteArray := prog_13_method_19_code
def y_Mo_degree : MethodName := ⟨RX11, "degree", "(I)I"⟩
def rm_Mo_degree : Room := { frames := 0, cells := 0, slots := 0, locals := 0 }
abbrev c_Mo_lowest : ByteArray := prog_13_method_20_code
def y_Mo_lowest : MethodName := ⟨RX11, "lowest", "(I)I"⟩
def rm_Mo_lowest : Room := { frames := 0, cells := 0, slots := 0, locals := 0 }
abbrev c_Mo_sort : ByteArray := prog_13_method_21_code
def y_Mo_sort : MethodName := ⟨RX11, "sort", "(I)I"⟩
def rm_Mo_sort : Room := { frames := 0, cells := 0, slots := 0, locals := 0 }
abbrev c_Mo_isLawful : ByteArray := prog_13_method_22_code
def y_Mo_isLawful : MethodName := ⟨RX11, "isLawful", "()Z"⟩
def rm_Mo_isLawful : Room := { frames := 1, cells := 0, slots := 0, locals := 24 }
abbrev c_Mo_turn : ByteArray := prog_13_method_23_code
def y_Mo_turn : MethodName := ⟨RX11, "turn", "()I"⟩
def rm_Mo_turn : Room := { frames := 2, cells := 0, slots := 0, locals := 44 }
abbrev c_Mo_reverse : ByteArray := prog_13_method_24_code
def y_Mo_reverse : MethodName := ⟨RX11, "reverse", "()I"⟩
def rm_Mo_reverse : Room := { frames := 1, cells := 0, slots := 0, locals := 23 }
abbrev c_Mo_read : ByteArray := prog_13_method_25_code
def y_Mo_read : MethodName := ⟨RX11, "read", "(II)I"⟩
def rm_Mo_read : Room := { frames := 2, cells := 0, slots := 0, locals := 45 }
abbrev c_Mo_infoBy : ByteArray := prog_13_method_26_code
def y_Mo_infoBy : MethodName := ⟨RX11, "infoBy", "(I)I"⟩
def rm_Mo_infoBy : Room := { frames := 2, cells := 0, slots := 0, locals := 44 }
abbrev c_Mo_info : ByteArray := prog_13_method_27_code
def y_Mo_info : MethodName := ⟨RX11, "info", "(I)I"⟩
def rm_Mo_info : Room := { frames := 3, cells := 0, slots := 0, locals := 65 }
abbrev c_Mo_power : ByteArray := prog_13_method_28_code
def y_Mo_power : MethodName := ⟨RX11, "power", "(JI)J"⟩
def rm_Mo_power : Room := { frames := 0, cells := 0, slots := 0, locals := 0 }
abbrev c_Mo_turnedValue : ByteArray := prog_13_method_29_code
def y_Mo_turnedValue : MethodName := ⟨RX11, "turnedValue", "(III)J"⟩
def rm_Mo_turnedValue : Room := { frames := 1, cells := 0, slots := 0, locals := 25 }
abbrev c_Mo_reactanceBy : ByteArray := prog_13_method_30_code
def y_Mo_reactanceBy : MethodName := ⟨RX11, "reactanceBy", "(III)J"⟩
def rm_Mo_reactanceBy : Room := { frames := 2, cells := 0, slots := 0, locals := 53 }
abbrev c_Mo_reactance : ByteArray := prog_13_method_31_code
def y_Mo_reactance : MethodName := ⟨RX11, "reactance", "(III)J"⟩
def rm_Mo_reactance : Room := { frames := 3, cells := 0, slots := 0, locals := 82 }
abbrev c_Mo_valuesIn : ByteArray := prog_13_method_32_code
def y_Mo_valuesIn : MethodName := ⟨RX11, "valuesIn", "([II)I"⟩
def rm_Mo_valuesIn : Room := { frames := 0, cells := 0, slots := 0, locals := 0 }
abbrev c_Mo_arm : ByteArray := prog_13_method_33_code
def y_Mo_arm : MethodName := ⟨RX11, "arm", "(III)I"⟩
def rm_Mo_arm : Room := { frames := 2, cells := 0, slots := 0, locals := 45 }
abbrev c_Mo_back : ByteArray := prog_13_method_34_code
def y_Mo_back : MethodName := ⟨RX11, "back", "()I"⟩
def rm_Mo_back : Room := { frames := 0, cells := 0, slots := 0, locals := 0 }
abbrev c_Mo_element : ByteArray := prog_13_method_35_code
def y_Mo_element : MethodName := ⟨RX11, "element", "(II)I"⟩
def rm_Mo_element : Room := { frames := 1, cells := 0, slots := 0, locals := 25 }
abbrev c_Mo_takes : ByteArray := prog_13_method_36_code
def y_Mo_takes : MethodName := ⟨RX11, "takes", "(JJ)V"⟩
def rm_Mo_takes : Room := { frames := 1, cells := 0, slots := 0, locals := 30 }
abbrev c_Mo_isHandy : ByteArray := prog_13_method_37_code
def y_Mo_isHandy : MethodName := ⟨RX11, "isHandy", "()Z"⟩
def rm_Mo_isHandy : Room := { frames := 0, cells := 0, slots := 0, locals := 0 }
abbrev c_Mo_makes : ByteArray := prog_13_method_38_code
def y_Mo_makes : MethodName := ⟨RX11, "makes", "(I)V"⟩
def rm_Mo_makes : Room := { frames := 0, cells := 0, slots := 0, locals := 0 }
abbrev c_Mo_lays : ByteArray := prog_13_method_39_code
def y_Mo_lays : MethodName := ⟨RX11, "lays", "(I)V"⟩
def rm_Mo_lays : Room := { frames := 0, cells := 0, slots := 0, locals := 0 }
abbrev c_Mo_top : ByteArray := prog_13_method_40_code
def y_Mo_top : MethodName := ⟨RX11, "top", "([J)I"⟩
def rm_Mo_top : Room := { frames := 0, cells := 0, slots := 0, locals := 0 }
abbrev c_Mo_content : ByteArray := prog_13_method_41_code
def y_Mo_content : MethodName := ⟨RX11, "content", "([J)J"⟩
def rm_Mo_content : Room := { frames := 1, cells := 0, slots := 0, locals := 30 }
abbrev c_Mo_scales : ByteArray := prog_13_method_42_code
def y_Mo_scales : MethodName := ⟨RX11, "scales", "(JJJJ)V"⟩
def rm_Mo_scales : Room := { frames := 1, cells := 0, slots := 0, locals := 30 }
abbrev c_Mo_swaps : ByteArray := prog_13_method_43_code
def y_Mo_swaps : MethodName := ⟨RX11, "swaps", "()V"⟩
def rm_Mo_swaps : Room := { frames := 0, cells := 0, slots := 0, locals := 0 }
abbrev c_Mo_dividesOnce : ByteArray := prog_13_method_45_code
def y_Mo_dividesOnce : MethodName := ⟨RX11, "dividesOnce", "(III)I"⟩
def rm_Mo_dividesOnce : Room := { frames := 2, cells := 0, slots := 0, locals := 62 }
abbrev c_Mo_divides : ByteArray := prog_13_method_44_code
def y_Mo_divides : MethodName := ⟨RX11, "divides", "(I)I"⟩
def rm_Mo_divides : Room := { frames := 3, cells := 0, slots := 0, locals := 100 }
abbrev c_Mo_squares : ByteArray := prog_13_method_46_code
def y_Mo_squares : MethodName := ⟨RX11, "squares", "(IZ[J)V"⟩
def rm_Mo_squares : Room := { frames := 0, cells := 0, slots := 0, locals := 0 }
abbrev c_Mo_downs : ByteArray := prog_13_method_47_code
def y_Mo_downs : MethodName := ⟨RX11, "downs", "([J)V"⟩
def rm_Mo_downs : Room := { frames := 0, cells := 0, slots := 0, locals := 0 }
abbrev c_Mo_valueAt : ByteArray := prog_13_method_48_code
def y_Mo_valueAt : MethodName := ⟨RX11, "valueAt", "([JJJ)J"⟩
def rm_Mo_valueAt : Room := { frames := 1, cells := 0, slots := 0, locals := 25 }
abbrev c_Mo_takesOut : ByteArray := prog_13_method_49_code
def y_Mo_takesOut : MethodName := ⟨RX11, "takesOut", "(JJ)Z"⟩
def rm_Mo_takesOut : Room := { frames := 2, cells := 0, slots := 0, locals := 53 }
abbrev c_Mo_candidate : ByteArray := prog_13_method_50_code
def y_Mo_candidate : MethodName := ⟨RX11, "candidate", "(II)I"⟩
def rm_Mo_candidate : Room := { frames := 0, cells := 0, slots := 0, locals := 0 }
abbrev c_Mo_candidates : ByteArray := prog_13_method_51_code
def y_Mo_candidates : MethodName := ⟨RX11, "candidates", "()V"⟩
def rm_Mo_candidates : Room := { frames := 1, cells := 0, slots := 0, locals := 31 }
abbrev c_Mo_isDark : ByteArray := prog_13_method_52_code
def y_Mo_isDark : MethodName := ⟨RX11, "isDark", "()Z"⟩
def rm_Mo_isDark : Room := { frames := 3, cells := 0, slots := 0, locals := 83 }
abbrev c_Mo_isRoot : ByteArray := prog_13_method_53_code
def y_Mo_isRoot : MethodName := ⟨RX11, "isRoot", "(I)Z"⟩
def rm_Mo_isRoot : Room := { frames := 2, cells := 0, slots := 0, locals := 53 }
abbrev c_Mo_slopes : ByteArray := prog_13_method_54_code
def y_Mo_slopes : MethodName := ⟨RX11, "slopes", "()V"⟩
def rm_Mo_slopes : Room := { frames := 0, cells := 0, slots := 0, locals := 0 }
abbrev c_Mo_alone : ByteArray := prog_13_method_56_code
def y_Mo_alone : MethodName := ⟨RX11, "alone", "(IIIJJ)I"⟩
def rm_Mo_alone : Room := { frames := 2, cells := 0, slots := 0, locals := 56 }
abbrev c_Mo_ends : ByteArray := prog_13_method_57_code
def y_Mo_ends : MethodName := ⟨RX11, "ends", "(I)I"⟩
def rm_Mo_ends : Room := { frames := 3, cells := 0, slots := 0, locals := 83 }
abbrev c_Mo_rootOnce : ByteArray := prog_13_method_58_code
def y_Mo_rootOnce : MethodName := ⟨RX11, "rootOnce", "(IIJJ)I"⟩
def rm_Mo_rootOnce : Room := { frames := 2, cells := 0, slots := 0, locals := 56 }
abbrev c_Mo_byRoots : ByteArray := prog_13_method_55_code
def y_Mo_byRoots : MethodName := ⟨RX11, "byRoots", "(I)I"⟩
def rm_Mo_byRoots : Room := { frames := 4, cells := 0, slots := 0, locals := 106 }
abbrev c_Mo_unfolds : ByteArray := prog_13_method_59_code
def y_Mo_unfolds : MethodName := ⟨RX11, "unfolds", "(I)I"⟩
def rm_Mo_unfolds : Room := { frames := 5, cells := 0, slots := 0, locals := 132 }
abbrev c_Mo_would : ByteArray := prog_13_method_60_code
def y_Mo_would : MethodName := ⟨RX11, "would", "(I)I"⟩
def rm_Mo_would : Room := { frames := 6, cells := 0, slots := 0, locals := 153 }
abbrev c_Mo_unfold : ByteArray := prog_13_method_61_code
def y_Mo_unfold : MethodName := ⟨RX11, "unfold", "(I)I"⟩
def rm_Mo_unfold : Room := { frames := 6, cells := 0, slots := 0, locals := 153 }
abbrev c_Mo_armOf : ByteArray := prog_13_method_62_code
def y_Mo_armOf : MethodName := ⟨RX11, "armOf", "(I)V"⟩
def rm_Mo_armOf : Room := { frames := 0, cells := 0, slots := 0, locals := 0 }
abbrev c_Mo_turnsOver : ByteArray := prog_13_method_63_code
def y_Mo_turnsOver : MethodName := ⟨RX11, "turnsOver", "()V"⟩
def rm_Mo_turnsOver : Room := { frames := 0, cells := 0, slots := 0, locals := 0 }
abbrev c_Mo_asPair : ByteArray := prog_13_method_64_code
def y_Mo_asPair : MethodName := ⟨RX11, "asPair", "()V"⟩
def rm_Mo_asPair : Room := { frames := 1, cells := 0, slots := 0, locals := 30 }
abbrev c_Mo_adds : ByteArray := prog_13_method_65_code
def y_Mo_adds : MethodName := ⟨RX11, "adds", "()V"⟩
def rm_Mo_adds : Room := { frames := 0, cells := 0, slots := 0, locals := 0 }
abbrev c_Mo_folds : ByteArray := prog_13_method_66_code
def y_Mo_folds : MethodName := ⟨RX11, "folds", "()V"⟩
def rm_Mo_folds : Room := { frames := 2, cells := 0, slots := 0, locals := 55 }
abbrev c_Mo_foldBy : ByteArray := prog_13_method_67_code
def y_Mo_foldBy : MethodName := ⟨RX11, "foldBy", "(II)J"⟩
def rm_Mo_foldBy : Room := { frames := 0, cells := 0, slots := 0, locals := 0 }
abbrev c_Mo_fold : ByteArray := prog_13_method_68_code
def y_Mo_fold : MethodName := ⟨RX11, "fold", "(II)J"⟩
def rm_Mo_fold : Room := { frames := 3, cells := 0, slots := 0, locals := 77 }
abbrev c_Mo_alikeNow : ByteArray := prog_13_method_69_code
def y_Mo_alikeNow : MethodName := ⟨RX11, "alikeNow", "()I"⟩
def rm_Mo_alikeNow : Room := { frames := 1, cells := 0, slots := 0, locals := 25 }
abbrev c_Mo_alike : ByteArray := prog_13_method_70_code
def y_Mo_alike : MethodName := ⟨RX11, "alike", "()I"⟩
def rm_Mo_alike : Room := { frames := 3, cells := 0, slots := 0, locals := 77 }
abbrev c_Mo_take : ByteArray := prog_13_method_71_code
def y_Mo_take : MethodName := ⟨RX11, "take", "()I"⟩
def rm_Mo_take : Room := { frames := 3, cells := 0, slots := 0, locals := 77 }
abbrev c_Mo_partUp : ByteArray := prog_13_method_72_code
def y_Mo_partUp : MethodName := ⟨RX11, "partUp", "(I)I"⟩
def rm_Mo_partUp : Room := { frames := 0, cells := 0, slots := 0, locals := 0 }
abbrev c_Mo_partDown : ByteArray := prog_13_method_73_code
def y_Mo_partDown : MethodName := ⟨RX11, "partDown", "(I)I"⟩
def rm_Mo_partDown : Room := { frames := 0, cells := 0, slots := 0, locals := 0 }
abbrev c_Mo_isLike : ByteArray := prog_13_method_74_code
def y_Mo_isLike : MethodName := ⟨RX11, "isLike", "(IIZ)Z"⟩
def rm_Mo_isLike : Room := { frames := 1, cells := 0, slots := 0, locals := 21 }
abbrev c_Mo_isFirst : ByteArray := prog_13_method_75_code
def y_Mo_isFirst : MethodName := ⟨RX11, "isFirst", "(IZ)Z"⟩
def rm_Mo_isFirst : Room := { frames := 2, cells := 0, slots := 0, locals := 44 }
abbrev c_Mo_parts : ByteArray := prog_13_method_76_code
def y_Mo_parts : MethodName := ⟨RX11, "parts", "(Z)I"⟩
def rm_Mo_parts : Room := { frames := 3, cells := 0, slots := 0, locals := 68 }
abbrev c_Mo_billBy : ByteArray := prog_13_method_77_code
def y_Mo_billBy : MethodName := ⟨RX11, "billBy", "(II)I"⟩
def rm_Mo_billBy : Room := { frames := 2, cells := 0, slots := 0, locals := 44 }
abbrev c_Mo_nthPart : ByteArray := prog_13_method_78_code
def y_Mo_nthPart : MethodName := ⟨RX11, "nthPart", "(I)I"⟩
def rm_Mo_nthPart : Room := { frames := 3, cells := 0, slots := 0, locals := 68 }
abbrev c_Mo_bill : ByteArray := prog_13_method_79_code
def y_Mo_bill : MethodName := ⟨RX11, "bill", "(II)I"⟩
def rm_Mo_bill : Room := { frames := 4, cells := 0, slots := 0, locals := 91 }
abbrev c_Mo_values : ByteArray := prog_13_method_80_code
def y_Mo_values : MethodName := ⟨RX11, "values", "()I"⟩
def rm_Mo_values : Room := { frames := 4, cells := 0, slots := 0, locals := 91 }
abbrev c_Mo_wishAsPair : ByteArray := prog_13_method_81_code
def y_Mo_wishAsPair : MethodName := ⟨RX11, "wishAsPair", "()V"⟩
def rm_Mo_wishAsPair : Room := { frames := 2, cells := 0, slots := 0, locals := 55 }
abbrev c_Mo_found : ByteArray := prog_13_method_82_code
def y_Mo_found : MethodName := ⟨RX11, "found", "()I"⟩
def rm_Mo_found : Room := { frames := 3, cells := 0, slots := 0, locals := 76 }
abbrev c_Mo_keep : ByteArray := prog_13_method_83_code
def y_Mo_keep : MethodName := ⟨RX11, "keep", "()I"⟩
def rm_Mo_keep : Room := { frames := 4, cells := 0, slots := 0, locals := 99 }
abbrev c_Mo_find : ByteArray := prog_13_method_84_code
def y_Mo_find : MethodName := ⟨RX11, "find", "()I"⟩
def rm_Mo_find : Room := { frames := 4, cells := 0, slots := 0, locals := 99 }
abbrev c_Mo_keptBy : ByteArray := prog_13_method_85_code
def y_Mo_keptBy : MethodName := ⟨RX11, "keptBy", "(II)I"⟩
def rm_Mo_keptBy : Room := { frames := 0, cells := 0, slots := 0, locals := 0 }
abbrev c_Mo_kept : ByteArray := prog_13_method_86_code
def y_Mo_kept : MethodName := ⟨RX11, "kept", "(II)I"⟩
def rm_Mo_kept : Room := { frames := 1, cells := 0, slots := 0, locals := 25 }
abbrev c_Mo_recall : ByteArray := prog_13_method_87_code
def y_Mo_recall : MethodName := ⟨RX11, "recall", "(I)I"⟩
def rm_Mo_recall : Room := { frames := 1, cells := 0, slots := 0, locals := 25 }
abbrev c_Mo_write : ByteArray := prog_13_method_88_code
def y_Mo_write : MethodName := ⟨RX11, "write", "(I)I"⟩
def rm_Mo_write : Room := { frames := 2, cells := 0, slots := 0, locals := 45 }
abbrev c_Mo_keptAll : ByteArray := prog_13_method_89_code
def y_Mo_keptAll : MethodName := ⟨RX11, "keptAll", "()I"⟩
def rm_Mo_keptAll : Room := { frames := 0, cells := 0, slots := 0, locals := 0 }
abbrev c_Mo_sheets : ByteArray := prog_13_method_90_code
def y_Mo_sheets : MethodName := ⟨RX11, "sheets", "()I"⟩
def rm_Mo_sheets : Room := { frames := 0, cells := 0, slots := 0, locals := 0 }
abbrev c_Mo_count : ByteArray := prog_13_method_91_code
def y_Mo_count : MethodName := ⟨RX11, "count", "(I)I"⟩
def rm_Mo_count : Room := { frames := 4, cells := 0, slots := 0, locals := 97 }
abbrev c_Mo_ladderTells : ByteArray := prog_13_method_92_code
def y_Mo_ladderTells : MethodName := ⟨RX11, "ladderTells", "(J)J"⟩
def rm_Mo_ladderTells : Room := { frames := 5, cells := 0, slots := 0, locals := 111 }
abbrev c_Mo_digest : ByteArray := prog_13_method_93_code
def y_Mo_digest : MethodName := ⟨RX11, "digest", "()J"⟩
def rm_Mo_digest : Room := { frames := 6, cells := 0, slots := 0, locals := 153 }
theorem sm_Bi_init : sM y_Bi_init c_Bi_init 1 none 0 := ⟨mg_t (List.mem_of_getElem? (i := 158) (by decide +kernel)) rfl, mg_t (List.mem_of_getElem? (i := 8) (by decide +kernel)) rfl, by decide, by decide, by decide +kernel⟩
theorem im_Bi_init : Cond.instanceMethod y_Bi_init ∈ lw_g := mg_t (List.mem_of_getElem? (i := 157) (by decide +kernel)) rfl
theorem sm_La_item : sM y_La_item c_La_item 4 (some .int) 2 := ⟨mg_t (List.mem_of_getElem? (i := 426) (by decide +kernel)) rfl, mg_t (List.mem_of_getElem? (i := 4) (by decide +kernel)) rfl, by decide, by decide, by decide +kernel⟩
theorem im_La_item : Cond.instanceMethod y_La_item ∈ lw_g := mg_t (List.mem_of_getElem? (i := 424) (by decide +kernel)) rfl
theorem se_La_item : Cond.selects RX3 y_La_item y_La_item ∈ lw_g := mg_t (List.mem_of_getElem? (i := 425) (by decide +kernel)) rfl
theorem sm_Bi_addPart : sM y_Bi_addPart c_Bi_addPart 6 none 3 := ⟨mg_t (List.mem_of_getElem? (i := 476) (by decide +kernel)) rfl, mg_t (List.mem_of_getElem? (i := 8) (by decide +kernel)) rfl, by decide, by decide, by decide +kernel⟩
theorem im_Bi_addPart : Cond.instanceMethod y_Bi_addPart ∈ lw_g := mg_t (List.mem_of_getElem? (i := 475) (by decide +kernel)) rfl
theorem se_Bi_addPart : Cond.selects RX0 y_Bi_addPart y_Bi_addPart ∈ lw_g := mg_s (List.mem_of_getElem? (i := 6) (by decide +kernel)) rfl
theorem sm_Bi_countUp : sM y_Bi_countUp c_Bi_countUp 3 none 1 := ⟨mg_t (List.mem_of_getElem? (i := 471) (by decide +kernel)) rfl, mg_t (List.mem_of_getElem? (i := 8) (by decide +kernel)) rfl, by decide, by decide, by decide +kernel⟩
theorem im_Bi_countUp : Cond.instanceMethod y_Bi_countUp ∈ lw_g := mg_t (List.mem_of_getElem? (i := 469) (by decide +kernel)) rfl
theorem se_Bi_countUp : Cond.selects RX0 y_Bi_countUp y_Bi_countUp ∈ lw_g := mg_t (List.mem_of_getElem? (i := 470) (by decide +kernel)) rfl
theorem sm_Bi_item : sM y_Bi_item c_Bi_item 4 (some .int) 2 := ⟨mg_t (List.mem_of_getElem? (i := 626) (by decide +kernel)) rfl, mg_t (List.mem_of_getElem? (i := 8) (by decide +kernel)) rfl, by decide, by decide, by decide +kernel⟩
theorem im_Bi_item : Cond.instanceMethod y_Bi_item ∈ lw_g := mg_t (List.mem_of_getElem? (i := 624) (by decide +kernel)) rfl
theorem se_Bi_item : Cond.selects RX0 y_Bi_item y_Bi_item ∈ lw_g := mg_t (List.mem_of_getElem? (i := 625) (by decide +kernel)) rfl
theorem sm_Bi_differentValues : sM y_Bi_differentValues c_Bi_differentValues 5 (some .int) 0 := ⟨mg_t (List.mem_of_getElem? (i := 634) (by decide +kernel)) rfl, mg_t (List.mem_of_getElem? (i := 8) (by decide +kernel)) rfl, by decide, by decide, by decide +kernel⟩
theorem im_Bi_differentValues : Cond.instanceMethod y_Bi_differentValues ∈ lw_g := mg_t (List.mem_of_getElem? (i := 632) (by decide +kernel)) rfl
theorem se_Bi_differentValues : Cond.selects RX0 y_Bi_differentValues y_Bi_differentValues ∈ lw_g := mg_t (List.mem_of_getElem? (i := 633) (by decide +kernel)) rfl
theorem sm_Po_init : sM y_Po_init c_Po_init 1 none 0 := ⟨mg_t (List.mem_of_getElem? (i := 33) (by decide +kernel)) rfl, mg_t (List.mem_of_getElem? (i := 3) (by decide +kernel)) rfl, by decide, by decide, by decide +kernel⟩
theorem im_Po_init : Cond.instanceMethod y_Po_init ∈ lw_g := mg_t (List.mem_of_getElem? (i := 32) (by decide +kernel)) rfl
theorem sm_Pa_init : sM y_Pa_init c_Pa_init 1 none 0 := ⟨mg_t (List.mem_of_getElem? (i := 27) (by decide +kernel)) rfl, mg_t (List.mem_of_getElem? (i := 2) (by decide +kernel)) rfl, by decide, by decide, by decide +kernel⟩
theorem im_Pa_init : Cond.instanceMethod y_Pa_init ∈ lw_g := mg_t (List.mem_of_getElem? (i := 26) (by decide +kernel)) rfl
theorem sm_Fo_init : sM y_Fo_init c_Fo_init 1 none 0 := ⟨mg_t (List.mem_of_getElem? (i := 76) (by decide +kernel)) rfl, mg_t (List.mem_of_getElem? (i := 5) (by decide +kernel)) rfl, by decide, by decide, by decide +kernel⟩
theorem im_Fo_init : Cond.instanceMethod y_Fo_init ∈ lw_g := mg_t (List.mem_of_getElem? (i := 75) (by decide +kernel)) rfl
theorem sm_Po_clear : sM y_Po_clear c_Po_clear 2 none 0 := ⟨mg_t (List.mem_of_getElem? (i := 430) (by decide +kernel)) rfl, mg_t (List.mem_of_getElem? (i := 3) (by decide +kernel)) rfl, by decide, by decide, by decide +kernel⟩
theorem im_Po_clear : Cond.instanceMethod y_Po_clear ∈ lw_g := mg_t (List.mem_of_getElem? (i := 428) (by decide +kernel)) rfl
theorem se_Po_clear : Cond.selects RX6 y_Po_clear y_Po_clear ∈ lw_g := mg_t (List.mem_of_getElem? (i := 429) (by decide +kernel)) rfl
theorem sm_Pa_side : sM y_Pa_side c_Pa_side 2 (some (.object "LadderMaker$Polynomial")) 1 := ⟨mg_t (List.mem_of_getElem? (i := 269) (by decide +kernel)) rfl, mg_t (List.mem_of_getElem? (i := 2) (by decide +kernel)) rfl, by decide, by decide, by decide +kernel⟩
theorem im_Pa_side : Cond.instanceMethod y_Pa_side ∈ lw_g := mg_t (List.mem_of_getElem? (i := 267) (by decide +kernel)) rfl
theorem se_Pa_side : Cond.selects RX5 y_Pa_side y_Pa_side ∈ lw_g := mg_t (List.mem_of_getElem? (i := 268) (by decide +kernel)) rfl
theorem sm_Po_put : sM y_Po_put c_Po_put 4 none 2 := ⟨mg_t (List.mem_of_getElem? (i := 277) (by decide +kernel)) rfl, mg_t (List.mem_of_getElem? (i := 3) (by decide +kernel)) rfl, by decide, by decide, by decide +kernel⟩
theorem im_Po_put : Cond.instanceMethod y_Po_put ∈ lw_g := mg_t (List.mem_of_getElem? (i := 275) (by decide +kernel)) rfl
theorem se_Po_put : Cond.selects RX6 y_Po_put y_Po_put ∈ lw_g := mg_t (List.mem_of_getElem? (i := 276) (by decide +kernel)) rfl
theorem sm_Fo_loadArm : sM y_Fo_loadArm c_Fo_loadArm 13 none 2 := ⟨mg_t (List.mem_of_getElem? (i := 436) (by decide +kernel)) rfl, mg_t (List.mem_of_getElem? (i := 5) (by decide +kernel)) rfl, by decide, by decide, by decide +kernel⟩
theorem im_Fo_loadArm : Cond.instanceMethod y_Fo_loadArm ∈ lw_g := mg_t (List.mem_of_getElem? (i := 435) (by decide +kernel)) rfl
theorem se_Fo_loadArm : Cond.selects RX1 y_Fo_loadArm y_Fo_loadArm ∈ lw_g := mg_s (List.mem_of_getElem? (i := 4) (by decide +kernel)) rfl
theorem sm_Pa_swap : sM y_Pa_swap c_Pa_swap 2 none 0 := ⟨mg_t (List.mem_of_getElem? (i := 289) (by decide +kernel)) rfl, mg_t (List.mem_of_getElem? (i := 2) (by decide +kernel)) rfl, by decide, by decide, by decide +kernel⟩
theorem im_Pa_swap : Cond.instanceMethod y_Pa_swap ∈ lw_g := mg_t (List.mem_of_getElem? (i := 287) (by decide +kernel)) rfl
theorem se_Pa_swap : Cond.selects RX5 y_Pa_swap y_Pa_swap ∈ lw_g := mg_t (List.mem_of_getElem? (i := 288) (by decide +kernel)) rfl
theorem sm_Po_addProduct : sM y_Po_addProduct c_Po_addProduct 5 none 2 := ⟨mg_t (List.mem_of_getElem? (i := 445) (by decide +kernel)) rfl, mg_t (List.mem_of_getElem? (i := 3) (by decide +kernel)) rfl, by decide, by decide, by decide +kernel⟩
theorem im_Po_addProduct : Cond.instanceMethod y_Po_addProduct ∈ lw_g := mg_t (List.mem_of_getElem? (i := 443) (by decide +kernel)) rfl
theorem se_Po_addProduct : Cond.selects RX6 y_Po_addProduct y_Po_addProduct ∈ lw_g := mg_t (List.mem_of_getElem? (i := 444) (by decide +kernel)) rfl
theorem sm_Po_load : sM y_Po_load c_Po_load 3 none 1 := ⟨mg_t (List.mem_of_getElem? (i := 453) (by decide +kernel)) rfl, mg_t (List.mem_of_getElem? (i := 3) (by decide +kernel)) rfl, by decide, by decide, by decide +kernel⟩
theorem im_Po_load : Cond.instanceMethod y_Po_load ∈ lw_g := mg_t (List.mem_of_getElem? (i := 451) (by decide +kernel)) rfl
theorem se_Po_load : Cond.selects RX6 y_Po_load y_Po_load ∈ lw_g := mg_t (List.mem_of_getElem? (i := 452) (by decide +kernel)) rfl
theorem sm_Pa_load : sM y_Pa_load c_Pa_load 2 none 1 := ⟨mg_t (List.mem_of_getElem? (i := 449) (by decide +kernel)) rfl, mg_t (List.mem_of_getElem? (i := 2) (by decide +kernel)) rfl, by decide, by decide, by decide +kernel⟩
theorem im_Pa_load : Cond.instanceMethod y_Pa_load ∈ lw_g := mg_t (List.mem_of_getElem? (i := 447) (by decide +kernel)) rfl
theorem se_Pa_load : Cond.selects RX5 y_Pa_load y_Pa_load ∈ lw_g := mg_t (List.mem_of_getElem? (i := 448) (by decide +kernel)) rfl
theorem sm_Fo_addArm : sM y_Fo_addArm c_Fo_addArm 1 none 0 := ⟨mg_t (List.mem_of_getElem? (i := 441) (by decide +kernel)) rfl, mg_t (List.mem_of_getElem? (i := 5) (by decide +kernel)) rfl, by decide, by decide, by decide +kernel⟩
theorem im_Fo_addArm : Cond.instanceMethod y_Fo_addArm ∈ lw_g := mg_t (List.mem_of_getElem? (i := 440) (by decide +kernel)) rfl
theorem se_Fo_addArm : Cond.selects RX1 y_Fo_addArm y_Fo_addArm ∈ lw_g := mg_s (List.mem_of_getElem? (i := 5) (by decide +kernel)) rfl
theorem sm_Po_at : sM y_Po_at c_Po_at 2 (some .long) 1 := ⟨mg_t (List.mem_of_getElem? (i := 273) (by decide +kernel)) rfl, mg_t (List.mem_of_getElem? (i := 3) (by decide +kernel)) rfl, by decide, by decide, by decide +kernel⟩
theorem im_Po_at : Cond.instanceMethod y_Po_at ∈ lw_g := mg_t (List.mem_of_getElem? (i := 271) (by decide +kernel)) rfl
theorem se_Po_at : Cond.selects RX6 y_Po_at y_Po_at ∈ lw_g := mg_t (List.mem_of_getElem? (i := 272) (by decide +kernel)) rfl
theorem sm_Pa_number : sM y_Pa_number c_Pa_number 2 (some .long) 1 := ⟨mg_t (List.mem_of_getElem? (i := 461) (by decide +kernel)) rfl, mg_t (List.mem_of_getElem? (i := 2) (by decide +kernel)) rfl, by decide, by decide, by decide +kernel⟩
theorem im_Pa_number : Cond.instanceMethod y_Pa_number ∈ lw_g := mg_t (List.mem_of_getElem? (i := 459) (by decide +kernel)) rfl
theorem se_Pa_number : Cond.selects RX5 y_Pa_number y_Pa_number ∈ lw_g := mg_t (List.mem_of_getElem? (i := 460) (by decide +kernel)) rfl
theorem sm_Lm_commonDivisor : sM y_Lm_commonDivisor c_Lm_commonDivisor 11 (some .long) 2 := ⟨mg_t (List.mem_of_getElem? (i := 398) (by decide +kernel)) rfl, mg_t (List.mem_of_getElem? (i := 1) (by decide +kernel)) rfl, by decide, by decide, by decide +kernel⟩
theorem st_Lm_commonDivisor : Cond.static y_Lm_commonDivisor ∈ lw_g := mg_t (List.mem_of_getElem? (i := 397) (by decide +kernel)) rfl
theorem sm_Po_degree : sM y_Po_degree c_Po_degree 2 (some .int) 0 := ⟨mg_t (List.mem_of_getElem? (i := 309) (by decide +kernel)) rfl, mg_t (List.mem_of_getElem? (i := 3) (by decide +kernel)) rfl, by decide, by decide, by decide +kernel⟩
theorem im_Po_degree : Cond.instanceMethod y_Po_degree ∈ lw_g := mg_t (List.mem_of_getElem? (i := 307) (by decide +kernel)) rfl
theorem se_Po_degree : Cond.selects RX6 y_Po_degree y_Po_degree ∈ lw_g := mg_t (List.mem_of_getElem? (i := 308) (by decide +kernel)) rfl
theorem sm_Po_divideBy : sM y_Po_divideBy c_Po_divideBy 4 none 1 := ⟨mg_t (List.mem_of_getElem? (i := 467) (by decide +kernel)) rfl, mg_t (List.mem_of_getElem? (i := 3) (by decide +kernel)) rfl, by decide, by decide, by decide +kernel⟩
theorem im_Po_divideBy : Cond.instanceMethod y_Po_divideBy ∈ lw_g := mg_t (List.mem_of_getElem? (i := 465) (by decide +kernel)) rfl
theorem se_Po_divideBy : Cond.selects RX6 y_Po_divideBy y_Po_divideBy ∈ lw_g := mg_t (List.mem_of_getElem? (i := 466) (by decide +kernel)) rfl
theorem sm_Pa_becomeAsPair : sM y_Pa_becomeAsPair c_Pa_becomeAsPair 6 none 0 := ⟨mg_t (List.mem_of_getElem? (i := 457) (by decide +kernel)) rfl, mg_t (List.mem_of_getElem? (i := 2) (by decide +kernel)) rfl, by decide, by decide, by decide +kernel⟩
theorem im_Pa_becomeAsPair : Cond.instanceMethod y_Pa_becomeAsPair ∈ lw_g := mg_t (List.mem_of_getElem? (i := 455) (by decide +kernel)) rfl
theorem se_Pa_becomeAsPair : Cond.selects RX5 y_Pa_becomeAsPair y_Pa_becomeAsPair ∈ lw_g := mg_t (List.mem_of_getElem? (i := 456) (by decide +kernel)) rfl
theorem sm_Fo_foldUp : sM y_Fo_foldUp c_Fo_foldUp 6 none 1 := ⟨mg_t (List.mem_of_getElem? (i := 422) (by decide +kernel)) rfl, mg_t (List.mem_of_getElem? (i := 5) (by decide +kernel)) rfl, by decide, by decide, by decide +kernel⟩
theorem im_Fo_foldUp : Cond.instanceMethod y_Fo_foldUp ∈ lw_g := mg_t (List.mem_of_getElem? (i := 420) (by decide +kernel)) rfl
theorem se_Fo_foldUp : Cond.selects RX1 y_Fo_foldUp y_Fo_foldUp ∈ lw_g := mg_t (List.mem_of_getElem? (i := 421) (by decide +kernel)) rfl
theorem sm_Fr_init : sM y_Fr_init c_Fr_init 1 none 0 := ⟨mg_t (List.mem_of_getElem? (i := 107) (by decide +kernel)) rfl, mg_t (List.mem_of_getElem? (i := 7) (by decide +kernel)) rfl, by decide, by decide, by decide +kernel⟩
theorem im_Fr_init : Cond.instanceMethod y_Fr_init ∈ lw_g := mg_t (List.mem_of_getElem? (i := 106) (by decide +kernel)) rfl
theorem sm_Fr_put : sM y_Fr_put c_Fr_put 7 none 2 := ⟨mg_t (List.mem_of_getElem? (i := 395) (by decide +kernel)) rfl, mg_t (List.mem_of_getElem? (i := 7) (by decide +kernel)) rfl, by decide, by decide, by decide +kernel⟩
theorem im_Fr_put : Cond.instanceMethod y_Fr_put ∈ lw_g := mg_t (List.mem_of_getElem? (i := 393) (by decide +kernel)) rfl
theorem se_Fr_put : Cond.selects RX2 y_Fr_put y_Fr_put ∈ lw_g := mg_t (List.mem_of_getElem? (i := 394) (by decide +kernel)) rfl
theorem sm_Fr_isHandy : sM y_Fr_isHandy c_Fr_isHandy 1 (some .boolean) 0 := ⟨mg_t (List.mem_of_getElem? (i := 520) (by decide +kernel)) rfl, mg_t (List.mem_of_getElem? (i := 7) (by decide +kernel)) rfl, by decide, by decide, by decide +kernel⟩
theorem im_Fr_isHandy : Cond.instanceMethod y_Fr_isHandy ∈ lw_g := mg_t (List.mem_of_getElem? (i := 518) (by decide +kernel)) rfl
theorem se_Fr_isHandy : Cond.selects RX2 y_Fr_isHandy y_Fr_isHandy ∈ lw_g := mg_t (List.mem_of_getElem? (i := 519) (by decide +kernel)) rfl
theorem sm_La_init : sM y_La_init c_La_init 1 none 0 := ⟨mg_t (List.mem_of_getElem? (i := 57) (by decide +kernel)) rfl, mg_t (List.mem_of_getElem? (i := 4) (by decide +kernel)) rfl, by decide, by decide, by decide +kernel⟩
theorem im_La_init : Cond.instanceMethod y_La_init ∈ lw_g := mg_t (List.mem_of_getElem? (i := 56) (by decide +kernel)) rfl
theorem sm_La_valueCount : sM y_La_valueCount c_La_valueCount 3 (some .int) 0 := ⟨mg_t (List.mem_of_getElem? (i := 414) (by decide +kernel)) rfl, mg_t (List.mem_of_getElem? (i := 4) (by decide +kernel)) rfl, by decide, by decide, by decide +kernel⟩
theorem im_La_valueCount : Cond.instanceMethod y_La_valueCount ∈ lw_g := mg_t (List.mem_of_getElem? (i := 412) (by decide +kernel)) rfl
theorem se_La_valueCount : Cond.selects RX3 y_La_valueCount y_La_valueCount ∈ lw_g := mg_t (List.mem_of_getElem? (i := 413) (by decide +kernel)) rfl
theorem sm_La_add : sM y_La_add c_La_add 8 (some .boolean) 5 := ⟨mg_t (List.mem_of_getElem? (i := 410) (by decide +kernel)) rfl, mg_t (List.mem_of_getElem? (i := 4) (by decide +kernel)) rfl, by decide, by decide, by decide +kernel⟩
theorem im_La_add : Cond.instanceMethod y_La_add ∈ lw_g := mg_t (List.mem_of_getElem? (i := 408) (by decide +kernel)) rfl
theorem se_La_add : Cond.selects RX3 y_La_add y_La_add ∈ lw_g := mg_t (List.mem_of_getElem? (i := 409) (by decide +kernel)) rfl
theorem sm_La_dropLast : sM y_La_dropLast c_La_dropLast 1 none 0 := ⟨mg_t (List.mem_of_getElem? (i := 484) (by decide +kernel)) rfl, mg_t (List.mem_of_getElem? (i := 4) (by decide +kernel)) rfl, by decide, by decide, by decide +kernel⟩
theorem im_La_dropLast : Cond.instanceMethod y_La_dropLast ∈ lw_g := mg_t (List.mem_of_getElem? (i := 482) (by decide +kernel)) rfl
theorem se_La_dropLast : Cond.selects RX3 y_La_dropLast y_La_dropLast ∈ lw_g := mg_t (List.mem_of_getElem? (i := 483) (by decide +kernel)) rfl
theorem sm_La_clear : sM y_La_clear c_La_clear 1 none 0 := ⟨mg_t (List.mem_of_getElem? (i := 500) (by decide +kernel)) rfl, mg_t (List.mem_of_getElem? (i := 4) (by decide +kernel)) rfl, by decide, by decide, by decide +kernel⟩
theorem im_La_clear : Cond.instanceMethod y_La_clear ∈ lw_g := mg_t (List.mem_of_getElem? (i := 498) (by decide +kernel)) rfl
theorem se_La_clear : Cond.selects RX3 y_La_clear y_La_clear ∈ lw_g := mg_t (List.mem_of_getElem? (i := 499) (by decide +kernel)) rfl
theorem sm_La_load : sM y_La_load c_La_load 4 none 1 := ⟨mg_t (List.mem_of_getElem? (i := 593) (by decide +kernel)) rfl, mg_t (List.mem_of_getElem? (i := 4) (by decide +kernel)) rfl, by decide, by decide, by decide +kernel⟩
theorem im_La_load : Cond.instanceMethod y_La_load ∈ lw_g := mg_t (List.mem_of_getElem? (i := 591) (by decide +kernel)) rfl
theorem se_La_load : Cond.selects RX3 y_La_load y_La_load ∈ lw_g := mg_t (List.mem_of_getElem? (i := 592) (by decide +kernel)) rfl
theorem sm_Me_init : sM y_Me_init c_Me_init 1 none 0 := ⟨mg_t (List.mem_of_getElem? (i := 173) (by decide +kernel)) rfl, mg_t (List.mem_of_getElem? (i := 9) (by decide +kernel)) rfl, by decide, by decide, by decide +kernel⟩
theorem im_Me_init : Cond.instanceMethod y_Me_init ∈ lw_g := mg_t (List.mem_of_getElem? (i := 172) (by decide +kernel)) rfl
theorem sm_Me_holds : sM y_Me_holds c_Me_holds 2 (some .boolean) 1 := ⟨mg_t (List.mem_of_getElem? (i := 661) (by decide +kernel)) rfl, mg_t (List.mem_of_getElem? (i := 9) (by decide +kernel)) rfl, by decide, by decide, by decide +kernel⟩
theorem im_Me_holds : Cond.instanceMethod y_Me_holds ∈ lw_g := mg_t (List.mem_of_getElem? (i := 659) (by decide +kernel)) rfl
theorem se_Me_holds : Cond.selects RX4 y_Me_holds y_Me_holds ∈ lw_g := mg_t (List.mem_of_getElem? (i := 660) (by decide +kernel)) rfl
theorem sm_Me_item : sM y_Me_item c_Me_item 4 (some .int) 2 := ⟨mg_t (List.mem_of_getElem? (i := 657) (by decide +kernel)) rfl, mg_t (List.mem_of_getElem? (i := 9) (by decide +kernel)) rfl, by decide, by decide, by decide +kernel⟩
theorem im_Me_item : Cond.instanceMethod y_Me_item ∈ lw_g := mg_t (List.mem_of_getElem? (i := 655) (by decide +kernel)) rfl
theorem se_Me_item : Cond.selects RX4 y_Me_item y_Me_item ∈ lw_g := mg_t (List.mem_of_getElem? (i := 656) (by decide +kernel)) rfl
theorem sm_Me_isSought : sM y_Me_isSought c_Me_isSought 3 (some .boolean) 1 := ⟨mg_t (List.mem_of_getElem? (i := 653) (by decide +kernel)) rfl, mg_t (List.mem_of_getElem? (i := 9) (by decide +kernel)) rfl, by decide, by decide, by decide +kernel⟩
theorem im_Me_isSought : Cond.instanceMethod y_Me_isSought ∈ lw_g := mg_t (List.mem_of_getElem? (i := 652) (by decide +kernel)) rfl
theorem se_Me_isSought : Cond.selects RX4 y_Me_isSought y_Me_isSought ∈ lw_g := mg_s (List.mem_of_getElem? (i := 19) (by decide +kernel)) rfl
theorem sm_Me_numberOf : sM y_Me_numberOf c_Me_numberOf 3 (some .int) 1 := ⟨mg_t (List.mem_of_getElem? (i := 647) (by decide +kernel)) rfl, mg_t (List.mem_of_getElem? (i := 9) (by decide +kernel)) rfl, by decide, by decide, by decide +kernel⟩
theorem im_Me_numberOf : Cond.instanceMethod y_Me_numberOf ∈ lw_g := mg_t (List.mem_of_getElem? (i := 645) (by decide +kernel)) rfl
theorem se_Me_numberOf : Cond.selects RX4 y_Me_numberOf y_Me_numberOf ∈ lw_g := mg_t (List.mem_of_getElem? (i := 646) (by decide +kernel)) rfl
theorem sm_Me_keepOnce : sM y_Me_keepOnce c_Me_keepOnce 4 (some .int) 1 := ⟨mg_t (List.mem_of_getElem? (i := 643) (by decide +kernel)) rfl, mg_t (List.mem_of_getElem? (i := 9) (by decide +kernel)) rfl, by decide, by decide, by decide +kernel⟩
theorem im_Me_keepOnce : Cond.instanceMethod y_Me_keepOnce ∈ lw_g := mg_t (List.mem_of_getElem? (i := 641) (by decide +kernel)) rfl
theorem se_Me_keepOnce : Cond.selects RX4 y_Me_keepOnce y_Me_keepOnce ∈ lw_g := mg_t (List.mem_of_getElem? (i := 642) (by decide +kernel)) rfl
theorem sm_Me_timesOfAll : sM y_Me_timesOfAll c_Me_timesOfAll 3 (some .int) 0 := ⟨mg_t (List.mem_of_getElem? (i := 735) (by decide +kernel)) rfl, mg_t (List.mem_of_getElem? (i := 9) (by decide +kernel)) rfl, by decide, by decide, by decide +kernel⟩
theorem im_Me_timesOfAll : Cond.instanceMethod y_Me_timesOfAll ∈ lw_g := mg_t (List.mem_of_getElem? (i := 733) (by decide +kernel)) rfl
theorem se_Me_timesOfAll : Cond.selects RX4 y_Me_timesOfAll y_Me_timesOfAll ∈ lw_g := mg_t (List.mem_of_getElem? (i := 734) (by decide +kernel)) rfl
theorem sm_Pa_putNumber : sM y_Pa_putNumber c_Pa_putNumber 4 none 2 := ⟨mg_t (List.mem_of_getElem? (i := 356) (by decide +kernel)) rfl, mg_t (List.mem_of_getElem? (i := 2) (by decide +kernel)) rfl, by decide, by decide, by decide +kernel⟩
theorem im_Pa_putNumber : Cond.instanceMethod y_Pa_putNumber ∈ lw_g := mg_t (List.mem_of_getElem? (i := 354) (by decide +kernel)) rfl
theorem se_Pa_putNumber : Cond.selects RX5 y_Pa_putNumber y_Pa_putNumber ∈ lw_g := mg_t (List.mem_of_getElem? (i := 355) (by decide +kernel)) rfl
theorem sm_Po_isOfParity : sM y_Po_isOfParity c_Po_isOfParity 4 (some .boolean) 1 := ⟨mg_t (List.mem_of_getElem? (i := 297) (by decide +kernel)) rfl, mg_t (List.mem_of_getElem? (i := 3) (by decide +kernel)) rfl, by decide, by decide, by decide +kernel⟩
theorem im_Po_isOfParity : Cond.instanceMethod y_Po_isOfParity ∈ lw_g := mg_t (List.mem_of_getElem? (i := 295) (by decide +kernel)) rfl
theorem se_Po_isOfParity : Cond.selects RX6 y_Po_isOfParity y_Po_isOfParity ∈ lw_g := mg_t (List.mem_of_getElem? (i := 296) (by decide +kernel)) rfl
theorem sm_Pa_isLawful : sM y_Pa_isLawful c_Pa_isLawful 1 (some .boolean) 0 := ⟨mg_t (List.mem_of_getElem? (i := 293) (by decide +kernel)) rfl, mg_t (List.mem_of_getElem? (i := 2) (by decide +kernel)) rfl, by decide, by decide, by decide +kernel⟩
theorem im_Pa_isLawful : Cond.instanceMethod y_Pa_isLawful ∈ lw_g := mg_t (List.mem_of_getElem? (i := 291) (by decide +kernel)) rfl
theorem se_Pa_isLawful : Cond.selects RX5 y_Pa_isLawful y_Pa_isLawful ∈ lw_g := mg_t (List.mem_of_getElem? (i := 292) (by decide +kernel)) rfl
theorem sm_Pa_greaterDegree : sM y_Pa_greaterDegree c_Pa_greaterDegree 1 (some .int) 0 := ⟨mg_t (List.mem_of_getElem? (i := 305) (by decide +kernel)) rfl, mg_t (List.mem_of_getElem? (i := 2) (by decide +kernel)) rfl, by decide, by decide, by decide +kernel⟩
theorem im_Pa_greaterDegree : Cond.instanceMethod y_Pa_greaterDegree ∈ lw_g := mg_t (List.mem_of_getElem? (i := 303) (by decide +kernel)) rfl
theorem se_Pa_greaterDegree : Cond.selects RX5 y_Pa_greaterDegree y_Pa_greaterDegree ∈ lw_g := mg_t (List.mem_of_getElem? (i := 304) (by decide +kernel)) rfl
theorem sm_Pa_isFractionOf : sM y_Pa_isFractionOf c_Pa_isFractionOf 6 (some .boolean) 1 := ⟨mg_t (List.mem_of_getElem? (i := 612) (by decide +kernel)) rfl, mg_t (List.mem_of_getElem? (i := 2) (by decide +kernel)) rfl, by decide, by decide, by decide +kernel⟩
theorem im_Pa_isFractionOf : Cond.instanceMethod y_Pa_isFractionOf ∈ lw_g := mg_t (List.mem_of_getElem? (i := 610) (by decide +kernel)) rfl
theorem se_Pa_isFractionOf : Cond.selects RX5 y_Pa_isFractionOf y_Pa_isFractionOf ∈ lw_g := mg_t (List.mem_of_getElem? (i := 611) (by decide +kernel)) rfl
theorem sm_Po_multiplyBy : sM y_Po_multiplyBy c_Po_multiplyBy 4 none 1 := ⟨mg_t (List.mem_of_getElem? (i := 538) (by decide +kernel)) rfl, mg_t (List.mem_of_getElem? (i := 3) (by decide +kernel)) rfl, by decide, by decide, by decide +kernel⟩
theorem im_Po_multiplyBy : Cond.instanceMethod y_Po_multiplyBy ∈ lw_g := mg_t (List.mem_of_getElem? (i := 536) (by decide +kernel)) rfl
theorem se_Po_multiplyBy : Cond.selects RX6 y_Po_multiplyBy y_Po_multiplyBy ∈ lw_g := mg_t (List.mem_of_getElem? (i := 537) (by decide +kernel)) rfl
theorem sm_Pa_goOn : sM y_Pa_goOn c_Pa_goOn 4 none 2 := ⟨mg_t (List.mem_of_getElem? (i := 534) (by decide +kernel)) rfl, mg_t (List.mem_of_getElem? (i := 2) (by decide +kernel)) rfl, by decide, by decide, by decide +kernel⟩
theorem im_Pa_goOn : Cond.instanceMethod y_Pa_goOn ∈ lw_g := mg_t (List.mem_of_getElem? (i := 532) (by decide +kernel)) rfl
theorem se_Pa_goOn : Cond.selects RX5 y_Pa_goOn y_Pa_goOn ∈ lw_g := mg_t (List.mem_of_getElem? (i := 533) (by decide +kernel)) rfl
theorem sm_Po_loadEveryOther : sM y_Po_loadEveryOther c_Po_loadEveryOther 4 none 2 := ⟨mg_t (List.mem_of_getElem? (i := 387) (by decide +kernel)) rfl, mg_t (List.mem_of_getElem? (i := 3) (by decide +kernel)) rfl, by decide, by decide, by decide +kernel⟩
theorem im_Po_loadEveryOther : Cond.instanceMethod y_Po_loadEveryOther ∈ lw_g := mg_t (List.mem_of_getElem? (i := 385) (by decide +kernel)) rfl
theorem se_Po_loadEveryOther : Cond.selects RX6 y_Po_loadEveryOther y_Po_loadEveryOther ∈ lw_g := mg_t (List.mem_of_getElem? (i := 386) (by decide +kernel)) rfl
theorem sm_Po_leastPower : sM y_Po_leastPower c_Po_leastPower 2 (some .int) 0 := ⟨mg_t (List.mem_of_getElem? (i := 366) (by decide +kernel)) rfl, mg_t (List.mem_of_getElem? (i := 3) (by decide +kernel)) rfl, by decide, by decide, by decide +kernel⟩
theorem im_Po_leastPower : Cond.instanceMethod y_Po_leastPower ∈ lw_g := mg_t (List.mem_of_getElem? (i := 364) (by decide +kernel)) rfl
theorem se_Po_leastPower : Cond.selects RX6 y_Po_leastPower y_Po_leastPower ∈ lw_g := mg_t (List.mem_of_getElem? (i := 365) (by decide +kernel)) rfl
theorem sm_Po_runBackwards : sM y_Po_runBackwards c_Po_runBackwards 5 none 1 := ⟨mg_t (List.mem_of_getElem? (i := 316) (by decide +kernel)) rfl, mg_t (List.mem_of_getElem? (i := 3) (by decide +kernel)) rfl, by decide, by decide, by decide +kernel⟩
theorem im_Po_runBackwards : Cond.instanceMethod y_Po_runBackwards ∈ lw_g := mg_t (List.mem_of_getElem? (i := 314) (by decide +kernel)) rfl
theorem se_Po_runBackwards : Cond.selects RX6 y_Po_runBackwards y_Po_runBackwards ∈ lw_g := mg_t (List.mem_of_getElem? (i := 315) (by decide +kernel)) rfl
theorem sm_Po_valueAtMinus : sM y_Po_valueAtMinus c_Po_valueAtMinus 10 (some .long) 2 := ⟨mg_t (List.mem_of_getElem? (i := 391) (by decide +kernel)) rfl, mg_t (List.mem_of_getElem? (i := 3) (by decide +kernel)) rfl, by decide, by decide, by decide +kernel⟩
theorem im_Po_valueAtMinus : Cond.instanceMethod y_Po_valueAtMinus ∈ lw_g := mg_t (List.mem_of_getElem? (i := 389) (by decide +kernel)) rfl
theorem se_Po_valueAtMinus : Cond.selects RX6 y_Po_valueAtMinus y_Po_valueAtMinus ∈ lw_g := mg_t (List.mem_of_getElem? (i := 390) (by decide +kernel)) rfl
theorem sm_Po_divideByRoot : sM y_Po_divideByRoot c_Po_divideByRoot 10 none 2 := ⟨mg_t (List.mem_of_getElem? (i := 569) (by decide +kernel)) rfl, mg_t (List.mem_of_getElem? (i := 3) (by decide +kernel)) rfl, by decide, by decide, by decide +kernel⟩
theorem im_Po_divideByRoot : Cond.instanceMethod y_Po_divideByRoot ∈ lw_g := mg_t (List.mem_of_getElem? (i := 567) (by decide +kernel)) rfl
theorem se_Po_divideByRoot : Cond.selects RX6 y_Po_divideByRoot y_Po_divideByRoot ∈ lw_g := mg_t (List.mem_of_getElem? (i := 568) (by decide +kernel)) rfl
theorem sm_Re_init : sM y_Re_init c_Re_init 1 none 0 := ⟨mg_t (List.mem_of_getElem? (i := 208) (by decide +kernel)) rfl, mg_t (List.mem_of_getElem? (i := 11) (by decide +kernel)) rfl, by decide, by decide, by decide +kernel⟩
theorem im_Re_init : Cond.instanceMethod y_Re_init ∈ lw_g := mg_t (List.mem_of_getElem? (i := 207) (by decide +kernel)) rfl
theorem sm_Re_halfValue : sM y_Re_halfValue c_Re_halfValue 5 (some .long) 4 := ⟨mg_t (List.mem_of_getElem? (i := 383) (by decide +kernel)) rfl, mg_t (List.mem_of_getElem? (i := 11) (by decide +kernel)) rfl, by decide, by decide, by decide +kernel⟩
theorem im_Re_halfValue : Cond.instanceMethod y_Re_halfValue ∈ lw_g := mg_t (List.mem_of_getElem? (i := 382) (by decide +kernel)) rfl
theorem se_Re_halfValue : Cond.selects RX7 y_Re_halfValue y_Re_halfValue ∈ lw_g := mg_s (List.mem_of_getElem? (i := 2) (by decide +kernel)) rfl
theorem sm_Re_workOut : sM y_Re_workOut c_Re_workOut 9 (some .boolean) 3 := ⟨mg_t (List.mem_of_getElem? (i := 378) (by decide +kernel)) rfl, mg_t (List.mem_of_getElem? (i := 11) (by decide +kernel)) rfl, by decide, by decide, by decide +kernel⟩
theorem im_Re_workOut : Cond.instanceMethod y_Re_workOut ∈ lw_g := mg_t (List.mem_of_getElem? (i := 376) (by decide +kernel)) rfl
theorem se_Re_workOut : Cond.selects RX7 y_Re_workOut y_Re_workOut ∈ lw_g := mg_t (List.mem_of_getElem? (i := 377) (by decide +kernel)) rfl
theorem sm_Sh_init : sM y_Sh_init c_Sh_init 2 none 0 := ⟨mg_t (List.mem_of_getElem? (i := 193) (by decide +kernel)) rfl, mg_t (List.mem_of_getElem? (i := 10) (by decide +kernel)) rfl, by decide, by decide, by decide +kernel⟩
theorem im_Sh_init : Cond.instanceMethod y_Sh_init ∈ lw_g := mg_t (List.mem_of_getElem? (i := 192) (by decide +kernel)) rfl
theorem sm_Sh_isSheet : sM y_Sh_isSheet c_Sh_isSheet 2 (some .boolean) 1 := ⟨mg_t (List.mem_of_getElem? (i := 330) (by decide +kernel)) rfl, mg_t (List.mem_of_getElem? (i := 10) (by decide +kernel)) rfl, by decide, by decide, by decide +kernel⟩
theorem im_Sh_isSheet : Cond.instanceMethod y_Sh_isSheet ∈ lw_g := mg_t (List.mem_of_getElem? (i := 328) (by decide +kernel)) rfl
theorem se_Sh_isSheet : Cond.selects RX8 y_Sh_isSheet y_Sh_isSheet ∈ lw_g := mg_t (List.mem_of_getElem? (i := 329) (by decide +kernel)) rfl
theorem sm_Sh_size : sM y_Sh_size c_Sh_size 2 (some .int) 1 := ⟨mg_t (List.mem_of_getElem? (i := 338) (by decide +kernel)) rfl, mg_t (List.mem_of_getElem? (i := 10) (by decide +kernel)) rfl, by decide, by decide, by decide +kernel⟩
theorem im_Sh_size : Cond.instanceMethod y_Sh_size ∈ lw_g := mg_t (List.mem_of_getElem? (i := 336) (by decide +kernel)) rfl
theorem se_Sh_size : Cond.selects RX8 y_Sh_size y_Sh_size ∈ lw_g := mg_t (List.mem_of_getElem? (i := 337) (by decide +kernel)) rfl
theorem sm_Sh_isLost : sM y_Sh_isLost c_Sh_isLost 2 (some .boolean) 1 := ⟨mg_t (List.mem_of_getElem? (i := 334) (by decide +kernel)) rfl, mg_t (List.mem_of_getElem? (i := 10) (by decide +kernel)) rfl, by decide, by decide, by decide +kernel⟩
theorem im_Sh_isLost : Cond.instanceMethod y_Sh_isLost ∈ lw_g := mg_t (List.mem_of_getElem? (i := 332) (by decide +kernel)) rfl
theorem se_Sh_isLost : Cond.selects RX8 y_Sh_isLost y_Sh_isLost ∈ lw_g := mg_t (List.mem_of_getElem? (i := 333) (by decide +kernel)) rfl
theorem sm_Sh_notLost : sM y_Sh_notLost c_Sh_notLost 3 (some .int) 0 := ⟨mg_t (List.mem_of_getElem? (i := 740) (by decide +kernel)) rfl, mg_t (List.mem_of_getElem? (i := 10) (by decide +kernel)) rfl, by decide, by decide, by decide +kernel⟩
theorem im_Sh_notLost : Cond.instanceMethod y_Sh_notLost ∈ lw_g := mg_t (List.mem_of_getElem? (i := 738) (by decide +kernel)) rfl
theorem se_Sh_notLost : Cond.selects RX8 y_Sh_notLost y_Sh_notLost ∈ lw_g := mg_t (List.mem_of_getElem? (i := 739) (by decide +kernel)) rfl
theorem sm_Sh_renew : sM y_Sh_renew c_Sh_renew 4 none 2 := ⟨mg_t (List.mem_of_getElem? (i := 685) (by decide +kernel)) rfl, mg_t (List.mem_of_getElem? (i := 10) (by decide +kernel)) rfl, by decide, by decide, by decide +kernel⟩
theorem im_Sh_renew : Cond.instanceMethod y_Sh_renew ∈ lw_g := mg_t (List.mem_of_getElem? (i := 683) (by decide +kernel)) rfl
theorem se_Sh_renew : Cond.selects RX8 y_Sh_renew y_Sh_renew ∈ lw_g := mg_t (List.mem_of_getElem? (i := 684) (by decide +kernel)) rfl
theorem sm_Sh_forget : sM y_Sh_forget c_Sh_forget 2 none 1 := ⟨mg_t (List.mem_of_getElem? (i := 694) (by decide +kernel)) rfl, mg_t (List.mem_of_getElem? (i := 10) (by decide +kernel)) rfl, by decide, by decide, by decide +kernel⟩
theorem im_Sh_forget : Cond.instanceMethod y_Sh_forget ∈ lw_g := mg_t (List.mem_of_getElem? (i := 692) (by decide +kernel)) rfl
theorem se_Sh_forget : Cond.selects RX8 y_Sh_forget y_Sh_forget ∈ lw_g := mg_t (List.mem_of_getElem? (i := 693) (by decide +kernel)) rfl
theorem sm_Sh_hasRun : sM y_Sh_hasRun c_Sh_hasRun 4 (some .boolean) 3 := ⟨mg_t (List.mem_of_getElem? (i := 347) (by decide +kernel)) rfl, mg_t (List.mem_of_getElem? (i := 10) (by decide +kernel)) rfl, by decide, by decide, by decide +kernel⟩
theorem im_Sh_hasRun : Cond.instanceMethod y_Sh_hasRun ∈ lw_g := mg_t (List.mem_of_getElem? (i := 345) (by decide +kernel)) rfl
theorem se_Sh_hasRun : Cond.selects RX8 y_Sh_hasRun y_Sh_hasRun ∈ lw_g := mg_t (List.mem_of_getElem? (i := 346) (by decide +kernel)) rfl
theorem sm_Sh_item : sM y_Sh_item c_Sh_item 3 (some .long) 2 := ⟨mg_t (List.mem_of_getElem? (i := 351) (by decide +kernel)) rfl, mg_t (List.mem_of_getElem? (i := 10) (by decide +kernel)) rfl, by decide, by decide, by decide +kernel⟩
theorem im_Sh_item : Cond.instanceMethod y_Sh_item ∈ lw_g := mg_t (List.mem_of_getElem? (i := 349) (by decide +kernel)) rfl
theorem se_Sh_item : Cond.selects RX8 y_Sh_item y_Sh_item ∈ lw_g := mg_t (List.mem_of_getElem? (i := 350) (by decide +kernel)) rfl
theorem sm_Sh_put : sM y_Sh_put c_Sh_put 5 none 3 := ⟨mg_t (List.mem_of_getElem? (i := 706) (by decide +kernel)) rfl, mg_t (List.mem_of_getElem? (i := 10) (by decide +kernel)) rfl, by decide, by decide, by decide +kernel⟩
theorem im_Sh_put : Cond.instanceMethod y_Sh_put ∈ lw_g := mg_t (List.mem_of_getElem? (i := 704) (by decide +kernel)) rfl
theorem se_Sh_put : Cond.selects RX8 y_Sh_put y_Sh_put ∈ lw_g := mg_t (List.mem_of_getElem? (i := 705) (by decide +kernel)) rfl
theorem sm_Sh_move : sM y_Sh_move c_Sh_move 6 none 5 := ⟨mg_t (List.mem_of_getElem? (i := 718) (by decide +kernel)) rfl, mg_t (List.mem_of_getElem? (i := 10) (by decide +kernel)) rfl, by decide, by decide, by decide +kernel⟩
theorem im_Sh_move : Cond.instanceMethod y_Sh_move ∈ lw_g := mg_t (List.mem_of_getElem? (i := 716) (by decide +kernel)) rfl
theorem se_Sh_move : Cond.selects RX8 y_Sh_move y_Sh_move ∈ lw_g := mg_t (List.mem_of_getElem? (i := 717) (by decide +kernel)) rfl
theorem sm_Un_init : sM y_Un_init c_Un_init 1 none 0 := ⟨mg_t (List.mem_of_getElem? (i := 95) (by decide +kernel)) rfl, mg_t (List.mem_of_getElem? (i := 6) (by decide +kernel)) rfl, by decide, by decide, by decide +kernel⟩
theorem im_Un_init : Cond.instanceMethod y_Un_init ∈ lw_g := mg_t (List.mem_of_getElem? (i := 94) (by decide +kernel)) rfl
theorem sm_Un_endOf : sM y_Un_endOf c_Un_endOf 2 (some .int) 2 := ⟨mg_t (List.mem_of_getElem? (i := 508) (by decide +kernel)) rfl, mg_t (List.mem_of_getElem? (i := 6) (by decide +kernel)) rfl, by decide, by decide, by decide +kernel⟩
theorem st_Un_endOf : Cond.static y_Un_endOf ∈ lw_g := mg_t (List.mem_of_getElem? (i := 507) (by decide +kernel)) rfl
theorem sm_Un_unlawful : sM y_Un_unlawful c_Un_unlawful 1 (some .int) 1 := ⟨mg_t (List.mem_of_getElem? (i := 516) (by decide +kernel)) rfl, mg_t (List.mem_of_getElem? (i := 6) (by decide +kernel)) rfl, by decide, by decide, by decide +kernel⟩
theorem st_Un_unlawful : Cond.static y_Un_unlawful ∈ lw_g := mg_t (List.mem_of_getElem? (i := 515) (by decide +kernel)) rfl
theorem sm_Un_addRising : sM y_Un_addRising c_Un_addRising 4 none 1 := ⟨mg_t (List.mem_of_getElem? (i := 525) (by decide +kernel)) rfl, mg_t (List.mem_of_getElem? (i := 6) (by decide +kernel)) rfl, by decide, by decide, by decide +kernel⟩
theorem im_Un_addRising : Cond.instanceMethod y_Un_addRising ∈ lw_g := mg_t (List.mem_of_getElem? (i := 524) (by decide +kernel)) rfl
theorem se_Un_addRising : Cond.selects RX9 y_Un_addRising y_Un_addRising ∈ lw_g := mg_s (List.mem_of_getElem? (i := 8) (by decide +kernel)) rfl
theorem sm_Un_addFalling : sM y_Un_addFalling c_Un_addFalling 4 none 1 := ⟨mg_t (List.mem_of_getElem? (i := 530) (by decide +kernel)) rfl, mg_t (List.mem_of_getElem? (i := 6) (by decide +kernel)) rfl, by decide, by decide, by decide +kernel⟩
theorem im_Un_addFalling : Cond.instanceMethod y_Un_addFalling ∈ lw_g := mg_t (List.mem_of_getElem? (i := 529) (by decide +kernel)) rfl
theorem se_Un_addFalling : Cond.selects RX9 y_Un_addFalling y_Un_addFalling ∈ lw_g := mg_s (List.mem_of_getElem? (i := 9) (by decide +kernel)) rfl
theorem sm_Un_divideOn : sM y_Un_divideOn c_Un_divideOn 6 (some .int) 1 := ⟨mg_t (List.mem_of_getElem? (i := 505) (by decide +kernel)) rfl, mg_t (List.mem_of_getElem? (i := 6) (by decide +kernel)) rfl, by decide, by decide, by decide +kernel⟩
theorem im_Un_divideOn : Cond.instanceMethod y_Un_divideOn ∈ lw_g := mg_t (List.mem_of_getElem? (i := 504) (by decide +kernel)) rfl
theorem se_Un_divideOn : Cond.selects RX9 y_Un_divideOn y_Un_divideOn ∈ lw_g := mg_s (List.mem_of_getElem? (i := 7) (by decide +kernel)) rfl
theorem sm_Un_loadInX : sM y_Un_loadInX c_Un_loadInX 3 none 0 := ⟨mg_t (List.mem_of_getElem? (i := 549) (by decide +kernel)) rfl, mg_t (List.mem_of_getElem? (i := 6) (by decide +kernel)) rfl, by decide, by decide, by decide +kernel⟩
theorem im_Un_loadInX : Cond.instanceMethod y_Un_loadInX ∈ lw_g := mg_t (List.mem_of_getElem? (i := 548) (by decide +kernel)) rfl
theorem se_Un_loadInX : Cond.selects RX9 y_Un_loadInX y_Un_loadInX ∈ lw_g := mg_s (List.mem_of_getElem? (i := 11) (by decide +kernel)) rfl
theorem sm_Un_timesInRest : sM y_Un_timesInRest c_Un_timesInRest 4 (some .int) 2 := ⟨mg_t (List.mem_of_getElem? (i := 565) (by decide +kernel)) rfl, mg_t (List.mem_of_getElem? (i := 6) (by decide +kernel)) rfl, by decide, by decide, by decide +kernel⟩
theorem im_Un_timesInRest : Cond.instanceMethod y_Un_timesInRest ∈ lw_g := mg_t (List.mem_of_getElem? (i := 564) (by decide +kernel)) rfl
theorem se_Un_timesInRest : Cond.selects RX9 y_Un_timesInRest y_Un_timesInRest ∈ lw_g := mg_s (List.mem_of_getElem? (i := 13) (by decide +kernel)) rfl
theorem sm_Un_addRoot : sM y_Un_addRoot c_Un_addRoot 5 none 3 := ⟨mg_t (List.mem_of_getElem? (i := 573) (by decide +kernel)) rfl, mg_t (List.mem_of_getElem? (i := 6) (by decide +kernel)) rfl, by decide, by decide, by decide +kernel⟩
theorem im_Un_addRoot : Cond.instanceMethod y_Un_addRoot ∈ lw_g := mg_t (List.mem_of_getElem? (i := 572) (by decide +kernel)) rfl
theorem se_Un_addRoot : Cond.selects RX9 y_Un_addRoot y_Un_addRoot ∈ lw_g := mg_s (List.mem_of_getElem? (i := 14) (by decide +kernel)) rfl
theorem sm_Un_findRoots : sM y_Un_findRoots c_Un_findRoots 3 none 0 := ⟨mg_t (List.mem_of_getElem? (i := 558) (by decide +kernel)) rfl, mg_t (List.mem_of_getElem? (i := 6) (by decide +kernel)) rfl, by decide, by decide, by decide +kernel⟩
theorem im_Un_findRoots : Cond.instanceMethod y_Un_findRoots ∈ lw_g := mg_t (List.mem_of_getElem? (i := 557) (by decide +kernel)) rfl
theorem se_Un_findRoots : Cond.selects RX9 y_Un_findRoots y_Un_findRoots ∈ lw_g := mg_s (List.mem_of_getElem? (i := 12) (by decide +kernel)) rfl
theorem sm_Un_poleAtGreatest : sM y_Un_poleAtGreatest c_Un_poleAtGreatest 4 (some .int) 1 := ⟨mg_t (List.mem_of_getElem? (i := 577) (by decide +kernel)) rfl, mg_t (List.mem_of_getElem? (i := 6) (by decide +kernel)) rfl, by decide, by decide, by decide +kernel⟩
theorem im_Un_poleAtGreatest : Cond.instanceMethod y_Un_poleAtGreatest ∈ lw_g := mg_t (List.mem_of_getElem? (i := 576) (by decide +kernel)) rfl
theorem se_Un_poleAtGreatest : Cond.selects RX9 y_Un_poleAtGreatest y_Un_poleAtGreatest ∈ lw_g := mg_s (List.mem_of_getElem? (i := 15) (by decide +kernel)) rfl
theorem sm_Un_poleAtZero : sM y_Un_poleAtZero c_Un_poleAtZero 2 (some .int) 1 := ⟨mg_t (List.mem_of_getElem? (i := 581) (by decide +kernel)) rfl, mg_t (List.mem_of_getElem? (i := 6) (by decide +kernel)) rfl, by decide, by decide, by decide +kernel⟩
theorem im_Un_poleAtZero : Cond.instanceMethod y_Un_poleAtZero ∈ lw_g := mg_t (List.mem_of_getElem? (i := 580) (by decide +kernel)) rfl
theorem se_Un_poleAtZero : Cond.selects RX9 y_Un_poleAtZero y_Un_poleAtZero ∈ lw_g := mg_s (List.mem_of_getElem? (i := 16) (by decide +kernel)) rfl
theorem sm_Un_addBoth : sM y_Un_addBoth c_Un_addBoth 6 none 1 := ⟨mg_t (List.mem_of_getElem? (i := 589) (by decide +kernel)) rfl, mg_t (List.mem_of_getElem? (i := 6) (by decide +kernel)) rfl, by decide, by decide, by decide +kernel⟩
theorem im_Un_addBoth : Cond.instanceMethod y_Un_addBoth ∈ lw_g := mg_t (List.mem_of_getElem? (i := 588) (by decide +kernel)) rfl
theorem se_Un_addBoth : Cond.selects RX9 y_Un_addBoth y_Un_addBoth ∈ lw_g := mg_s (List.mem_of_getElem? (i := 18) (by decide +kernel)) rfl
theorem sm_Un_poleAtRoot : sM y_Un_poleAtRoot c_Un_poleAtRoot 5 (some .int) 2 := ⟨mg_t (List.mem_of_getElem? (i := 585) (by decide +kernel)) rfl, mg_t (List.mem_of_getElem? (i := 6) (by decide +kernel)) rfl, by decide, by decide, by decide +kernel⟩
theorem im_Un_poleAtRoot : Cond.instanceMethod y_Un_poleAtRoot ∈ lw_g := mg_t (List.mem_of_getElem? (i := 584) (by decide +kernel)) rfl
theorem se_Un_poleAtRoot : Cond.selects RX9 y_Un_poleAtRoot y_Un_poleAtRoot ∈ lw_g := mg_s (List.mem_of_getElem? (i := 17) (by decide +kernel)) rfl
theorem sm_Un_divideByPoles : sM y_Un_divideByPoles c_Un_divideByPoles 4 (some .int) 1 := ⟨mg_t (List.mem_of_getElem? (i := 545) (by decide +kernel)) rfl, mg_t (List.mem_of_getElem? (i := 6) (by decide +kernel)) rfl, by decide, by decide, by decide +kernel⟩
theorem im_Un_divideByPoles : Cond.instanceMethod y_Un_divideByPoles ∈ lw_g := mg_t (List.mem_of_getElem? (i := 544) (by decide +kernel)) rfl
theorem se_Un_divideByPoles : Cond.selects RX9 y_Un_divideByPoles y_Un_divideByPoles ∈ lw_g := mg_s (List.mem_of_getElem? (i := 10) (by decide +kernel)) rfl
theorem sm_Un_tryWay : sM y_Un_tryWay c_Un_tryWay 3 (some .int) 2 := ⟨mg_t (List.mem_of_getElem? (i := 496) (by decide +kernel)) rfl, mg_t (List.mem_of_getElem? (i := 6) (by decide +kernel)) rfl, by decide, by decide, by decide +kernel⟩
theorem im_Un_tryWay : Cond.instanceMethod y_Un_tryWay ∈ lw_g := mg_t (List.mem_of_getElem? (i := 494) (by decide +kernel)) rfl
theorem se_Un_tryWay : Cond.selects RX9 y_Un_tryWay y_Un_tryWay ∈ lw_g := mg_t (List.mem_of_getElem? (i := 495) (by decide +kernel)) rfl
theorem sm_Lm_init : sM y_Lm_init c_Lm_init 1 none 0 := ⟨mg_t (List.mem_of_getElem? (i := 19) (by decide +kernel)) rfl, mg_t (List.mem_of_getElem? (i := 1) (by decide +kernel)) rfl, by decide, by decide, by decide +kernel⟩
theorem im_Lm_init : Cond.instanceMethod y_Lm_init ∈ lw_g := mg_t (List.mem_of_getElem? (i := 18) (by decide +kernel)) rfl
theorem sm_Lm_isPlace : sM y_Lm_isPlace c_Lm_isPlace 1 (some .boolean) 1 := ⟨mg_t (List.mem_of_getElem? (i := 256) (by decide +kernel)) rfl, mg_t (List.mem_of_getElem? (i := 1) (by decide +kernel)) rfl, by decide, by decide, by decide +kernel⟩
theorem st_Lm_isPlace : Cond.static y_Lm_isPlace ∈ lw_g := mg_t (List.mem_of_getElem? (i := 255) (by decide +kernel)) rfl
theorem sm_Lm_isPower : sM y_Lm_isPower c_Lm_isPower 1 (some .boolean) 1 := ⟨mg_t (List.mem_of_getElem? (i := 259) (by decide +kernel)) rfl, mg_t (List.mem_of_getElem? (i := 1) (by decide +kernel)) rfl, by decide, by decide, by decide +kernel⟩
theorem st_Lm_isPower : Cond.static y_Lm_isPower ∈ lw_g := mg_t (List.mem_of_getElem? (i := 258) (by decide +kernel)) rfl
theorem sm_Lm_isWishNumber : sM y_Lm_isWishNumber c_Lm_isWishNumber 2 (some .boolean) 1 := ⟨mg_t (List.mem_of_getElem? (i := 262) (by decide +kernel)) rfl, mg_t (List.mem_of_getElem? (i := 1) (by decide +kernel)) rfl, by decide, by decide, by decide +kernel⟩
theorem st_Lm_isWishNumber : Cond.static y_Lm_isWishNumber ∈ lw_g := mg_t (List.mem_of_getElem? (i := 261) (by decide +kernel)) rfl
theorem sm_Lm_tell : sM y_Lm_tell c_Lm_tell 6 (some .int) 3 := ⟨mg_t (List.mem_of_getElem? (i := 253) (by decide +kernel)) rfl, mg_t (List.mem_of_getElem? (i := 1) (by decide +kernel)) rfl, by decide, by decide, by decide +kernel⟩
theorem im_Lm_tell : Cond.instanceMethod y_Lm_tell ∈ lw_g := mg_t (List.mem_of_getElem? (i := 251) (by decide +kernel)) rfl
theorem se_Lm_tell : Cond.selects RX10 y_Lm_tell y_Lm_tell ∈ lw_g := mg_t (List.mem_of_getElem? (i := 252) (by decide +kernel)) rfl
theorem sm_Lm_told : sM y_Lm_told c_Lm_told 3 (some .int) 2 := ⟨mg_t (List.mem_of_getElem? (i := 281) (by decide +kernel)) rfl, mg_t (List.mem_of_getElem? (i := 1) (by decide +kernel)) rfl, by decide, by decide, by decide +kernel⟩
theorem im_Lm_told : Cond.instanceMethod y_Lm_told ∈ lw_g := mg_t (List.mem_of_getElem? (i := 279) (by decide +kernel)) rfl
theorem se_Lm_told : Cond.selects RX10 y_Lm_told y_Lm_told ∈ lw_g := mg_t (List.mem_of_getElem? (i := 280) (by decide +kernel)) rfl
theorem sm_Lm_turn : sM y_Lm_turn c_Lm_turn 1 (some .int) 0 := ⟨mg_t (List.mem_of_getElem? (i := 285) (by decide +kernel)) rfl, mg_t (List.mem_of_getElem? (i := 1) (by decide +kernel)) rfl, by decide, by decide, by decide +kernel⟩
theorem im_Lm_turn : Cond.instanceMethod y_Lm_turn ∈ lw_g := mg_t (List.mem_of_getElem? (i := 283) (by decide +kernel)) rfl
theorem se_Lm_turn : Cond.selects RX10 y_Lm_turn y_Lm_turn ∈ lw_g := mg_t (List.mem_of_getElem? (i := 284) (by decide +kernel)) rfl
theorem sm_Lm_reverse : sM y_Lm_reverse c_Lm_reverse 2 (some .int) 0 := ⟨mg_t (List.mem_of_getElem? (i := 301) (by decide +kernel)) rfl, mg_t (List.mem_of_getElem? (i := 1) (by decide +kernel)) rfl, by decide, by decide, by decide +kernel⟩
theorem im_Lm_reverse : Cond.instanceMethod y_Lm_reverse ∈ lw_g := mg_t (List.mem_of_getElem? (i := 299) (by decide +kernel)) rfl
theorem se_Lm_reverse : Cond.selects RX10 y_Lm_reverse y_Lm_reverse ∈ lw_g := mg_t (List.mem_of_getElem? (i := 300) (by decide +kernel)) rfl
theorem sm_Lm_finding : sM y_Lm_finding c_Lm_finding 2 (some .int) 1 := ⟨mg_t (List.mem_of_getElem? (i := 343) (by decide +kernel)) rfl, mg_t (List.mem_of_getElem? (i := 1) (by decide +kernel)) rfl, by decide, by decide, by decide +kernel⟩
theorem im_Lm_finding : Cond.instanceMethod y_Lm_finding ∈ lw_g := mg_t (List.mem_of_getElem? (i := 342) (by decide +kernel)) rfl
theorem se_Lm_finding : Cond.selects RX10 y_Lm_finding y_Lm_finding ∈ lw_g := mg_s (List.mem_of_getElem? (i := 1) (by decide +kernel)) rfl
theorem sm_Lm_sheetRefusal : sM y_Lm_sheetRefusal c_Lm_sheetRefusal 2 (some .int) 1 := ⟨mg_t (List.mem_of_getElem? (i := 326) (by decide +kernel)) rfl, mg_t (List.mem_of_getElem? (i := 1) (by decide +kernel)) rfl, by decide, by decide, by decide +kernel⟩
theorem im_Lm_sheetRefusal : Cond.instanceMethod y_Lm_sheetRefusal ∈ lw_g := mg_t (List.mem_of_getElem? (i := 325) (by decide +kernel)) rfl
theorem se_Lm_sheetRefusal : Cond.selects RX10 y_Lm_sheetRefusal y_Lm_sheetRefusal ∈ lw_g := mg_s (List.mem_of_getElem? (i := 0) (by decide +kernel)) rfl
theorem sm_Lm_read : sM y_Lm_read c_Lm_read 5 (some .int) 2 := ⟨mg_t (List.mem_of_getElem? (i := 322) (by decide +kernel)) rfl, mg_t (List.mem_of_getElem? (i := 1) (by decide +kernel)) rfl, by decide, by decide, by decide +kernel⟩
theorem im_Lm_read : Cond.instanceMethod y_Lm_read ∈ lw_g := mg_t (List.mem_of_getElem? (i := 320) (by decide +kernel)) rfl
theorem se_Lm_read : Cond.selects RX10 y_Lm_read y_Lm_read ∈ lw_g := mg_t (List.mem_of_getElem? (i := 321) (by decide +kernel)) rfl
theorem sm_Lm_info : sM y_Lm_info c_Lm_info 2 (some .int) 1 := ⟨mg_t (List.mem_of_getElem? (i := 361) (by decide +kernel)) rfl, mg_t (List.mem_of_getElem? (i := 1) (by decide +kernel)) rfl, by decide, by decide, by decide +kernel⟩
theorem im_Lm_info : Cond.instanceMethod y_Lm_info ∈ lw_g := mg_t (List.mem_of_getElem? (i := 359) (by decide +kernel)) rfl
theorem se_Lm_info : Cond.selects RX10 y_Lm_info y_Lm_info ∈ lw_g := mg_t (List.mem_of_getElem? (i := 360) (by decide +kernel)) rfl
theorem sm_Lm_asLong : sM y_Lm_asLong c_Lm_asLong 1 (some .long) 1 := ⟨mg_t (List.mem_of_getElem? (i := 373) (by decide +kernel)) rfl, mg_t (List.mem_of_getElem? (i := 1) (by decide +kernel)) rfl, by decide, by decide, by decide +kernel⟩
theorem st_Lm_asLong : Cond.static y_Lm_asLong ∈ lw_g := mg_t (List.mem_of_getElem? (i := 372) (by decide +kernel)) rfl
theorem sm_Lm_reactance : sM y_Lm_reactance c_Lm_reactance 4 (some .long) 3 := ⟨mg_t (List.mem_of_getElem? (i := 370) (by decide +kernel)) rfl, mg_t (List.mem_of_getElem? (i := 1) (by decide +kernel)) rfl, by decide, by decide, by decide +kernel⟩
theorem im_Lm_reactance : Cond.instanceMethod y_Lm_reactance ∈ lw_g := mg_t (List.mem_of_getElem? (i := 368) (by decide +kernel)) rfl
theorem se_Lm_reactance : Cond.selects RX10 y_Lm_reactance y_Lm_reactance ∈ lw_g := mg_t (List.mem_of_getElem? (i := 369) (by decide +kernel)) rfl
theorem sm_Lm_ladderChanged : sM y_Lm_ladderChanged c_Lm_ladderChanged 1 none 0 := ⟨mg_t (List.mem_of_getElem? (i := 418) (by decide +kernel)) rfl, mg_t (List.mem_of_getElem? (i := 1) (by decide +kernel)) rfl, by decide, by decide, by decide +kernel⟩
theorem im_Lm_ladderChanged : Cond.instanceMethod y_Lm_ladderChanged ∈ lw_g := mg_t (List.mem_of_getElem? (i := 417) (by decide +kernel)) rfl
theorem se_Lm_ladderChanged : Cond.selects RX10 y_Lm_ladderChanged y_Lm_ladderChanged ∈ lw_g := mg_s (List.mem_of_getElem? (i := 3) (by decide +kernel)) rfl
theorem sm_Lm_arm : sM y_Lm_arm c_Lm_arm 6 (some .int) 3 := ⟨mg_t (List.mem_of_getElem? (i := 406) (by decide +kernel)) rfl, mg_t (List.mem_of_getElem? (i := 1) (by decide +kernel)) rfl, by decide, by decide, by decide +kernel⟩
theorem im_Lm_arm : Cond.instanceMethod y_Lm_arm ∈ lw_g := mg_t (List.mem_of_getElem? (i := 404) (by decide +kernel)) rfl
theorem se_Lm_arm : Cond.selects RX10 y_Lm_arm y_Lm_arm ∈ lw_g := mg_t (List.mem_of_getElem? (i := 405) (by decide +kernel)) rfl
theorem sm_Lm_back : sM y_Lm_back c_Lm_back 1 (some .int) 0 := ⟨mg_t (List.mem_of_getElem? (i := 480) (by decide +kernel)) rfl, mg_t (List.mem_of_getElem? (i := 1) (by decide +kernel)) rfl, by decide, by decide, by decide +kernel⟩
theorem im_Lm_back : Cond.instanceMethod y_Lm_back ∈ lw_g := mg_t (List.mem_of_getElem? (i := 478) (by decide +kernel)) rfl
theorem se_Lm_back : Cond.selects RX10 y_Lm_back y_Lm_back ∈ lw_g := mg_t (List.mem_of_getElem? (i := 479) (by decide +kernel)) rfl
theorem sm_Lm_would : sM y_Lm_would c_Lm_would 2 (some .int) 1 := ⟨mg_t (List.mem_of_getElem? (i := 492) (by decide +kernel)) rfl, mg_t (List.mem_of_getElem? (i := 1) (by decide +kernel)) rfl, by decide, by decide, by decide +kernel⟩
theorem im_Lm_would : Cond.instanceMethod y_Lm_would ∈ lw_g := mg_t (List.mem_of_getElem? (i := 490) (by decide +kernel)) rfl
theorem se_Lm_would : Cond.selects RX10 y_Lm_would y_Lm_would ∈ lw_g := mg_t (List.mem_of_getElem? (i := 491) (by decide +kernel)) rfl
theorem sm_Lm_unfold : sM y_Lm_unfold c_Lm_unfold 3 (some .int) 1 := ⟨mg_t (List.mem_of_getElem? (i := 488) (by decide +kernel)) rfl, mg_t (List.mem_of_getElem? (i := 1) (by decide +kernel)) rfl, by decide, by decide, by decide +kernel⟩
theorem im_Lm_unfold : Cond.instanceMethod y_Lm_unfold ∈ lw_g := mg_t (List.mem_of_getElem? (i := 486) (by decide +kernel)) rfl
theorem se_Lm_unfold : Cond.selects RX10 y_Lm_unfold y_Lm_unfold ∈ lw_g := mg_t (List.mem_of_getElem? (i := 487) (by decide +kernel)) rfl
theorem sm_Lm_element : sM y_Lm_element c_Lm_element 3 (some .int) 2 := ⟨mg_t (List.mem_of_getElem? (i := 599) (by decide +kernel)) rfl, mg_t (List.mem_of_getElem? (i := 1) (by decide +kernel)) rfl, by decide, by decide, by decide +kernel⟩
theorem im_Lm_element : Cond.instanceMethod y_Lm_element ∈ lw_g := mg_t (List.mem_of_getElem? (i := 597) (by decide +kernel)) rfl
theorem se_Lm_element : Cond.selects RX10 y_Lm_element y_Lm_element ∈ lw_g := mg_t (List.mem_of_getElem? (i := 598) (by decide +kernel)) rfl
theorem sm_Lm_fold : sM y_Lm_fold c_Lm_fold 3 (some .long) 2 := ⟨mg_t (List.mem_of_getElem? (i := 604) (by decide +kernel)) rfl, mg_t (List.mem_of_getElem? (i := 1) (by decide +kernel)) rfl, by decide, by decide, by decide +kernel⟩
theorem im_Lm_fold : Cond.instanceMethod y_Lm_fold ∈ lw_g := mg_t (List.mem_of_getElem? (i := 602) (by decide +kernel)) rfl
theorem se_Lm_fold : Cond.selects RX10 y_Lm_fold y_Lm_fold ∈ lw_g := mg_t (List.mem_of_getElem? (i := 603) (by decide +kernel)) rfl
theorem sm_Lm_alike : sM y_Lm_alike c_Lm_alike 1 (some .int) 0 := ⟨mg_t (List.mem_of_getElem? (i := 608) (by decide +kernel)) rfl, mg_t (List.mem_of_getElem? (i := 1) (by decide +kernel)) rfl, by decide, by decide, by decide +kernel⟩
theorem im_Lm_alike : Cond.instanceMethod y_Lm_alike ∈ lw_g := mg_t (List.mem_of_getElem? (i := 606) (by decide +kernel)) rfl
theorem se_Lm_alike : Cond.selects RX10 y_Lm_alike y_Lm_alike ∈ lw_g := mg_t (List.mem_of_getElem? (i := 607) (by decide +kernel)) rfl
theorem sm_Lm_take : sM y_Lm_take c_Lm_take 2 (some .int) 0 := ⟨mg_t (List.mem_of_getElem? (i := 616) (by decide +kernel)) rfl, mg_t (List.mem_of_getElem? (i := 1) (by decide +kernel)) rfl, by decide, by decide, by decide +kernel⟩
theorem im_Lm_take : Cond.instanceMethod y_Lm_take ∈ lw_g := mg_t (List.mem_of_getElem? (i := 614) (by decide +kernel)) rfl
theorem se_Lm_take : Cond.selects RX10 y_Lm_take y_Lm_take ∈ lw_g := mg_t (List.mem_of_getElem? (i := 615) (by decide +kernel)) rfl
theorem sm_Lm_bill : sM y_Lm_bill c_Lm_bill 3 (some .int) 2 := ⟨mg_t (List.mem_of_getElem? (i := 622) (by decide +kernel)) rfl, mg_t (List.mem_of_getElem? (i := 1) (by decide +kernel)) rfl, by decide, by decide, by decide +kernel⟩
theorem im_Lm_bill : Cond.instanceMethod y_Lm_bill ∈ lw_g := mg_t (List.mem_of_getElem? (i := 620) (by decide +kernel)) rfl
theorem se_Lm_bill : Cond.selects RX10 y_Lm_bill y_Lm_bill ∈ lw_g := mg_t (List.mem_of_getElem? (i := 621) (by decide +kernel)) rfl
theorem sm_Lm_values : sM y_Lm_values c_Lm_values 1 (some .int) 0 := ⟨mg_t (List.mem_of_getElem? (i := 630) (by decide +kernel)) rfl, mg_t (List.mem_of_getElem? (i := 1) (by decide +kernel)) rfl, by decide, by decide, by decide +kernel⟩
theorem im_Lm_values : Cond.instanceMethod y_Lm_values ∈ lw_g := mg_t (List.mem_of_getElem? (i := 628) (by decide +kernel)) rfl
theorem se_Lm_values : Cond.selects RX10 y_Lm_values y_Lm_values ∈ lw_g := mg_t (List.mem_of_getElem? (i := 629) (by decide +kernel)) rfl
theorem sm_Lm_keep : sM y_Lm_keep c_Lm_keep 1 (some .int) 0 := ⟨mg_t (List.mem_of_getElem? (i := 639) (by decide +kernel)) rfl, mg_t (List.mem_of_getElem? (i := 1) (by decide +kernel)) rfl, by decide, by decide, by decide +kernel⟩
theorem im_Lm_keep : Cond.instanceMethod y_Lm_keep ∈ lw_g := mg_t (List.mem_of_getElem? (i := 637) (by decide +kernel)) rfl
theorem se_Lm_keep : Cond.selects RX10 y_Lm_keep y_Lm_keep ∈ lw_g := mg_t (List.mem_of_getElem? (i := 638) (by decide +kernel)) rfl
theorem sm_Lm_find : sM y_Lm_find c_Lm_find 1 (some .int) 0 := ⟨mg_t (List.mem_of_getElem? (i := 666) (by decide +kernel)) rfl, mg_t (List.mem_of_getElem? (i := 1) (by decide +kernel)) rfl, by decide, by decide, by decide +kernel⟩
theorem im_Lm_find : Cond.instanceMethod y_Lm_find ∈ lw_g := mg_t (List.mem_of_getElem? (i := 664) (by decide +kernel)) rfl
theorem se_Lm_find : Cond.selects RX10 y_Lm_find y_Lm_find ∈ lw_g := mg_t (List.mem_of_getElem? (i := 665) (by decide +kernel)) rfl
theorem sm_Lm_kept : sM y_Lm_kept c_Lm_kept 3 (some .int) 2 := ⟨mg_t (List.mem_of_getElem? (i := 671) (by decide +kernel)) rfl, mg_t (List.mem_of_getElem? (i := 1) (by decide +kernel)) rfl, by decide, by decide, by decide +kernel⟩
theorem im_Lm_kept : Cond.instanceMethod y_Lm_kept ∈ lw_g := mg_t (List.mem_of_getElem? (i := 669) (by decide +kernel)) rfl
theorem se_Lm_kept : Cond.selects RX10 y_Lm_kept y_Lm_kept ∈ lw_g := mg_t (List.mem_of_getElem? (i := 670) (by decide +kernel)) rfl
theorem sm_Lm_recall : sM y_Lm_recall c_Lm_recall 3 (some .int) 1 := ⟨mg_t (List.mem_of_getElem? (i := 677) (by decide +kernel)) rfl, mg_t (List.mem_of_getElem? (i := 1) (by decide +kernel)) rfl, by decide, by decide, by decide +kernel⟩
theorem im_Lm_recall : Cond.instanceMethod y_Lm_recall ∈ lw_g := mg_t (List.mem_of_getElem? (i := 675) (by decide +kernel)) rfl
theorem se_Lm_recall : Cond.selects RX10 y_Lm_recall y_Lm_recall ∈ lw_g := mg_t (List.mem_of_getElem? (i := 676) (by decide +kernel)) rfl
theorem sm_Lm_sheet : sM y_Lm_sheet c_Lm_sheet 3 (some .int) 2 := ⟨mg_t (List.mem_of_getElem? (i := 681) (by decide +kernel)) rfl, mg_t (List.mem_of_getElem? (i := 1) (by decide +kernel)) rfl, by decide, by decide, by decide +kernel⟩
theorem im_Lm_sheet : Cond.instanceMethod y_Lm_sheet ∈ lw_g := mg_t (List.mem_of_getElem? (i := 679) (by decide +kernel)) rfl
theorem se_Lm_sheet : Cond.selects RX10 y_Lm_sheet y_Lm_sheet ∈ lw_g := mg_t (List.mem_of_getElem? (i := 680) (by decide +kernel)) rfl
theorem sm_Lm_lose : sM y_Lm_lose c_Lm_lose 4 (some .int) 1 := ⟨mg_t (List.mem_of_getElem? (i := 689) (by decide +kernel)) rfl, mg_t (List.mem_of_getElem? (i := 1) (by decide +kernel)) rfl, by decide, by decide, by decide +kernel⟩
theorem im_Lm_lose : Cond.instanceMethod y_Lm_lose ∈ lw_g := mg_t (List.mem_of_getElem? (i := 687) (by decide +kernel)) rfl
theorem se_Lm_lose : Cond.selects RX10 y_Lm_lose y_Lm_lose ∈ lw_g := mg_t (List.mem_of_getElem? (i := 688) (by decide +kernel)) rfl
theorem sm_Lm_itemRefusal : sM y_Lm_itemRefusal c_Lm_itemRefusal 4 (some .int) 2 := ⟨mg_t (List.mem_of_getElem? (i := 702) (by decide +kernel)) rfl, mg_t (List.mem_of_getElem? (i := 1) (by decide +kernel)) rfl, by decide, by decide, by decide +kernel⟩
theorem im_Lm_itemRefusal : Cond.instanceMethod y_Lm_itemRefusal ∈ lw_g := mg_t (List.mem_of_getElem? (i := 701) (by decide +kernel)) rfl
theorem se_Lm_itemRefusal : Cond.selects RX10 y_Lm_itemRefusal y_Lm_itemRefusal ∈ lw_g := mg_s (List.mem_of_getElem? (i := 20) (by decide +kernel)) rfl
theorem sm_Lm_lay : sM y_Lm_lay c_Lm_lay 5 (some .int) 3 := ⟨mg_t (List.mem_of_getElem? (i := 698) (by decide +kernel)) rfl, mg_t (List.mem_of_getElem? (i := 1) (by decide +kernel)) rfl, by decide, by decide, by decide +kernel⟩
theorem im_Lm_lay : Cond.instanceMethod y_Lm_lay ∈ lw_g := mg_t (List.mem_of_getElem? (i := 696) (by decide +kernel)) rfl
theorem se_Lm_lay : Cond.selects RX10 y_Lm_lay y_Lm_lay ∈ lw_g := mg_t (List.mem_of_getElem? (i := 697) (by decide +kernel)) rfl
theorem sm_Lm_get : sM y_Lm_get c_Lm_get 4 (some .long) 2 := ⟨mg_t (List.mem_of_getElem? (i := 710) (by decide +kernel)) rfl, mg_t (List.mem_of_getElem? (i := 1) (by decide +kernel)) rfl, by decide, by decide, by decide +kernel⟩
theorem im_Lm_get : Cond.instanceMethod y_Lm_get ∈ lw_g := mg_t (List.mem_of_getElem? (i := 708) (by decide +kernel)) rfl
theorem se_Lm_get : Cond.selects RX10 y_Lm_get y_Lm_get ∈ lw_g := mg_t (List.mem_of_getElem? (i := 709) (by decide +kernel)) rfl
theorem sm_Lm_copy : sM y_Lm_copy c_Lm_copy 6 (some .int) 5 := ⟨mg_t (List.mem_of_getElem? (i := 714) (by decide +kernel)) rfl, mg_t (List.mem_of_getElem? (i := 1) (by decide +kernel)) rfl, by decide, by decide, by decide +kernel⟩
theorem im_Lm_copy : Cond.instanceMethod y_Lm_copy ∈ lw_g := mg_t (List.mem_of_getElem? (i := 712) (by decide +kernel)) rfl
theorem se_Lm_copy : Cond.selects RX10 y_Lm_copy y_Lm_copy ∈ lw_g := mg_t (List.mem_of_getElem? (i := 713) (by decide +kernel)) rfl
theorem sm_Lm_write : sM y_Lm_write c_Lm_write 5 (some .int) 1 := ⟨mg_t (List.mem_of_getElem? (i := 725) (by decide +kernel)) rfl, mg_t (List.mem_of_getElem? (i := 1) (by decide +kernel)) rfl, by decide, by decide, by decide +kernel⟩
theorem im_Lm_write : Cond.instanceMethod y_Lm_write ∈ lw_g := mg_t (List.mem_of_getElem? (i := 723) (by decide +kernel)) rfl
theorem se_Lm_write : Cond.selects RX10 y_Lm_write y_Lm_write ∈ lw_g := mg_t (List.mem_of_getElem? (i := 724) (by decide +kernel)) rfl
theorem sm_Lm_count : sM y_Lm_count c_Lm_count 2 (some .int) 1 := ⟨mg_t (List.mem_of_getElem? (i := 730) (by decide +kernel)) rfl, mg_t (List.mem_of_getElem? (i := 1) (by decide +kernel)) rfl, by decide, by decide, by decide +kernel⟩
theorem im_Lm_count : Cond.instanceMethod y_Lm_count ∈ lw_g := mg_t (List.mem_of_getElem? (i := 728) (by decide +kernel)) rfl
theorem se_Lm_count : Cond.selects RX10 y_Lm_count y_Lm_count ∈ lw_g := mg_t (List.mem_of_getElem? (i := 729) (by decide +kernel)) rfl
theorem sm_Lm_digestOfRows : sM y_Lm_digestOfRows c_Lm_digestOfRows 7 (some .long) 1 := ⟨mg_t (List.mem_of_getElem? (i := 756) (by decide +kernel)) rfl, mg_t (List.mem_of_getElem? (i := 1) (by decide +kernel)) rfl, by decide, by decide, by decide +kernel⟩
theorem im_Lm_digestOfRows : Cond.instanceMethod y_Lm_digestOfRows ∈ lw_g := mg_t (List.mem_of_getElem? (i := 755) (by decide +kernel)) rfl
theorem se_Lm_digestOfRows : Cond.selects RX10 y_Lm_digestOfRows y_Lm_digestOfRows ∈ lw_g := mg_s (List.mem_of_getElem? (i := 21) (by decide +kernel)) rfl
theorem sm_Lm_digest : sM y_Lm_digest c_Lm_digest 4 (some .long) 0 := ⟨mg_t (List.mem_of_getElem? (i := 745) (by decide +kernel)) rfl, mg_t (List.mem_of_getElem? (i := 1) (by decide +kernel)) rfl, by decide, by decide, by decide +kernel⟩
theorem im_Lm_digest : Cond.instanceMethod y_Lm_digest ∈ lw_g := mg_t (List.mem_of_getElem? (i := 743) (by decide +kernel)) rfl
theorem se_Lm_digest : Cond.selects RX10 y_Lm_digest y_Lm_digest ∈ lw_g := mg_t (List.mem_of_getElem? (i := 744) (by decide +kernel)) rfl
theorem sm_Mo_init : sM y_Mo_init c_Mo_init 2 none 0 := ⟨mg_t (List.mem_of_getElem? (i := 766) (by decide +kernel)) rfl, mg_t (List.mem_of_getElem? (i := 12) (by decide +kernel)) rfl, by decide, by decide, by decide +kernel⟩
theorem im_Mo_init : Cond.instanceMethod y_Mo_init ∈ lw_g := mg_t (List.mem_of_getElem? (i := 765) (by decide +kernel)) rfl
theorem sm_Mo_in : sM y_Mo_in c_Mo_in 6 (some .boolean) 3 := ⟨mg_t (List.mem_of_getElem? (i := 878) (by decide +kernel)) rfl, mg_t (List.mem_of_getElem? (i := 12) (by decide +kernel)) rfl, by decide, by decide, by decide +kernel⟩
theorem st_Mo_in : Cond.static y_Mo_in ∈ lw_g := mg_t (List.mem_of_getElem? (i := 877) (by decide +kernel)) rfl
theorem sm_Mo_isTwo : sM y_Mo_isTwo c_Mo_isTwo 1 (some .boolean) 1 := ⟨mg_t (List.mem_of_getElem? (i := 913) (by decide +kernel)) rfl, mg_t (List.mem_of_getElem? (i := 12) (by decide +kernel)) rfl, by decide, by decide, by decide +kernel⟩
theorem st_Mo_isTwo : Cond.static y_Mo_isTwo ∈ lw_g := mg_t (List.mem_of_getElem? (i := 912) (by decide +kernel)) rfl
theorem sm_Mo_no : sM y_Mo_no c_Mo_no 1 (some .long) 1 := ⟨mg_t (List.mem_of_getElem? (i := 901) (by decide +kernel)) rfl, mg_t (List.mem_of_getElem? (i := 12) (by decide +kernel)) rfl, by decide, by decide, by decide +kernel⟩
theorem st_Mo_no : Cond.static y_Mo_no ∈ lw_g := mg_t (List.mem_of_getElem? (i := 900) (by decide +kernel)) rfl
theorem sm_Mo_greater : sM y_Mo_greater c_Mo_greater 2 (some .int) 2 := ⟨mg_t (List.mem_of_getElem? (i := 944) (by decide +kernel)) rfl, mg_t (List.mem_of_getElem? (i := 12) (by decide +kernel)) rfl, by decide, by decide, by decide +kernel⟩
theorem st_Mo_greater : Cond.static y_Mo_greater ∈ lw_g := mg_t (List.mem_of_getElem? (i := 943) (by decide +kernel)) rfl
theorem sm_Mo_lesser : sM y_Mo_lesser c_Mo_lesser 2 (some .int) 2 := ⟨mg_t (List.mem_of_getElem? (i := 1208) (by decide +kernel)) rfl, mg_t (List.mem_of_getElem? (i := 12) (by decide +kernel)) rfl, by decide, by decide, by decide +kernel⟩
theorem st_Mo_lesser : Cond.static y_Mo_lesser ∈ lw_g := mg_t (List.mem_of_getElem? (i := 1207) (by decide +kernel)) rfl
theorem sm_Mo_divisor : sM y_Mo_divisor c_Mo_divisor 11 (some .long) 2 := ⟨mg_t (List.mem_of_getElem? (i := 980) (by decide +kernel)) rfl, mg_t (List.mem_of_getElem? (i := 12) (by decide +kernel)) rfl, by decide, by decide, by decide +kernel⟩
theorem st_Mo_divisor : Cond.static y_Mo_divisor ∈ lw_g := mg_t (List.mem_of_getElem? (i := 979) (by decide +kernel)) rfl
theorem sm_Mo_finds : sM y_Mo_finds c_Mo_finds 2 (some .int) 1 := ⟨mg_t (List.mem_of_getElem? (i := 882) (by decide +kernel)) rfl, mg_t (List.mem_of_getElem? (i := 12) (by decide +kernel)) rfl, by decide, by decide, by decide +kernel⟩
theorem im_Mo_finds : Cond.instanceMethod y_Mo_finds ∈ lw_g := mg_t (List.mem_of_getElem? (i := 881) (by decide +kernel)) rfl
theorem se_Mo_finds : Cond.selects RX11 y_Mo_finds y_Mo_finds ∈ lw_g := mg_s (List.mem_of_getElem? (i := 22) (by decide +kernel)) rfl
theorem sm_Mo_isSheet : sM y_Mo_isSheet c_Mo_isSheet 1 (some .boolean) 1 := ⟨mg_t (List.mem_of_getElem? (i := 874) (by decide +kernel)) rfl, mg_t (List.mem_of_getElem? (i := 12) (by decide +kernel)) rfl, by decide, by decide, by decide +kernel⟩
theorem st_Mo_isSheet : Cond.static y_Mo_isSheet ∈ lw_g := mg_t (List.mem_of_getElem? (i := 873) (by decide +kernel)) rfl
theorem sm_Mo_sheet : sM y_Mo_sheet c_Mo_sheet 4 (some .int) 2 := ⟨mg_t (List.mem_of_getElem? (i := 871) (by decide +kernel)) rfl, mg_t (List.mem_of_getElem? (i := 12) (by decide +kernel)) rfl, by decide, by decide, by decide +kernel⟩
theorem im_Mo_sheet : Cond.instanceMethod y_Mo_sheet ∈ lw_g := mg_t (List.mem_of_getElem? (i := 869) (by decide +kernel)) rfl
theorem se_Mo_sheet : Cond.selects RX11 y_Mo_sheet y_Mo_sheet ∈ lw_g := mg_t (List.mem_of_getElem? (i := 870) (by decide +kernel)) rfl
theorem sm_Mo_lose : sM y_Mo_lose c_Mo_lose 3 (some .int) 1 := ⟨mg_t (List.mem_of_getElem? (i := 886) (by decide +kernel)) rfl, mg_t (List.mem_of_getElem? (i := 12) (by decide +kernel)) rfl, by decide, by decide, by decide +kernel⟩
theorem im_Mo_lose : Cond.instanceMethod y_Mo_lose ∈ lw_g := mg_t (List.mem_of_getElem? (i := 884) (by decide +kernel)) rfl
theorem se_Mo_lose : Cond.selects RX11 y_Mo_lose y_Mo_lose ∈ lw_g := mg_t (List.mem_of_getElem? (i := 885) (by decide +kernel)) rfl
theorem sm_Mo_lacks : sM y_Mo_lacks c_Mo_lacks 3 (some .int) 2 := ⟨mg_t (List.mem_of_getElem? (i := 894) (by decide +kernel)) rfl, mg_t (List.mem_of_getElem? (i := 12) (by decide +kernel)) rfl, by decide, by decide, by decide +kernel⟩
theorem im_Mo_lacks : Cond.instanceMethod y_Mo_lacks ∈ lw_g := mg_t (List.mem_of_getElem? (i := 893) (by decide +kernel)) rfl
theorem se_Mo_lacks : Cond.selects RX11 y_Mo_lacks y_Mo_lacks ∈ lw_g := mg_s (List.mem_of_getElem? (i := 23) (by decide +kernel)) rfl
theorem sm_Mo_lay : sM y_Mo_lay c_Mo_lay 5 (some .int) 3 := ⟨mg_t (List.mem_of_getElem? (i := 890) (by decide +kernel)) rfl, mg_t (List.mem_of_getElem? (i := 12) (by decide +kernel)) rfl, by decide, by decide, by decide +kernel⟩
theorem im_Mo_lay : Cond.instanceMethod y_Mo_lay ∈ lw_g := mg_t (List.mem_of_getElem? (i := 888) (by decide +kernel)) rfl
theorem se_Mo_lay : Cond.selects RX11 y_Mo_lay y_Mo_lay ∈ lw_g := mg_t (List.mem_of_getElem? (i := 889) (by decide +kernel)) rfl
theorem sm_Mo_get : sM y_Mo_get c_Mo_get 4 (some .long) 2 := ⟨mg_t (List.mem_of_getElem? (i := 898) (by decide +kernel)) rfl, mg_t (List.mem_of_getElem? (i := 12) (by decide +kernel)) rfl, by decide, by decide, by decide +kernel⟩
theorem im_Mo_get : Cond.instanceMethod y_Mo_get ∈ lw_g := mg_t (List.mem_of_getElem? (i := 896) (by decide +kernel)) rfl
theorem se_Mo_get : Cond.selects RX11 y_Mo_get y_Mo_get ∈ lw_g := mg_t (List.mem_of_getElem? (i := 897) (by decide +kernel)) rfl
theorem sm_Mo_copy : sM y_Mo_copy c_Mo_copy 7 (some .int) 5 := ⟨mg_t (List.mem_of_getElem? (i := 906) (by decide +kernel)) rfl, mg_t (List.mem_of_getElem? (i := 12) (by decide +kernel)) rfl, by decide, by decide, by decide +kernel⟩
theorem im_Mo_copy : Cond.instanceMethod y_Mo_copy ∈ lw_g := mg_t (List.mem_of_getElem? (i := 904) (by decide +kernel)) rfl
theorem se_Mo_copy : Cond.selects RX11 y_Mo_copy y_Mo_copy ∈ lw_g := mg_t (List.mem_of_getElem? (i := 905) (by decide +kernel)) rfl
theorem sm_Mo_tell : sM y_Mo_tell c_Mo_tell 5 (some .int) 3 := ⟨mg_t (List.mem_of_getElem? (i := 910) (by decide +kernel)) rfl, mg_t (List.mem_of_getElem? (i := 12) (by decide +kernel)) rfl, by decide, by decide, by decide +kernel⟩
theorem im_Mo_tell : Cond.instanceMethod y_Mo_tell ∈ lw_g := mg_t (List.mem_of_getElem? (i := 908) (by decide +kernel)) rfl
theorem se_Mo_tell : Cond.selects RX11 y_Mo_tell y_Mo_tell ∈ lw_g := mg_t (List.mem_of_getElem? (i := 909) (by decide +kernel)) rfl
theorem sm_Mo_told : sM y_Mo_told c_Mo_told 3 (some .int) 2 := ⟨mg_t (List.mem_of_getElem? (i := 921) (by decide +kernel)) rfl, mg_t (List.mem_of_getElem? (i := 12) (by decide +kernel)) rfl, by decide, by decide, by decide +kernel⟩
theorem im_Mo_told : Cond.instanceMethod y_Mo_told ∈ lw_g := mg_t (List.mem_of_getElem? (i := 919) (by decide +kernel)) rfl
theorem se_Mo_told : Cond.selects RX11 y_Mo_told y_Mo_told ∈ lw_g := mg_t (List.mem_of_getElem? (i := 920) (by decide +kernel)) rfl
theorem sm_Mo_degree : sM y_Mo_degree c_Mo_degree 4 (some .int) 1 := ⟨mg_t (List.mem_of_getElem? (i := 941) (by decide +kernel)) rfl, mg_t (List.mem_of_getElem? (i := 12) (by decide +kernel)) rfl, by decide, by decide, by decide +kernel⟩
theorem im_Mo_degree : Cond.instanceMethod y_Mo_degree ∈ lw_g := mg_t (List.mem_of_getElem? (i := 940) (by decide +kernel)) rfl
theorem se_Mo_degree : Cond.selects RX11 y_Mo_degree y_Mo_degree ∈ lw_g := mg_s (List.mem_of_getElem? (i := 26) (by decide +kernel)) rfl
theorem sm_Mo_lowest : sM y_Mo_lowest c_Mo_lowest 4 (some .int) 1 := ⟨mg_t (List.mem_of_getElem? (i := 962) (by decide +kernel)) rfl, mg_t (List.mem_of_getElem? (i := 12) (by decide +kernel)) rfl, by decide, by decide, by decide +kernel⟩
theorem im_Mo_lowest : Cond.instanceMethod y_Mo_lowest ∈ lw_g := mg_t (List.mem_of_getElem? (i := 961) (by decide +kernel)) rfl
theorem se_Mo_lowest : Cond.selects RX11 y_Mo_lowest y_Mo_lowest ∈ lw_g := mg_s (List.mem_of_getElem? (i := 28) (by decide +kernel)) rfl
theorem sm_Mo_sort : sM y_Mo_sort c_Mo_sort 5 (some .int) 1 := ⟨mg_t (List.mem_of_getElem? (i := 933) (by decide +kernel)) rfl, mg_t (List.mem_of_getElem? (i := 12) (by decide +kernel)) rfl, by decide, by decide, by decide +kernel⟩
theorem im_Mo_sort : Cond.instanceMethod y_Mo_sort ∈ lw_g := mg_t (List.mem_of_getElem? (i := 932) (by decide +kernel)) rfl
theorem se_Mo_sort : Cond.selects RX11 y_Mo_sort y_Mo_sort ∈ lw_g := mg_s (List.mem_of_getElem? (i := 25) (by decide +kernel)) rfl
theorem sm_Mo_isLawful : sM y_Mo_isLawful c_Mo_isLawful 1 (some .boolean) 0 := ⟨mg_t (List.mem_of_getElem? (i := 929) (by decide +kernel)) rfl, mg_t (List.mem_of_getElem? (i := 12) (by decide +kernel)) rfl, by decide, by decide, by decide +kernel⟩
theorem im_Mo_isLawful : Cond.instanceMethod y_Mo_isLawful ∈ lw_g := mg_t (List.mem_of_getElem? (i := 928) (by decide +kernel)) rfl
theorem se_Mo_isLawful : Cond.selects RX11 y_Mo_isLawful y_Mo_isLawful ∈ lw_g := mg_s (List.mem_of_getElem? (i := 24) (by decide +kernel)) rfl
theorem sm_Mo_turn : sM y_Mo_turn c_Mo_turn 3 (some .int) 0 := ⟨mg_t (List.mem_of_getElem? (i := 925) (by decide +kernel)) rfl, mg_t (List.mem_of_getElem? (i := 12) (by decide +kernel)) rfl, by decide, by decide, by decide +kernel⟩
theorem im_Mo_turn : Cond.instanceMethod y_Mo_turn ∈ lw_g := mg_t (List.mem_of_getElem? (i := 923) (by decide +kernel)) rfl
theorem se_Mo_turn : Cond.selects RX11 y_Mo_turn y_Mo_turn ∈ lw_g := mg_t (List.mem_of_getElem? (i := 924) (by decide +kernel)) rfl
theorem sm_Mo_reverse : sM y_Mo_reverse c_Mo_reverse 5 (some .int) 0 := ⟨mg_t (List.mem_of_getElem? (i := 937) (by decide +kernel)) rfl, mg_t (List.mem_of_getElem? (i := 12) (by decide +kernel)) rfl, by decide, by decide, by decide +kernel⟩
theorem im_Mo_reverse : Cond.instanceMethod y_Mo_reverse ∈ lw_g := mg_t (List.mem_of_getElem? (i := 935) (by decide +kernel)) rfl
theorem se_Mo_reverse : Cond.selects RX11 y_Mo_reverse y_Mo_reverse ∈ lw_g := mg_t (List.mem_of_getElem? (i := 936) (by decide +kernel)) rfl
theorem sm_Mo_read : sM y_Mo_read c_Mo_read 4 (some .int) 2 := ⟨mg_t (List.mem_of_getElem? (i := 948) (by decide +kernel)) rfl, mg_t (List.mem_of_getElem? (i := 12) (by decide +kernel)) rfl, by decide, by decide, by decide +kernel⟩
theorem im_Mo_read : Cond.instanceMethod y_Mo_read ∈ lw_g := mg_t (List.mem_of_getElem? (i := 946) (by decide +kernel)) rfl
theorem se_Mo_read : Cond.selects RX11 y_Mo_read y_Mo_read ∈ lw_g := mg_t (List.mem_of_getElem? (i := 947) (by decide +kernel)) rfl
theorem sm_Mo_infoBy : sM y_Mo_infoBy c_Mo_infoBy 2 (some .int) 1 := ⟨mg_t (List.mem_of_getElem? (i := 958) (by decide +kernel)) rfl, mg_t (List.mem_of_getElem? (i := 12) (by decide +kernel)) rfl, by decide, by decide, by decide +kernel⟩
theorem im_Mo_infoBy : Cond.instanceMethod y_Mo_infoBy ∈ lw_g := mg_t (List.mem_of_getElem? (i := 957) (by decide +kernel)) rfl
theorem se_Mo_infoBy : Cond.selects RX11 y_Mo_infoBy y_Mo_infoBy ∈ lw_g := mg_s (List.mem_of_getElem? (i := 27) (by decide +kernel)) rfl
theorem sm_Mo_info : sM y_Mo_info c_Mo_info 2 (some .int) 1 := ⟨mg_t (List.mem_of_getElem? (i := 953) (by decide +kernel)) rfl, mg_t (List.mem_of_getElem? (i := 12) (by decide +kernel)) rfl, by decide, by decide, by decide +kernel⟩
theorem im_Mo_info : Cond.instanceMethod y_Mo_info ∈ lw_g := mg_t (List.mem_of_getElem? (i := 951) (by decide +kernel)) rfl
theorem se_Mo_info : Cond.selects RX11 y_Mo_info y_Mo_info ∈ lw_g := mg_t (List.mem_of_getElem? (i := 952) (by decide +kernel)) rfl
theorem sm_Mo_power : sM y_Mo_power c_Mo_power 6 (some .long) 2 := ⟨mg_t (List.mem_of_getElem? (i := 977) (by decide +kernel)) rfl, mg_t (List.mem_of_getElem? (i := 12) (by decide +kernel)) rfl, by decide, by decide, by decide +kernel⟩
theorem st_Mo_power : Cond.static y_Mo_power ∈ lw_g := mg_t (List.mem_of_getElem? (i := 976) (by decide +kernel)) rfl
theorem sm_Mo_turnedValue : sM y_Mo_turnedValue c_Mo_turnedValue 9 (some .long) 3 := ⟨mg_t (List.mem_of_getElem? (i := 974) (by decide +kernel)) rfl, mg_t (List.mem_of_getElem? (i := 12) (by decide +kernel)) rfl, by decide, by decide, by decide +kernel⟩
theorem im_Mo_turnedValue : Cond.instanceMethod y_Mo_turnedValue ∈ lw_g := mg_t (List.mem_of_getElem? (i := 973) (by decide +kernel)) rfl
theorem se_Mo_turnedValue : Cond.selects RX11 y_Mo_turnedValue y_Mo_turnedValue ∈ lw_g := mg_s (List.mem_of_getElem? (i := 30) (by decide +kernel)) rfl
theorem sm_Mo_reactanceBy : sM y_Mo_reactanceBy c_Mo_reactanceBy 10 (some .long) 3 := ⟨mg_t (List.mem_of_getElem? (i := 970) (by decide +kernel)) rfl, mg_t (List.mem_of_getElem? (i := 12) (by decide +kernel)) rfl, by decide, by decide, by decide +kernel⟩
theorem im_Mo_reactanceBy : Cond.instanceMethod y_Mo_reactanceBy ∈ lw_g := mg_t (List.mem_of_getElem? (i := 969) (by decide +kernel)) rfl
theorem se_Mo_reactanceBy : Cond.selects RX11 y_Mo_reactanceBy y_Mo_reactanceBy ∈ lw_g := mg_s (List.mem_of_getElem? (i := 29) (by decide +kernel)) rfl
theorem sm_Mo_reactance : sM y_Mo_reactance c_Mo_reactance 4 (some .long) 3 := ⟨mg_t (List.mem_of_getElem? (i := 966) (by decide +kernel)) rfl, mg_t (List.mem_of_getElem? (i := 12) (by decide +kernel)) rfl, by decide, by decide, by decide +kernel⟩
theorem im_Mo_reactance : Cond.instanceMethod y_Mo_reactance ∈ lw_g := mg_t (List.mem_of_getElem? (i := 964) (by decide +kernel)) rfl
theorem se_Mo_reactance : Cond.selects RX11 y_Mo_reactance y_Mo_reactance ∈ lw_g := mg_t (List.mem_of_getElem? (i := 965) (by decide +kernel)) rfl
theorem sm_Mo_valuesIn : sM y_Mo_valuesIn c_Mo_valuesIn 4 (some .int) 2 := ⟨mg_t (List.mem_of_getElem? (i := 987) (by decide +kernel)) rfl, mg_t (List.mem_of_getElem? (i := 12) (by decide +kernel)) rfl, by decide, by decide, by decide +kernel⟩
theorem st_Mo_valuesIn : Cond.static y_Mo_valuesIn ∈ lw_g := mg_t (List.mem_of_getElem? (i := 986) (by decide +kernel)) rfl
theorem sm_Mo_arm : sM y_Mo_arm c_Mo_arm 4 (some .int) 3 := ⟨mg_t (List.mem_of_getElem? (i := 984) (by decide +kernel)) rfl, mg_t (List.mem_of_getElem? (i := 12) (by decide +kernel)) rfl, by decide, by decide, by decide +kernel⟩
theorem im_Mo_arm : Cond.instanceMethod y_Mo_arm ∈ lw_g := mg_t (List.mem_of_getElem? (i := 982) (by decide +kernel)) rfl
theorem se_Mo_arm : Cond.selects RX11 y_Mo_arm y_Mo_arm ∈ lw_g := mg_t (List.mem_of_getElem? (i := 983) (by decide +kernel)) rfl
theorem sm_Mo_back : sM y_Mo_back c_Mo_back 1 (some .int) 0 := ⟨mg_t (List.mem_of_getElem? (i := 991) (by decide +kernel)) rfl, mg_t (List.mem_of_getElem? (i := 12) (by decide +kernel)) rfl, by decide, by decide, by decide +kernel⟩
theorem im_Mo_back : Cond.instanceMethod y_Mo_back ∈ lw_g := mg_t (List.mem_of_getElem? (i := 989) (by decide +kernel)) rfl
theorem se_Mo_back : Cond.selects RX11 y_Mo_back y_Mo_back ∈ lw_g := mg_t (List.mem_of_getElem? (i := 990) (by decide +kernel)) rfl
theorem sm_Mo_element : sM y_Mo_element c_Mo_element 3 (some .int) 2 := ⟨mg_t (List.mem_of_getElem? (i := 995) (by decide +kernel)) rfl, mg_t (List.mem_of_getElem? (i := 12) (by decide +kernel)) rfl, by decide, by decide, by decide +kernel⟩
theorem im_Mo_element : Cond.instanceMethod y_Mo_element ∈ lw_g := mg_t (List.mem_of_getElem? (i := 993) (by decide +kernel)) rfl
theorem se_Mo_element : Cond.selects RX11 y_Mo_element y_Mo_element ∈ lw_g := mg_t (List.mem_of_getElem? (i := 994) (by decide +kernel)) rfl
theorem sm_Mo_takes : sM y_Mo_takes c_Mo_takes 7 none 2 := ⟨mg_t (List.mem_of_getElem? (i := 1030) (by decide +kernel)) rfl, mg_t (List.mem_of_getElem? (i := 12) (by decide +kernel)) rfl, by decide, by decide, by decide +kernel⟩
theorem im_Mo_takes : Cond.instanceMethod y_Mo_takes ∈ lw_g := mg_t (List.mem_of_getElem? (i := 1029) (by decide +kernel)) rfl
theorem se_Mo_takes : Cond.selects RX11 y_Mo_takes y_Mo_takes ∈ lw_g := mg_s (List.mem_of_getElem? (i := 36) (by decide +kernel)) rfl
theorem sm_Mo_isHandy : sM y_Mo_isHandy c_Mo_isHandy 1 (some .boolean) 0 := ⟨mg_t (List.mem_of_getElem? (i := 1034) (by decide +kernel)) rfl, mg_t (List.mem_of_getElem? (i := 12) (by decide +kernel)) rfl, by decide, by decide, by decide +kernel⟩
theorem im_Mo_isHandy : Cond.instanceMethod y_Mo_isHandy ∈ lw_g := mg_t (List.mem_of_getElem? (i := 1033) (by decide +kernel)) rfl
theorem se_Mo_isHandy : Cond.selects RX11 y_Mo_isHandy y_Mo_isHandy ∈ lw_g := mg_s (List.mem_of_getElem? (i := 37) (by decide +kernel)) rfl
theorem sm_Mo_makes : sM y_Mo_makes c_Mo_makes 3 none 1 := ⟨mg_t (List.mem_of_getElem? (i := 1039) (by decide +kernel)) rfl, mg_t (List.mem_of_getElem? (i := 12) (by decide +kernel)) rfl, by decide, by decide, by decide +kernel⟩
theorem im_Mo_makes : Cond.instanceMethod y_Mo_makes ∈ lw_g := mg_t (List.mem_of_getElem? (i := 1038) (by decide +kernel)) rfl
theorem se_Mo_makes : Cond.selects RX11 y_Mo_makes y_Mo_makes ∈ lw_g := mg_s (List.mem_of_getElem? (i := 38) (by decide +kernel)) rfl
theorem sm_Mo_lays : sM y_Mo_lays c_Mo_lays 2 none 1 := ⟨mg_t (List.mem_of_getElem? (i := 1043) (by decide +kernel)) rfl, mg_t (List.mem_of_getElem? (i := 12) (by decide +kernel)) rfl, by decide, by decide, by decide +kernel⟩
theorem im_Mo_lays : Cond.instanceMethod y_Mo_lays ∈ lw_g := mg_t (List.mem_of_getElem? (i := 1042) (by decide +kernel)) rfl
theorem se_Mo_lays : Cond.selects RX11 y_Mo_lays y_Mo_lays ∈ lw_g := mg_s (List.mem_of_getElem? (i := 39) (by decide +kernel)) rfl
theorem sm_Mo_top : sM y_Mo_top c_Mo_top 3 (some .int) 1 := ⟨mg_t (List.mem_of_getElem? (i := 1011) (by decide +kernel)) rfl, mg_t (List.mem_of_getElem? (i := 12) (by decide +kernel)) rfl, by decide, by decide, by decide +kernel⟩
theorem st_Mo_top : Cond.static y_Mo_top ∈ lw_g := mg_t (List.mem_of_getElem? (i := 1010) (by decide +kernel)) rfl
theorem sm_Mo_content : sM y_Mo_content c_Mo_content 4 (some .long) 1 := ⟨mg_t (List.mem_of_getElem? (i := 1018) (by decide +kernel)) rfl, mg_t (List.mem_of_getElem? (i := 12) (by decide +kernel)) rfl, by decide, by decide, by decide +kernel⟩
theorem st_Mo_content : Cond.static y_Mo_content ∈ lw_g := mg_t (List.mem_of_getElem? (i := 1017) (by decide +kernel)) rfl
theorem sm_Mo_scales : sM y_Mo_scales c_Mo_scales 13 none 4 := ⟨mg_t (List.mem_of_getElem? (i := 1022) (by decide +kernel)) rfl, mg_t (List.mem_of_getElem? (i := 12) (by decide +kernel)) rfl, by decide, by decide, by decide +kernel⟩
theorem im_Mo_scales : Cond.instanceMethod y_Mo_scales ∈ lw_g := mg_t (List.mem_of_getElem? (i := 1021) (by decide +kernel)) rfl
theorem se_Mo_scales : Cond.selects RX11 y_Mo_scales y_Mo_scales ∈ lw_g := mg_s (List.mem_of_getElem? (i := 34) (by decide +kernel)) rfl
theorem sm_Mo_swaps : sM y_Mo_swaps c_Mo_swaps 4 none 0 := ⟨mg_t (List.mem_of_getElem? (i := 1015) (by decide +kernel)) rfl, mg_t (List.mem_of_getElem? (i := 12) (by decide +kernel)) rfl, by decide, by decide, by decide +kernel⟩
theorem im_Mo_swaps : Cond.instanceMethod y_Mo_swaps ∈ lw_g := mg_t (List.mem_of_getElem? (i := 1014) (by decide +kernel)) rfl
theorem se_Mo_swaps : Cond.selects RX11 y_Mo_swaps y_Mo_swaps ∈ lw_g := mg_s (List.mem_of_getElem? (i := 33) (by decide +kernel)) rfl
theorem sm_Mo_dividesOnce : sM y_Mo_dividesOnce c_Mo_dividesOnce 19 (some .int) 3 := ⟨mg_t (List.mem_of_getElem? (i := 1026) (by decide +kernel)) rfl, mg_t (List.mem_of_getElem? (i := 12) (by decide +kernel)) rfl, by decide, by decide, by decide +kernel⟩
theorem im_Mo_dividesOnce : Cond.instanceMethod y_Mo_dividesOnce ∈ lw_g := mg_t (List.mem_of_getElem? (i := 1025) (by decide +kernel)) rfl
theorem se_Mo_dividesOnce : Cond.selects RX11 y_Mo_dividesOnce y_Mo_dividesOnce ∈ lw_g := mg_s (List.mem_of_getElem? (i := 35) (by decide +kernel)) rfl
theorem sm_Mo_divides : sM y_Mo_divides c_Mo_divides 9 (some .int) 1 := ⟨mg_t (List.mem_of_getElem? (i := 1008) (by decide +kernel)) rfl, mg_t (List.mem_of_getElem? (i := 12) (by decide +kernel)) rfl, by decide, by decide, by decide +kernel⟩
theorem im_Mo_divides : Cond.instanceMethod y_Mo_divides ∈ lw_g := mg_t (List.mem_of_getElem? (i := 1007) (by decide +kernel)) rfl
theorem se_Mo_divides : Cond.selects RX11 y_Mo_divides y_Mo_divides ∈ lw_g := mg_s (List.mem_of_getElem? (i := 32) (by decide +kernel)) rfl
theorem sm_Mo_squares : sM y_Mo_squares c_Mo_squares 6 none 3 := ⟨mg_t (List.mem_of_getElem? (i := 1058) (by decide +kernel)) rfl, mg_t (List.mem_of_getElem? (i := 12) (by decide +kernel)) rfl, by decide, by decide, by decide +kernel⟩
theorem im_Mo_squares : Cond.instanceMethod y_Mo_squares ∈ lw_g := mg_t (List.mem_of_getElem? (i := 1057) (by decide +kernel)) rfl
theorem se_Mo_squares : Cond.selects RX11 y_Mo_squares y_Mo_squares ∈ lw_g := mg_s (List.mem_of_getElem? (i := 42) (by decide +kernel)) rfl
theorem sm_Mo_downs : sM y_Mo_downs c_Mo_downs 2 none 1 := ⟨mg_t (List.mem_of_getElem? (i := 1061) (by decide +kernel)) rfl, mg_t (List.mem_of_getElem? (i := 12) (by decide +kernel)) rfl, by decide, by decide, by decide +kernel⟩
theorem st_Mo_downs : Cond.static y_Mo_downs ∈ lw_g := mg_t (List.mem_of_getElem? (i := 1060) (by decide +kernel)) rfl
theorem sm_Mo_valueAt : sM y_Mo_valueAt c_Mo_valueAt 9 (some .long) 3 := ⟨mg_t (List.mem_of_getElem? (i := 1072) (by decide +kernel)) rfl, mg_t (List.mem_of_getElem? (i := 12) (by decide +kernel)) rfl, by decide, by decide, by decide +kernel⟩
theorem st_Mo_valueAt : Cond.static y_Mo_valueAt ∈ lw_g := mg_t (List.mem_of_getElem? (i := 1071) (by decide +kernel)) rfl
theorem sm_Mo_takesOut : sM y_Mo_takesOut c_Mo_takesOut 11 (some .boolean) 2 := ⟨mg_t (List.mem_of_getElem? (i := 1069) (by decide +kernel)) rfl, mg_t (List.mem_of_getElem? (i := 12) (by decide +kernel)) rfl, by decide, by decide, by decide +kernel⟩
theorem im_Mo_takesOut : Cond.instanceMethod y_Mo_takesOut ∈ lw_g := mg_t (List.mem_of_getElem? (i := 1068) (by decide +kernel)) rfl
theorem se_Mo_takesOut : Cond.selects RX11 y_Mo_takesOut y_Mo_takesOut ∈ lw_g := mg_s (List.mem_of_getElem? (i := 44) (by decide +kernel)) rfl
theorem sm_Mo_candidate : sM y_Mo_candidate c_Mo_candidate 12 (some .int) 2 := ⟨mg_t (List.mem_of_getElem? (i := 1054) (by decide +kernel)) rfl, mg_t (List.mem_of_getElem? (i := 12) (by decide +kernel)) rfl, by decide, by decide, by decide +kernel⟩
theorem st_Mo_candidate : Cond.static y_Mo_candidate ∈ lw_g := mg_t (List.mem_of_getElem? (i := 1053) (by decide +kernel)) rfl
theorem sm_Mo_candidates : sM y_Mo_candidates c_Mo_candidates 3 none 0 := ⟨mg_t (List.mem_of_getElem? (i := 1051) (by decide +kernel)) rfl, mg_t (List.mem_of_getElem? (i := 12) (by decide +kernel)) rfl, by decide, by decide, by decide +kernel⟩
theorem im_Mo_candidates : Cond.instanceMethod y_Mo_candidates ∈ lw_g := mg_t (List.mem_of_getElem? (i := 1050) (by decide +kernel)) rfl
theorem se_Mo_candidates : Cond.selects RX11 y_Mo_candidates y_Mo_candidates ∈ lw_g := mg_s (List.mem_of_getElem? (i := 41) (by decide +kernel)) rfl
theorem sm_Mo_isDark : sM y_Mo_isDark c_Mo_isDark 4 (some .boolean) 0 := ⟨mg_t (List.mem_of_getElem? (i := 1065) (by decide +kernel)) rfl, mg_t (List.mem_of_getElem? (i := 12) (by decide +kernel)) rfl, by decide, by decide, by decide +kernel⟩
theorem im_Mo_isDark : Cond.instanceMethod y_Mo_isDark ∈ lw_g := mg_t (List.mem_of_getElem? (i := 1064) (by decide +kernel)) rfl
theorem se_Mo_isDark : Cond.selects RX11 y_Mo_isDark y_Mo_isDark ∈ lw_g := mg_s (List.mem_of_getElem? (i := 43) (by decide +kernel)) rfl
theorem sm_Mo_isRoot : sM y_Mo_isRoot c_Mo_isRoot 2 (some .boolean) 1 := ⟨mg_t (List.mem_of_getElem? (i := 1088) (by decide +kernel)) rfl, mg_t (List.mem_of_getElem? (i := 12) (by decide +kernel)) rfl, by decide, by decide, by decide +kernel⟩
theorem im_Mo_isRoot : Cond.instanceMethod y_Mo_isRoot ∈ lw_g := mg_t (List.mem_of_getElem? (i := 1087) (by decide +kernel)) rfl
theorem se_Mo_isRoot : Cond.selects RX11 y_Mo_isRoot y_Mo_isRoot ∈ lw_g := mg_s (List.mem_of_getElem? (i := 48) (by decide +kernel)) rfl
theorem sm_Mo_slopes : sM y_Mo_slopes c_Mo_slopes 2 none 0 := ⟨mg_t (List.mem_of_getElem? (i := 1084) (by decide +kernel)) rfl, mg_t (List.mem_of_getElem? (i := 12) (by decide +kernel)) rfl, by decide, by decide, by decide +kernel⟩
theorem im_Mo_slopes : Cond.instanceMethod y_Mo_slopes ∈ lw_g := mg_t (List.mem_of_getElem? (i := 1083) (by decide +kernel)) rfl
theorem se_Mo_slopes : Cond.selects RX11 y_Mo_slopes y_Mo_slopes ∈ lw_g := mg_s (List.mem_of_getElem? (i := 47) (by decide +kernel)) rfl
theorem sm_Mo_alone : sM y_Mo_alone c_Mo_alone 8 (some .int) 5 := ⟨mg_t (List.mem_of_getElem? (i := 1080) (by decide +kernel)) rfl, mg_t (List.mem_of_getElem? (i := 12) (by decide +kernel)) rfl, by decide, by decide, by decide +kernel⟩
theorem im_Mo_alone : Cond.instanceMethod y_Mo_alone ∈ lw_g := mg_t (List.mem_of_getElem? (i := 1079) (by decide +kernel)) rfl
theorem se_Mo_alone : Cond.selects RX11 y_Mo_alone y_Mo_alone ∈ lw_g := mg_s (List.mem_of_getElem? (i := 46) (by decide +kernel)) rfl
theorem sm_Mo_ends : sM y_Mo_ends c_Mo_ends 3 (some .int) 1 := ⟨mg_t (List.mem_of_getElem? (i := 1076) (by decide +kernel)) rfl, mg_t (List.mem_of_getElem? (i := 12) (by decide +kernel)) rfl, by decide, by decide, by decide +kernel⟩
theorem im_Mo_ends : Cond.instanceMethod y_Mo_ends ∈ lw_g := mg_t (List.mem_of_getElem? (i := 1075) (by decide +kernel)) rfl
theorem se_Mo_ends : Cond.selects RX11 y_Mo_ends y_Mo_ends ∈ lw_g := mg_s (List.mem_of_getElem? (i := 45) (by decide +kernel)) rfl
theorem sm_Mo_rootOnce : sM y_Mo_rootOnce c_Mo_rootOnce 23 (some .int) 4 := ⟨mg_t (List.mem_of_getElem? (i := 1092) (by decide +kernel)) rfl, mg_t (List.mem_of_getElem? (i := 12) (by decide +kernel)) rfl, by decide, by decide, by decide +kernel⟩
theorem im_Mo_rootOnce : Cond.instanceMethod y_Mo_rootOnce ∈ lw_g := mg_t (List.mem_of_getElem? (i := 1091) (by decide +kernel)) rfl
theorem se_Mo_rootOnce : Cond.selects RX11 y_Mo_rootOnce y_Mo_rootOnce ∈ lw_g := mg_s (List.mem_of_getElem? (i := 49) (by decide +kernel)) rfl
theorem sm_Mo_byRoots : sM y_Mo_byRoots c_Mo_byRoots 7 (some .int) 1 := ⟨mg_t (List.mem_of_getElem? (i := 1047) (by decide +kernel)) rfl, mg_t (List.mem_of_getElem? (i := 12) (by decide +kernel)) rfl, by decide, by decide, by decide +kernel⟩
theorem im_Mo_byRoots : Cond.instanceMethod y_Mo_byRoots ∈ lw_g := mg_t (List.mem_of_getElem? (i := 1046) (by decide +kernel)) rfl
theorem se_Mo_byRoots : Cond.selects RX11 y_Mo_byRoots y_Mo_byRoots ∈ lw_g := mg_s (List.mem_of_getElem? (i := 40) (by decide +kernel)) rfl
theorem sm_Mo_unfolds : sM y_Mo_unfolds c_Mo_unfolds 2 (some .int) 1 := ⟨mg_t (List.mem_of_getElem? (i := 1004) (by decide +kernel)) rfl, mg_t (List.mem_of_getElem? (i := 12) (by decide +kernel)) rfl, by decide, by decide, by decide +kernel⟩
theorem im_Mo_unfolds : Cond.instanceMethod y_Mo_unfolds ∈ lw_g := mg_t (List.mem_of_getElem? (i := 1003) (by decide +kernel)) rfl
theorem se_Mo_unfolds : Cond.selects RX11 y_Mo_unfolds y_Mo_unfolds ∈ lw_g := mg_s (List.mem_of_getElem? (i := 31) (by decide +kernel)) rfl
theorem sm_Mo_would : sM y_Mo_would c_Mo_would 2 (some .int) 1 := ⟨mg_t (List.mem_of_getElem? (i := 999) (by decide +kernel)) rfl, mg_t (List.mem_of_getElem? (i := 12) (by decide +kernel)) rfl, by decide, by decide, by decide +kernel⟩
theorem im_Mo_would : Cond.instanceMethod y_Mo_would ∈ lw_g := mg_t (List.mem_of_getElem? (i := 997) (by decide +kernel)) rfl
theorem se_Mo_would : Cond.selects RX11 y_Mo_would y_Mo_would ∈ lw_g := mg_t (List.mem_of_getElem? (i := 998) (by decide +kernel)) rfl
theorem sm_Mo_unfold : sM y_Mo_unfold c_Mo_unfold 4 (some .int) 1 := ⟨mg_t (List.mem_of_getElem? (i := 1096) (by decide +kernel)) rfl, mg_t (List.mem_of_getElem? (i := 12) (by decide +kernel)) rfl, by decide, by decide, by decide +kernel⟩
theorem im_Mo_unfold : Cond.instanceMethod y_Mo_unfold ∈ lw_g := mg_t (List.mem_of_getElem? (i := 1094) (by decide +kernel)) rfl
theorem se_Mo_unfold : Cond.selects RX11 y_Mo_unfold y_Mo_unfold ∈ lw_g := mg_t (List.mem_of_getElem? (i := 1095) (by decide +kernel)) rfl
theorem sm_Mo_armOf : sM y_Mo_armOf c_Mo_armOf 12 none 1 := ⟨mg_t (List.mem_of_getElem? (i := 1108) (by decide +kernel)) rfl, mg_t (List.mem_of_getElem? (i := 12) (by decide +kernel)) rfl, by decide, by decide, by decide +kernel⟩
theorem im_Mo_armOf : Cond.instanceMethod y_Mo_armOf ∈ lw_g := mg_t (List.mem_of_getElem? (i := 1107) (by decide +kernel)) rfl
theorem se_Mo_armOf : Cond.selects RX11 y_Mo_armOf y_Mo_armOf ∈ lw_g := mg_s (List.mem_of_getElem? (i := 51) (by decide +kernel)) rfl
theorem sm_Mo_turnsOver : sM y_Mo_turnsOver c_Mo_turnsOver 4 none 0 := ⟨mg_t (List.mem_of_getElem? (i := 1112) (by decide +kernel)) rfl, mg_t (List.mem_of_getElem? (i := 12) (by decide +kernel)) rfl, by decide, by decide, by decide +kernel⟩
theorem im_Mo_turnsOver : Cond.instanceMethod y_Mo_turnsOver ∈ lw_g := mg_t (List.mem_of_getElem? (i := 1111) (by decide +kernel)) rfl
theorem se_Mo_turnsOver : Cond.selects RX11 y_Mo_turnsOver y_Mo_turnsOver ∈ lw_g := mg_s (List.mem_of_getElem? (i := 52) (by decide +kernel)) rfl
theorem sm_Mo_asPair : sM y_Mo_asPair c_Mo_asPair 6 none 0 := ⟨mg_t (List.mem_of_getElem? (i := 1120) (by decide +kernel)) rfl, mg_t (List.mem_of_getElem? (i := 12) (by decide +kernel)) rfl, by decide, by decide, by decide +kernel⟩
theorem im_Mo_asPair : Cond.instanceMethod y_Mo_asPair ∈ lw_g := mg_t (List.mem_of_getElem? (i := 1119) (by decide +kernel)) rfl
theorem se_Mo_asPair : Cond.selects RX11 y_Mo_asPair y_Mo_asPair ∈ lw_g := mg_s (List.mem_of_getElem? (i := 54) (by decide +kernel)) rfl
theorem sm_Mo_adds : sM y_Mo_adds c_Mo_adds 7 none 0 := ⟨mg_t (List.mem_of_getElem? (i := 1116) (by decide +kernel)) rfl, mg_t (List.mem_of_getElem? (i := 12) (by decide +kernel)) rfl, by decide, by decide, by decide +kernel⟩
theorem im_Mo_adds : Cond.instanceMethod y_Mo_adds ∈ lw_g := mg_t (List.mem_of_getElem? (i := 1115) (by decide +kernel)) rfl
theorem se_Mo_adds : Cond.selects RX11 y_Mo_adds y_Mo_adds ∈ lw_g := mg_s (List.mem_of_getElem? (i := 53) (by decide +kernel)) rfl
theorem sm_Mo_folds : sM y_Mo_folds c_Mo_folds 3 none 0 := ⟨mg_t (List.mem_of_getElem? (i := 1104) (by decide +kernel)) rfl, mg_t (List.mem_of_getElem? (i := 12) (by decide +kernel)) rfl, by decide, by decide, by decide +kernel⟩
theorem im_Mo_folds : Cond.instanceMethod y_Mo_folds ∈ lw_g := mg_t (List.mem_of_getElem? (i := 1103) (by decide +kernel)) rfl
theorem se_Mo_folds : Cond.selects RX11 y_Mo_folds y_Mo_folds ∈ lw_g := mg_s (List.mem_of_getElem? (i := 50) (by decide +kernel)) rfl
theorem sm_Mo_foldBy : sM y_Mo_foldBy c_Mo_foldBy 3 (some .long) 2 := ⟨mg_t (List.mem_of_getElem? (i := 1124) (by decide +kernel)) rfl, mg_t (List.mem_of_getElem? (i := 12) (by decide +kernel)) rfl, by decide, by decide, by decide +kernel⟩
theorem im_Mo_foldBy : Cond.instanceMethod y_Mo_foldBy ∈ lw_g := mg_t (List.mem_of_getElem? (i := 1123) (by decide +kernel)) rfl
theorem se_Mo_foldBy : Cond.selects RX11 y_Mo_foldBy y_Mo_foldBy ∈ lw_g := mg_s (List.mem_of_getElem? (i := 55) (by decide +kernel)) rfl
theorem sm_Mo_fold : sM y_Mo_fold c_Mo_fold 3 (some .long) 2 := ⟨mg_t (List.mem_of_getElem? (i := 1100) (by decide +kernel)) rfl, mg_t (List.mem_of_getElem? (i := 12) (by decide +kernel)) rfl, by decide, by decide, by decide +kernel⟩
theorem im_Mo_fold : Cond.instanceMethod y_Mo_fold ∈ lw_g := mg_t (List.mem_of_getElem? (i := 1098) (by decide +kernel)) rfl
theorem se_Mo_fold : Cond.selects RX11 y_Mo_fold y_Mo_fold ∈ lw_g := mg_t (List.mem_of_getElem? (i := 1099) (by decide +kernel)) rfl
theorem sm_Mo_alikeNow : sM y_Mo_alikeNow c_Mo_alikeNow 8 (some .int) 0 := ⟨mg_t (List.mem_of_getElem? (i := 1132) (by decide +kernel)) rfl, mg_t (List.mem_of_getElem? (i := 12) (by decide +kernel)) rfl, by decide, by decide, by decide +kernel⟩
theorem im_Mo_alikeNow : Cond.instanceMethod y_Mo_alikeNow ∈ lw_g := mg_t (List.mem_of_getElem? (i := 1131) (by decide +kernel)) rfl
theorem se_Mo_alikeNow : Cond.selects RX11 y_Mo_alikeNow y_Mo_alikeNow ∈ lw_g := mg_s (List.mem_of_getElem? (i := 56) (by decide +kernel)) rfl
theorem sm_Mo_alike : sM y_Mo_alike c_Mo_alike 1 (some .int) 0 := ⟨mg_t (List.mem_of_getElem? (i := 1128) (by decide +kernel)) rfl, mg_t (List.mem_of_getElem? (i := 12) (by decide +kernel)) rfl, by decide, by decide, by decide +kernel⟩
theorem im_Mo_alike : Cond.instanceMethod y_Mo_alike ∈ lw_g := mg_t (List.mem_of_getElem? (i := 1126) (by decide +kernel)) rfl
theorem se_Mo_alike : Cond.selects RX11 y_Mo_alike y_Mo_alike ∈ lw_g := mg_t (List.mem_of_getElem? (i := 1127) (by decide +kernel)) rfl
theorem sm_Mo_take : sM y_Mo_take c_Mo_take 2 (some .int) 0 := ⟨mg_t (List.mem_of_getElem? (i := 1137) (by decide +kernel)) rfl, mg_t (List.mem_of_getElem? (i := 12) (by decide +kernel)) rfl, by decide, by decide, by decide +kernel⟩
theorem im_Mo_take : Cond.instanceMethod y_Mo_take ∈ lw_g := mg_t (List.mem_of_getElem? (i := 1135) (by decide +kernel)) rfl
theorem se_Mo_take : Cond.selects RX11 y_Mo_take y_Mo_take ∈ lw_g := mg_t (List.mem_of_getElem? (i := 1136) (by decide +kernel)) rfl
theorem sm_Mo_partUp : sM y_Mo_partUp c_Mo_partUp 2 (some .int) 1 := ⟨mg_t (List.mem_of_getElem? (i := 1153) (by decide +kernel)) rfl, mg_t (List.mem_of_getElem? (i := 12) (by decide +kernel)) rfl, by decide, by decide, by decide +kernel⟩
theorem im_Mo_partUp : Cond.instanceMethod y_Mo_partUp ∈ lw_g := mg_t (List.mem_of_getElem? (i := 1152) (by decide +kernel)) rfl
theorem se_Mo_partUp : Cond.selects RX11 y_Mo_partUp y_Mo_partUp ∈ lw_g := mg_s (List.mem_of_getElem? (i := 59) (by decide +kernel)) rfl
theorem sm_Mo_partDown : sM y_Mo_partDown c_Mo_partDown 2 (some .int) 1 := ⟨mg_t (List.mem_of_getElem? (i := 1161) (by decide +kernel)) rfl, mg_t (List.mem_of_getElem? (i := 12) (by decide +kernel)) rfl, by decide, by decide, by decide +kernel⟩
theorem im_Mo_partDown : Cond.instanceMethod y_Mo_partDown ∈ lw_g := mg_t (List.mem_of_getElem? (i := 1160) (by decide +kernel)) rfl
theorem se_Mo_partDown : Cond.selects RX11 y_Mo_partDown y_Mo_partDown ∈ lw_g := mg_s (List.mem_of_getElem? (i := 61) (by decide +kernel)) rfl
theorem sm_Mo_isLike : sM y_Mo_isLike c_Mo_isLike 4 (some .boolean) 3 := ⟨mg_t (List.mem_of_getElem? (i := 1157) (by decide +kernel)) rfl, mg_t (List.mem_of_getElem? (i := 12) (by decide +kernel)) rfl, by decide, by decide, by decide +kernel⟩
theorem im_Mo_isLike : Cond.instanceMethod y_Mo_isLike ∈ lw_g := mg_t (List.mem_of_getElem? (i := 1156) (by decide +kernel)) rfl
theorem se_Mo_isLike : Cond.selects RX11 y_Mo_isLike y_Mo_isLike ∈ lw_g := mg_s (List.mem_of_getElem? (i := 60) (by decide +kernel)) rfl
theorem sm_Mo_isFirst : sM y_Mo_isFirst c_Mo_isFirst 5 (some .boolean) 2 := ⟨mg_t (List.mem_of_getElem? (i := 1149) (by decide +kernel)) rfl, mg_t (List.mem_of_getElem? (i := 12) (by decide +kernel)) rfl, by decide, by decide, by decide +kernel⟩
theorem im_Mo_isFirst : Cond.instanceMethod y_Mo_isFirst ∈ lw_g := mg_t (List.mem_of_getElem? (i := 1148) (by decide +kernel)) rfl
theorem se_Mo_isFirst : Cond.selects RX11 y_Mo_isFirst y_Mo_isFirst ∈ lw_g := mg_s (List.mem_of_getElem? (i := 58) (by decide +kernel)) rfl
theorem sm_Mo_parts : sM y_Mo_parts c_Mo_parts 4 (some .int) 1 := ⟨mg_t (List.mem_of_getElem? (i := 1145) (by decide +kernel)) rfl, mg_t (List.mem_of_getElem? (i := 12) (by decide +kernel)) rfl, by decide, by decide, by decide +kernel⟩
theorem im_Mo_parts : Cond.instanceMethod y_Mo_parts ∈ lw_g := mg_t (List.mem_of_getElem? (i := 1144) (by decide +kernel)) rfl
theorem se_Mo_parts : Cond.selects RX11 y_Mo_parts y_Mo_parts ∈ lw_g := mg_s (List.mem_of_getElem? (i := 57) (by decide +kernel)) rfl
theorem sm_Mo_billBy : sM y_Mo_billBy c_Mo_billBy 5 (some .int) 2 := ⟨mg_t (List.mem_of_getElem? (i := 1169) (by decide +kernel)) rfl, mg_t (List.mem_of_getElem? (i := 12) (by decide +kernel)) rfl, by decide, by decide, by decide +kernel⟩
theorem im_Mo_billBy : Cond.instanceMethod y_Mo_billBy ∈ lw_g := mg_t (List.mem_of_getElem? (i := 1168) (by decide +kernel)) rfl
theorem se_Mo_billBy : Cond.selects RX11 y_Mo_billBy y_Mo_billBy ∈ lw_g := mg_s (List.mem_of_getElem? (i := 63) (by decide +kernel)) rfl
theorem sm_Mo_nthPart : sM y_Mo_nthPart c_Mo_nthPart 4 (some .int) 1 := ⟨mg_t (List.mem_of_getElem? (i := 1165) (by decide +kernel)) rfl, mg_t (List.mem_of_getElem? (i := 12) (by decide +kernel)) rfl, by decide, by decide, by decide +kernel⟩
theorem im_Mo_nthPart : Cond.instanceMethod y_Mo_nthPart ∈ lw_g := mg_t (List.mem_of_getElem? (i := 1164) (by decide +kernel)) rfl
theorem se_Mo_nthPart : Cond.selects RX11 y_Mo_nthPart y_Mo_nthPart ∈ lw_g := mg_s (List.mem_of_getElem? (i := 62) (by decide +kernel)) rfl
theorem sm_Mo_bill : sM y_Mo_bill c_Mo_bill 3 (some .int) 2 := ⟨mg_t (List.mem_of_getElem? (i := 1141) (by decide +kernel)) rfl, mg_t (List.mem_of_getElem? (i := 12) (by decide +kernel)) rfl, by decide, by decide, by decide +kernel⟩
theorem im_Mo_bill : Cond.instanceMethod y_Mo_bill ∈ lw_g := mg_t (List.mem_of_getElem? (i := 1139) (by decide +kernel)) rfl
theorem se_Mo_bill : Cond.selects RX11 y_Mo_bill y_Mo_bill ∈ lw_g := mg_t (List.mem_of_getElem? (i := 1140) (by decide +kernel)) rfl
theorem sm_Mo_values : sM y_Mo_values c_Mo_values 1 (some .int) 0 := ⟨mg_t (List.mem_of_getElem? (i := 1173) (by decide +kernel)) rfl, mg_t (List.mem_of_getElem? (i := 12) (by decide +kernel)) rfl, by decide, by decide, by decide +kernel⟩
theorem im_Mo_values : Cond.instanceMethod y_Mo_values ∈ lw_g := mg_t (List.mem_of_getElem? (i := 1171) (by decide +kernel)) rfl
theorem se_Mo_values : Cond.selects RX11 y_Mo_values y_Mo_values ∈ lw_g := mg_t (List.mem_of_getElem? (i := 1172) (by decide +kernel)) rfl
theorem sm_Mo_wishAsPair : sM y_Mo_wishAsPair c_Mo_wishAsPair 2 none 0 := ⟨mg_t (List.mem_of_getElem? (i := 1185) (by decide +kernel)) rfl, mg_t (List.mem_of_getElem? (i := 12) (by decide +kernel)) rfl, by decide, by decide, by decide +kernel⟩
theorem im_Mo_wishAsPair : Cond.instanceMethod y_Mo_wishAsPair ∈ lw_g := mg_t (List.mem_of_getElem? (i := 1184) (by decide +kernel)) rfl
theorem se_Mo_wishAsPair : Cond.selects RX11 y_Mo_wishAsPair y_Mo_wishAsPair ∈ lw_g := mg_s (List.mem_of_getElem? (i := 65) (by decide +kernel)) rfl
theorem sm_Mo_found : sM y_Mo_found c_Mo_found 4 (some .int) 0 := ⟨mg_t (List.mem_of_getElem? (i := 1181) (by decide +kernel)) rfl, mg_t (List.mem_of_getElem? (i := 12) (by decide +kernel)) rfl, by decide, by decide, by decide +kernel⟩
theorem im_Mo_found : Cond.instanceMethod y_Mo_found ∈ lw_g := mg_t (List.mem_of_getElem? (i := 1180) (by decide +kernel)) rfl
theorem se_Mo_found : Cond.selects RX11 y_Mo_found y_Mo_found ∈ lw_g := mg_s (List.mem_of_getElem? (i := 64) (by decide +kernel)) rfl
theorem sm_Mo_keep : sM y_Mo_keep c_Mo_keep 3 (some .int) 0 := ⟨mg_t (List.mem_of_getElem? (i := 1177) (by decide +kernel)) rfl, mg_t (List.mem_of_getElem? (i := 12) (by decide +kernel)) rfl, by decide, by decide, by decide +kernel⟩
theorem im_Mo_keep : Cond.instanceMethod y_Mo_keep ∈ lw_g := mg_t (List.mem_of_getElem? (i := 1175) (by decide +kernel)) rfl
theorem se_Mo_keep : Cond.selects RX11 y_Mo_keep y_Mo_keep ∈ lw_g := mg_t (List.mem_of_getElem? (i := 1176) (by decide +kernel)) rfl
theorem sm_Mo_find : sM y_Mo_find c_Mo_find 1 (some .int) 0 := ⟨mg_t (List.mem_of_getElem? (i := 1189) (by decide +kernel)) rfl, mg_t (List.mem_of_getElem? (i := 12) (by decide +kernel)) rfl, by decide, by decide, by decide +kernel⟩
theorem im_Mo_find : Cond.instanceMethod y_Mo_find ∈ lw_g := mg_t (List.mem_of_getElem? (i := 1187) (by decide +kernel)) rfl
theorem se_Mo_find : Cond.selects RX11 y_Mo_find y_Mo_find ∈ lw_g := mg_t (List.mem_of_getElem? (i := 1188) (by decide +kernel)) rfl
theorem sm_Mo_keptBy : sM y_Mo_keptBy c_Mo_keptBy 3 (some .int) 2 := ⟨mg_t (List.mem_of_getElem? (i := 1197) (by decide +kernel)) rfl, mg_t (List.mem_of_getElem? (i := 12) (by decide +kernel)) rfl, by decide, by decide, by decide +kernel⟩
theorem im_Mo_keptBy : Cond.instanceMethod y_Mo_keptBy ∈ lw_g := mg_t (List.mem_of_getElem? (i := 1196) (by decide +kernel)) rfl
theorem se_Mo_keptBy : Cond.selects RX11 y_Mo_keptBy y_Mo_keptBy ∈ lw_g := mg_s (List.mem_of_getElem? (i := 66) (by decide +kernel)) rfl
theorem sm_Mo_kept : sM y_Mo_kept c_Mo_kept 3 (some .int) 2 := ⟨mg_t (List.mem_of_getElem? (i := 1193) (by decide +kernel)) rfl, mg_t (List.mem_of_getElem? (i := 12) (by decide +kernel)) rfl, by decide, by decide, by decide +kernel⟩
theorem im_Mo_kept : Cond.instanceMethod y_Mo_kept ∈ lw_g := mg_t (List.mem_of_getElem? (i := 1191) (by decide +kernel)) rfl
theorem se_Mo_kept : Cond.selects RX11 y_Mo_kept y_Mo_kept ∈ lw_g := mg_t (List.mem_of_getElem? (i := 1192) (by decide +kernel)) rfl
theorem sm_Mo_recall : sM y_Mo_recall c_Mo_recall 3 (some .int) 1 := ⟨mg_t (List.mem_of_getElem? (i := 1201) (by decide +kernel)) rfl, mg_t (List.mem_of_getElem? (i := 12) (by decide +kernel)) rfl, by decide, by decide, by decide +kernel⟩
theorem im_Mo_recall : Cond.instanceMethod y_Mo_recall ∈ lw_g := mg_t (List.mem_of_getElem? (i := 1199) (by decide +kernel)) rfl
theorem se_Mo_recall : Cond.selects RX11 y_Mo_recall y_Mo_recall ∈ lw_g := mg_t (List.mem_of_getElem? (i := 1200) (by decide +kernel)) rfl
theorem sm_Mo_write : sM y_Mo_write c_Mo_write 4 (some .int) 1 := ⟨mg_t (List.mem_of_getElem? (i := 1205) (by decide +kernel)) rfl, mg_t (List.mem_of_getElem? (i := 12) (by decide +kernel)) rfl, by decide, by decide, by decide +kernel⟩
theorem im_Mo_write : Cond.instanceMethod y_Mo_write ∈ lw_g := mg_t (List.mem_of_getElem? (i := 1203) (by decide +kernel)) rfl
theorem se_Mo_write : Cond.selects RX11 y_Mo_write y_Mo_write ∈ lw_g := mg_t (List.mem_of_getElem? (i := 1204) (by decide +kernel)) rfl
theorem sm_Mo_keptAll : sM y_Mo_keptAll c_Mo_keptAll 3 (some .int) 0 := ⟨mg_t (List.mem_of_getElem? (i := 1216) (by decide +kernel)) rfl, mg_t (List.mem_of_getElem? (i := 12) (by decide +kernel)) rfl, by decide, by decide, by decide +kernel⟩
theorem im_Mo_keptAll : Cond.instanceMethod y_Mo_keptAll ∈ lw_g := mg_t (List.mem_of_getElem? (i := 1215) (by decide +kernel)) rfl
theorem se_Mo_keptAll : Cond.selects RX11 y_Mo_keptAll y_Mo_keptAll ∈ lw_g := mg_s (List.mem_of_getElem? (i := 67) (by decide +kernel)) rfl
theorem sm_Mo_sheets : sM y_Mo_sheets c_Mo_sheets 3 (some .int) 0 := ⟨mg_t (List.mem_of_getElem? (i := 1221) (by decide +kernel)) rfl, mg_t (List.mem_of_getElem? (i := 12) (by decide +kernel)) rfl, by decide, by decide, by decide +kernel⟩
theorem im_Mo_sheets : Cond.instanceMethod y_Mo_sheets ∈ lw_g := mg_t (List.mem_of_getElem? (i := 1220) (by decide +kernel)) rfl
theorem se_Mo_sheets : Cond.selects RX11 y_Mo_sheets y_Mo_sheets ∈ lw_g := mg_s (List.mem_of_getElem? (i := 68) (by decide +kernel)) rfl
theorem sm_Mo_count : sM y_Mo_count c_Mo_count 2 (some .int) 1 := ⟨mg_t (List.mem_of_getElem? (i := 1212) (by decide +kernel)) rfl, mg_t (List.mem_of_getElem? (i := 12) (by decide +kernel)) rfl, by decide, by decide, by decide +kernel⟩
theorem im_Mo_count : Cond.instanceMethod y_Mo_count ∈ lw_g := mg_t (List.mem_of_getElem? (i := 1210) (by decide +kernel)) rfl
theorem se_Mo_count : Cond.selects RX11 y_Mo_count y_Mo_count ∈ lw_g := mg_t (List.mem_of_getElem? (i := 1211) (by decide +kernel)) rfl
theorem sm_Mo_ladderTells : sM y_Mo_ladderTells c_Mo_ladderTells 8 (some .long) 1 := ⟨mg_t (List.mem_of_getElem? (i := 1232) (by decide +kernel)) rfl, mg_t (List.mem_of_getElem? (i := 12) (by decide +kernel)) rfl, by decide, by decide, by decide +kernel⟩
theorem im_Mo_ladderTells : Cond.instanceMethod y_Mo_ladderTells ∈ lw_g := mg_t (List.mem_of_getElem? (i := 1231) (by decide +kernel)) rfl
theorem se_Mo_ladderTells : Cond.selects RX11 y_Mo_ladderTells y_Mo_ladderTells ∈ lw_g := mg_s (List.mem_of_getElem? (i := 69) (by decide +kernel)) rfl
theorem sm_Mo_digest : sM y_Mo_digest c_Mo_digest 5 (some .long) 0 := ⟨mg_t (List.mem_of_getElem? (i := 1225) (by decide +kernel)) rfl, mg_t (List.mem_of_getElem? (i := 12) (by decide +kernel)) rfl, by decide, by decide, by decide +kernel⟩
theorem im_Mo_digest : Cond.instanceMethod y_Mo_digest ∈ lw_g := mg_t (List.mem_of_getElem? (i := 1223) (by decide +kernel)) rfl
theorem se_Mo_digest : Cond.selects RX11 y_Mo_digest y_Mo_digest ∈ lw_g := mg_t (List.mem_of_getElem? (i := 1224) (by decide +kernel)) rfl
theorem ml_Lw_9 : Cond.methodLink "LadderMakerLaw" 9 y_Lm_init ∈ lw_g := mg_t (List.mem_of_getElem? (i := 17) (by decide +kernel)) rfl
theorem ml_Lm_3 : Cond.methodLink RX10 3 Lib.objectInit ∈ lw_g := mg_t (List.mem_of_getElem? (i := 20) (by decide +kernel)) rfl
theorem ml_Lm_11 : Cond.methodLinkNest RX10 11 y_Pa_init "LadderMaker" ∈ lw_tbl := mg_n (List.mem_of_getElem? (i := 25) (by decide +kernel))
theorem ml_Pa_3 : Cond.methodLink RX5 3 Lib.objectInit ∈ lw_g := mg_t (List.mem_of_getElem? (i := 28) (by decide +kernel)) rfl
theorem ml_Pa_11 : Cond.methodLinkNest RX5 11 y_Po_init "LadderMaker" ∈ lw_tbl := mg_n (List.mem_of_getElem? (i := 31) (by decide +kernel))
theorem ml_Po_3 : Cond.methodLink RX6 3 Lib.objectInit ∈ lw_g := mg_t (List.mem_of_getElem? (i := 34) (by decide +kernel)) rfl
theorem fl_Po_9 : Cond.fieldLink RX6 9 (TX6 0).1 (TX6 0).2.1 (TX6 0).2.2.1 ∈ lw_g := mg_t (List.mem_of_getElem? (i := 35) (by decide +kernel)) rfl
theorem fl_Pa_12 : Cond.fieldLink RX5 12 (TX5 0).1 (TX5 0).2.1 (TX5 0).2.2.1 ∈ lw_g := mg_t (List.mem_of_getElem? (i := 40) (by decide +kernel)) rfl
theorem fl_Re_32 : Cond.fieldLinkNest RX7 32 (TX5 0).1 (TX5 0).2.1 (TX5 0).2.2.1 "LadderMaker" ∈ lw_tbl := mg_n (List.mem_of_getElem? (i := 41) (by decide +kernel))
theorem fl_Fo_34 : Cond.fieldLinkNest RX1 34 (TX5 0).1 (TX5 0).2.1 (TX5 0).2.2.1 "LadderMaker" ∈ lw_tbl := mg_n (List.mem_of_getElem? (i := 42) (by decide +kernel))
theorem fl_Un_77 : Cond.fieldLinkNest RX9 77 (TX5 0).1 (TX5 0).2.1 (TX5 0).2.2.1 "LadderMaker" ∈ lw_tbl := mg_n (List.mem_of_getElem? (i := 43) (by decide +kernel))
theorem fl_Pa_18 : Cond.fieldLink RX5 18 (TX5 1).1 (TX5 1).2.1 (TX5 1).2.2.1 ∈ lw_g := mg_t (List.mem_of_getElem? (i := 44) (by decide +kernel)) rfl
theorem fl_Re_23 : Cond.fieldLinkNest RX7 23 (TX5 1).1 (TX5 1).2.1 (TX5 1).2.2.1 "LadderMaker" ∈ lw_tbl := mg_n (List.mem_of_getElem? (i := 45) (by decide +kernel))
theorem fl_Fo_43 : Cond.fieldLinkNest RX1 43 (TX5 1).1 (TX5 1).2.1 (TX5 1).2.2.1 "LadderMaker" ∈ lw_tbl := mg_n (List.mem_of_getElem? (i := 46) (by decide +kernel))
theorem fl_Un_84 : Cond.fieldLinkNest RX9 84 (TX5 1).1 (TX5 1).2.1 (TX5 1).2.2.1 "LadderMaker" ∈ lw_tbl := mg_n (List.mem_of_getElem? (i := 47) (by decide +kernel))
theorem ml_Lm_18 : Cond.methodLinkNest RX10 18 y_La_init "LadderMaker" ∈ lw_tbl := mg_n (List.mem_of_getElem? (i := 55) (by decide +kernel))
theorem ml_La_3 : Cond.methodLink RX3 3 Lib.objectInit ∈ lw_g := mg_t (List.mem_of_getElem? (i := 58) (by decide +kernel)) rfl
theorem fl_La_11 : Cond.fieldLink RX3 11 (TX3 0).1 (TX3 0).2.1 (TX3 0).2.2.1 ∈ lw_g := mg_t (List.mem_of_getElem? (i := 61) (by decide +kernel)) rfl
theorem fl_La_16 : Cond.fieldLink RX3 16 (TX3 1).1 (TX3 1).2.1 (TX3 1).2.2.1 ∈ lw_g := mg_t (List.mem_of_getElem? (i := 62) (by decide +kernel)) rfl
theorem fl_Fo_24 : Cond.fieldLinkNest RX1 24 (TX3 1).1 (TX3 1).2.1 (TX3 1).2.2.1 "LadderMaker" ∈ lw_tbl := mg_n (List.mem_of_getElem? (i := 63) (by decide +kernel))
theorem fl_Bi_20 : Cond.fieldLinkNest RX0 20 (TX3 1).1 (TX3 1).2.1 (TX3 1).2.2.1 "LadderMaker" ∈ lw_tbl := mg_n (List.mem_of_getElem? (i := 64) (by decide +kernel))
theorem fl_Lm_161 : Cond.fieldLinkNest RX10 161 (TX3 1).1 (TX3 1).2.1 (TX3 1).2.2.1 "LadderMaker" ∈ lw_tbl := mg_n (List.mem_of_getElem? (i := 65) (by decide +kernel))
theorem ml_Lm_25 : Cond.methodLinkNest RX10 25 y_Fo_init "LadderMaker" ∈ lw_tbl := mg_n (List.mem_of_getElem? (i := 74) (by decide +kernel))
theorem ml_Fo_3 : Cond.methodLink RX1 3 Lib.objectInit ∈ lw_g := mg_t (List.mem_of_getElem? (i := 77) (by decide +kernel)) rfl
theorem ml_Fo_11 : Cond.methodLinkNest RX1 11 y_Pa_init "LadderMaker" ∈ lw_tbl := mg_n (List.mem_of_getElem? (i := 79) (by decide +kernel))
theorem fl_Fo_12 : Cond.fieldLink RX1 12 (TX1 0).1 (TX1 0).2.1 (TX1 0).2.2.1 ∈ lw_g := mg_t (List.mem_of_getElem? (i := 80) (by decide +kernel)) rfl
theorem fl_Lm_184 : Cond.fieldLinkNest RX10 184 (TX1 0).1 (TX1 0).2.1 (TX1 0).2.2.1 "LadderMaker" ∈ lw_tbl := mg_n (List.mem_of_getElem? (i := 81) (by decide +kernel))
theorem fl_Fo_18 : Cond.fieldLink RX1 18 (TX1 1).1 (TX1 1).2.1 (TX1 1).2.2.1 ∈ lw_g := mg_t (List.mem_of_getElem? (i := 82) (by decide +kernel)) rfl
theorem fl_Fo_21 : Cond.fieldLink RX1 21 (TX1 2).1 (TX1 2).2.1 (TX1 2).2.2.1 ∈ lw_g := mg_t (List.mem_of_getElem? (i := 83) (by decide +kernel)) rfl
theorem ml_Lm_32 : Cond.methodLinkNest RX10 32 y_Un_init "LadderMaker" ∈ lw_tbl := mg_n (List.mem_of_getElem? (i := 93) (by decide +kernel))
theorem ml_Un_3 : Cond.methodLink RX9 3 Lib.objectInit ∈ lw_g := mg_t (List.mem_of_getElem? (i := 96) (by decide +kernel)) rfl
theorem ml_Un_11 : Cond.methodLinkNest RX9 11 y_La_init "LadderMaker" ∈ lw_tbl := mg_n (List.mem_of_getElem? (i := 98) (by decide +kernel))
theorem ml_Un_20 : Cond.methodLinkNest RX9 20 y_Pa_init "LadderMaker" ∈ lw_tbl := mg_n (List.mem_of_getElem? (i := 100) (by decide +kernel))
theorem ml_Un_30 : Cond.methodLinkNest RX9 30 y_Po_init "LadderMaker" ∈ lw_tbl := mg_n (List.mem_of_getElem? (i := 102) (by decide +kernel))
theorem ml_Un_37 : Cond.methodLinkNest RX9 37 y_Fr_init "LadderMaker" ∈ lw_tbl := mg_n (List.mem_of_getElem? (i := 105) (by decide +kernel))
theorem ml_Fr_3 : Cond.methodLink RX2 3 Lib.objectInit ∈ lw_g := mg_t (List.mem_of_getElem? (i := 108) (by decide +kernel)) rfl
theorem fl_Fr_9 : Cond.fieldLink RX2 9 (TX2 0).1 (TX2 0).2.1 (TX2 0).2.2.1 ∈ lw_g := mg_t (List.mem_of_getElem? (i := 109) (by decide +kernel)) rfl
theorem fl_Un_99 : Cond.fieldLinkNest RX9 99 (TX2 0).1 (TX2 0).2.1 (TX2 0).2.2.1 "LadderMaker" ∈ lw_tbl := mg_n (List.mem_of_getElem? (i := 110) (by decide +kernel))
theorem fl_Lm_145 : Cond.fieldLinkNest RX10 145 (TX2 0).1 (TX2 0).2.1 (TX2 0).2.2.1 "LadderMaker" ∈ lw_tbl := mg_n (List.mem_of_getElem? (i := 111) (by decide +kernel))
theorem fl_Pa_66 : Cond.fieldLinkNest RX5 66 (TX2 0).1 (TX2 0).2.1 (TX2 0).2.2.1 "LadderMaker" ∈ lw_tbl := mg_n (List.mem_of_getElem? (i := 112) (by decide +kernel))
theorem fl_Fr_15 : Cond.fieldLink RX2 15 (TX2 1).1 (TX2 1).2.1 (TX2 1).2.2.1 ∈ lw_g := mg_t (List.mem_of_getElem? (i := 113) (by decide +kernel)) rfl
theorem fl_Lm_151 : Cond.fieldLinkNest RX10 151 (TX2 1).1 (TX2 1).2.1 (TX2 1).2.2.1 "LadderMaker" ∈ lw_tbl := mg_n (List.mem_of_getElem? (i := 114) (by decide +kernel))
theorem fl_Pa_58 : Cond.fieldLinkNest RX5 58 (TX2 1).1 (TX2 1).2.1 (TX2 1).2.2.1 "LadderMaker" ∈ lw_tbl := mg_n (List.mem_of_getElem? (i := 115) (by decide +kernel))
theorem fl_Un_178 : Cond.fieldLinkNest RX9 178 (TX2 1).1 (TX2 1).2.1 (TX2 1).2.2.1 "LadderMaker" ∈ lw_tbl := mg_n (List.mem_of_getElem? (i := 116) (by decide +kernel))
theorem fl_Un_12 : Cond.fieldLink RX9 12 (TX9 0).1 (TX9 0).2.1 (TX9 0).2.2.1 ∈ lw_g := mg_t (List.mem_of_getElem? (i := 122) (by decide +kernel)) rfl
theorem fl_Lm_170 : Cond.fieldLinkNest RX10 170 (TX9 0).1 (TX9 0).2.1 (TX9 0).2.2.1 "LadderMaker" ∈ lw_tbl := mg_n (List.mem_of_getElem? (i := 123) (by decide +kernel))
theorem fl_Un_21 : Cond.fieldLink RX9 21 (TX9 1).1 (TX9 1).2.1 (TX9 1).2.2.1 ∈ lw_g := mg_t (List.mem_of_getElem? (i := 124) (by decide +kernel)) rfl
theorem fl_Un_25 : Cond.fieldLink RX9 25 (TX9 2).1 (TX9 2).2.1 (TX9 2).2.2.1 ∈ lw_g := mg_t (List.mem_of_getElem? (i := 125) (by decide +kernel)) rfl
theorem fl_Un_31 : Cond.fieldLink RX9 31 (TX9 3).1 (TX9 3).2.1 (TX9 3).2.2.1 ∈ lw_g := mg_t (List.mem_of_getElem? (i := 126) (by decide +kernel)) rfl
theorem fl_Un_38 : Cond.fieldLink RX9 38 (TX9 4).1 (TX9 4).2.1 (TX9 4).2.2.1 ∈ lw_g := mg_t (List.mem_of_getElem? (i := 127) (by decide +kernel)) rfl
theorem fl_Un_42 : Cond.fieldLink RX9 42 (TX9 5).1 (TX9 5).2.1 (TX9 5).2.2.1 ∈ lw_g := mg_t (List.mem_of_getElem? (i := 128) (by decide +kernel)) rfl
theorem fl_Un_45 : Cond.fieldLink RX9 45 (TX9 6).1 (TX9 6).2.1 (TX9 6).2.2.1 ∈ lw_g := mg_t (List.mem_of_getElem? (i := 129) (by decide +kernel)) rfl
theorem fl_Un_49 : Cond.fieldLink RX9 49 (TX9 7).1 (TX9 7).2.1 (TX9 7).2.2.1 ∈ lw_g := mg_t (List.mem_of_getElem? (i := 130) (by decide +kernel)) rfl
theorem fl_Un_52 : Cond.fieldLink RX9 52 (TX9 8).1 (TX9 8).2.1 (TX9 8).2.2.1 ∈ lw_g := mg_t (List.mem_of_getElem? (i := 131) (by decide +kernel)) rfl
theorem fl_Un_55 : Cond.fieldLink RX9 55 (TX9 9).1 (TX9 9).2.1 (TX9 9).2.2.1 ∈ lw_g := mg_t (List.mem_of_getElem? (i := 132) (by decide +kernel)) rfl
theorem ml_Lm_39 : Cond.methodLinkNest RX10 39 y_Bi_init "LadderMaker" ∈ lw_tbl := mg_n (List.mem_of_getElem? (i := 156) (by decide +kernel))
theorem ml_Bi_3 : Cond.methodLink RX0 3 Lib.objectInit ∈ lw_g := mg_t (List.mem_of_getElem? (i := 159) (by decide +kernel)) rfl
theorem fl_Bi_11 : Cond.fieldLink RX0 11 (TX0 0).1 (TX0 0).2.1 (TX0 0).2.2.1 ∈ lw_g := mg_t (List.mem_of_getElem? (i := 161) (by decide +kernel)) rfl
theorem fl_Bi_16 : Cond.fieldLink RX0 16 (TX0 1).1 (TX0 1).2.1 (TX0 1).2.2.1 ∈ lw_g := mg_t (List.mem_of_getElem? (i := 162) (by decide +kernel)) rfl
theorem fl_Lm_197 : Cond.fieldLinkNest RX10 197 (TX0 1).1 (TX0 1).2.1 (TX0 1).2.2.1 "LadderMaker" ∈ lw_tbl := mg_n (List.mem_of_getElem? (i := 163) (by decide +kernel))
theorem ml_Lm_46 : Cond.methodLinkNest RX10 46 y_Me_init "LadderMaker" ∈ lw_tbl := mg_n (List.mem_of_getElem? (i := 171) (by decide +kernel))
theorem ml_Me_3 : Cond.methodLink RX4 3 Lib.objectInit ∈ lw_g := mg_t (List.mem_of_getElem? (i := 174) (by decide +kernel)) rfl
theorem ml_Me_18 : Cond.methodLinkNest RX4 18 y_Pa_init "LadderMaker" ∈ lw_tbl := mg_n (List.mem_of_getElem? (i := 177) (by decide +kernel))
theorem fl_Me_11 : Cond.fieldLink RX4 11 (TX4 0).1 (TX4 0).2.1 (TX4 0).2.2.1 ∈ lw_g := mg_t (List.mem_of_getElem? (i := 178) (by decide +kernel)) rfl
theorem fl_Me_19 : Cond.fieldLink RX4 19 (TX4 1).1 (TX4 1).2.1 (TX4 1).2.2.1 ∈ lw_g := mg_t (List.mem_of_getElem? (i := 179) (by decide +kernel)) rfl
theorem fl_Me_23 : Cond.fieldLink RX4 23 (TX4 2).1 (TX4 2).2.1 (TX4 2).2.2.1 ∈ lw_g := mg_t (List.mem_of_getElem? (i := 180) (by decide +kernel)) rfl
theorem fl_Lm_249 : Cond.fieldLinkNest RX10 249 (TX4 2).1 (TX4 2).2.1 (TX4 2).2.2.1 "LadderMaker" ∈ lw_tbl := mg_n (List.mem_of_getElem? (i := 181) (by decide +kernel))
theorem ml_Lm_53 : Cond.methodLink RX10 53 y_Sh_init ∈ lw_g := mg_t (List.mem_of_getElem? (i := 191) (by decide +kernel)) rfl
theorem ml_Sh_3 : Cond.methodLink RX8 3 Lib.objectInit ∈ lw_g := mg_t (List.mem_of_getElem? (i := 194) (by decide +kernel)) rfl
theorem fl_Sh_11 : Cond.fieldLink RX8 11 (TX8 0).1 (TX8 0).2.1 (TX8 0).2.2.1 ∈ lw_g := mg_t (List.mem_of_getElem? (i := 197) (by decide +kernel)) rfl
theorem fl_Sh_16 : Cond.fieldLink RX8 16 (TX8 1).1 (TX8 1).2.1 (TX8 1).2.2.1 ∈ lw_g := mg_t (List.mem_of_getElem? (i := 198) (by decide +kernel)) rfl
theorem ml_Lm_60 : Cond.methodLinkNest RX10 60 y_Re_init "LadderMaker" ∈ lw_tbl := mg_n (List.mem_of_getElem? (i := 206) (by decide +kernel))
theorem ml_Re_1 : Cond.methodLink RX7 1 Lib.objectInit ∈ lw_g := mg_t (List.mem_of_getElem? (i := 209) (by decide +kernel)) rfl
theorem ml_Re_9 : Cond.methodLinkNest RX7 9 y_Po_init "LadderMaker" ∈ lw_tbl := mg_n (List.mem_of_getElem? (i := 211) (by decide +kernel))
theorem ml_Re_18 : Cond.methodLinkNest RX7 18 y_Fr_init "LadderMaker" ∈ lw_tbl := mg_n (List.mem_of_getElem? (i := 213) (by decide +kernel))
theorem fl_Re_10 : Cond.fieldLink RX7 10 (TX7 0).1 (TX7 0).2.1 (TX7 0).2.2.1 ∈ lw_g := mg_t (List.mem_of_getElem? (i := 214) (by decide +kernel)) rfl
theorem fl_Re_19 : Cond.fieldLink RX7 19 (TX7 1).1 (TX7 1).2.1 (TX7 1).2.2.1 ∈ lw_g := mg_t (List.mem_of_getElem? (i := 215) (by decide +kernel)) rfl
theorem fl_Lm_141 : Cond.fieldLinkNest RX10 141 (TX7 1).1 (TX7 1).2.1 (TX7 1).2.2.1 "LadderMaker" ∈ lw_tbl := mg_n (List.mem_of_getElem? (i := 216) (by decide +kernel))
theorem fl_Lm_12 : Cond.fieldLink RX10 12 (TX10 0).1 (TX10 0).2.1 (TX10 0).2.2.1 ∈ lw_g := mg_t (List.mem_of_getElem? (i := 222) (by decide +kernel)) rfl
theorem fl_Lm_19 : Cond.fieldLink RX10 19 (TX10 1).1 (TX10 1).2.1 (TX10 1).2.2.1 ∈ lw_g := mg_t (List.mem_of_getElem? (i := 223) (by decide +kernel)) rfl
theorem fl_Lm_26 : Cond.fieldLink RX10 26 (TX10 2).1 (TX10 2).2.1 (TX10 2).2.2.1 ∈ lw_g := mg_t (List.mem_of_getElem? (i := 224) (by decide +kernel)) rfl
theorem fl_Lm_33 : Cond.fieldLink RX10 33 (TX10 3).1 (TX10 3).2.1 (TX10 3).2.2.1 ∈ lw_g := mg_t (List.mem_of_getElem? (i := 225) (by decide +kernel)) rfl
theorem fl_Lm_40 : Cond.fieldLink RX10 40 (TX10 4).1 (TX10 4).2.1 (TX10 4).2.2.1 ∈ lw_g := mg_t (List.mem_of_getElem? (i := 226) (by decide +kernel)) rfl
theorem fl_Lm_47 : Cond.fieldLink RX10 47 (TX10 5).1 (TX10 5).2.1 (TX10 5).2.2.1 ∈ lw_g := mg_t (List.mem_of_getElem? (i := 227) (by decide +kernel)) rfl
theorem fl_Lm_54 : Cond.fieldLink RX10 54 (TX10 6).1 (TX10 6).2.1 (TX10 6).2.2.1 ∈ lw_g := mg_t (List.mem_of_getElem? (i := 228) (by decide +kernel)) rfl
theorem fl_Lm_61 : Cond.fieldLink RX10 61 (TX10 7).1 (TX10 7).2.1 (TX10 7).2.2.1 ∈ lw_g := mg_t (List.mem_of_getElem? (i := 229) (by decide +kernel)) rfl
theorem fl_Lm_65 : Cond.fieldLink RX10 65 (TX10 8).1 (TX10 8).2.1 (TX10 8).2.2.1 ∈ lw_g := mg_t (List.mem_of_getElem? (i := 230) (by decide +kernel)) rfl
theorem ml_Lw_13 : Cond.methodLink "LadderMakerLaw" 13 y_Lm_tell ∈ lw_g := mg_t (List.mem_of_getElem? (i := 250) (by decide +kernel)) rfl
theorem ml_Lm_69 : Cond.methodLink RX10 69 y_Lm_isPlace ∈ lw_g := mg_t (List.mem_of_getElem? (i := 254) (by decide +kernel)) rfl
theorem ml_Lm_73 : Cond.methodLink RX10 73 y_Lm_isPower ∈ lw_g := mg_t (List.mem_of_getElem? (i := 257) (by decide +kernel)) rfl
theorem ml_Lm_76 : Cond.methodLink RX10 76 y_Lm_isWishNumber ∈ lw_g := mg_t (List.mem_of_getElem? (i := 260) (by decide +kernel)) rfl
theorem kc_Lm_308 : Cond.constantLong RX10 308 (-9 : Int64) ∈ lw_g := mg_t (List.mem_of_getElem? (i := 263) (by decide +kernel)) rfl
theorem kc_Lm_310 : Cond.constantLong RX10 310 (9 : Int64) ∈ lw_g := mg_t (List.mem_of_getElem? (i := 264) (by decide +kernel)) rfl
theorem kc_Lm_80 : Cond.constant RX10 80 (-2147483648 : Int32) ∈ lw_g := mg_t (List.mem_of_getElem? (i := 265) (by decide +kernel)) rfl
theorem ml_Lm_81 : Cond.methodLink RX10 81 y_Pa_side ∈ lw_g := mg_t (List.mem_of_getElem? (i := 266) (by decide +kernel)) rfl
theorem ml_Lm_85 : Cond.methodLink RX10 85 y_Po_at ∈ lw_g := mg_t (List.mem_of_getElem? (i := 270) (by decide +kernel)) rfl
theorem ml_Lm_91 : Cond.methodLink RX10 91 y_Po_put ∈ lw_g := mg_t (List.mem_of_getElem? (i := 274) (by decide +kernel)) rfl
theorem ml_Lw_18 : Cond.methodLink "LadderMakerLaw" 18 y_Lm_told ∈ lw_g := mg_t (List.mem_of_getElem? (i := 278) (by decide +kernel)) rfl
theorem ml_Lw_23 : Cond.methodLink "LadderMakerLaw" 23 y_Lm_turn ∈ lw_g := mg_t (List.mem_of_getElem? (i := 282) (by decide +kernel)) rfl
theorem ml_Lm_95 : Cond.methodLink RX10 95 y_Pa_swap ∈ lw_g := mg_t (List.mem_of_getElem? (i := 286) (by decide +kernel)) rfl
theorem ml_Lm_98 : Cond.methodLink RX10 98 y_Pa_isLawful ∈ lw_g := mg_t (List.mem_of_getElem? (i := 290) (by decide +kernel)) rfl
theorem ml_Pa_33 : Cond.methodLink RX5 33 y_Po_isOfParity ∈ lw_g := mg_t (List.mem_of_getElem? (i := 294) (by decide +kernel)) rfl
theorem ml_Lw_28 : Cond.methodLink "LadderMakerLaw" 28 y_Lm_reverse ∈ lw_g := mg_t (List.mem_of_getElem? (i := 298) (by decide +kernel)) rfl
theorem ml_Lm_102 : Cond.methodLink RX10 102 y_Pa_greaterDegree ∈ lw_g := mg_t (List.mem_of_getElem? (i := 302) (by decide +kernel)) rfl
theorem ml_Pa_37 : Cond.methodLink RX5 37 y_Po_degree ∈ lw_g := mg_t (List.mem_of_getElem? (i := 306) (by decide +kernel)) rfl
theorem ml_Pa_41 : Cond.methodLink RX5 41 Lib.Math.max.name ∈ lw_g := mg_t (List.mem_of_getElem? (i := 310) (by decide +kernel)) rfl
theorem ml_Lm_106 : Cond.methodLink RX10 106 y_Po_runBackwards ∈ lw_g := mg_t (List.mem_of_getElem? (i := 313) (by decide +kernel)) rfl
theorem ml_Po_15 : Cond.methodLink RX6 15 y_Po_at ∈ lw_g := mg_t (List.mem_of_getElem? (i := 317) (by decide +kernel)) rfl
theorem ml_Po_19 : Cond.methodLink RX6 19 y_Po_put ∈ lw_g := mg_t (List.mem_of_getElem? (i := 318) (by decide +kernel)) rfl
theorem ml_Lw_32 : Cond.methodLink "LadderMakerLaw" 32 y_Lm_read ∈ lw_g := mg_t (List.mem_of_getElem? (i := 319) (by decide +kernel)) rfl
theorem ml_Lm_110 : Cond.methodLink RX10 110 y_Lm_sheetRefusal ∈ lw_g := mg_t (List.mem_of_getElem? (i := 323) (by decide +kernel)) rfl
theorem ml_Lm_215 : Cond.methodLink RX10 215 y_Sh_isSheet ∈ lw_g := mg_t (List.mem_of_getElem? (i := 327) (by decide +kernel)) rfl
theorem ml_Lm_234 : Cond.methodLink RX10 234 y_Sh_isLost ∈ lw_g := mg_t (List.mem_of_getElem? (i := 331) (by decide +kernel)) rfl
theorem ml_Sh_24 : Cond.methodLink RX8 24 y_Sh_size ∈ lw_g := mg_t (List.mem_of_getElem? (i := 335) (by decide +kernel)) rfl
theorem ml_Sh_20 : Cond.methodLink RX8 20 y_Sh_isSheet ∈ lw_g := mg_t (List.mem_of_getElem? (i := 339) (by decide +kernel)) rfl
theorem ml_Lm_118 : Cond.methodLink RX10 118 y_Lm_finding ∈ lw_g := mg_t (List.mem_of_getElem? (i := 340) (by decide +kernel)) rfl
theorem ml_Lm_114 : Cond.methodLink RX10 114 y_Sh_hasRun ∈ lw_g := mg_t (List.mem_of_getElem? (i := 344) (by decide +kernel)) rfl
theorem ml_Lm_121 : Cond.methodLink RX10 121 y_Sh_item ∈ lw_g := mg_t (List.mem_of_getElem? (i := 348) (by decide +kernel)) rfl
theorem ml_Sh_31 : Cond.methodLink RX8 31 y_Sh_hasRun ∈ lw_g := mg_t (List.mem_of_getElem? (i := 352) (by decide +kernel)) rfl
theorem ml_Lm_125 : Cond.methodLink RX10 125 y_Pa_putNumber ∈ lw_g := mg_t (List.mem_of_getElem? (i := 353) (by decide +kernel)) rfl
theorem ml_Pa_25 : Cond.methodLink RX5 25 y_Po_put ∈ lw_g := mg_t (List.mem_of_getElem? (i := 357) (by decide +kernel)) rfl
theorem ml_Lw_36 : Cond.methodLink "LadderMakerLaw" 36 y_Lm_info ∈ lw_g := mg_t (List.mem_of_getElem? (i := 358) (by decide +kernel)) rfl
theorem ml_Lm_128 : Cond.methodLink RX10 128 y_Po_degree ∈ lw_g := mg_t (List.mem_of_getElem? (i := 362) (by decide +kernel)) rfl
theorem ml_Lm_131 : Cond.methodLink RX10 131 y_Po_leastPower ∈ lw_g := mg_t (List.mem_of_getElem? (i := 363) (by decide +kernel)) rfl
theorem ml_Lw_41 : Cond.methodLink "LadderMakerLaw" 41 y_Lm_reactance ∈ lw_g := mg_t (List.mem_of_getElem? (i := 367) (by decide +kernel)) rfl
theorem ml_Lm_134 : Cond.methodLink RX10 134 y_Lm_asLong ∈ lw_g := mg_t (List.mem_of_getElem? (i := 371) (by decide +kernel)) rfl
theorem kc_Lm_306 : Cond.constantLong RX10 306 (-9223372036854775808 : Int64) ∈ lw_g := mg_t (List.mem_of_getElem? (i := 374) (by decide +kernel)) rfl
theorem ml_Lm_137 : Cond.methodLink RX10 137 y_Re_workOut ∈ lw_g := mg_t (List.mem_of_getElem? (i := 375) (by decide +kernel)) rfl
theorem ml_Re_28 : Cond.methodLink RX7 28 y_Po_isOfParity ∈ lw_g := mg_t (List.mem_of_getElem? (i := 379) (by decide +kernel)) rfl
theorem ml_Re_35 : Cond.methodLink RX7 35 y_Re_halfValue ∈ lw_g := mg_t (List.mem_of_getElem? (i := 380) (by decide +kernel)) rfl
theorem ml_Re_43 : Cond.methodLink RX7 43 y_Po_loadEveryOther ∈ lw_g := mg_t (List.mem_of_getElem? (i := 384) (by decide +kernel)) rfl
theorem ml_Re_47 : Cond.methodLink RX7 47 y_Po_valueAtMinus ∈ lw_g := mg_t (List.mem_of_getElem? (i := 388) (by decide +kernel)) rfl
theorem ml_Re_39 : Cond.methodLink RX7 39 y_Fr_put ∈ lw_g := mg_t (List.mem_of_getElem? (i := 392) (by decide +kernel)) rfl
theorem ml_Fr_18 : Cond.methodLinkNest RX2 18 y_Lm_commonDivisor "LadderMaker" ∈ lw_tbl := mg_n (List.mem_of_getElem? (i := 396) (by decide +kernel))
theorem ml_Lm_312 : Cond.methodLink RX10 312 Lib.MathLoose.abs_long.x ∈ lw_g := mg_t (List.mem_of_getElem? (i := 399) (by decide +kernel)) rfl
theorem ml_Fr_22 : Cond.methodLink RX2 22 Lib.MathLoose.abs_long.x ∈ lw_g := mg_t (List.mem_of_getElem? (i := 402) (by decide +kernel)) rfl
theorem ml_Lw_46 : Cond.methodLink "LadderMakerLaw" 46 y_Lm_arm ∈ lw_g := mg_t (List.mem_of_getElem? (i := 403) (by decide +kernel)) rfl
theorem ml_Lm_154 : Cond.methodLink RX10 154 y_La_add ∈ lw_g := mg_t (List.mem_of_getElem? (i := 407) (by decide +kernel)) rfl
theorem ml_La_20 : Cond.methodLink RX3 20 y_La_valueCount ∈ lw_g := mg_t (List.mem_of_getElem? (i := 411) (by decide +kernel)) rfl
theorem ml_Lm_158 : Cond.methodLink RX10 158 y_Lm_ladderChanged ∈ lw_g := mg_t (List.mem_of_getElem? (i := 415) (by decide +kernel)) rfl
theorem ml_Lm_300 : Cond.methodLink RX10 300 y_Fo_foldUp ∈ lw_g := mg_t (List.mem_of_getElem? (i := 419) (by decide +kernel)) rfl
theorem ml_Fo_30 : Cond.methodLink RX1 30 y_La_item ∈ lw_g := mg_t (List.mem_of_getElem? (i := 423) (by decide +kernel)) rfl
theorem ml_Fo_38 : Cond.methodLink RX1 38 y_Po_clear ∈ lw_g := mg_t (List.mem_of_getElem? (i := 427) (by decide +kernel)) rfl
theorem ml_Fo_46 : Cond.methodLink RX1 46 y_Pa_side ∈ lw_g := mg_t (List.mem_of_getElem? (i := 431) (by decide +kernel)) rfl
theorem ml_Fo_50 : Cond.methodLink RX1 50 y_Po_put ∈ lw_g := mg_t (List.mem_of_getElem? (i := 432) (by decide +kernel)) rfl
theorem ml_Fo_54 : Cond.methodLink RX1 54 y_Fo_loadArm ∈ lw_g := mg_t (List.mem_of_getElem? (i := 433) (by decide +kernel)) rfl
theorem ml_Fo_58 : Cond.methodLink RX1 58 y_Pa_swap ∈ lw_g := mg_t (List.mem_of_getElem? (i := 437) (by decide +kernel)) rfl
theorem ml_Fo_61 : Cond.methodLink RX1 61 y_Fo_addArm ∈ lw_g := mg_t (List.mem_of_getElem? (i := 438) (by decide +kernel)) rfl
theorem ml_Fo_67 : Cond.methodLink RX1 67 y_Po_addProduct ∈ lw_g := mg_t (List.mem_of_getElem? (i := 442) (by decide +kernel)) rfl
theorem ml_Fo_71 : Cond.methodLink RX1 71 y_Pa_load ∈ lw_g := mg_t (List.mem_of_getElem? (i := 446) (by decide +kernel)) rfl
theorem ml_Pa_29 : Cond.methodLink RX5 29 y_Po_load ∈ lw_g := mg_t (List.mem_of_getElem? (i := 450) (by decide +kernel)) rfl
theorem ml_Fo_64 : Cond.methodLink RX1 64 y_Pa_becomeAsPair ∈ lw_g := mg_t (List.mem_of_getElem? (i := 454) (by decide +kernel)) rfl
theorem ml_Pa_47 : Cond.methodLink RX5 47 y_Pa_number ∈ lw_g := mg_t (List.mem_of_getElem? (i := 458) (by decide +kernel)) rfl
theorem ml_Pa_21 : Cond.methodLink RX5 21 y_Po_at ∈ lw_g := mg_t (List.mem_of_getElem? (i := 462) (by decide +kernel)) rfl
theorem ml_Pa_50 : Cond.methodLinkNest RX5 50 y_Lm_commonDivisor "LadderMaker" ∈ lw_tbl := mg_n (List.mem_of_getElem? (i := 463) (by decide +kernel))
theorem ml_Pa_54 : Cond.methodLink RX5 54 y_Po_divideBy ∈ lw_g := mg_t (List.mem_of_getElem? (i := 464) (by decide +kernel)) rfl
theorem ml_Lm_303 : Cond.methodLink RX10 303 y_Bi_countUp ∈ lw_g := mg_t (List.mem_of_getElem? (i := 468) (by decide +kernel)) rfl
theorem ml_Bi_25 : Cond.methodLink RX0 25 y_La_item ∈ lw_g := mg_t (List.mem_of_getElem? (i := 472) (by decide +kernel)) rfl
theorem ml_Bi_29 : Cond.methodLink RX0 29 y_Bi_addPart ∈ lw_g := mg_t (List.mem_of_getElem? (i := 473) (by decide +kernel)) rfl
theorem ml_Lw_50 : Cond.methodLink "LadderMakerLaw" 50 y_Lm_back ∈ lw_g := mg_t (List.mem_of_getElem? (i := 477) (by decide +kernel)) rfl
theorem ml_Lm_164 : Cond.methodLink RX10 164 y_La_dropLast ∈ lw_g := mg_t (List.mem_of_getElem? (i := 481) (by decide +kernel)) rfl
theorem ml_Lw_54 : Cond.methodLink "LadderMakerLaw" 54 y_Lm_unfold ∈ lw_g := mg_t (List.mem_of_getElem? (i := 485) (by decide +kernel)) rfl
theorem ml_Lm_167 : Cond.methodLink RX10 167 y_Lm_would ∈ lw_g := mg_t (List.mem_of_getElem? (i := 489) (by decide +kernel)) rfl
theorem ml_Lm_177 : Cond.methodLink RX10 177 y_Un_tryWay ∈ lw_g := mg_t (List.mem_of_getElem? (i := 493) (by decide +kernel)) rfl
theorem ml_Un_59 : Cond.methodLink RX9 59 y_La_clear ∈ lw_g := mg_t (List.mem_of_getElem? (i := 497) (by decide +kernel)) rfl
theorem ml_Un_62 : Cond.methodLink RX9 62 y_Pa_load ∈ lw_g := mg_t (List.mem_of_getElem? (i := 501) (by decide +kernel)) rfl
theorem ml_Un_66 : Cond.methodLink RX9 66 y_Un_divideOn ∈ lw_g := mg_t (List.mem_of_getElem? (i := 502) (by decide +kernel)) rfl
theorem ml_Un_80 : Cond.methodLink RX9 80 y_Un_endOf ∈ lw_g := mg_t (List.mem_of_getElem? (i := 506) (by decide +kernel)) rfl
theorem ml_Un_87 : Cond.methodLink RX9 87 y_Po_degree ∈ lw_g := mg_t (List.mem_of_getElem? (i := 509) (by decide +kernel)) rfl
theorem ml_Un_126 : Cond.methodLink RX9 126 y_Po_leastPower ∈ lw_g := mg_t (List.mem_of_getElem? (i := 510) (by decide +kernel)) rfl
theorem ml_Un_70 : Cond.methodLink RX9 70 y_Pa_swap ∈ lw_g := mg_t (List.mem_of_getElem? (i := 511) (by decide +kernel)) rfl
theorem ml_Un_91 : Cond.methodLink RX9 91 y_Po_at ∈ lw_g := mg_t (List.mem_of_getElem? (i := 512) (by decide +kernel)) rfl
theorem ml_Un_95 : Cond.methodLink RX9 95 y_Fr_put ∈ lw_g := mg_t (List.mem_of_getElem? (i := 513) (by decide +kernel)) rfl
theorem ml_Un_102 : Cond.methodLink RX9 102 y_Un_unlawful ∈ lw_g := mg_t (List.mem_of_getElem? (i := 514) (by decide +kernel)) rfl
theorem ml_Un_105 : Cond.methodLink RX9 105 y_Fr_isHandy ∈ lw_g := mg_t (List.mem_of_getElem? (i := 517) (by decide +kernel)) rfl
theorem kc_Fr_28 : Cond.constantLong RX2 28 (99 : Int64) ∈ lw_g := mg_t (List.mem_of_getElem? (i := 521) (by decide +kernel)) rfl
theorem ml_Un_109 : Cond.methodLink RX9 109 y_Un_addRising ∈ lw_g := mg_t (List.mem_of_getElem? (i := 522) (by decide +kernel)) rfl
theorem ml_Un_183 : Cond.methodLink RX9 183 y_La_add ∈ lw_g := mg_t (List.mem_of_getElem? (i := 526) (by decide +kernel)) rfl
theorem ml_Un_113 : Cond.methodLink RX9 113 y_Un_addFalling ∈ lw_g := mg_t (List.mem_of_getElem? (i := 527) (by decide +kernel)) rfl
theorem ml_Un_116 : Cond.methodLink RX9 116 y_Pa_goOn ∈ lw_g := mg_t (List.mem_of_getElem? (i := 531) (by decide +kernel)) rfl
theorem ml_Pa_63 : Cond.methodLink RX5 63 y_Po_multiplyBy ∈ lw_g := mg_t (List.mem_of_getElem? (i := 535) (by decide +kernel)) rfl
theorem ml_Pa_68 : Cond.methodLink RX5 68 y_Pa_swap ∈ lw_g := mg_t (List.mem_of_getElem? (i := 539) (by decide +kernel)) rfl
theorem ml_Un_120 : Cond.methodLink RX9 120 y_Pa_becomeAsPair ∈ lw_g := mg_t (List.mem_of_getElem? (i := 540) (by decide +kernel)) rfl
theorem ml_Un_123 : Cond.methodLink RX9 123 y_La_valueCount ∈ lw_g := mg_t (List.mem_of_getElem? (i := 541) (by decide +kernel)) rfl
theorem ml_Un_73 : Cond.methodLink RX9 73 y_Un_divideByPoles ∈ lw_g := mg_t (List.mem_of_getElem? (i := 542) (by decide +kernel)) rfl
theorem ml_Un_129 : Cond.methodLink RX9 129 y_Un_loadInX ∈ lw_g := mg_t (List.mem_of_getElem? (i := 546) (by decide +kernel)) rfl
theorem ml_Un_145 : Cond.methodLink RX9 145 y_Po_isOfParity ∈ lw_g := mg_t (List.mem_of_getElem? (i := 550) (by decide +kernel)) rfl
theorem ml_Un_149 : Cond.methodLink RX9 149 y_Po_loadEveryOther ∈ lw_g := mg_t (List.mem_of_getElem? (i := 551) (by decide +kernel)) rfl
theorem ml_Un_153 : Cond.methodLink RX9 153 Lib.Math.min.name ∈ lw_g := mg_t (List.mem_of_getElem? (i := 552) (by decide +kernel)) rfl
theorem ml_Un_132 : Cond.methodLink RX9 132 y_Un_findRoots ∈ lw_g := mg_t (List.mem_of_getElem? (i := 555) (by decide +kernel)) rfl
theorem ml_Un_158 : Cond.methodLink RX9 158 y_Po_load ∈ lw_g := mg_t (List.mem_of_getElem? (i := 559) (by decide +kernel)) rfl
theorem ml_Un_161 : Cond.methodLink RX9 161 y_Po_valueAtMinus ∈ lw_g := mg_t (List.mem_of_getElem? (i := 560) (by decide +kernel)) rfl
theorem ml_Un_165 : Cond.methodLinkNest RX9 165 y_Lm_commonDivisor "LadderMaker" ∈ lw_tbl := mg_n (List.mem_of_getElem? (i := 561) (by decide +kernel))
theorem ml_Un_168 : Cond.methodLink RX9 168 y_Un_timesInRest ∈ lw_g := mg_t (List.mem_of_getElem? (i := 562) (by decide +kernel)) rfl
theorem ml_Un_175 : Cond.methodLink RX9 175 y_Po_divideByRoot ∈ lw_g := mg_t (List.mem_of_getElem? (i := 566) (by decide +kernel)) rfl
theorem ml_Un_171 : Cond.methodLink RX9 171 y_Un_addRoot ∈ lw_g := mg_t (List.mem_of_getElem? (i := 570) (by decide +kernel)) rfl
theorem ml_Un_135 : Cond.methodLink RX9 135 y_Un_poleAtGreatest ∈ lw_g := mg_t (List.mem_of_getElem? (i := 574) (by decide +kernel)) rfl
theorem ml_Un_138 : Cond.methodLink RX9 138 y_Un_poleAtZero ∈ lw_g := mg_t (List.mem_of_getElem? (i := 578) (by decide +kernel)) rfl
theorem ml_Un_141 : Cond.methodLink RX9 141 y_Un_poleAtRoot ∈ lw_g := mg_t (List.mem_of_getElem? (i := 582) (by decide +kernel)) rfl
theorem ml_Un_180 : Cond.methodLink RX9 180 y_Un_addBoth ∈ lw_g := mg_t (List.mem_of_getElem? (i := 586) (by decide +kernel)) rfl
theorem ml_Lm_173 : Cond.methodLink RX10 173 y_La_load ∈ lw_g := mg_t (List.mem_of_getElem? (i := 590) (by decide +kernel)) rfl
theorem ml_La_24 : Cond.methodLink RX3 24 y_La_item ∈ lw_g := mg_t (List.mem_of_getElem? (i := 594) (by decide +kernel)) rfl
theorem ml_Lw_58 : Cond.methodLink "LadderMakerLaw" 58 y_Lm_would ∈ lw_g := mg_t (List.mem_of_getElem? (i := 595) (by decide +kernel)) rfl
theorem ml_Lw_62 : Cond.methodLink "LadderMakerLaw" 62 y_Lm_element ∈ lw_g := mg_t (List.mem_of_getElem? (i := 596) (by decide +kernel)) rfl
theorem ml_Lm_181 : Cond.methodLink RX10 181 y_La_item ∈ lw_g := mg_t (List.mem_of_getElem? (i := 600) (by decide +kernel)) rfl
theorem ml_Lw_66 : Cond.methodLink "LadderMakerLaw" 66 y_Lm_fold ∈ lw_g := mg_t (List.mem_of_getElem? (i := 601) (by decide +kernel)) rfl
theorem ml_Lw_71 : Cond.methodLink "LadderMakerLaw" 71 y_Lm_alike ∈ lw_g := mg_t (List.mem_of_getElem? (i := 605) (by decide +kernel)) rfl
theorem ml_Lm_187 : Cond.methodLink RX10 187 y_Pa_isFractionOf ∈ lw_g := mg_t (List.mem_of_getElem? (i := 609) (by decide +kernel)) rfl
theorem ml_Lw_75 : Cond.methodLink "LadderMakerLaw" 75 y_Lm_take ∈ lw_g := mg_t (List.mem_of_getElem? (i := 613) (by decide +kernel)) rfl
theorem ml_Lm_191 : Cond.methodLink RX10 191 y_Pa_number ∈ lw_g := mg_t (List.mem_of_getElem? (i := 617) (by decide +kernel)) rfl
theorem ml_Lm_194 : Cond.methodLink RX10 194 y_Pa_load ∈ lw_g := mg_t (List.mem_of_getElem? (i := 618) (by decide +kernel)) rfl
theorem ml_Lw_79 : Cond.methodLink "LadderMakerLaw" 79 y_Lm_bill ∈ lw_g := mg_t (List.mem_of_getElem? (i := 619) (by decide +kernel)) rfl
theorem ml_Lm_200 : Cond.methodLink RX10 200 y_Bi_item ∈ lw_g := mg_t (List.mem_of_getElem? (i := 623) (by decide +kernel)) rfl
theorem ml_Lw_83 : Cond.methodLink "LadderMakerLaw" 83 y_Lm_values ∈ lw_g := mg_t (List.mem_of_getElem? (i := 627) (by decide +kernel)) rfl
theorem ml_Lm_201 : Cond.methodLink RX10 201 y_Bi_differentValues ∈ lw_g := mg_t (List.mem_of_getElem? (i := 631) (by decide +kernel)) rfl
theorem ml_Bi_33 : Cond.methodLink RX0 33 y_Bi_item ∈ lw_g := mg_t (List.mem_of_getElem? (i := 635) (by decide +kernel)) rfl
theorem ml_Lw_87 : Cond.methodLink "LadderMakerLaw" 87 y_Lm_keep ∈ lw_g := mg_t (List.mem_of_getElem? (i := 636) (by decide +kernel)) rfl
theorem ml_Lm_204 : Cond.methodLink RX10 204 y_Me_keepOnce ∈ lw_g := mg_t (List.mem_of_getElem? (i := 640) (by decide +kernel)) rfl
theorem ml_Me_49 : Cond.methodLink RX4 49 y_Me_numberOf ∈ lw_g := mg_t (List.mem_of_getElem? (i := 644) (by decide +kernel)) rfl
theorem ml_Me_31 : Cond.methodLink RX4 31 y_Pa_load ∈ lw_g := mg_t (List.mem_of_getElem? (i := 648) (by decide +kernel)) rfl
theorem ml_Me_35 : Cond.methodLink RX4 35 y_Pa_becomeAsPair ∈ lw_g := mg_t (List.mem_of_getElem? (i := 649) (by decide +kernel)) rfl
theorem ml_Me_38 : Cond.methodLink RX4 38 y_Me_isSought ∈ lw_g := mg_t (List.mem_of_getElem? (i := 650) (by decide +kernel)) rfl
theorem ml_Me_41 : Cond.methodLink RX4 41 y_Me_item ∈ lw_g := mg_t (List.mem_of_getElem? (i := 654) (by decide +kernel)) rfl
theorem ml_Me_27 : Cond.methodLink RX4 27 y_Me_holds ∈ lw_g := mg_t (List.mem_of_getElem? (i := 658) (by decide +kernel)) rfl
theorem ml_Me_45 : Cond.methodLink RX4 45 y_Pa_number ∈ lw_g := mg_t (List.mem_of_getElem? (i := 662) (by decide +kernel)) rfl
theorem ml_Lw_91 : Cond.methodLink "LadderMakerLaw" 91 y_Lm_find ∈ lw_g := mg_t (List.mem_of_getElem? (i := 663) (by decide +kernel)) rfl
theorem ml_Lm_208 : Cond.methodLink RX10 208 y_Me_numberOf ∈ lw_g := mg_t (List.mem_of_getElem? (i := 667) (by decide +kernel)) rfl
theorem ml_Lw_95 : Cond.methodLink "LadderMakerLaw" 95 y_Lm_kept ∈ lw_g := mg_t (List.mem_of_getElem? (i := 668) (by decide +kernel)) rfl
theorem ml_Lm_211 : Cond.methodLink RX10 211 y_Me_holds ∈ lw_g := mg_t (List.mem_of_getElem? (i := 672) (by decide +kernel)) rfl
theorem ml_Lm_214 : Cond.methodLink RX10 214 y_Me_item ∈ lw_g := mg_t (List.mem_of_getElem? (i := 673) (by decide +kernel)) rfl
theorem ml_Lw_99 : Cond.methodLink "LadderMakerLaw" 99 y_Lm_recall ∈ lw_g := mg_t (List.mem_of_getElem? (i := 674) (by decide +kernel)) rfl
theorem ml_Lw_103 : Cond.methodLink "LadderMakerLaw" 103 y_Lm_sheet ∈ lw_g := mg_t (List.mem_of_getElem? (i := 678) (by decide +kernel)) rfl
theorem ml_Lm_218 : Cond.methodLink RX10 218 y_Sh_renew ∈ lw_g := mg_t (List.mem_of_getElem? (i := 682) (by decide +kernel)) rfl
theorem ml_Lw_107 : Cond.methodLink "LadderMakerLaw" 107 y_Lm_lose ∈ lw_g := mg_t (List.mem_of_getElem? (i := 686) (by decide +kernel)) rfl
theorem ml_Lm_222 : Cond.methodLink RX10 222 y_Sh_size ∈ lw_g := mg_t (List.mem_of_getElem? (i := 690) (by decide +kernel)) rfl
theorem ml_Lm_225 : Cond.methodLink RX10 225 y_Sh_forget ∈ lw_g := mg_t (List.mem_of_getElem? (i := 691) (by decide +kernel)) rfl
theorem ml_Lw_111 : Cond.methodLink "LadderMakerLaw" 111 y_Lm_lay ∈ lw_g := mg_t (List.mem_of_getElem? (i := 695) (by decide +kernel)) rfl
theorem ml_Lm_228 : Cond.methodLink RX10 228 y_Lm_itemRefusal ∈ lw_g := mg_t (List.mem_of_getElem? (i := 699) (by decide +kernel)) rfl
theorem ml_Lm_231 : Cond.methodLink RX10 231 y_Sh_put ∈ lw_g := mg_t (List.mem_of_getElem? (i := 703) (by decide +kernel)) rfl
theorem ml_Lw_115 : Cond.methodLink "LadderMakerLaw" 115 y_Lm_get ∈ lw_g := mg_t (List.mem_of_getElem? (i := 707) (by decide +kernel)) rfl
theorem ml_Lw_119 : Cond.methodLink "LadderMakerLaw" 119 y_Lm_copy ∈ lw_g := mg_t (List.mem_of_getElem? (i := 711) (by decide +kernel)) rfl
theorem ml_Lm_237 : Cond.methodLink RX10 237 y_Sh_move ∈ lw_g := mg_t (List.mem_of_getElem? (i := 715) (by decide +kernel)) rfl
theorem ml_Sh_35 : Cond.methodLink RX8 35 arraycopyName ∈ lw_g := mg_t (List.mem_of_getElem? (i := 719) (by decide +kernel)) rfl
theorem ml_Lw_124 : Cond.methodLink "LadderMakerLaw" 124 y_Lm_write ∈ lw_g := mg_t (List.mem_of_getElem? (i := 722) (by decide +kernel)) rfl
theorem ml_Lm_241 : Cond.methodLink RX10 241 Lib.Math.min.name ∈ lw_g := mg_t (List.mem_of_getElem? (i := 726) (by decide +kernel)) rfl
theorem ml_Lw_128 : Cond.methodLink "LadderMakerLaw" 128 y_Lm_count ∈ lw_g := mg_t (List.mem_of_getElem? (i := 727) (by decide +kernel)) rfl
theorem ml_Lm_246 : Cond.methodLink RX10 246 y_La_valueCount ∈ lw_g := mg_t (List.mem_of_getElem? (i := 731) (by decide +kernel)) rfl
theorem ml_Lm_252 : Cond.methodLink RX10 252 y_Me_timesOfAll ∈ lw_g := mg_t (List.mem_of_getElem? (i := 732) (by decide +kernel)) rfl
theorem ml_Lm_255 : Cond.methodLink RX10 255 y_Lm_alike ∈ lw_g := mg_t (List.mem_of_getElem? (i := 736) (by decide +kernel)) rfl
theorem ml_Lm_258 : Cond.methodLink RX10 258 y_Sh_notLost ∈ lw_g := mg_t (List.mem_of_getElem? (i := 737) (by decide +kernel)) rfl
theorem ml_Sh_28 : Cond.methodLink RX8 28 y_Sh_isLost ∈ lw_g := mg_t (List.mem_of_getElem? (i := 741) (by decide +kernel)) rfl
theorem ml_Lw_132 : Cond.methodLink "LadderMakerLaw" 132 y_Lm_digest ∈ lw_g := mg_t (List.mem_of_getElem? (i := 742) (by decide +kernel)) rfl
theorem kc_Lm_261 : Cond.constantLong RX10 261 (17 : Int64) ∈ lw_g := mg_t (List.mem_of_getElem? (i := 746) (by decide +kernel)) rfl
theorem kc_Lm_263 : Cond.constantLong RX10 263 (31 : Int64) ∈ lw_g := mg_t (List.mem_of_getElem? (i := 747) (by decide +kernel)) rfl
theorem ml_Lm_265 : Cond.methodLink RX10 265 y_Lm_count ∈ lw_g := mg_t (List.mem_of_getElem? (i := 748) (by decide +kernel)) rfl
theorem ml_Lm_268 : Cond.methodLink RX10 268 y_Lm_told ∈ lw_g := mg_t (List.mem_of_getElem? (i := 749) (by decide +kernel)) rfl
theorem ml_Lm_271 : Cond.methodLink RX10 271 y_Lm_fold ∈ lw_g := mg_t (List.mem_of_getElem? (i := 750) (by decide +kernel)) rfl
theorem ml_Lm_274 : Cond.methodLink RX10 274 y_Lm_info ∈ lw_g := mg_t (List.mem_of_getElem? (i := 751) (by decide +kernel)) rfl
theorem ml_Lm_277 : Cond.methodLink RX10 277 y_Lm_reactance ∈ lw_g := mg_t (List.mem_of_getElem? (i := 752) (by decide +kernel)) rfl
theorem ml_Lm_281 : Cond.methodLink RX10 281 y_Lm_digestOfRows ∈ lw_g := mg_t (List.mem_of_getElem? (i := 753) (by decide +kernel)) rfl
theorem ml_Lm_285 : Cond.methodLink RX10 285 y_Lm_element ∈ lw_g := mg_t (List.mem_of_getElem? (i := 757) (by decide +kernel)) rfl
theorem ml_Lm_288 : Cond.methodLink RX10 288 y_Lm_bill ∈ lw_g := mg_t (List.mem_of_getElem? (i := 758) (by decide +kernel)) rfl
theorem ml_Lm_291 : Cond.methodLink RX10 291 y_Lm_values ∈ lw_g := mg_t (List.mem_of_getElem? (i := 759) (by decide +kernel)) rfl
theorem ml_Lm_294 : Cond.methodLink RX10 294 y_Lm_find ∈ lw_g := mg_t (List.mem_of_getElem? (i := 760) (by decide +kernel)) rfl
theorem ml_Lm_297 : Cond.methodLink RX10 297 y_Lm_kept ∈ lw_g := mg_t (List.mem_of_getElem? (i := 761) (by decide +kernel)) rfl
theorem ml_Lw_12 : Cond.methodLink "LadderMakerLaw" 12 y_Mo_init ∈ lw_g := mg_t (List.mem_of_getElem? (i := 764) (by decide +kernel)) rfl
theorem ml_Mo_1 : Cond.methodLink RX11 1 Lib.objectInit ∈ lw_g := mg_t (List.mem_of_getElem? (i := 767) (by decide +kernel)) rfl
theorem fl_Mo_89 : Cond.fieldLink RX11 89 (TX11 0).1 (TX11 0).2.1 (TX11 0).2.2.1 ∈ lw_g := mg_t (List.mem_of_getElem? (i := 768) (by decide +kernel)) rfl
theorem fl_Mo_7 : Cond.fieldLink RX11 7 (TX11 1).1 (TX11 1).2.1 (TX11 1).2.2.1 ∈ lw_g := mg_t (List.mem_of_getElem? (i := 769) (by decide +kernel)) rfl
theorem fl_Mo_13 : Cond.fieldLink RX11 13 (TX11 2).1 (TX11 2).2.1 (TX11 2).2.2.1 ∈ lw_g := mg_t (List.mem_of_getElem? (i := 770) (by decide +kernel)) rfl
theorem fl_Mo_17 : Cond.fieldLink RX11 17 (TX11 3).1 (TX11 3).2.1 (TX11 3).2.2.1 ∈ lw_g := mg_t (List.mem_of_getElem? (i := 771) (by decide +kernel)) rfl
theorem fl_Mo_20 : Cond.fieldLink RX11 20 (TX11 4).1 (TX11 4).2.1 (TX11 4).2.2.1 ∈ lw_g := mg_t (List.mem_of_getElem? (i := 772) (by decide +kernel)) rfl
theorem fl_Mo_23 : Cond.fieldLink RX11 23 (TX11 5).1 (TX11 5).2.1 (TX11 5).2.2.1 ∈ lw_g := mg_t (List.mem_of_getElem? (i := 773) (by decide +kernel)) rfl
theorem fl_Mo_159 : Cond.fieldLink RX11 159 (TX11 6).1 (TX11 6).2.1 (TX11 6).2.2.1 ∈ lw_g := mg_t (List.mem_of_getElem? (i := 774) (by decide +kernel)) rfl
theorem fl_Mo_26 : Cond.fieldLink RX11 26 (TX11 7).1 (TX11 7).2.1 (TX11 7).2.2.1 ∈ lw_g := mg_t (List.mem_of_getElem? (i := 775) (by decide +kernel)) rfl
theorem fl_Mo_175 : Cond.fieldLink RX11 175 (TX11 8).1 (TX11 8).2.1 (TX11 8).2.2.1 ∈ lw_g := mg_t (List.mem_of_getElem? (i := 776) (by decide +kernel)) rfl
theorem fl_Mo_166 : Cond.fieldLink RX11 166 (TX11 9).1 (TX11 9).2.1 (TX11 9).2.2.1 ∈ lw_g := mg_t (List.mem_of_getElem? (i := 777) (by decide +kernel)) rfl
theorem fl_Mo_170 : Cond.fieldLink RX11 170 (TX11 10).1 (TX11 10).2.1 (TX11 10).2.2.1 ∈ lw_g := mg_t (List.mem_of_getElem? (i := 778) (by decide +kernel)) rfl
theorem fl_Mo_29 : Cond.fieldLink RX11 29 (TX11 11).1 (TX11 11).2.1 (TX11 11).2.2.1 ∈ lw_g := mg_t (List.mem_of_getElem? (i := 779) (by decide +kernel)) rfl
theorem fl_Mo_32 : Cond.fieldLink RX11 32 (TX11 12).1 (TX11 12).2.1 (TX11 12).2.2.1 ∈ lw_g := mg_t (List.mem_of_getElem? (i := 780) (by decide +kernel)) rfl
theorem fl_Mo_178 : Cond.fieldLink RX11 178 (TX11 13).1 (TX11 13).2.1 (TX11 13).2.2.1 ∈ lw_g := mg_t (List.mem_of_getElem? (i := 781) (by decide +kernel)) rfl
theorem fl_Mo_181 : Cond.fieldLink RX11 181 (TX11 14).1 (TX11 14).2.1 (TX11 14).2.2.1 ∈ lw_g := mg_t (List.mem_of_getElem? (i := 782) (by decide +kernel)) rfl
theorem fl_Mo_35 : Cond.fieldLink RX11 35 (TX11 15).1 (TX11 15).2.1 (TX11 15).2.2.1 ∈ lw_g := mg_t (List.mem_of_getElem? (i := 783) (by decide +kernel)) rfl
theorem fl_Mo_38 : Cond.fieldLink RX11 38 (TX11 16).1 (TX11 16).2.1 (TX11 16).2.2.1 ∈ lw_g := mg_t (List.mem_of_getElem? (i := 784) (by decide +kernel)) rfl
theorem fl_Mo_41 : Cond.fieldLink RX11 41 (TX11 17).1 (TX11 17).2.1 (TX11 17).2.2.1 ∈ lw_g := mg_t (List.mem_of_getElem? (i := 785) (by decide +kernel)) rfl
theorem fl_Mo_44 : Cond.fieldLink RX11 44 (TX11 18).1 (TX11 18).2.1 (TX11 18).2.2.1 ∈ lw_g := mg_t (List.mem_of_getElem? (i := 786) (by decide +kernel)) rfl
theorem fl_Mo_47 : Cond.fieldLink RX11 47 (TX11 19).1 (TX11 19).2.1 (TX11 19).2.2.1 ∈ lw_g := mg_t (List.mem_of_getElem? (i := 787) (by decide +kernel)) rfl
theorem fl_Mo_50 : Cond.fieldLink RX11 50 (TX11 20).1 (TX11 20).2.1 (TX11 20).2.2.1 ∈ lw_g := mg_t (List.mem_of_getElem? (i := 788) (by decide +kernel)) rfl
theorem fl_Mo_221 : Cond.fieldLink RX11 221 (TX11 21).1 (TX11 21).2.1 (TX11 21).2.2.1 ∈ lw_g := mg_t (List.mem_of_getElem? (i := 789) (by decide +kernel)) rfl
theorem fl_Mo_53 : Cond.fieldLink RX11 53 (TX11 22).1 (TX11 22).2.1 (TX11 22).2.2.1 ∈ lw_g := mg_t (List.mem_of_getElem? (i := 790) (by decide +kernel)) rfl
theorem fl_Mo_56 : Cond.fieldLink RX11 56 (TX11 23).1 (TX11 23).2.1 (TX11 23).2.2.1 ∈ lw_g := mg_t (List.mem_of_getElem? (i := 791) (by decide +kernel)) rfl
theorem fl_Mo_59 : Cond.fieldLink RX11 59 (TX11 24).1 (TX11 24).2.1 (TX11 24).2.2.1 ∈ lw_g := mg_t (List.mem_of_getElem? (i := 792) (by decide +kernel)) rfl
theorem fl_Mo_62 : Cond.fieldLink RX11 62 (TX11 25).1 (TX11 25).2.1 (TX11 25).2.2.1 ∈ lw_g := mg_t (List.mem_of_getElem? (i := 793) (by decide +kernel)) rfl
theorem fl_Mo_65 : Cond.fieldLink RX11 65 (TX11 26).1 (TX11 26).2.1 (TX11 26).2.2.1 ∈ lw_g := mg_t (List.mem_of_getElem? (i := 794) (by decide +kernel)) rfl
theorem fl_Mo_68 : Cond.fieldLink RX11 68 (TX11 27).1 (TX11 27).2.1 (TX11 27).2.2.1 ∈ lw_g := mg_t (List.mem_of_getElem? (i := 795) (by decide +kernel)) rfl
theorem fl_Mo_71 : Cond.fieldLink RX11 71 (TX11 28).1 (TX11 28).2.1 (TX11 28).2.2.1 ∈ lw_g := mg_t (List.mem_of_getElem? (i := 796) (by decide +kernel)) rfl
theorem fl_Mo_74 : Cond.fieldLink RX11 74 (TX11 29).1 (TX11 29).2.1 (TX11 29).2.2.1 ∈ lw_g := mg_t (List.mem_of_getElem? (i := 797) (by decide +kernel)) rfl
theorem fl_Mo_77 : Cond.fieldLink RX11 77 (TX11 30).1 (TX11 30).2.1 (TX11 30).2.2.1 ∈ lw_g := mg_t (List.mem_of_getElem? (i := 798) (by decide +kernel)) rfl
theorem fl_Mo_325 : Cond.fieldLink RX11 325 (TX11 31).1 (TX11 31).2.1 (TX11 31).2.2.1 ∈ lw_g := mg_t (List.mem_of_getElem? (i := 799) (by decide +kernel)) rfl
theorem fl_Mo_80 : Cond.fieldLink RX11 80 (TX11 32).1 (TX11 32).2.1 (TX11 32).2.2.1 ∈ lw_g := mg_t (List.mem_of_getElem? (i := 800) (by decide +kernel)) rfl
theorem ml_Lw_106 : Cond.methodLink "LadderMakerLaw" 106 y_Mo_sheet ∈ lw_g := mg_t (List.mem_of_getElem? (i := 868) (by decide +kernel)) rfl
theorem ml_Mo_95 : Cond.methodLink RX11 95 y_Mo_isSheet ∈ lw_g := mg_t (List.mem_of_getElem? (i := 872) (by decide +kernel)) rfl
theorem kc_Mo_93 : Cond.constantLong RX11 93 (2 : Int64) ∈ lw_g := mg_t (List.mem_of_getElem? (i := 875) (by decide +kernel)) rfl
theorem ml_Mo_83 : Cond.methodLink RX11 83 y_Mo_in ∈ lw_g := mg_t (List.mem_of_getElem? (i := 876) (by decide +kernel)) rfl
theorem ml_Mo_99 : Cond.methodLink RX11 99 y_Mo_finds ∈ lw_g := mg_t (List.mem_of_getElem? (i := 879) (by decide +kernel)) rfl
theorem ml_Lw_110 : Cond.methodLink "LadderMakerLaw" 110 y_Mo_lose ∈ lw_g := mg_t (List.mem_of_getElem? (i := 883) (by decide +kernel)) rfl
theorem ml_Lw_114 : Cond.methodLink "LadderMakerLaw" 114 y_Mo_lay ∈ lw_g := mg_t (List.mem_of_getElem? (i := 887) (by decide +kernel)) rfl
theorem ml_Mo_103 : Cond.methodLink RX11 103 y_Mo_lacks ∈ lw_g := mg_t (List.mem_of_getElem? (i := 891) (by decide +kernel)) rfl
theorem ml_Lw_118 : Cond.methodLink "LadderMakerLaw" 118 y_Mo_get ∈ lw_g := mg_t (List.mem_of_getElem? (i := 895) (by decide +kernel)) rfl
theorem ml_Mo_107 : Cond.methodLink RX11 107 y_Mo_no ∈ lw_g := mg_t (List.mem_of_getElem? (i := 899) (by decide +kernel)) rfl
theorem kc_Mo_87 : Cond.constantLong RX11 87 (-9223372036854775808 : Int64) ∈ lw_g := mg_t (List.mem_of_getElem? (i := 902) (by decide +kernel)) rfl
theorem ml_Lw_123 : Cond.methodLink "LadderMakerLaw" 123 y_Mo_copy ∈ lw_g := mg_t (List.mem_of_getElem? (i := 903) (by decide +kernel)) rfl
theorem ml_Lw_17 : Cond.methodLink "LadderMakerLaw" 17 y_Mo_tell ∈ lw_g := mg_t (List.mem_of_getElem? (i := 907) (by decide +kernel)) rfl
theorem ml_Mo_111 : Cond.methodLink RX11 111 y_Mo_isTwo ∈ lw_g := mg_t (List.mem_of_getElem? (i := 911) (by decide +kernel)) rfl
theorem kc_Mo_114 : Cond.constantLong RX11 114 (6 : Int64) ∈ lw_g := mg_t (List.mem_of_getElem? (i := 914) (by decide +kernel)) rfl
theorem kc_Mo_116 : Cond.constantLong RX11 116 (-9 : Int64) ∈ lw_g := mg_t (List.mem_of_getElem? (i := 915) (by decide +kernel)) rfl
theorem kc_Mo_118 : Cond.constantLong RX11 118 (9 : Int64) ∈ lw_g := mg_t (List.mem_of_getElem? (i := 916) (by decide +kernel)) rfl
theorem kc_Mo_120 : Cond.constant RX11 120 (-2147483648 : Int32) ∈ lw_g := mg_t (List.mem_of_getElem? (i := 917) (by decide +kernel)) rfl
theorem ml_Lw_22 : Cond.methodLink "LadderMakerLaw" 22 y_Mo_told ∈ lw_g := mg_t (List.mem_of_getElem? (i := 918) (by decide +kernel)) rfl
theorem ml_Lw_27 : Cond.methodLink "LadderMakerLaw" 27 y_Mo_turn ∈ lw_g := mg_t (List.mem_of_getElem? (i := 922) (by decide +kernel)) rfl
theorem ml_Mo_124 : Cond.methodLink RX11 124 y_Mo_isLawful ∈ lw_g := mg_t (List.mem_of_getElem? (i := 926) (by decide +kernel)) rfl
theorem ml_Mo_121 : Cond.methodLink RX11 121 y_Mo_sort ∈ lw_g := mg_t (List.mem_of_getElem? (i := 930) (by decide +kernel)) rfl
theorem ml_Lw_31 : Cond.methodLink "LadderMakerLaw" 31 y_Mo_reverse ∈ lw_g := mg_t (List.mem_of_getElem? (i := 934) (by decide +kernel)) rfl
theorem ml_Mo_128 : Cond.methodLink RX11 128 y_Mo_degree ∈ lw_g := mg_t (List.mem_of_getElem? (i := 938) (by decide +kernel)) rfl
theorem ml_Mo_131 : Cond.methodLink RX11 131 y_Mo_greater ∈ lw_g := mg_t (List.mem_of_getElem? (i := 942) (by decide +kernel)) rfl
theorem ml_Lw_35 : Cond.methodLink "LadderMakerLaw" 35 y_Mo_read ∈ lw_g := mg_t (List.mem_of_getElem? (i := 945) (by decide +kernel)) rfl
theorem kc_Mo_134 : Cond.constantLong RX11 134 (14 : Int64) ∈ lw_g := mg_t (List.mem_of_getElem? (i := 949) (by decide +kernel)) rfl
theorem ml_Lw_40 : Cond.methodLink "LadderMakerLaw" 40 y_Mo_info ∈ lw_g := mg_t (List.mem_of_getElem? (i := 950) (by decide +kernel)) rfl
theorem kc_Mo_139 : Cond.constantLong RX11 139 (4 : Int64) ∈ lw_g := mg_t (List.mem_of_getElem? (i := 954) (by decide +kernel)) rfl
theorem ml_Mo_141 : Cond.methodLink RX11 141 y_Mo_infoBy ∈ lw_g := mg_t (List.mem_of_getElem? (i := 955) (by decide +kernel)) rfl
theorem ml_Mo_136 : Cond.methodLink RX11 136 y_Mo_lowest ∈ lw_g := mg_t (List.mem_of_getElem? (i := 959) (by decide +kernel)) rfl
theorem ml_Lw_45 : Cond.methodLink "LadderMakerLaw" 45 y_Mo_reactance ∈ lw_g := mg_t (List.mem_of_getElem? (i := 963) (by decide +kernel)) rfl
theorem ml_Mo_156 : Cond.methodLink RX11 156 y_Mo_reactanceBy ∈ lw_g := mg_t (List.mem_of_getElem? (i := 967) (by decide +kernel)) rfl
theorem ml_Mo_148 : Cond.methodLink RX11 148 y_Mo_turnedValue ∈ lw_g := mg_t (List.mem_of_getElem? (i := 971) (by decide +kernel)) rfl
theorem ml_Mo_144 : Cond.methodLink RX11 144 y_Mo_power ∈ lw_g := mg_t (List.mem_of_getElem? (i := 975) (by decide +kernel)) rfl
theorem ml_Mo_152 : Cond.methodLink RX11 152 y_Mo_divisor ∈ lw_g := mg_t (List.mem_of_getElem? (i := 978) (by decide +kernel)) rfl
theorem ml_Lw_49 : Cond.methodLink "LadderMakerLaw" 49 y_Mo_arm ∈ lw_g := mg_t (List.mem_of_getElem? (i := 981) (by decide +kernel)) rfl
theorem ml_Mo_162 : Cond.methodLink RX11 162 y_Mo_valuesIn ∈ lw_g := mg_t (List.mem_of_getElem? (i := 985) (by decide +kernel)) rfl
theorem ml_Lw_53 : Cond.methodLink "LadderMakerLaw" 53 y_Mo_back ∈ lw_g := mg_t (List.mem_of_getElem? (i := 988) (by decide +kernel)) rfl
theorem ml_Lw_65 : Cond.methodLink "LadderMakerLaw" 65 y_Mo_element ∈ lw_g := mg_t (List.mem_of_getElem? (i := 992) (by decide +kernel)) rfl
theorem ml_Lw_61 : Cond.methodLink "LadderMakerLaw" 61 y_Mo_would ∈ lw_g := mg_t (List.mem_of_getElem? (i := 996) (by decide +kernel)) rfl
theorem kc_Mo_268 : Cond.constantLong RX11 268 (3 : Int64) ∈ lw_g := mg_t (List.mem_of_getElem? (i := 1000) (by decide +kernel)) rfl
theorem ml_Mo_270 : Cond.methodLink RX11 270 y_Mo_unfolds ∈ lw_g := mg_t (List.mem_of_getElem? (i := 1001) (by decide +kernel)) rfl
theorem ml_Mo_262 : Cond.methodLink RX11 262 y_Mo_divides ∈ lw_g := mg_t (List.mem_of_getElem? (i := 1005) (by decide +kernel)) rfl
theorem ml_Mo_184 : Cond.methodLink RX11 184 y_Mo_top ∈ lw_g := mg_t (List.mem_of_getElem? (i := 1009) (by decide +kernel)) rfl
theorem ml_Mo_188 : Cond.methodLink RX11 188 y_Mo_swaps ∈ lw_g := mg_t (List.mem_of_getElem? (i := 1012) (by decide +kernel)) rfl
theorem ml_Mo_191 : Cond.methodLink RX11 191 y_Mo_content ∈ lw_g := mg_t (List.mem_of_getElem? (i := 1016) (by decide +kernel)) rfl
theorem ml_Mo_195 : Cond.methodLink RX11 195 y_Mo_scales ∈ lw_g := mg_t (List.mem_of_getElem? (i := 1019) (by decide +kernel)) rfl
theorem ml_Mo_199 : Cond.methodLink RX11 199 y_Mo_dividesOnce ∈ lw_g := mg_t (List.mem_of_getElem? (i := 1023) (by decide +kernel)) rfl
theorem ml_Mo_203 : Cond.methodLink RX11 203 y_Mo_takes ∈ lw_g := mg_t (List.mem_of_getElem? (i := 1027) (by decide +kernel)) rfl
theorem ml_Mo_207 : Cond.methodLink RX11 207 y_Mo_isHandy ∈ lw_g := mg_t (List.mem_of_getElem? (i := 1031) (by decide +kernel)) rfl
theorem kc_Mo_173 : Cond.constantLong RX11 173 (99 : Int64) ∈ lw_g := mg_t (List.mem_of_getElem? (i := 1035) (by decide +kernel)) rfl
theorem ml_Mo_210 : Cond.methodLink RX11 210 y_Mo_makes ∈ lw_g := mg_t (List.mem_of_getElem? (i := 1036) (by decide +kernel)) rfl
theorem ml_Mo_214 : Cond.methodLink RX11 214 y_Mo_lays ∈ lw_g := mg_t (List.mem_of_getElem? (i := 1040) (by decide +kernel)) rfl
theorem ml_Mo_265 : Cond.methodLink RX11 265 y_Mo_byRoots ∈ lw_g := mg_t (List.mem_of_getElem? (i := 1044) (by decide +kernel)) rfl
theorem ml_Mo_235 : Cond.methodLink RX11 235 y_Mo_candidates ∈ lw_g := mg_t (List.mem_of_getElem? (i := 1048) (by decide +kernel)) rfl
theorem ml_Mo_224 : Cond.methodLink RX11 224 y_Mo_candidate ∈ lw_g := mg_t (List.mem_of_getElem? (i := 1052) (by decide +kernel)) rfl
theorem ml_Mo_238 : Cond.methodLink RX11 238 y_Mo_squares ∈ lw_g := mg_t (List.mem_of_getElem? (i := 1055) (by decide +kernel)) rfl
theorem ml_Mo_227 : Cond.methodLink RX11 227 y_Mo_downs ∈ lw_g := mg_t (List.mem_of_getElem? (i := 1059) (by decide +kernel)) rfl
theorem ml_Mo_242 : Cond.methodLink RX11 242 y_Mo_isDark ∈ lw_g := mg_t (List.mem_of_getElem? (i := 1062) (by decide +kernel)) rfl
theorem ml_Mo_231 : Cond.methodLink RX11 231 y_Mo_takesOut ∈ lw_g := mg_t (List.mem_of_getElem? (i := 1066) (by decide +kernel)) rfl
theorem ml_Mo_217 : Cond.methodLink RX11 217 y_Mo_valueAt ∈ lw_g := mg_t (List.mem_of_getElem? (i := 1070) (by decide +kernel)) rfl
theorem ml_Mo_245 : Cond.methodLink RX11 245 y_Mo_ends ∈ lw_g := mg_t (List.mem_of_getElem? (i := 1073) (by decide +kernel)) rfl
theorem ml_Mo_258 : Cond.methodLink RX11 258 y_Mo_alone ∈ lw_g := mg_t (List.mem_of_getElem? (i := 1077) (by decide +kernel)) rfl
theorem ml_Mo_248 : Cond.methodLink RX11 248 y_Mo_slopes ∈ lw_g := mg_t (List.mem_of_getElem? (i := 1081) (by decide +kernel)) rfl
theorem ml_Mo_251 : Cond.methodLink RX11 251 y_Mo_isRoot ∈ lw_g := mg_t (List.mem_of_getElem? (i := 1085) (by decide +kernel)) rfl
theorem ml_Mo_254 : Cond.methodLink RX11 254 y_Mo_rootOnce ∈ lw_g := mg_t (List.mem_of_getElem? (i := 1089) (by decide +kernel)) rfl
theorem ml_Lw_57 : Cond.methodLink "LadderMakerLaw" 57 y_Mo_unfold ∈ lw_g := mg_t (List.mem_of_getElem? (i := 1093) (by decide +kernel)) rfl
theorem ml_Lw_70 : Cond.methodLink "LadderMakerLaw" 70 y_Mo_fold ∈ lw_g := mg_t (List.mem_of_getElem? (i := 1097) (by decide +kernel)) rfl
theorem ml_Mo_285 : Cond.methodLink RX11 285 y_Mo_folds ∈ lw_g := mg_t (List.mem_of_getElem? (i := 1101) (by decide +kernel)) rfl
theorem ml_Mo_273 : Cond.methodLink RX11 273 y_Mo_armOf ∈ lw_g := mg_t (List.mem_of_getElem? (i := 1105) (by decide +kernel)) rfl
theorem ml_Mo_276 : Cond.methodLink RX11 276 y_Mo_turnsOver ∈ lw_g := mg_t (List.mem_of_getElem? (i := 1109) (by decide +kernel)) rfl
theorem ml_Mo_279 : Cond.methodLink RX11 279 y_Mo_adds ∈ lw_g := mg_t (List.mem_of_getElem? (i := 1113) (by decide +kernel)) rfl
theorem ml_Mo_282 : Cond.methodLink RX11 282 y_Mo_asPair ∈ lw_g := mg_t (List.mem_of_getElem? (i := 1117) (by decide +kernel)) rfl
theorem ml_Mo_288 : Cond.methodLink RX11 288 y_Mo_foldBy ∈ lw_g := mg_t (List.mem_of_getElem? (i := 1121) (by decide +kernel)) rfl
theorem ml_Lw_74 : Cond.methodLink "LadderMakerLaw" 74 y_Mo_alike ∈ lw_g := mg_t (List.mem_of_getElem? (i := 1125) (by decide +kernel)) rfl
theorem ml_Mo_294 : Cond.methodLink RX11 294 y_Mo_alikeNow ∈ lw_g := mg_t (List.mem_of_getElem? (i := 1129) (by decide +kernel)) rfl
theorem kc_Mo_292 : Cond.constantLong RX11 292 (13 : Int64) ∈ lw_g := mg_t (List.mem_of_getElem? (i := 1133) (by decide +kernel)) rfl
theorem ml_Lw_78 : Cond.methodLink "LadderMakerLaw" 78 y_Mo_take ∈ lw_g := mg_t (List.mem_of_getElem? (i := 1134) (by decide +kernel)) rfl
theorem ml_Lw_82 : Cond.methodLink "LadderMakerLaw" 82 y_Mo_bill ∈ lw_g := mg_t (List.mem_of_getElem? (i := 1138) (by decide +kernel)) rfl
theorem ml_Mo_312 : Cond.methodLink RX11 312 y_Mo_parts ∈ lw_g := mg_t (List.mem_of_getElem? (i := 1142) (by decide +kernel)) rfl
theorem ml_Mo_308 : Cond.methodLink RX11 308 y_Mo_isFirst ∈ lw_g := mg_t (List.mem_of_getElem? (i := 1146) (by decide +kernel)) rfl
theorem ml_Mo_298 : Cond.methodLink RX11 298 y_Mo_partUp ∈ lw_g := mg_t (List.mem_of_getElem? (i := 1150) (by decide +kernel)) rfl
theorem ml_Mo_304 : Cond.methodLink RX11 304 y_Mo_isLike ∈ lw_g := mg_t (List.mem_of_getElem? (i := 1154) (by decide +kernel)) rfl
theorem ml_Mo_301 : Cond.methodLink RX11 301 y_Mo_partDown ∈ lw_g := mg_t (List.mem_of_getElem? (i := 1158) (by decide +kernel)) rfl
theorem ml_Mo_316 : Cond.methodLink RX11 316 y_Mo_nthPart ∈ lw_g := mg_t (List.mem_of_getElem? (i := 1162) (by decide +kernel)) rfl
theorem ml_Mo_319 : Cond.methodLink RX11 319 y_Mo_billBy ∈ lw_g := mg_t (List.mem_of_getElem? (i := 1166) (by decide +kernel)) rfl
theorem ml_Lw_86 : Cond.methodLink "LadderMakerLaw" 86 y_Mo_values ∈ lw_g := mg_t (List.mem_of_getElem? (i := 1170) (by decide +kernel)) rfl
theorem ml_Lw_90 : Cond.methodLink "LadderMakerLaw" 90 y_Mo_keep ∈ lw_g := mg_t (List.mem_of_getElem? (i := 1174) (by decide +kernel)) rfl
theorem ml_Mo_328 : Cond.methodLink RX11 328 y_Mo_found ∈ lw_g := mg_t (List.mem_of_getElem? (i := 1178) (by decide +kernel)) rfl
theorem ml_Mo_322 : Cond.methodLink RX11 322 y_Mo_wishAsPair ∈ lw_g := mg_t (List.mem_of_getElem? (i := 1182) (by decide +kernel)) rfl
theorem ml_Lw_94 : Cond.methodLink "LadderMakerLaw" 94 y_Mo_find ∈ lw_g := mg_t (List.mem_of_getElem? (i := 1186) (by decide +kernel)) rfl
theorem ml_Lw_98 : Cond.methodLink "LadderMakerLaw" 98 y_Mo_kept ∈ lw_g := mg_t (List.mem_of_getElem? (i := 1190) (by decide +kernel)) rfl
theorem ml_Mo_331 : Cond.methodLink RX11 331 y_Mo_keptBy ∈ lw_g := mg_t (List.mem_of_getElem? (i := 1194) (by decide +kernel)) rfl
theorem ml_Lw_102 : Cond.methodLink "LadderMakerLaw" 102 y_Mo_recall ∈ lw_g := mg_t (List.mem_of_getElem? (i := 1198) (by decide +kernel)) rfl
theorem ml_Lw_127 : Cond.methodLink "LadderMakerLaw" 127 y_Mo_write ∈ lw_g := mg_t (List.mem_of_getElem? (i := 1202) (by decide +kernel)) rfl
theorem ml_Mo_334 : Cond.methodLink RX11 334 y_Mo_lesser ∈ lw_g := mg_t (List.mem_of_getElem? (i := 1206) (by decide +kernel)) rfl
theorem ml_Lw_131 : Cond.methodLink "LadderMakerLaw" 131 y_Mo_count ∈ lw_g := mg_t (List.mem_of_getElem? (i := 1209) (by decide +kernel)) rfl
theorem ml_Mo_337 : Cond.methodLink RX11 337 y_Mo_keptAll ∈ lw_g := mg_t (List.mem_of_getElem? (i := 1213) (by decide +kernel)) rfl
theorem ml_Mo_340 : Cond.methodLink RX11 340 y_Mo_alike ∈ lw_g := mg_t (List.mem_of_getElem? (i := 1217) (by decide +kernel)) rfl
theorem ml_Mo_343 : Cond.methodLink RX11 343 y_Mo_sheets ∈ lw_g := mg_t (List.mem_of_getElem? (i := 1218) (by decide +kernel)) rfl
theorem ml_Lw_136 : Cond.methodLink "LadderMakerLaw" 136 y_Mo_digest ∈ lw_g := mg_t (List.mem_of_getElem? (i := 1222) (by decide +kernel)) rfl
theorem kc_Mo_351 : Cond.constantLong RX11 351 (17 : Int64) ∈ lw_g := mg_t (List.mem_of_getElem? (i := 1226) (by decide +kernel)) rfl
theorem kc_Mo_346 : Cond.constantLong RX11 346 (31 : Int64) ∈ lw_g := mg_t (List.mem_of_getElem? (i := 1227) (by decide +kernel)) rfl
theorem ml_Mo_353 : Cond.methodLink RX11 353 y_Mo_count ∈ lw_g := mg_t (List.mem_of_getElem? (i := 1228) (by decide +kernel)) rfl
theorem ml_Mo_356 : Cond.methodLink RX11 356 y_Mo_ladderTells ∈ lw_g := mg_t (List.mem_of_getElem? (i := 1229) (by decide +kernel)) rfl
theorem ml_Mo_348 : Cond.methodLink RX11 348 y_Mo_values ∈ lw_g := mg_t (List.mem_of_getElem? (i := 1233) (by decide +kernel)) rfl
theorem jd_max_s : Cond.static Lib.Math.max.name ∈ lw_g := mg_t (List.mem_of_getElem? (i := 311) (by decide +kernel)) rfl
theorem jd_max_c : Cond.code Lib.Math.max.name Lib.Math.max.code 2 (some .int) ∈ lw_g := mg_t (List.mem_of_getElem? (i := 312) (by decide +kernel)) rfl
theorem jd_min_s : Cond.static Lib.Math.min.name ∈ lw_g := mg_t (List.mem_of_getElem? (i := 553) (by decide +kernel)) rfl
theorem jd_min_c : Cond.code Lib.Math.min.name Lib.Math.min.code 2 (some .int) ∈ lw_g := mg_t (List.mem_of_getElem? (i := 554) (by decide +kernel)) rfl
theorem jd_abs_s : Cond.static Lib.MathLoose.abs_long.x ∈ lw_g := mg_t (List.mem_of_getElem? (i := 400) (by decide +kernel)) rfl
theorem jd_abs_c : Cond.code Lib.MathLoose.abs_long.x Lib.MathLoose.abs_long.code 2 (some .long) ∈ lw_g := mg_t (List.mem_of_getElem? (i := 401) (by decide +kernel)) rfl
theorem jd_copy_s : Cond.static arraycopyName ∈ lw_g := mg_t (List.mem_of_getElem? (i := 720) (by decide +kernel)) rfl
theorem jd_copy_n : Cond.native arraycopyName ∈ lw_g := mg_t (List.mem_of_getElem? (i := 721) (by decide +kernel)) rfl
theorem jd_Math_i : Cond.initialized "java/lang/Math" ∈ lw_g := mg_t (List.mem_of_getElem? (i := 13) (by decide +kernel)) rfl
theorem jd_System_i : Cond.initialized "java/lang/System" ∈ lw_g := mg_t (List.mem_of_getElem? (i := 14) (by decide +kernel)) rfl
end
section
theorem d_Po_clear_0 : decode c_Po_clear 0 = .ok (.iconst 0, 1) := by decide +kernel
theorem d_Po_clear_1 : decode c_Po_clear 1 = .ok (.istore_n 1, 1) := by decide +kernel
theorem d_Po_clear_2 : decode c_Po_clear 2 = .ok (.iload_n 1, 1) := by decide +kernel
theorem d_Po_clear_3 : decode c_Po_clear 3 = .ok (.bipush 7, 2) := by decide +kernel
theorem d_Po_clear_5 : decode c_Po_clear 5 = .ok (.if_icmp .ge 16, 3) := by decide +kernel
theorem d_Po_clear_8 : decode c_Po_clear 8 = .ok (.aload_n 0, 1) := by decide +kernel
theorem d_Po_clear_9 : decode c_Po_clear 9 = .ok (.getfield 9, 3) := by decide +kernel
theorem d_Po_clear_12 : decode c_Po_clear 12 = .ok (.iload_n 1, 1) := by decide +kernel
theorem d_Po_clear_13 : decode c_Po_clear 13 = .ok (.lconst 0, 1) := by decide +kernel
theorem d_Po_clear_14 : decode c_Po_clear 14 = .ok (.lastore, 1) := by decide +kernel
theorem d_Po_clear_15 : decode c_Po_clear 15 = .ok (.iinc 1 1, 3) := by decide +kernel
theorem d_Po_clear_18 : decode c_Po_clear 18 = .ok (.goto (-16), 3) := by decide +kernel
theorem d_Po_clear_21 : decode c_Po_clear 21 = .ok (.return_, 1) := by decide +kernel
set_option maxRecDepth 20000 in
theorem w_Po_clear_2b {X : HX} {ad : Nat → Nat} {I : HI} {J : HJ} {N : HN} {r : HJ} {k2 : HJ → Int32 → Option (HJ)} {a0 : Nat} {x1 : Int32} (C : Cx X c_Po_clear RX6 2 none rm_Po_clear) (ha0 : gk Tc nC a0 (0, 6))
    (hk2 : ∀ (J : HJ) (x1 : Int32), k2 J x1 = some r → G Tc X ad nC 0 0 I J N (gE X Tc ad nC (I, r, N, fun _ => none)) 2 2 [(0, .ref (ad a0)), (1, .int x1)] [])
    (h : Po_clear_2b N a0 k2 J x1 = some r) : G Tc X ad nC 0 0 I J N (gE X Tc ad nC (I, r, N, fun _ => none)) 2 2 [(0, .ref (ad a0)), (1, .int x1)] [] := by
  refine g_iload_n (pc := 2) C d_Po_clear_2 rfl 1 rfl ?_
  refine g_bipush (pc := 3) C (7 : Int32) d_Po_clear_3 (by decide) ?_
  refine g_icmp_ge (pc := 5) C 21 d_Po_clear_5 rfl (fun e1 => ?_) (fun e1 => ?_)
  · have h := o_pos e1 h
    cases h
    exact g_vret (pc := 21) C d_Po_clear_21
  · have h := o_neg e1 h
    refine g_aload_n (pc := 8) C d_Po_clear_8 rfl 0 rfl ?_
    obtain ⟨b2, hnb2, hb2, h⟩ := o_ra h
    refine g_get (pc := 9) (k := 0) (v := va_rf ((N a0 0).map ad)) C gcX6 inX6 (by decide) fl_Po_9 ha0 rfl d_Po_clear_9 ?_
    refine g_top (g_rf hnb2) ?_
    refine g_iload_n (pc := 12) C d_Po_clear_12 rfl 1 rfl ?_
    refine g_lconst (pc := 13) C (0 : Int64) d_Po_clear_13 (by decide) ?_
    obtain ⟨hi3, h⟩ := o_gd h
    refine g_last (pc := 14) C hb2 hi3 d_Po_clear_14 ?_
    obtain ⟨J4, eJ4, h⟩ := o_bd h
    rw [← eJ4]
    refine g_iinc (pc := 15) (q := 1) (lv' := [(1, .int (x1 + 1)), (0, .ref (ad a0))]) C d_Po_clear_15 rfl rfl (by decide) rfl ?_
    refine g_goto (pc := 18) C 2 d_Po_clear_18 rfl ?_
    refine g_lv [1, 0] rfl ?_
    exact hk2 _ _ h
set_option maxRecDepth 20000 in
theorem w_Po_clear_2 {X : HX} {ad : Nat → Nat} {I : HI} {N : HN} {r : HJ} {a0 : Nat} (C : Cx X c_Po_clear RX6 2 none rm_Po_clear) (ha0 : gk Tc nC a0 (0, 6)) : ∀ (n : Nat) (J : HJ) (x1 : Int32), Po_clear_2 N a0 n J x1 = some r → G Tc X ad nC 0 0 I J N (gE X Tc ad nC (I, r, N, fun _ => none)) 2 2 [(0, .ref (ad a0)), (1, .int x1)] [] := by
  intro n
  induction n with
  | zero => intro J x1 h; cases h
  | succ n ih => intro J x1 h; exact w_Po_clear_2b C ha0 ih h
set_option maxRecDepth 20000 in
theorem w_Po_clear_0 {X : HX} {ad : Nat → Nat} {I : HI} {J : HJ} {N : HN} {r : HJ} {a0 : Nat} (C : Cx X c_Po_clear RX6 2 none rm_Po_clear) (ha0 : gk Tc nC a0 (0, 6))
    (h : Po_clear_0 N a0 J = some r) : G Tc X ad nC 0 0 I J N (gE X Tc ad nC (I, r, N, fun _ => none)) 0 2 [(0, .ref (ad a0))] [] := by
  refine g_iconst (pc := 0) C (0 : Int32) d_Po_clear_0 (by decide) ?_
  refine g_istore_n (pc := 1) (lv' := [(1, .int (0 : Int32)), (0, .ref (ad a0))]) C d_Po_clear_1 rfl (by decide) rfl ?_
  refine g_lv [1, 0] rfl ?_
  exact w_Po_clear_2 C ha0 _ _ _ h
set_option maxRecDepth 20000 in
theorem k_Po_clear (l : Launch) {I : HI} {J : HJ} {N : HN} {a0 : Nat} {r : HJ} (ha0 : gk Tc nC a0 (0, 6)) (h : Po_clear N a0 J = some r) : gM l y_Po_clear c_Po_clear 2 none rm_Po_clear Tc nC I J N (fun ad => [.ref (ad a0)]) (I, r, N, fun _ => none) :=
  g_meth (lv := fun ad => [(0, .ref (ad a0))]) (by decide) (fun _ => Nat.le_of_ble_eq_true rfl) (fun _ => rfl) (fun X ad C => g_lv [0] rfl (w_Po_clear_0 C ha0 h))
theorem d_Po_put_0 : decode c_Po_put 0 = .ok (.iload_n 1, 1) := by decide +kernel
theorem d_Po_put_1 : decode c_Po_put 1 = .ok (.ifCond .lt 16, 3) := by decide +kernel
theorem d_Po_put_4 : decode c_Po_put 4 = .ok (.iload_n 1, 1) := by decide +kernel
theorem d_Po_put_5 : decode c_Po_put 5 = .ok (.bipush 7, 2) := by decide +kernel
theorem d_Po_put_7 : decode c_Po_put 7 = .ok (.if_icmp .ge 10, 3) := by decide +kernel
theorem d_Po_put_10 : decode c_Po_put 10 = .ok (.aload_n 0, 1) := by decide +kernel
theorem d_Po_put_11 : decode c_Po_put 11 = .ok (.getfield 9, 3) := by decide +kernel
theorem d_Po_put_14 : decode c_Po_put 14 = .ok (.iload_n 1, 1) := by decide +kernel
theorem d_Po_put_15 : decode c_Po_put 15 = .ok (.lload_n 2, 1) := by decide +kernel
theorem d_Po_put_16 : decode c_Po_put 16 = .ok (.lastore, 1) := by decide +kernel
theorem d_Po_put_17 : decode c_Po_put 17 = .ok (.return_, 1) := by decide +kernel
set_option maxRecDepth 20000 in
theorem w_Po_put_0 {X : HX} {ad : Nat → Nat} {I : HI} {J : HJ} {N : HN} {r : HJ} {a0 : Nat} {p1 : Int32} {p2 : Int64} (C : Cx X c_Po_put RX6 4 none rm_Po_put) (ha0 : gk Tc nC a0 (0, 6))
    (h : Po_put_0 N a0 p1 p2 J = some r) : G Tc X ad nC 0 0 I J N (gE X Tc ad nC (I, r, N, fun _ => none)) 0 4 [(0, .ref (ad a0)), (1, .int p1), (2, .long p2)] [] := by
  refine g_iload_n (pc := 0) C d_Po_put_0 rfl 1 rfl ?_
  refine g_if_lt (pc := 1) C 17 d_Po_put_1 rfl (fun e1 => ?_) (fun e1 => ?_)
  · have h := o_pos e1 h
    cases h
    exact g_vret (pc := 17) C d_Po_put_17
  · have h := o_neg e1 h
    refine g_iload_n (pc := 4) C d_Po_put_4 rfl 1 rfl ?_
    refine g_bipush (pc := 5) C (7 : Int32) d_Po_put_5 (by decide) ?_
    refine g_icmp_ge (pc := 7) C 17 d_Po_put_7 rfl (fun e2 => ?_) (fun e2 => ?_)
    · have h := o_pos e2 h
      cases h
      exact g_vret (pc := 17) C d_Po_put_17
    · have h := o_neg e2 h
      refine g_aload_n (pc := 10) C d_Po_put_10 rfl 0 rfl ?_
      obtain ⟨b3, hnb3, hb3, h⟩ := o_ra h
      refine g_get (pc := 11) (k := 0) (v := va_rf ((N a0 0).map ad)) C gcX6 inX6 (by decide) fl_Po_9 ha0 rfl d_Po_put_11 ?_
      refine g_top (g_rf hnb3) ?_
      refine g_iload_n (pc := 14) C d_Po_put_14 rfl 1 rfl ?_
      refine g_lload_n (pc := 15) C d_Po_put_15 rfl 2 rfl ?_
      obtain ⟨hi4, h⟩ := o_gd h
      refine g_last (pc := 16) C hb3 hi4 d_Po_put_16 ?_
      obtain ⟨J5, eJ5, h⟩ := o_bd h
      rw [← eJ5]
      cases h
      exact g_vret (pc := 17) C d_Po_put_17
set_option maxRecDepth 20000 in
theorem k_Po_put (l : Launch) {I : HI} {J : HJ} {N : HN} {a0 : Nat} {p1 : Int32} {p2 : Int64} {r : HJ} (ha0 : gk Tc nC a0 (0, 6)) (h : Po_put N a0 p1 p2 J = some r) : gM l y_Po_put c_Po_put 4 none rm_Po_put Tc nC I J N (fun ad => [.ref (ad a0), .int p1, .long p2]) (I, r, N, fun _ => none) :=
  g_meth (lv := fun ad => [(0, .ref (ad a0)), (1, .int p1), (2, .long p2)]) (by decide) (fun _ => Nat.le_of_ble_eq_true rfl) (fun _ => rfl) (fun X ad C => g_lv [0, 1, 2] rfl (w_Po_put_0 C ha0 h))
theorem d_Po_addProduct_0 : decode c_Po_addProduct 0 = .ok (.iconst 0, 1) := by decide +kernel
theorem d_Po_addProduct_1 : decode c_Po_addProduct 1 = .ok (.istore_n 3, 1) := by decide +kernel
theorem d_Po_addProduct_2 : decode c_Po_addProduct 2 = .ok (.iload_n 3, 1) := by decide +kernel
theorem d_Po_addProduct_3 : decode c_Po_addProduct 3 = .ok (.bipush 7, 2) := by decide +kernel
theorem d_Po_addProduct_5 : decode c_Po_addProduct 5 = .ok (.if_icmp .ge 53, 3) := by decide +kernel
theorem d_Po_addProduct_8 : decode c_Po_addProduct 8 = .ok (.iconst 0, 1) := by decide +kernel
theorem d_Po_addProduct_9 : decode c_Po_addProduct 9 = .ok (.istore 4, 2) := by decide +kernel
theorem d_Po_addProduct_11 : decode c_Po_addProduct 11 = .ok (.iload 4, 2) := by decide +kernel
theorem d_Po_addProduct_13 : decode c_Po_addProduct 13 = .ok (.iload_n 3, 1) := by decide +kernel
theorem d_Po_addProduct_14 : decode c_Po_addProduct 14 = .ok (.iadd, 1) := by decide +kernel
theorem d_Po_addProduct_15 : decode c_Po_addProduct 15 = .ok (.bipush 7, 2) := by decide +kernel
theorem d_Po_addProduct_17 : decode c_Po_addProduct 17 = .ok (.if_icmp .ge 35, 3) := by decide +kernel
theorem d_Po_addProduct_20 : decode c_Po_addProduct 20 = .ok (.aload_n 0, 1) := by decide +kernel
theorem d_Po_addProduct_21 : decode c_Po_addProduct 21 = .ok (.getfield 9, 3) := by decide +kernel
theorem d_Po_addProduct_24 : decode c_Po_addProduct 24 = .ok (.iload 4, 2) := by decide +kernel
theorem d_Po_addProduct_26 : decode c_Po_addProduct 26 = .ok (.iload_n 3, 1) := by decide +kernel
theorem d_Po_addProduct_27 : decode c_Po_addProduct 27 = .ok (.iadd, 1) := by decide +kernel
theorem d_Po_addProduct_28 : decode c_Po_addProduct 28 = .ok (.dup2, 1) := by decide +kernel
theorem d_Po_addProduct_29 : decode c_Po_addProduct 29 = .ok (.laload, 1) := by decide +kernel
theorem d_Po_addProduct_30 : decode c_Po_addProduct 30 = .ok (.aload_n 1, 1) := by decide +kernel
theorem d_Po_addProduct_31 : decode c_Po_addProduct 31 = .ok (.getfield 9, 3) := by decide +kernel
theorem d_Po_addProduct_34 : decode c_Po_addProduct 34 = .ok (.iload_n 3, 1) := by decide +kernel
theorem d_Po_addProduct_35 : decode c_Po_addProduct 35 = .ok (.laload, 1) := by decide +kernel
theorem d_Po_addProduct_36 : decode c_Po_addProduct 36 = .ok (.aload_n 2, 1) := by decide +kernel
theorem d_Po_addProduct_37 : decode c_Po_addProduct 37 = .ok (.getfield 9, 3) := by decide +kernel
theorem d_Po_addProduct_40 : decode c_Po_addProduct 40 = .ok (.iload 4, 2) := by decide +kernel
theorem d_Po_addProduct_42 : decode c_Po_addProduct 42 = .ok (.laload, 1) := by decide +kernel
theorem d_Po_addProduct_43 : decode c_Po_addProduct 43 = .ok (.lmul, 1) := by decide +kernel
theorem d_Po_addProduct_44 : decode c_Po_addProduct 44 = .ok (.ladd, 1) := by decide +kernel
theorem d_Po_addProduct_45 : decode c_Po_addProduct 45 = .ok (.lastore, 1) := by decide +kernel
theorem d_Po_addProduct_46 : decode c_Po_addProduct 46 = .ok (.iinc 4 1, 3) := by decide +kernel
theorem d_Po_addProduct_49 : decode c_Po_addProduct 49 = .ok (.goto (-38), 3) := by decide +kernel
theorem d_Po_addProduct_52 : decode c_Po_addProduct 52 = .ok (.iinc 3 1, 3) := by decide +kernel
theorem d_Po_addProduct_55 : decode c_Po_addProduct 55 = .ok (.goto (-53), 3) := by decide +kernel
theorem d_Po_addProduct_58 : decode c_Po_addProduct 58 = .ok (.return_, 1) := by decide +kernel
set_option maxRecDepth 20000 in
theorem w_Po_addProduct_11b {X : HX} {ad : Nat → Nat} {I : HI} {J : HJ} {N : HN} {r : HJ} {k2 : HJ → Int32 → Option (HJ)} {k11 : HJ → Int32 → Int32 → Option (HJ)} {a0 : Nat} {a1 : Nat} {a2 : Nat} {x3 : Int32} {x4 : Int32} (C : Cx X c_Po_addProduct RX6 5 none rm_Po_addProduct) (ha0 : gk Tc nC a0 (0, 6)) (ha1 : gk Tc nC a1 (0, 6)) (ha2 : gk Tc nC a2 (0, 6))
    (hk2 : ∀ (J : HJ) (x3 : Int32), k2 J x3 = some r → G Tc X ad nC 0 0 I J N (gE X Tc ad nC (I, r, N, fun _ => none)) 2 5 [(0, .ref (ad a0)), (1, .ref (ad a1)), (2, .ref (ad a2)), (3, .int x3)] [])
    (hk11 : ∀ (J : HJ) (x3 : Int32) (x4 : Int32), k11 J x3 x4 = some r → G Tc X ad nC 0 0 I J N (gE X Tc ad nC (I, r, N, fun _ => none)) 11 5 [(0, .ref (ad a0)), (1, .ref (ad a1)), (2, .ref (ad a2)), (3, .int x3), (4, .int x4)] [])
    (h : Po_addProduct_11b N a0 a1 a2 k2 k11 J x3 x4 = some r) : G Tc X ad nC 0 0 I J N (gE X Tc ad nC (I, r, N, fun _ => none)) 11 5 [(0, .ref (ad a0)), (1, .ref (ad a1)), (2, .ref (ad a2)), (3, .int x3), (4, .int x4)] [] := by
  refine g_iload (pc := 11) C d_Po_addProduct_11 4 rfl ?_
  refine g_iload_n (pc := 13) C d_Po_addProduct_13 rfl 3 rfl ?_
  refine g_iadd (pc := 14) C d_Po_addProduct_14 ?_
  refine g_bipush (pc := 15) C (7 : Int32) d_Po_addProduct_15 (by decide) ?_
  refine g_icmp_ge (pc := 17) C 52 d_Po_addProduct_17 rfl (fun e1 => ?_) (fun e1 => ?_)
  · have h := o_pos e1 h
    refine g_iinc (pc := 52) (q := 3) (lv' := [(3, .int (x3 + 1)), (0, .ref (ad a0)), (1, .ref (ad a1)), (2, .ref (ad a2)), (4, .int x4)]) C d_Po_addProduct_52 rfl rfl (by decide) rfl ?_
    refine g_goto (pc := 55) C 2 d_Po_addProduct_55 rfl ?_
    refine g_lv [1, 2, 3, 0] rfl ?_
    exact hk2 _ _ h
  · have h := o_neg e1 h
    refine g_aload_n (pc := 20) C d_Po_addProduct_20 rfl 0 rfl ?_
    obtain ⟨b2, hnb2, hb2, h⟩ := o_ra h
    refine g_get (pc := 21) (k := 0) (v := va_rf ((N a0 0).map ad)) C gcX6 inX6 (by decide) fl_Po_9 ha0 rfl d_Po_addProduct_21 ?_
    refine g_top (g_rf hnb2) ?_
    refine g_iload (pc := 24) C d_Po_addProduct_24 4 rfl ?_
    refine g_iload_n (pc := 26) C d_Po_addProduct_26 rfl 3 rfl ?_
    refine g_iadd (pc := 27) C d_Po_addProduct_27 ?_
    refine g_dup2 (pc := 28) C d_Po_addProduct_28 rfl rfl ?_
    obtain ⟨hi3, h⟩ := o_gd h
    refine g_lald (pc := 29) C hb2 hi3 d_Po_addProduct_29 ?_
    refine g_aload_n (pc := 30) C d_Po_addProduct_30 rfl 1 rfl ?_
    obtain ⟨b4, hnb4, hb4, h⟩ := o_ra h
    refine g_get (pc := 31) (k := 0) (v := va_rf ((N a1 0).map ad)) C gcX6 inX6 (by decide) fl_Po_9 ha1 rfl d_Po_addProduct_31 ?_
    refine g_top (g_rf hnb4) ?_
    refine g_iload_n (pc := 34) C d_Po_addProduct_34 rfl 3 rfl ?_
    obtain ⟨hi5, h⟩ := o_gd h
    refine g_lald (pc := 35) C hb4 hi5 d_Po_addProduct_35 ?_
    refine g_aload_n (pc := 36) C d_Po_addProduct_36 rfl 2 rfl ?_
    obtain ⟨b6, hnb6, hb6, h⟩ := o_ra h
    refine g_get (pc := 37) (k := 0) (v := va_rf ((N a2 0).map ad)) C gcX6 inX6 (by decide) fl_Po_9 ha2 rfl d_Po_addProduct_37 ?_
    refine g_top (g_rf hnb6) ?_
    refine g_iload (pc := 40) C d_Po_addProduct_40 4 rfl ?_
    obtain ⟨hi7, h⟩ := o_gd h
    refine g_lald (pc := 42) C hb6 hi7 d_Po_addProduct_42 ?_
    refine g_lmul (pc := 43) C d_Po_addProduct_43 ?_
    refine g_ladd (pc := 44) C d_Po_addProduct_44 ?_
    obtain ⟨hi8, h⟩ := o_gd h
    refine g_last (pc := 45) C hb2 hi8 d_Po_addProduct_45 ?_
    obtain ⟨J9, eJ9, h⟩ := o_bd h
    rw [← eJ9]
    refine g_iinc (pc := 46) (q := 4) (lv' := [(4, .int (x4 + 1)), (0, .ref (ad a0)), (1, .ref (ad a1)), (2, .ref (ad a2)), (3, .int x3)]) C d_Po_addProduct_46 rfl rfl (by decide) rfl ?_
    refine g_goto (pc := 49) C 11 d_Po_addProduct_49 rfl ?_
    refine g_lv [1, 2, 3, 4, 0] rfl ?_
    exact hk11 _ _ _ h
set_option maxRecDepth 20000 in
theorem w_Po_addProduct_11 {X : HX} {ad : Nat → Nat} {I : HI} {N : HN} {r : HJ} {k2 : HJ → Int32 → Option (HJ)} {a0 : Nat} {a1 : Nat} {a2 : Nat} (C : Cx X c_Po_addProduct RX6 5 none rm_Po_addProduct) (ha0 : gk Tc nC a0 (0, 6)) (ha1 : gk Tc nC a1 (0, 6)) (ha2 : gk Tc nC a2 (0, 6))
    (hk2 : ∀ (J : HJ) (x3 : Int32), k2 J x3 = some r → G Tc X ad nC 0 0 I J N (gE X Tc ad nC (I, r, N, fun _ => none)) 2 5 [(0, .ref (ad a0)), (1, .ref (ad a1)), (2, .ref (ad a2)), (3, .int x3)] []) : ∀ (n : Nat) (J : HJ) (x3 : Int32) (x4 : Int32), Po_addProduct_11 N a0 a1 a2 k2 n J x3 x4 = some r → G Tc X ad nC 0 0 I J N (gE X Tc ad nC (I, r, N, fun _ => none)) 11 5 [(0, .ref (ad a0)), (1, .ref (ad a1)), (2, .ref (ad a2)), (3, .int x3), (4, .int x4)] [] := by
  intro n
  induction n with
  | zero => intro J x3 x4 h; cases h
  | succ n ih => intro J x3 x4 h; exact w_Po_addProduct_11b C ha0 ha1 ha2 hk2 ih h
set_option maxRecDepth 20000 in
theorem w_Po_addProduct_2b {X : HX} {ad : Nat → Nat} {I : HI} {J : HJ} {N : HN} {r : HJ} {k2 : HJ → Int32 → Option (HJ)} {a0 : Nat} {a1 : Nat} {a2 : Nat} {x3 : Int32} (C : Cx X c_Po_addProduct RX6 5 none rm_Po_addProduct) (ha0 : gk Tc nC a0 (0, 6)) (ha1 : gk Tc nC a1 (0, 6)) (ha2 : gk Tc nC a2 (0, 6))
    (hk2 : ∀ (J : HJ) (x3 : Int32), k2 J x3 = some r → G Tc X ad nC 0 0 I J N (gE X Tc ad nC (I, r, N, fun _ => none)) 2 5 [(0, .ref (ad a0)), (1, .ref (ad a1)), (2, .ref (ad a2)), (3, .int x3)] [])
    (h : Po_addProduct_2b N a0 a1 a2 k2 J x3 = some r) : G Tc X ad nC 0 0 I J N (gE X Tc ad nC (I, r, N, fun _ => none)) 2 5 [(0, .ref (ad a0)), (1, .ref (ad a1)), (2, .ref (ad a2)), (3, .int x3)] [] := by
  refine g_iload_n (pc := 2) C d_Po_addProduct_2 rfl 3 rfl ?_
  refine g_bipush (pc := 3) C (7 : Int32) d_Po_addProduct_3 (by decide) ?_
  refine g_icmp_ge (pc := 5) C 58 d_Po_addProduct_5 rfl (fun e1 => ?_) (fun e1 => ?_)
  · have h := o_pos e1 h
    cases h
    exact g_vret (pc := 58) C d_Po_addProduct_58
  · have h := o_neg e1 h
    refine g_iconst (pc := 8) C (0 : Int32) d_Po_addProduct_8 (by decide) ?_
    refine g_istore (pc := 9) (lv' := [(4, .int (0 : Int32)), (0, .ref (ad a0)), (1, .ref (ad a1)), (2, .ref (ad a2)), (3, .int x3)]) C d_Po_addProduct_9 (by decide) rfl ?_
    refine g_lv [1, 2, 3, 4, 0] rfl ?_
    exact w_Po_addProduct_11 C ha0 ha1 ha2 hk2 _ _ _ _ h
set_option maxRecDepth 20000 in
theorem w_Po_addProduct_2 {X : HX} {ad : Nat → Nat} {I : HI} {N : HN} {r : HJ} {a0 : Nat} {a1 : Nat} {a2 : Nat} (C : Cx X c_Po_addProduct RX6 5 none rm_Po_addProduct) (ha0 : gk Tc nC a0 (0, 6)) (ha1 : gk Tc nC a1 (0, 6)) (ha2 : gk Tc nC a2 (0, 6)) : ∀ (n : Nat) (J : HJ) (x3 : Int32), Po_addProduct_2 N a0 a1 a2 n J x3 = some r → G Tc X ad nC 0 0 I J N (gE X Tc ad nC (I, r, N, fun _ => none)) 2 5 [(0, .ref (ad a0)), (1, .ref (ad a1)), (2, .ref (ad a2)), (3, .int x3)] [] := by
  intro n
  induction n with
  | zero => intro J x3 h; cases h
  | succ n ih => intro J x3 h; exact w_Po_addProduct_2b C ha0 ha1 ha2 ih h
set_option maxRecDepth 20000 in
theorem w_Po_addProduct_0 {X : HX} {ad : Nat → Nat} {I : HI} {J : HJ} {N : HN} {r : HJ} {a0 : Nat} {a1 : Nat} {a2 : Nat} (C : Cx X c_Po_addProduct RX6 5 none rm_Po_addProduct) (ha0 : gk Tc nC a0 (0, 6)) (ha1 : gk Tc nC a1 (0, 6)) (ha2 : gk Tc nC a2 (0, 6))
    (h : Po_addProduct_0 N a0 a1 a2 J = some r) : G Tc X ad nC 0 0 I J N (gE X Tc ad nC (I, r, N, fun _ => none)) 0 5 [(0, .ref (ad a0)), (1, .ref (ad a1)), (2, .ref (ad a2))] [] := by
  refine g_iconst (pc := 0) C (0 : Int32) d_Po_addProduct_0 (by decide) ?_
  refine g_istore_n (pc := 1) (lv' := [(3, .int (0 : Int32)), (0, .ref (ad a0)), (1, .ref (ad a1)), (2, .ref (ad a2))]) C d_Po_addProduct_1 rfl (by decide) rfl ?_
  refine g_lv [1, 2, 3, 0] rfl ?_
  exact w_Po_addProduct_2 C ha0 ha1 ha2 _ _ _ h
set_option maxRecDepth 20000 in
theorem k_Po_addProduct (l : Launch) {I : HI} {J : HJ} {N : HN} {a0 : Nat} {a1 : Nat} {a2 : Nat} {r : HJ} (ha0 : gk Tc nC a0 (0, 6)) (ha1 : gk Tc nC a1 (0, 6)) (ha2 : gk Tc nC a2 (0, 6)) (h : Po_addProduct N a0 a1 a2 J = some r) : gM l y_Po_addProduct c_Po_addProduct 5 none rm_Po_addProduct Tc nC I J N (fun ad => [.ref (ad a0), .ref (ad a1), .ref (ad a2)]) (I, r, N, fun _ => none) :=
  g_meth (lv := fun ad => [(0, .ref (ad a0)), (1, .ref (ad a1)), (2, .ref (ad a2))]) (by decide) (fun _ => Nat.le_of_ble_eq_true rfl) (fun _ => rfl) (fun X ad C => g_lv [0, 1, 2] rfl (w_Po_addProduct_0 C ha0 ha1 ha2 h))
theorem d_Po_load_0 : decode c_Po_load 0 = .ok (.iconst 0, 1) := by decide +kernel
theorem d_Po_load_1 : decode c_Po_load 1 = .ok (.istore_n 2, 1) := by decide +kernel
theorem d_Po_load_2 : decode c_Po_load 2 = .ok (.iload_n 2, 1) := by decide +kernel
theorem d_Po_load_3 : decode c_Po_load 3 = .ok (.bipush 7, 2) := by decide +kernel
theorem d_Po_load_5 : decode c_Po_load 5 = .ok (.if_icmp .ge 21, 3) := by decide +kernel
theorem d_Po_load_8 : decode c_Po_load 8 = .ok (.aload_n 0, 1) := by decide +kernel
theorem d_Po_load_9 : decode c_Po_load 9 = .ok (.getfield 9, 3) := by decide +kernel
theorem d_Po_load_12 : decode c_Po_load 12 = .ok (.iload_n 2, 1) := by decide +kernel
theorem d_Po_load_13 : decode c_Po_load 13 = .ok (.aload_n 1, 1) := by decide +kernel
theorem d_Po_load_14 : decode c_Po_load 14 = .ok (.getfield 9, 3) := by decide +kernel
theorem d_Po_load_17 : decode c_Po_load 17 = .ok (.iload_n 2, 1) := by decide +kernel
theorem d_Po_load_18 : decode c_Po_load 18 = .ok (.laload, 1) := by decide +kernel
theorem d_Po_load_19 : decode c_Po_load 19 = .ok (.lastore, 1) := by decide +kernel
theorem d_Po_load_20 : decode c_Po_load 20 = .ok (.iinc 2 1, 3) := by decide +kernel
theorem d_Po_load_23 : decode c_Po_load 23 = .ok (.goto (-21), 3) := by decide +kernel
theorem d_Po_load_26 : decode c_Po_load 26 = .ok (.return_, 1) := by decide +kernel
set_option maxRecDepth 20000 in
theorem w_Po_load_2b {X : HX} {ad : Nat → Nat} {I : HI} {J : HJ} {N : HN} {r : HJ} {k2 : HJ → Int32 → Option (HJ)} {a0 : Nat} {a1 : Nat} {x2 : Int32} (C : Cx X c_Po_load RX6 3 none rm_Po_load) (ha0 : gk Tc nC a0 (0, 6)) (ha1 : gk Tc nC a1 (0, 6))
    (hk2 : ∀ (J : HJ) (x2 : Int32), k2 J x2 = some r → G Tc X ad nC 0 0 I J N (gE X Tc ad nC (I, r, N, fun _ => none)) 2 3 [(0, .ref (ad a0)), (1, .ref (ad a1)), (2, .int x2)] [])
    (h : Po_load_2b N a0 a1 k2 J x2 = some r) : G Tc X ad nC 0 0 I J N (gE X Tc ad nC (I, r, N, fun _ => none)) 2 3 [(0, .ref (ad a0)), (1, .ref (ad a1)), (2, .int x2)] [] := by
  refine g_iload_n (pc := 2) C d_Po_load_2 rfl 2 rfl ?_
  refine g_bipush (pc := 3) C (7 : Int32) d_Po_load_3 (by decide) ?_
  refine g_icmp_ge (pc := 5) C 26 d_Po_load_5 rfl (fun e1 => ?_) (fun e1 => ?_)
  · have h := o_pos e1 h
    cases h
    exact g_vret (pc := 26) C d_Po_load_26
  · have h := o_neg e1 h
    refine g_aload_n (pc := 8) C d_Po_load_8 rfl 0 rfl ?_
    obtain ⟨b2, hnb2, hb2, h⟩ := o_ra h
    refine g_get (pc := 9) (k := 0) (v := va_rf ((N a0 0).map ad)) C gcX6 inX6 (by decide) fl_Po_9 ha0 rfl d_Po_load_9 ?_
    refine g_top (g_rf hnb2) ?_
    refine g_iload_n (pc := 12) C d_Po_load_12 rfl 2 rfl ?_
    refine g_aload_n (pc := 13) C d_Po_load_13 rfl 1 rfl ?_
    obtain ⟨b3, hnb3, hb3, h⟩ := o_ra h
    refine g_get (pc := 14) (k := 0) (v := va_rf ((N a1 0).map ad)) C gcX6 inX6 (by decide) fl_Po_9 ha1 rfl d_Po_load_14 ?_
    refine g_top (g_rf hnb3) ?_
    refine g_iload_n (pc := 17) C d_Po_load_17 rfl 2 rfl ?_
    obtain ⟨hi4, h⟩ := o_gd h
    refine g_lald (pc := 18) C hb3 hi4 d_Po_load_18 ?_
    obtain ⟨hi5, h⟩ := o_gd h
    refine g_last (pc := 19) C hb2 hi5 d_Po_load_19 ?_
    obtain ⟨J6, eJ6, h⟩ := o_bd h
    rw [← eJ6]
    refine g_iinc (pc := 20) (q := 2) (lv' := [(2, .int (x2 + 1)), (0, .ref (ad a0)), (1, .ref (ad a1))]) C d_Po_load_20 rfl rfl (by decide) rfl ?_
    refine g_goto (pc := 23) C 2 d_Po_load_23 rfl ?_
    refine g_lv [1, 2, 0] rfl ?_
    exact hk2 _ _ h
set_option maxRecDepth 20000 in
theorem w_Po_load_2 {X : HX} {ad : Nat → Nat} {I : HI} {N : HN} {r : HJ} {a0 : Nat} {a1 : Nat} (C : Cx X c_Po_load RX6 3 none rm_Po_load) (ha0 : gk Tc nC a0 (0, 6)) (ha1 : gk Tc nC a1 (0, 6)) : ∀ (n : Nat) (J : HJ) (x2 : Int32), Po_load_2 N a0 a1 n J x2 = some r → G Tc X ad nC 0 0 I J N (gE X Tc ad nC (I, r, N, fun _ => none)) 2 3 [(0, .ref (ad a0)), (1, .ref (ad a1)), (2, .int x2)] [] := by
  intro n
  induction n with
  | zero => intro J x2 h; cases h
  | succ n ih => intro J x2 h; exact w_Po_load_2b C ha0 ha1 ih h
set_option maxRecDepth 20000 in
theorem w_Po_load_0 {X : HX} {ad : Nat → Nat} {I : HI} {J : HJ} {N : HN} {r : HJ} {a0 : Nat} {a1 : Nat} (C : Cx X c_Po_load RX6 3 none rm_Po_load) (ha0 : gk Tc nC a0 (0, 6)) (ha1 : gk Tc nC a1 (0, 6))
    (h : Po_load_0 N a0 a1 J = some r) : G Tc X ad nC 0 0 I J N (gE X Tc ad nC (I, r, N, fun _ => none)) 0 3 [(0, .ref (ad a0)), (1, .ref (ad a1))] [] := by
  refine g_iconst (pc := 0) C (0 : Int32) d_Po_load_0 (by decide) ?_
  refine g_istore_n (pc := 1) (lv' := [(2, .int (0 : Int32)), (0, .ref (ad a0)), (1, .ref (ad a1))]) C d_Po_load_1 rfl (by decide) rfl ?_
  refine g_lv [1, 2, 0] rfl ?_
  exact w_Po_load_2 C ha0 ha1 _ _ _ h
set_option maxRecDepth 20000 in
theorem k_Po_load (l : Launch) {I : HI} {J : HJ} {N : HN} {a0 : Nat} {a1 : Nat} {r : HJ} (ha0 : gk Tc nC a0 (0, 6)) (ha1 : gk Tc nC a1 (0, 6)) (h : Po_load N a0 a1 J = some r) : gM l y_Po_load c_Po_load 3 none rm_Po_load Tc nC I J N (fun ad => [.ref (ad a0), .ref (ad a1)]) (I, r, N, fun _ => none) :=
  g_meth (lv := fun ad => [(0, .ref (ad a0)), (1, .ref (ad a1))]) (by decide) (fun _ => Nat.le_of_ble_eq_true rfl) (fun _ => rfl) (fun X ad C => g_lv [0, 1] rfl (w_Po_load_0 C ha0 ha1 h))
theorem d_Po_at_0 : decode c_Po_at 0 = .ok (.iload_n 1, 1) := by decide +kernel
theorem d_Po_at_1 : decode c_Po_at 1 = .ok (.ifCond .lt 18, 3) := by decide +kernel
theorem d_Po_at_4 : decode c_Po_at 4 = .ok (.iload_n 1, 1) := by decide +kernel
theorem d_Po_at_5 : decode c_Po_at 5 = .ok (.bipush 7, 2) := by decide +kernel
theorem d_Po_at_7 : decode c_Po_at 7 = .ok (.if_icmp .ge 12, 3) := by decide +kernel
theorem d_Po_at_10 : decode c_Po_at 10 = .ok (.aload_n 0, 1) := by decide +kernel
theorem d_Po_at_11 : decode c_Po_at 11 = .ok (.getfield 9, 3) := by decide +kernel
theorem d_Po_at_14 : decode c_Po_at 14 = .ok (.iload_n 1, 1) := by decide +kernel
theorem d_Po_at_15 : decode c_Po_at 15 = .ok (.laload, 1) := by decide +kernel
theorem d_Po_at_16 : decode c_Po_at 16 = .ok (.goto 4, 3) := by decide +kernel
theorem d_Po_at_19 : decode c_Po_at 19 = .ok (.lconst 0, 1) := by decide +kernel
theorem d_Po_at_20 : decode c_Po_at 20 = .ok (.lreturn, 1) := by decide +kernel
set_option maxRecDepth 20000 in
theorem w_Po_at_0 {X : HX} {ad : Nat → Nat} {I : HI} {J : HJ} {N : HN} {r : Int64} {a0 : Nat} {p1 : Int32} (C : Cx X c_Po_at RX6 2 (some .long) rm_Po_at) (ha0 : gk Tc nC a0 (0, 6))
    (h : Po_at_0 J N a0 p1 = some r) : G Tc X ad nC 0 0 I J N (gE X Tc ad nC (I, J, N, fun _ => some (.long r))) 0 2 [(0, .ref (ad a0)), (1, .int p1)] [] := by
  refine g_iload_n (pc := 0) C d_Po_at_0 rfl 1 rfl ?_
  refine g_if_lt (pc := 1) C 19 d_Po_at_1 rfl (fun e1 => ?_) (fun e1 => ?_)
  · have h := o_pos e1 h
    refine g_lconst (pc := 19) C (0 : Int64) d_Po_at_19 (by decide) ?_
    cases h
    exact g_lret (pc := 20) C d_Po_at_20
  · have h := o_neg e1 h
    refine g_iload_n (pc := 4) C d_Po_at_4 rfl 1 rfl ?_
    refine g_bipush (pc := 5) C (7 : Int32) d_Po_at_5 (by decide) ?_
    refine g_icmp_ge (pc := 7) C 19 d_Po_at_7 rfl (fun e2 => ?_) (fun e2 => ?_)
    · have h := o_pos e2 h
      refine g_lconst (pc := 19) C (0 : Int64) d_Po_at_19 (by decide) ?_
      cases h
      exact g_lret (pc := 20) C d_Po_at_20
    · have h := o_neg e2 h
      refine g_aload_n (pc := 10) C d_Po_at_10 rfl 0 rfl ?_
      obtain ⟨b3, hnb3, hb3, h⟩ := o_ra h
      refine g_get (pc := 11) (k := 0) (v := va_rf ((N a0 0).map ad)) C gcX6 inX6 (by decide) fl_Po_9 ha0 rfl d_Po_at_11 ?_
      refine g_top (g_rf hnb3) ?_
      refine g_iload_n (pc := 14) C d_Po_at_14 rfl 1 rfl ?_
      obtain ⟨hi4, h⟩ := o_gd h
      refine g_lald (pc := 15) C hb3 hi4 d_Po_at_15 ?_
      refine g_goto (pc := 16) C 20 d_Po_at_16 rfl ?_
      cases h
      exact g_lret (pc := 20) C d_Po_at_20
set_option maxRecDepth 20000 in
theorem k_Po_at (l : Launch) {I : HI} {J : HJ} {N : HN} {a0 : Nat} {p1 : Int32} {r : Int64} (ha0 : gk Tc nC a0 (0, 6)) (h : Po_at J N a0 p1 = some r) : gM l y_Po_at c_Po_at 2 (some .long) rm_Po_at Tc nC I J N (fun ad => [.ref (ad a0), .int p1]) (I, J, N, fun _ => some (.long r)) :=
  g_meth (lv := fun ad => [(0, .ref (ad a0)), (1, .int p1)]) (by decide) (fun _ => Nat.le_of_ble_eq_true rfl) (fun _ => rfl) (fun X ad C => g_lv [0, 1] rfl (w_Po_at_0 C ha0 h))
theorem d_Po_degree_0 : decode c_Po_degree 0 = .ok (.bipush 6, 2) := by decide +kernel
theorem d_Po_degree_2 : decode c_Po_degree 2 = .ok (.istore_n 1, 1) := by decide +kernel
theorem d_Po_degree_3 : decode c_Po_degree 3 = .ok (.iload_n 1, 1) := by decide +kernel
theorem d_Po_degree_4 : decode c_Po_degree 4 = .ok (.ifCond .lt 22, 3) := by decide +kernel
theorem d_Po_degree_7 : decode c_Po_degree 7 = .ok (.aload_n 0, 1) := by decide +kernel
theorem d_Po_degree_8 : decode c_Po_degree 8 = .ok (.getfield 9, 3) := by decide +kernel
theorem d_Po_degree_11 : decode c_Po_degree 11 = .ok (.iload_n 1, 1) := by decide +kernel
theorem d_Po_degree_12 : decode c_Po_degree 12 = .ok (.laload, 1) := by decide +kernel
theorem d_Po_degree_13 : decode c_Po_degree 13 = .ok (.lconst 0, 1) := by decide +kernel
theorem d_Po_degree_14 : decode c_Po_degree 14 = .ok (.lcmp, 1) := by decide +kernel
theorem d_Po_degree_15 : decode c_Po_degree 15 = .ok (.ifCond .eq 5, 3) := by decide +kernel
theorem d_Po_degree_18 : decode c_Po_degree 18 = .ok (.iload_n 1, 1) := by decide +kernel
theorem d_Po_degree_19 : decode c_Po_degree 19 = .ok (.ireturn, 1) := by decide +kernel
theorem d_Po_degree_20 : decode c_Po_degree 20 = .ok (.iinc 1 (-1), 3) := by decide +kernel
theorem d_Po_degree_23 : decode c_Po_degree 23 = .ok (.goto (-20), 3) := by decide +kernel
theorem d_Po_degree_26 : decode c_Po_degree 26 = .ok (.iconst (-1), 1) := by decide +kernel
theorem d_Po_degree_27 : decode c_Po_degree 27 = .ok (.ireturn, 1) := by decide +kernel
set_option maxRecDepth 20000 in
theorem w_Po_degree_3b {X : HX} {ad : Nat → Nat} {I : HI} {J : HJ} {N : HN} {r : Int32} {k3 : Int32 → Option (Int32)} {a0 : Nat} {x1 : Int32} (C : Cx X c_Po_degree RX6 2 (some .int) rm_Po_degree) (ha0 : gk Tc nC a0 (0, 6))
    (hk3 : ∀ (x1 : Int32), k3 x1 = some r → G Tc X ad nC 0 0 I J N (gE X Tc ad nC (I, J, N, fun _ => some (.int r))) 3 2 [(0, .ref (ad a0)), (1, .int x1)] [])
    (h : Po_degree_3b J N a0 k3 x1 = some r) : G Tc X ad nC 0 0 I J N (gE X Tc ad nC (I, J, N, fun _ => some (.int r))) 3 2 [(0, .ref (ad a0)), (1, .int x1)] [] := by
  refine g_iload_n (pc := 3) C d_Po_degree_3 rfl 1 rfl ?_
  refine g_if_lt (pc := 4) C 26 d_Po_degree_4 rfl (fun e1 => ?_) (fun e1 => ?_)
  · have h := o_pos e1 h
    refine g_iconst (pc := 26) C (-1 : Int32) d_Po_degree_26 (by decide) ?_
    cases h
    exact g_iret (pc := 27) C d_Po_degree_27
  · have h := o_neg e1 h
    refine g_aload_n (pc := 7) C d_Po_degree_7 rfl 0 rfl ?_
    obtain ⟨b2, hnb2, hb2, h⟩ := o_ra h
    refine g_get (pc := 8) (k := 0) (v := va_rf ((N a0 0).map ad)) C gcX6 inX6 (by decide) fl_Po_9 ha0 rfl d_Po_degree_8 ?_
    refine g_top (g_rf hnb2) ?_
    refine g_iload_n (pc := 11) C d_Po_degree_11 rfl 1 rfl ?_
    obtain ⟨hi3, h⟩ := o_gd h
    refine g_lald (pc := 12) C hb2 hi3 d_Po_degree_12 ?_
    refine g_lconst (pc := 13) C (0 : Int64) d_Po_degree_13 (by decide) ?_
    refine g_lcmp_eq (pc := 14) C 20 d_Po_degree_14 d_Po_degree_15 rfl (fun e4 => ?_) (fun e4 => ?_)
    · have h := o_pos e4 h
      refine g_iinc (pc := 20) (q := 1) (lv' := [(1, .int (x1 + (-1))), (0, .ref (ad a0))]) C d_Po_degree_20 rfl rfl (by decide) rfl ?_
      refine g_goto (pc := 23) C 3 d_Po_degree_23 rfl ?_
      refine g_lv [1, 0] rfl ?_
      exact hk3 _ h
    · have h := o_neg e4 h
      refine g_iload_n (pc := 18) C d_Po_degree_18 rfl 1 rfl ?_
      cases h
      exact g_iret (pc := 19) C d_Po_degree_19
set_option maxRecDepth 20000 in
theorem w_Po_degree_3 {X : HX} {ad : Nat → Nat} {I : HI} {J : HJ} {N : HN} {r : Int32} {a0 : Nat} (C : Cx X c_Po_degree RX6 2 (some .int) rm_Po_degree) (ha0 : gk Tc nC a0 (0, 6)) : ∀ (n : Nat) (x1 : Int32), Po_degree_3 J N a0 n x1 = some r → G Tc X ad nC 0 0 I J N (gE X Tc ad nC (I, J, N, fun _ => some (.int r))) 3 2 [(0, .ref (ad a0)), (1, .int x1)] [] := by
  intro n
  induction n with
  | zero => intro x1 h; cases h
  | succ n ih => intro x1 h; exact w_Po_degree_3b C ha0 ih h
set_option maxRecDepth 20000 in
theorem w_Po_degree_0 {X : HX} {ad : Nat → Nat} {I : HI} {J : HJ} {N : HN} {r : Int32} {a0 : Nat} (C : Cx X c_Po_degree RX6 2 (some .int) rm_Po_degree) (ha0 : gk Tc nC a0 (0, 6))
    (h : Po_degree_0 J N a0 = some r) : G Tc X ad nC 0 0 I J N (gE X Tc ad nC (I, J, N, fun _ => some (.int r))) 0 2 [(0, .ref (ad a0))] [] := by
  refine g_bipush (pc := 0) C (6 : Int32) d_Po_degree_0 (by decide) ?_
  refine g_istore_n (pc := 2) (lv' := [(1, .int (6 : Int32)), (0, .ref (ad a0))]) C d_Po_degree_2 rfl (by decide) rfl ?_
  refine g_lv [1, 0] rfl ?_
  exact w_Po_degree_3 C ha0 _ _ h
set_option maxRecDepth 20000 in
theorem k_Po_degree (l : Launch) {I : HI} {J : HJ} {N : HN} {a0 : Nat} {r : Int32} (ha0 : gk Tc nC a0 (0, 6)) (h : Po_degree J N a0 = some r) : gM l y_Po_degree c_Po_degree 2 (some .int) rm_Po_degree Tc nC I J N (fun ad => [.ref (ad a0)]) (I, J, N, fun _ => some (.int r)) :=
  g_meth (lv := fun ad => [(0, .ref (ad a0))]) (by decide) (fun _ => Nat.le_of_ble_eq_true rfl) (fun _ => rfl) (fun X ad C => g_lv [0] rfl (w_Po_degree_0 C ha0 h))
theorem d_Po_divideBy_0 : decode c_Po_divideBy 0 = .ok (.iconst 0, 1) := by decide +kernel
theorem d_Po_divideBy_1 : decode c_Po_divideBy 1 = .ok (.istore_n 3, 1) := by decide +kernel
theorem d_Po_divideBy_2 : decode c_Po_divideBy 2 = .ok (.iload_n 3, 1) := by decide +kernel
theorem d_Po_divideBy_3 : decode c_Po_divideBy 3 = .ok (.bipush 7, 2) := by decide +kernel
theorem d_Po_divideBy_5 : decode c_Po_divideBy 5 = .ok (.if_icmp .ge 25, 3) := by decide +kernel
theorem d_Po_divideBy_8 : decode c_Po_divideBy 8 = .ok (.lload_n 1, 1) := by decide +kernel
theorem d_Po_divideBy_9 : decode c_Po_divideBy 9 = .ok (.lconst 0, 1) := by decide +kernel
theorem d_Po_divideBy_10 : decode c_Po_divideBy 10 = .ok (.lcmp, 1) := by decide +kernel
theorem d_Po_divideBy_11 : decode c_Po_divideBy 11 = .ok (.ifCond .eq 19, 3) := by decide +kernel
theorem d_Po_divideBy_14 : decode c_Po_divideBy 14 = .ok (.aload_n 0, 1) := by decide +kernel
theorem d_Po_divideBy_15 : decode c_Po_divideBy 15 = .ok (.getfield 9, 3) := by decide +kernel
theorem d_Po_divideBy_18 : decode c_Po_divideBy 18 = .ok (.iload_n 3, 1) := by decide +kernel
theorem d_Po_divideBy_19 : decode c_Po_divideBy 19 = .ok (.dup2, 1) := by decide +kernel
theorem d_Po_divideBy_20 : decode c_Po_divideBy 20 = .ok (.laload, 1) := by decide +kernel
theorem d_Po_divideBy_21 : decode c_Po_divideBy 21 = .ok (.lload_n 1, 1) := by decide +kernel
theorem d_Po_divideBy_22 : decode c_Po_divideBy 22 = .ok (.ldiv, 1) := by decide +kernel
theorem d_Po_divideBy_23 : decode c_Po_divideBy 23 = .ok (.lastore, 1) := by decide +kernel
theorem d_Po_divideBy_24 : decode c_Po_divideBy 24 = .ok (.iinc 3 1, 3) := by decide +kernel
theorem d_Po_divideBy_27 : decode c_Po_divideBy 27 = .ok (.goto (-25), 3) := by decide +kernel
theorem d_Po_divideBy_30 : decode c_Po_divideBy 30 = .ok (.return_, 1) := by decide +kernel
set_option maxRecDepth 20000 in
theorem w_Po_divideBy_2b {X : HX} {ad : Nat → Nat} {I : HI} {J : HJ} {N : HN} {r : HJ} {k2 : HJ → Int32 → Option (HJ)} {a0 : Nat} {p1 : Int64} {x3 : Int32} (C : Cx X c_Po_divideBy RX6 4 none rm_Po_divideBy) (ha0 : gk Tc nC a0 (0, 6))
    (hk2 : ∀ (J : HJ) (x3 : Int32), k2 J x3 = some r → G Tc X ad nC 0 0 I J N (gE X Tc ad nC (I, r, N, fun _ => none)) 2 4 [(0, .ref (ad a0)), (1, .long p1), (3, .int x3)] [])
    (h : Po_divideBy_2b N a0 p1 k2 J x3 = some r) : G Tc X ad nC 0 0 I J N (gE X Tc ad nC (I, r, N, fun _ => none)) 2 4 [(0, .ref (ad a0)), (1, .long p1), (3, .int x3)] [] := by
  refine g_iload_n (pc := 2) C d_Po_divideBy_2 rfl 2 rfl ?_
  refine g_bipush (pc := 3) C (7 : Int32) d_Po_divideBy_3 (by decide) ?_
  refine g_icmp_ge (pc := 5) C 30 d_Po_divideBy_5 rfl (fun e1 => ?_) (fun e1 => ?_)
  · have h := o_pos e1 h
    cases h
    exact g_vret (pc := 30) C d_Po_divideBy_30
  · have h := o_neg e1 h
    refine g_lload_n (pc := 8) C d_Po_divideBy_8 rfl 1 rfl ?_
    refine g_lconst (pc := 9) C (0 : Int64) d_Po_divideBy_9 (by decide) ?_
    refine g_lcmp_eq (pc := 10) C 30 d_Po_divideBy_10 d_Po_divideBy_11 rfl (fun e2 => ?_) (fun e2 => ?_)
    · have h := o_pos e2 h
      cases h
      exact g_vret (pc := 30) C d_Po_divideBy_30
    · have h := o_neg e2 h
      refine g_aload_n (pc := 14) C d_Po_divideBy_14 rfl 0 rfl ?_
      obtain ⟨b3, hnb3, hb3, h⟩ := o_ra h
      refine g_get (pc := 15) (k := 0) (v := va_rf ((N a0 0).map ad)) C gcX6 inX6 (by decide) fl_Po_9 ha0 rfl d_Po_divideBy_15 ?_
      refine g_top (g_rf hnb3) ?_
      refine g_iload_n (pc := 18) C d_Po_divideBy_18 rfl 2 rfl ?_
      refine g_dup2 (pc := 19) C d_Po_divideBy_19 rfl rfl ?_
      obtain ⟨hi4, h⟩ := o_gd h
      refine g_lald (pc := 20) C hb3 hi4 d_Po_divideBy_20 ?_
      refine g_lload_n (pc := 21) C d_Po_divideBy_21 rfl 1 rfl ?_
      obtain ⟨hz5, h⟩ := o_gd h
      refine g_ldiv (pc := 22) C d_Po_divideBy_22 (of_decide_eq_true hz5) ?_
      obtain ⟨hi6, h⟩ := o_gd h
      refine g_last (pc := 23) C hb3 hi6 d_Po_divideBy_23 ?_
      obtain ⟨J7, eJ7, h⟩ := o_bd h
      rw [← eJ7]
      refine g_iinc (pc := 24) (q := 2) (lv' := [(3, .int (x3 + 1)), (0, .ref (ad a0)), (1, .long p1)]) C d_Po_divideBy_24 rfl rfl (by decide) rfl ?_
      refine g_goto (pc := 27) C 2 d_Po_divideBy_27 rfl ?_
      refine g_lv [1, 2, 0] rfl ?_
      exact hk2 _ _ h
set_option maxRecDepth 20000 in
theorem w_Po_divideBy_2 {X : HX} {ad : Nat → Nat} {I : HI} {N : HN} {r : HJ} {a0 : Nat} {p1 : Int64} (C : Cx X c_Po_divideBy RX6 4 none rm_Po_divideBy) (ha0 : gk Tc nC a0 (0, 6)) : ∀ (n : Nat) (J : HJ) (x3 : Int32), Po_divideBy_2 N a0 p1 n J x3 = some r → G Tc X ad nC 0 0 I J N (gE X Tc ad nC (I, r, N, fun _ => none)) 2 4 [(0, .ref (ad a0)), (1, .long p1), (3, .int x3)] [] := by
  intro n
  induction n with
  | zero => intro J x3 h; cases h
  | succ n ih => intro J x3 h; exact w_Po_divideBy_2b C ha0 ih h
set_option maxRecDepth 20000 in
theorem w_Po_divideBy_0 {X : HX} {ad : Nat → Nat} {I : HI} {J : HJ} {N : HN} {r : HJ} {a0 : Nat} {p1 : Int64} (C : Cx X c_Po_divideBy RX6 4 none rm_Po_divideBy) (ha0 : gk Tc nC a0 (0, 6))
    (h : Po_divideBy_0 N a0 p1 J = some r) : G Tc X ad nC 0 0 I J N (gE X Tc ad nC (I, r, N, fun _ => none)) 0 4 [(0, .ref (ad a0)), (1, .long p1)] [] := by
  refine g_iconst (pc := 0) C (0 : Int32) d_Po_divideBy_0 (by decide) ?_
  refine g_istore_n (pc := 1) (lv' := [(3, .int (0 : Int32)), (0, .ref (ad a0)), (1, .long p1)]) C d_Po_divideBy_1 rfl (by decide) rfl ?_
  refine g_lv [1, 2, 0] rfl ?_
  exact w_Po_divideBy_2 C ha0 _ _ _ h
set_option maxRecDepth 20000 in
theorem k_Po_divideBy (l : Launch) {I : HI} {J : HJ} {N : HN} {a0 : Nat} {p1 : Int64} {r : HJ} (ha0 : gk Tc nC a0 (0, 6)) (h : Po_divideBy N a0 p1 J = some r) : gM l y_Po_divideBy c_Po_divideBy 4 none rm_Po_divideBy Tc nC I J N (fun ad => [.ref (ad a0), .long p1]) (I, r, N, fun _ => none) :=
  g_meth (lv := fun ad => [(0, .ref (ad a0)), (1, .long p1)]) (by decide) (fun _ => Nat.le_of_ble_eq_true rfl) (fun _ => rfl) (fun X ad C => g_lv [0, 1] rfl (w_Po_divideBy_0 C ha0 h))
theorem d_Po_isOfParity_0 : decode c_Po_isOfParity 0 = .ok (.iconst 0, 1) := by decide +kernel
theorem d_Po_isOfParity_1 : decode c_Po_isOfParity 1 = .ok (.istore_n 2, 1) := by decide +kernel
theorem d_Po_isOfParity_2 : decode c_Po_isOfParity 2 = .ok (.iconst 0, 1) := by decide +kernel
theorem d_Po_isOfParity_3 : decode c_Po_isOfParity 3 = .ok (.istore_n 3, 1) := by decide +kernel
theorem d_Po_isOfParity_4 : decode c_Po_isOfParity 4 = .ok (.iload_n 3, 1) := by decide +kernel
theorem d_Po_isOfParity_5 : decode c_Po_isOfParity 5 = .ok (.bipush 7, 2) := by decide +kernel
theorem d_Po_isOfParity_7 : decode c_Po_isOfParity 7 = .ok (.if_icmp .ge 31, 3) := by decide +kernel
theorem d_Po_isOfParity_10 : decode c_Po_isOfParity 10 = .ok (.aload_n 0, 1) := by decide +kernel
theorem d_Po_isOfParity_11 : decode c_Po_isOfParity 11 = .ok (.getfield 9, 3) := by decide +kernel
theorem d_Po_isOfParity_14 : decode c_Po_isOfParity 14 = .ok (.iload_n 3, 1) := by decide +kernel
theorem d_Po_isOfParity_15 : decode c_Po_isOfParity 15 = .ok (.laload, 1) := by decide +kernel
theorem d_Po_isOfParity_16 : decode c_Po_isOfParity 16 = .ok (.lconst 0, 1) := by decide +kernel
theorem d_Po_isOfParity_17 : decode c_Po_isOfParity 17 = .ok (.lcmp, 1) := by decide +kernel
theorem d_Po_isOfParity_18 : decode c_Po_isOfParity 18 = .ok (.ifCond .eq 14, 3) := by decide +kernel
theorem d_Po_isOfParity_21 : decode c_Po_isOfParity 21 = .ok (.iload_n 3, 1) := by decide +kernel
theorem d_Po_isOfParity_22 : decode c_Po_isOfParity 22 = .ok (.iconst 2, 1) := by decide +kernel
theorem d_Po_isOfParity_23 : decode c_Po_isOfParity 23 = .ok (.irem, 1) := by decide +kernel
theorem d_Po_isOfParity_24 : decode c_Po_isOfParity 24 = .ok (.iload_n 1, 1) := by decide +kernel
theorem d_Po_isOfParity_25 : decode c_Po_isOfParity 25 = .ok (.if_icmp .eq 5, 3) := by decide +kernel
theorem d_Po_isOfParity_28 : decode c_Po_isOfParity 28 = .ok (.iconst 0, 1) := by decide +kernel
theorem d_Po_isOfParity_29 : decode c_Po_isOfParity 29 = .ok (.ireturn, 1) := by decide +kernel
theorem d_Po_isOfParity_30 : decode c_Po_isOfParity 30 = .ok (.iconst 1, 1) := by decide +kernel
theorem d_Po_isOfParity_31 : decode c_Po_isOfParity 31 = .ok (.istore_n 2, 1) := by decide +kernel
theorem d_Po_isOfParity_32 : decode c_Po_isOfParity 32 = .ok (.iinc 3 1, 3) := by decide +kernel
theorem d_Po_isOfParity_35 : decode c_Po_isOfParity 35 = .ok (.goto (-31), 3) := by decide +kernel
theorem d_Po_isOfParity_38 : decode c_Po_isOfParity 38 = .ok (.iload_n 2, 1) := by decide +kernel
theorem d_Po_isOfParity_39 : decode c_Po_isOfParity 39 = .ok (.ireturn, 1) := by decide +kernel
set_option maxRecDepth 20000 in
theorem w_Po_isOfParity_32 {X : HX} {ad : Nat → Nat} {I : HI} {J : HJ} {N : HN} {r : Int32} {k4 : Int32 → Int32 → Option (Int32)} {a0 : Nat} {p1 : Int32} {x2 : Int32} {x3 : Int32} (C : Cx X c_Po_isOfParity RX6 4 (some .boolean) rm_Po_isOfParity) (ha0 : gk Tc nC a0 (0, 6))
    (hk4 : ∀ (x2 : Int32) (x3 : Int32), k4 x2 x3 = some r → G Tc X ad nC 0 0 I J N (gE X Tc ad nC (I, J, N, fun _ => some (.int r))) 4 4 [(0, .ref (ad a0)), (1, .int p1), (2, .int x2), (3, .int x3)] [])
    (h : Po_isOfParity_32 J N a0 p1 k4 x2 x3 = some r) : G Tc X ad nC 0 0 I J N (gE X Tc ad nC (I, J, N, fun _ => some (.int r))) 32 4 [(0, .ref (ad a0)), (1, .int p1), (2, .int x2), (3, .int x3)] [] := by
  refine g_iinc (pc := 32) (q := 3) (lv' := [(3, .int (x3 + 1)), (0, .ref (ad a0)), (1, .int p1), (2, .int x2)]) C d_Po_isOfParity_32 rfl rfl (by decide) rfl ?_
  refine g_goto (pc := 35) C 4 d_Po_isOfParity_35 rfl ?_
  refine g_lv [1, 2, 3, 0] rfl ?_
  exact hk4 _ _ h
set_option maxRecDepth 20000 in
theorem w_Po_isOfParity_4b {X : HX} {ad : Nat → Nat} {I : HI} {J : HJ} {N : HN} {r : Int32} {k4 : Int32 → Int32 → Option (Int32)} {a0 : Nat} {p1 : Int32} {x2 : Int32} {x3 : Int32} (C : Cx X c_Po_isOfParity RX6 4 (some .boolean) rm_Po_isOfParity) (ha0 : gk Tc nC a0 (0, 6))
    (hk4 : ∀ (x2 : Int32) (x3 : Int32), k4 x2 x3 = some r → G Tc X ad nC 0 0 I J N (gE X Tc ad nC (I, J, N, fun _ => some (.int r))) 4 4 [(0, .ref (ad a0)), (1, .int p1), (2, .int x2), (3, .int x3)] [])
    (h : Po_isOfParity_4b J N a0 p1 k4 x2 x3 = some r) : G Tc X ad nC 0 0 I J N (gE X Tc ad nC (I, J, N, fun _ => some (.int r))) 4 4 [(0, .ref (ad a0)), (1, .int p1), (2, .int x2), (3, .int x3)] [] := by
  refine g_iload_n (pc := 4) C d_Po_isOfParity_4 rfl 3 rfl ?_
  refine g_bipush (pc := 5) C (7 : Int32) d_Po_isOfParity_5 (by decide) ?_
  refine g_icmp_ge (pc := 7) C 38 d_Po_isOfParity_7 rfl (fun e1 => ?_) (fun e1 => ?_)
  · have h := o_pos e1 h
    refine g_iload_n (pc := 38) C d_Po_isOfParity_38 rfl 2 rfl ?_
    obtain ⟨hz2, h⟩ := o_gd h
    cases h
    exact g_zret (pc := 39) C (zn_B hz2) d_Po_isOfParity_39
  · have h := o_neg e1 h
    refine g_aload_n (pc := 10) C d_Po_isOfParity_10 rfl 0 rfl ?_
    obtain ⟨b3, hnb3, hb3, h⟩ := o_ra h
    refine g_get (pc := 11) (k := 0) (v := va_rf ((N a0 0).map ad)) C gcX6 inX6 (by decide) fl_Po_9 ha0 rfl d_Po_isOfParity_11 ?_
    refine g_top (g_rf hnb3) ?_
    refine g_iload_n (pc := 14) C d_Po_isOfParity_14 rfl 3 rfl ?_
    obtain ⟨hi4, h⟩ := o_gd h
    refine g_lald (pc := 15) C hb3 hi4 d_Po_isOfParity_15 ?_
    refine g_lconst (pc := 16) C (0 : Int64) d_Po_isOfParity_16 (by decide) ?_
    refine g_lcmp_eq (pc := 17) C 32 d_Po_isOfParity_17 d_Po_isOfParity_18 rfl (fun e5 => ?_) (fun e5 => ?_)
    · have h := o_pos e5 h
      refine g_lv [0, 1, 2, 3] rfl ?_
      exact w_Po_isOfParity_32 C ha0 hk4 h
    · have h := o_neg e5 h
      refine g_iload_n (pc := 21) C d_Po_isOfParity_21 rfl 3 rfl ?_
      refine g_iconst (pc := 22) C (2 : Int32) d_Po_isOfParity_22 (by decide) ?_
      refine g_irem (pc := 23) C d_Po_isOfParity_23 (by decide) ?_
      refine g_iload_n (pc := 24) C d_Po_isOfParity_24 rfl 1 rfl ?_
      refine g_icmp_eq (pc := 25) C 30 d_Po_isOfParity_25 rfl (fun e6 => ?_) (fun e6 => ?_)
      · have h := o_pos e6 h
        refine g_iconst (pc := 30) C (1 : Int32) d_Po_isOfParity_30 (by decide) ?_
        refine g_istore_n (pc := 31) (lv' := [(2, .int (1 : Int32)), (0, .ref (ad a0)), (1, .int p1), (3, .int x3)]) C d_Po_isOfParity_31 rfl (by decide) rfl ?_
        refine g_lv [1, 2, 0, 3] rfl ?_
        exact w_Po_isOfParity_32 C ha0 hk4 h
      · have h := o_neg e6 h
        refine g_iconst (pc := 28) C (0 : Int32) d_Po_isOfParity_28 (by decide) ?_
        cases h
        exact g_zret (pc := 29) C zn_0 d_Po_isOfParity_29
set_option maxRecDepth 20000 in
theorem w_Po_isOfParity_4 {X : HX} {ad : Nat → Nat} {I : HI} {J : HJ} {N : HN} {r : Int32} {a0 : Nat} {p1 : Int32} (C : Cx X c_Po_isOfParity RX6 4 (some .boolean) rm_Po_isOfParity) (ha0 : gk Tc nC a0 (0, 6)) : ∀ (n : Nat) (x2 : Int32) (x3 : Int32), Po_isOfParity_4 J N a0 p1 n x2 x3 = some r → G Tc X ad nC 0 0 I J N (gE X Tc ad nC (I, J, N, fun _ => some (.int r))) 4 4 [(0, .ref (ad a0)), (1, .int p1), (2, .int x2), (3, .int x3)] [] := by
  intro n
  induction n with
  | zero => intro x2 x3 h; cases h
  | succ n ih => intro x2 x3 h; exact w_Po_isOfParity_4b C ha0 ih h
set_option maxRecDepth 20000 in
theorem w_Po_isOfParity_0 {X : HX} {ad : Nat → Nat} {I : HI} {J : HJ} {N : HN} {r : Int32} {a0 : Nat} {p1 : Int32} (C : Cx X c_Po_isOfParity RX6 4 (some .boolean) rm_Po_isOfParity) (ha0 : gk Tc nC a0 (0, 6))
    (h : Po_isOfParity_0 J N a0 p1 = some r) : G Tc X ad nC 0 0 I J N (gE X Tc ad nC (I, J, N, fun _ => some (.int r))) 0 4 [(0, .ref (ad a0)), (1, .int p1)] [] := by
  refine g_iconst (pc := 0) C (0 : Int32) d_Po_isOfParity_0 (by decide) ?_
  refine g_istore_n (pc := 1) (lv' := [(2, .int (0 : Int32)), (0, .ref (ad a0)), (1, .int p1)]) C d_Po_isOfParity_1 rfl (by decide) rfl ?_
  refine g_iconst (pc := 2) C (0 : Int32) d_Po_isOfParity_2 (by decide) ?_
  refine g_istore_n (pc := 3) (lv' := [(3, .int (0 : Int32)), (2, .int (0 : Int32)), (0, .ref (ad a0)), (1, .int p1)]) C d_Po_isOfParity_3 rfl (by decide) rfl ?_
  refine g_lv [2, 3, 1, 0] rfl ?_
  exact w_Po_isOfParity_4 C ha0 _ _ _ h
set_option maxRecDepth 20000 in
theorem k_Po_isOfParity (l : Launch) {I : HI} {J : HJ} {N : HN} {a0 : Nat} {p1 : Int32} {r : Int32} (ha0 : gk Tc nC a0 (0, 6)) (h : Po_isOfParity J N a0 p1 = some r) : gM l y_Po_isOfParity c_Po_isOfParity 4 (some .boolean) rm_Po_isOfParity Tc nC I J N (fun ad => [.ref (ad a0), .int p1]) (I, J, N, fun _ => some (.int r)) :=
  g_meth (lv := fun ad => [(0, .ref (ad a0)), (1, .int p1)]) (by decide) (fun _ => Nat.le_of_ble_eq_true rfl) (fun _ => rfl) (fun X ad C => g_lv [0, 1] rfl (w_Po_isOfParity_0 C ha0 h))
theorem d_Po_multiplyBy_0 : decode c_Po_multiplyBy 0 = .ok (.iconst 0, 1) := by decide +kernel
theorem d_Po_multiplyBy_1 : decode c_Po_multiplyBy 1 = .ok (.istore_n 3, 1) := by decide +kernel
theorem d_Po_multiplyBy_2 : decode c_Po_multiplyBy 2 = .ok (.iload_n 3, 1) := by decide +kernel
theorem d_Po_multiplyBy_3 : decode c_Po_multiplyBy 3 = .ok (.bipush 7, 2) := by decide +kernel
theorem d_Po_multiplyBy_5 : decode c_Po_multiplyBy 5 = .ok (.if_icmp .ge 19, 3) := by decide +kernel
theorem d_Po_multiplyBy_8 : decode c_Po_multiplyBy 8 = .ok (.aload_n 0, 1) := by decide +kernel
theorem d_Po_multiplyBy_9 : decode c_Po_multiplyBy 9 = .ok (.getfield 9, 3) := by decide +kernel
theorem d_Po_multiplyBy_12 : decode c_Po_multiplyBy 12 = .ok (.iload_n 3, 1) := by decide +kernel
theorem d_Po_multiplyBy_13 : decode c_Po_multiplyBy 13 = .ok (.dup2, 1) := by decide +kernel
theorem d_Po_multiplyBy_14 : decode c_Po_multiplyBy 14 = .ok (.laload, 1) := by decide +kernel
theorem d_Po_multiplyBy_15 : decode c_Po_multiplyBy 15 = .ok (.lload_n 1, 1) := by decide +kernel
theorem d_Po_multiplyBy_16 : decode c_Po_multiplyBy 16 = .ok (.lmul, 1) := by decide +kernel
theorem d_Po_multiplyBy_17 : decode c_Po_multiplyBy 17 = .ok (.lastore, 1) := by decide +kernel
theorem d_Po_multiplyBy_18 : decode c_Po_multiplyBy 18 = .ok (.iinc 3 1, 3) := by decide +kernel
theorem d_Po_multiplyBy_21 : decode c_Po_multiplyBy 21 = .ok (.goto (-19), 3) := by decide +kernel
theorem d_Po_multiplyBy_24 : decode c_Po_multiplyBy 24 = .ok (.return_, 1) := by decide +kernel
set_option maxRecDepth 20000 in
theorem w_Po_multiplyBy_2b {X : HX} {ad : Nat → Nat} {I : HI} {J : HJ} {N : HN} {r : HJ} {k2 : HJ → Int32 → Option (HJ)} {a0 : Nat} {p1 : Int64} {x3 : Int32} (C : Cx X c_Po_multiplyBy RX6 4 none rm_Po_multiplyBy) (ha0 : gk Tc nC a0 (0, 6))
    (hk2 : ∀ (J : HJ) (x3 : Int32), k2 J x3 = some r → G Tc X ad nC 0 0 I J N (gE X Tc ad nC (I, r, N, fun _ => none)) 2 4 [(0, .ref (ad a0)), (1, .long p1), (3, .int x3)] [])
    (h : Po_multiplyBy_2b N a0 p1 k2 J x3 = some r) : G Tc X ad nC 0 0 I J N (gE X Tc ad nC (I, r, N, fun _ => none)) 2 4 [(0, .ref (ad a0)), (1, .long p1), (3, .int x3)] [] := by
  refine g_iload_n (pc := 2) C d_Po_multiplyBy_2 rfl 2 rfl ?_
  refine g_bipush (pc := 3) C (7 : Int32) d_Po_multiplyBy_3 (by decide) ?_
  refine g_icmp_ge (pc := 5) C 24 d_Po_multiplyBy_5 rfl (fun e1 => ?_) (fun e1 => ?_)
  · have h := o_pos e1 h
    cases h
    exact g_vret (pc := 24) C d_Po_multiplyBy_24
  · have h := o_neg e1 h
    refine g_aload_n (pc := 8) C d_Po_multiplyBy_8 rfl 0 rfl ?_
    obtain ⟨b2, hnb2, hb2, h⟩ := o_ra h
    refine g_get (pc := 9) (k := 0) (v := va_rf ((N a0 0).map ad)) C gcX6 inX6 (by decide) fl_Po_9 ha0 rfl d_Po_multiplyBy_9 ?_
    refine g_top (g_rf hnb2) ?_
    refine g_iload_n (pc := 12) C d_Po_multiplyBy_12 rfl 2 rfl ?_
    refine g_dup2 (pc := 13) C d_Po_multiplyBy_13 rfl rfl ?_
    obtain ⟨hi3, h⟩ := o_gd h
    refine g_lald (pc := 14) C hb2 hi3 d_Po_multiplyBy_14 ?_
    refine g_lload_n (pc := 15) C d_Po_multiplyBy_15 rfl 1 rfl ?_
    refine g_lmul (pc := 16) C d_Po_multiplyBy_16 ?_
    obtain ⟨hi4, h⟩ := o_gd h
    refine g_last (pc := 17) C hb2 hi4 d_Po_multiplyBy_17 ?_
    obtain ⟨J5, eJ5, h⟩ := o_bd h
    rw [← eJ5]
    refine g_iinc (pc := 18) (q := 2) (lv' := [(3, .int (x3 + 1)), (0, .ref (ad a0)), (1, .long p1)]) C d_Po_multiplyBy_18 rfl rfl (by decide) rfl ?_
    refine g_goto (pc := 21) C 2 d_Po_multiplyBy_21 rfl ?_
    refine g_lv [1, 2, 0] rfl ?_
    exact hk2 _ _ h
set_option maxRecDepth 20000 in
theorem w_Po_multiplyBy_2 {X : HX} {ad : Nat → Nat} {I : HI} {N : HN} {r : HJ} {a0 : Nat} {p1 : Int64} (C : Cx X c_Po_multiplyBy RX6 4 none rm_Po_multiplyBy) (ha0 : gk Tc nC a0 (0, 6)) : ∀ (n : Nat) (J : HJ) (x3 : Int32), Po_multiplyBy_2 N a0 p1 n J x3 = some r → G Tc X ad nC 0 0 I J N (gE X Tc ad nC (I, r, N, fun _ => none)) 2 4 [(0, .ref (ad a0)), (1, .long p1), (3, .int x3)] [] := by
  intro n
  induction n with
  | zero => intro J x3 h; cases h
  | succ n ih => intro J x3 h; exact w_Po_multiplyBy_2b C ha0 ih h
set_option maxRecDepth 20000 in
theorem w_Po_multiplyBy_0 {X : HX} {ad : Nat → Nat} {I : HI} {J : HJ} {N : HN} {r : HJ} {a0 : Nat} {p1 : Int64} (C : Cx X c_Po_multiplyBy RX6 4 none rm_Po_multiplyBy) (ha0 : gk Tc nC a0 (0, 6))
    (h : Po_multiplyBy_0 N a0 p1 J = some r) : G Tc X ad nC 0 0 I J N (gE X Tc ad nC (I, r, N, fun _ => none)) 0 4 [(0, .ref (ad a0)), (1, .long p1)] [] := by
  refine g_iconst (pc := 0) C (0 : Int32) d_Po_multiplyBy_0 (by decide) ?_
  refine g_istore_n (pc := 1) (lv' := [(3, .int (0 : Int32)), (0, .ref (ad a0)), (1, .long p1)]) C d_Po_multiplyBy_1 rfl (by decide) rfl ?_
  refine g_lv [1, 2, 0] rfl ?_
  exact w_Po_multiplyBy_2 C ha0 _ _ _ h
set_option maxRecDepth 20000 in
theorem k_Po_multiplyBy (l : Launch) {I : HI} {J : HJ} {N : HN} {a0 : Nat} {p1 : Int64} {r : HJ} (ha0 : gk Tc nC a0 (0, 6)) (h : Po_multiplyBy N a0 p1 J = some r) : gM l y_Po_multiplyBy c_Po_multiplyBy 4 none rm_Po_multiplyBy Tc nC I J N (fun ad => [.ref (ad a0), .long p1]) (I, r, N, fun _ => none) :=
  g_meth (lv := fun ad => [(0, .ref (ad a0)), (1, .long p1)]) (by decide) (fun _ => Nat.le_of_ble_eq_true rfl) (fun _ => rfl) (fun X ad C => g_lv [0, 1] rfl (w_Po_multiplyBy_0 C ha0 h))
theorem d_Po_loadEveryOther_0 : decode c_Po_loadEveryOther 0 = .ok (.iconst 0, 1) := by decide +kernel
theorem d_Po_loadEveryOther_1 : decode c_Po_loadEveryOther 1 = .ok (.istore_n 3, 1) := by decide +kernel
theorem d_Po_loadEveryOther_2 : decode c_Po_loadEveryOther 2 = .ok (.iload_n 3, 1) := by decide +kernel
theorem d_Po_loadEveryOther_3 : decode c_Po_loadEveryOther 3 = .ok (.bipush 7, 2) := by decide +kernel
theorem d_Po_loadEveryOther_5 : decode c_Po_loadEveryOther 5 = .ok (.if_icmp .ge 24, 3) := by decide +kernel
theorem d_Po_loadEveryOther_8 : decode c_Po_loadEveryOther 8 = .ok (.aload_n 0, 1) := by decide +kernel
theorem d_Po_loadEveryOther_9 : decode c_Po_loadEveryOther 9 = .ok (.getfield 9, 3) := by decide +kernel
theorem d_Po_loadEveryOther_12 : decode c_Po_loadEveryOther 12 = .ok (.iload_n 3, 1) := by decide +kernel
theorem d_Po_loadEveryOther_13 : decode c_Po_loadEveryOther 13 = .ok (.aload_n 1, 1) := by decide +kernel
theorem d_Po_loadEveryOther_14 : decode c_Po_loadEveryOther 14 = .ok (.iload_n 2, 1) := by decide +kernel
theorem d_Po_loadEveryOther_15 : decode c_Po_loadEveryOther 15 = .ok (.iconst 2, 1) := by decide +kernel
theorem d_Po_loadEveryOther_16 : decode c_Po_loadEveryOther 16 = .ok (.iload_n 3, 1) := by decide +kernel
theorem d_Po_loadEveryOther_17 : decode c_Po_loadEveryOther 17 = .ok (.imul, 1) := by decide +kernel
theorem d_Po_loadEveryOther_18 : decode c_Po_loadEveryOther 18 = .ok (.iadd, 1) := by decide +kernel
theorem d_Po_loadEveryOther_19 : decode c_Po_loadEveryOther 19 = .ok (.invokevirtual 15, 3) := by decide +kernel
theorem d_Po_loadEveryOther_22 : decode c_Po_loadEveryOther 22 = .ok (.lastore, 1) := by decide +kernel
theorem d_Po_loadEveryOther_23 : decode c_Po_loadEveryOther 23 = .ok (.iinc 3 1, 3) := by decide +kernel
theorem d_Po_loadEveryOther_26 : decode c_Po_loadEveryOther 26 = .ok (.goto (-24), 3) := by decide +kernel
theorem d_Po_loadEveryOther_29 : decode c_Po_loadEveryOther 29 = .ok (.return_, 1) := by decide +kernel
set_option maxRecDepth 20000 in
theorem w_Po_loadEveryOther_2b {X : HX} {ad : Nat → Nat} {I : HI} {J : HJ} {N : HN} {r : HJ} {k2 : HJ → Int32 → Option (HJ)} {a0 : Nat} {a1 : Nat} {p2 : Int32} {x3 : Int32} (C : Cx X c_Po_loadEveryOther RX6 4 none rm_Po_loadEveryOther) (ha0 : gk Tc nC a0 (0, 6)) (ha1 : gk Tc nC a1 (0, 6))
    (hk2 : ∀ (J : HJ) (x3 : Int32), k2 J x3 = some r → G Tc X ad nC 0 0 I J N (gE X Tc ad nC (I, r, N, fun _ => none)) 2 4 [(0, .ref (ad a0)), (1, .ref (ad a1)), (2, .int p2), (3, .int x3)] [])
    (h : Po_loadEveryOther_2b N a0 a1 p2 k2 J x3 = some r) : G Tc X ad nC 0 0 I J N (gE X Tc ad nC (I, r, N, fun _ => none)) 2 4 [(0, .ref (ad a0)), (1, .ref (ad a1)), (2, .int p2), (3, .int x3)] [] := by
  refine g_iload_n (pc := 2) C d_Po_loadEveryOther_2 rfl 3 rfl ?_
  refine g_bipush (pc := 3) C (7 : Int32) d_Po_loadEveryOther_3 (by decide) ?_
  refine g_icmp_ge (pc := 5) C 29 d_Po_loadEveryOther_5 rfl (fun e1 => ?_) (fun e1 => ?_)
  · have h := o_pos e1 h
    cases h
    exact g_vret (pc := 29) C d_Po_loadEveryOther_29
  · have h := o_neg e1 h
    refine g_aload_n (pc := 8) C d_Po_loadEveryOther_8 rfl 0 rfl ?_
    obtain ⟨b2, hnb2, hb2, h⟩ := o_ra h
    refine g_get (pc := 9) (k := 0) (v := va_rf ((N a0 0).map ad)) C gcX6 inX6 (by decide) fl_Po_9 ha0 rfl d_Po_loadEveryOther_9 ?_
    refine g_top (g_rf hnb2) ?_
    refine g_iload_n (pc := 12) C d_Po_loadEveryOther_12 rfl 3 rfl ?_
    refine g_aload_n (pc := 13) C d_Po_loadEveryOther_13 rfl 1 rfl ?_
    refine g_iload_n (pc := 14) C d_Po_loadEveryOther_14 rfl 2 rfl ?_
    refine g_iconst (pc := 15) C (2 : Int32) d_Po_loadEveryOther_15 (by decide) ?_
    refine g_iload_n (pc := 16) C d_Po_loadEveryOther_16 rfl 3 rfl ?_
    refine g_imul (pc := 17) C d_Po_loadEveryOther_17 ?_
    refine g_iadd (pc := 18) C d_Po_loadEveryOther_18 ?_
    obtain ⟨r3, hc4, h⟩ := o_bn1 h
    refine g_V (pc := 19) (rest := [.int x3, .ref (ad b2)]) C (k_Po_at (xl X) ha1 hc4) sm_Po_at ml_Po_15 im_Po_at se_Po_at gcX6 rfl ha1 ⟨rfl, rfl, Nat.le_of_ble_eq_true rfl, Nat.le_of_ble_eq_true rfl⟩ ⟨Nat.zero_le _, Nat.zero_le _⟩ rfl rfl (Nat.le_of_ble_eq_true rfl) d_Po_loadEveryOther_19 [.long r3, .int x3, .ref (ad b2)] rfl ?_
    obtain ⟨hi5, h⟩ := o_gd h
    refine g_last (pc := 22) C hb2 hi5 d_Po_loadEveryOther_22 ?_
    obtain ⟨J6, eJ6, h⟩ := o_bd h
    rw [← eJ6]
    refine g_iinc (pc := 23) (q := 3) (lv' := [(3, .int (x3 + 1)), (0, .ref (ad a0)), (1, .ref (ad a1)), (2, .int p2)]) C d_Po_loadEveryOther_23 rfl rfl (by decide) rfl ?_
    refine g_goto (pc := 26) C 2 d_Po_loadEveryOther_26 rfl ?_
    refine g_lv [1, 2, 3, 0] rfl ?_
    exact hk2 _ _ h
set_option maxRecDepth 20000 in
theorem w_Po_loadEveryOther_2 {X : HX} {ad : Nat → Nat} {I : HI} {N : HN} {r : HJ} {a0 : Nat} {a1 : Nat} {p2 : Int32} (C : Cx X c_Po_loadEveryOther RX6 4 none rm_Po_loadEveryOther) (ha0 : gk Tc nC a0 (0, 6)) (ha1 : gk Tc nC a1 (0, 6)) : ∀ (n : Nat) (J : HJ) (x3 : Int32), Po_loadEveryOther_2 N a0 a1 p2 n J x3 = some r → G Tc X ad nC 0 0 I J N (gE X Tc ad nC (I, r, N, fun _ => none)) 2 4 [(0, .ref (ad a0)), (1, .ref (ad a1)), (2, .int p2), (3, .int x3)] [] := by
  intro n
  induction n with
  | zero => intro J x3 h; cases h
  | succ n ih => intro J x3 h; exact w_Po_loadEveryOther_2b C ha0 ha1 ih h
set_option maxRecDepth 20000 in
theorem w_Po_loadEveryOther_0 {X : HX} {ad : Nat → Nat} {I : HI} {J : HJ} {N : HN} {r : HJ} {a0 : Nat} {a1 : Nat} {p2 : Int32} (C : Cx X c_Po_loadEveryOther RX6 4 none rm_Po_loadEveryOther) (ha0 : gk Tc nC a0 (0, 6)) (ha1 : gk Tc nC a1 (0, 6))
    (h : Po_loadEveryOther_0 N a0 a1 p2 J = some r) : G Tc X ad nC 0 0 I J N (gE X Tc ad nC (I, r, N, fun _ => none)) 0 4 [(0, .ref (ad a0)), (1, .ref (ad a1)), (2, .int p2)] [] := by
  refine g_iconst (pc := 0) C (0 : Int32) d_Po_loadEveryOther_0 (by decide) ?_
  refine g_istore_n (pc := 1) (lv' := [(3, .int (0 : Int32)), (0, .ref (ad a0)), (1, .ref (ad a1)), (2, .int p2)]) C d_Po_loadEveryOther_1 rfl (by decide) rfl ?_
  refine g_lv [1, 2, 3, 0] rfl ?_
  exact w_Po_loadEveryOther_2 C ha0 ha1 _ _ _ h
set_option maxRecDepth 20000 in
theorem k_Po_loadEveryOther (l : Launch) {I : HI} {J : HJ} {N : HN} {a0 : Nat} {a1 : Nat} {p2 : Int32} {r : HJ} (ha0 : gk Tc nC a0 (0, 6)) (ha1 : gk Tc nC a1 (0, 6)) (h : Po_loadEveryOther N a0 a1 p2 J = some r) : gM l y_Po_loadEveryOther c_Po_loadEveryOther 4 none rm_Po_loadEveryOther Tc nC I J N (fun ad => [.ref (ad a0), .ref (ad a1), .int p2]) (I, r, N, fun _ => none) :=
  g_meth (lv := fun ad => [(0, .ref (ad a0)), (1, .ref (ad a1)), (2, .int p2)]) (by decide) (fun _ => Nat.le_of_ble_eq_true rfl) (fun _ => rfl) (fun X ad C => g_lv [0, 1, 2] rfl (w_Po_loadEveryOther_0 C ha0 ha1 h))
theorem d_Po_leastPower_0 : decode c_Po_leastPower 0 = .ok (.iconst 0, 1) := by decide +kernel
theorem d_Po_leastPower_1 : decode c_Po_leastPower 1 = .ok (.istore_n 1, 1) := by decide +kernel
theorem d_Po_leastPower_2 : decode c_Po_leastPower 2 = .ok (.iload_n 1, 1) := by decide +kernel
theorem d_Po_leastPower_3 : decode c_Po_leastPower 3 = .ok (.bipush 7, 2) := by decide +kernel
theorem d_Po_leastPower_5 : decode c_Po_leastPower 5 = .ok (.if_icmp .ge 22, 3) := by decide +kernel
theorem d_Po_leastPower_8 : decode c_Po_leastPower 8 = .ok (.aload_n 0, 1) := by decide +kernel
theorem d_Po_leastPower_9 : decode c_Po_leastPower 9 = .ok (.getfield 9, 3) := by decide +kernel
theorem d_Po_leastPower_12 : decode c_Po_leastPower 12 = .ok (.iload_n 1, 1) := by decide +kernel
theorem d_Po_leastPower_13 : decode c_Po_leastPower 13 = .ok (.laload, 1) := by decide +kernel
theorem d_Po_leastPower_14 : decode c_Po_leastPower 14 = .ok (.lconst 0, 1) := by decide +kernel
theorem d_Po_leastPower_15 : decode c_Po_leastPower 15 = .ok (.lcmp, 1) := by decide +kernel
theorem d_Po_leastPower_16 : decode c_Po_leastPower 16 = .ok (.ifCond .eq 5, 3) := by decide +kernel
theorem d_Po_leastPower_19 : decode c_Po_leastPower 19 = .ok (.iload_n 1, 1) := by decide +kernel
theorem d_Po_leastPower_20 : decode c_Po_leastPower 20 = .ok (.ireturn, 1) := by decide +kernel
theorem d_Po_leastPower_21 : decode c_Po_leastPower 21 = .ok (.iinc 1 1, 3) := by decide +kernel
theorem d_Po_leastPower_24 : decode c_Po_leastPower 24 = .ok (.goto (-22), 3) := by decide +kernel
theorem d_Po_leastPower_27 : decode c_Po_leastPower 27 = .ok (.iconst (-1), 1) := by decide +kernel
theorem d_Po_leastPower_28 : decode c_Po_leastPower 28 = .ok (.ireturn, 1) := by decide +kernel
set_option maxRecDepth 20000 in
theorem w_Po_leastPower_2b {X : HX} {ad : Nat → Nat} {I : HI} {J : HJ} {N : HN} {r : Int32} {k2 : Int32 → Option (Int32)} {a0 : Nat} {x1 : Int32} (C : Cx X c_Po_leastPower RX6 2 (some .int) rm_Po_leastPower) (ha0 : gk Tc nC a0 (0, 6))
    (hk2 : ∀ (x1 : Int32), k2 x1 = some r → G Tc X ad nC 0 0 I J N (gE X Tc ad nC (I, J, N, fun _ => some (.int r))) 2 2 [(0, .ref (ad a0)), (1, .int x1)] [])
    (h : Po_leastPower_2b J N a0 k2 x1 = some r) : G Tc X ad nC 0 0 I J N (gE X Tc ad nC (I, J, N, fun _ => some (.int r))) 2 2 [(0, .ref (ad a0)), (1, .int x1)] [] := by
  refine g_iload_n (pc := 2) C d_Po_leastPower_2 rfl 1 rfl ?_
  refine g_bipush (pc := 3) C (7 : Int32) d_Po_leastPower_3 (by decide) ?_
  refine g_icmp_ge (pc := 5) C 27 d_Po_leastPower_5 rfl (fun e1 => ?_) (fun e1 => ?_)
  · have h := o_pos e1 h
    refine g_iconst (pc := 27) C (-1 : Int32) d_Po_leastPower_27 (by decide) ?_
    cases h
    exact g_iret (pc := 28) C d_Po_leastPower_28
  · have h := o_neg e1 h
    refine g_aload_n (pc := 8) C d_Po_leastPower_8 rfl 0 rfl ?_
    obtain ⟨b2, hnb2, hb2, h⟩ := o_ra h
    refine g_get (pc := 9) (k := 0) (v := va_rf ((N a0 0).map ad)) C gcX6 inX6 (by decide) fl_Po_9 ha0 rfl d_Po_leastPower_9 ?_
    refine g_top (g_rf hnb2) ?_
    refine g_iload_n (pc := 12) C d_Po_leastPower_12 rfl 1 rfl ?_
    obtain ⟨hi3, h⟩ := o_gd h
    refine g_lald (pc := 13) C hb2 hi3 d_Po_leastPower_13 ?_
    refine g_lconst (pc := 14) C (0 : Int64) d_Po_leastPower_14 (by decide) ?_
    refine g_lcmp_eq (pc := 15) C 21 d_Po_leastPower_15 d_Po_leastPower_16 rfl (fun e4 => ?_) (fun e4 => ?_)
    · have h := o_pos e4 h
      refine g_iinc (pc := 21) (q := 1) (lv' := [(1, .int (x1 + 1)), (0, .ref (ad a0))]) C d_Po_leastPower_21 rfl rfl (by decide) rfl ?_
      refine g_goto (pc := 24) C 2 d_Po_leastPower_24 rfl ?_
      refine g_lv [1, 0] rfl ?_
      exact hk2 _ h
    · have h := o_neg e4 h
      refine g_iload_n (pc := 19) C d_Po_leastPower_19 rfl 1 rfl ?_
      cases h
      exact g_iret (pc := 20) C d_Po_leastPower_20
set_option maxRecDepth 20000 in
theorem w_Po_leastPower_2 {X : HX} {ad : Nat → Nat} {I : HI} {J : HJ} {N : HN} {r : Int32} {a0 : Nat} (C : Cx X c_Po_leastPower RX6 2 (some .int) rm_Po_leastPower) (ha0 : gk Tc nC a0 (0, 6)) : ∀ (n : Nat) (x1 : Int32), Po_leastPower_2 J N a0 n x1 = some r → G Tc X ad nC 0 0 I J N (gE X Tc ad nC (I, J, N, fun _ => some (.int r))) 2 2 [(0, .ref (ad a0)), (1, .int x1)] [] := by
  intro n
  induction n with
  | zero => intro x1 h; cases h
  | succ n ih => intro x1 h; exact w_Po_leastPower_2b C ha0 ih h
set_option maxRecDepth 20000 in
theorem w_Po_leastPower_0 {X : HX} {ad : Nat → Nat} {I : HI} {J : HJ} {N : HN} {r : Int32} {a0 : Nat} (C : Cx X c_Po_leastPower RX6 2 (some .int) rm_Po_leastPower) (ha0 : gk Tc nC a0 (0, 6))
    (h : Po_leastPower_0 J N a0 = some r) : G Tc X ad nC 0 0 I J N (gE X Tc ad nC (I, J, N, fun _ => some (.int r))) 0 2 [(0, .ref (ad a0))] [] := by
  refine g_iconst (pc := 0) C (0 : Int32) d_Po_leastPower_0 (by decide) ?_
  refine g_istore_n (pc := 1) (lv' := [(1, .int (0 : Int32)), (0, .ref (ad a0))]) C d_Po_leastPower_1 rfl (by decide) rfl ?_
  refine g_lv [1, 0] rfl ?_
  exact w_Po_leastPower_2 C ha0 _ _ h
set_option maxRecDepth 20000 in
theorem k_Po_leastPower (l : Launch) {I : HI} {J : HJ} {N : HN} {a0 : Nat} {r : Int32} (ha0 : gk Tc nC a0 (0, 6)) (h : Po_leastPower J N a0 = some r) : gM l y_Po_leastPower c_Po_leastPower 2 (some .int) rm_Po_leastPower Tc nC I J N (fun ad => [.ref (ad a0)]) (I, J, N, fun _ => some (.int r)) :=
  g_meth (lv := fun ad => [(0, .ref (ad a0))]) (by decide) (fun _ => Nat.le_of_ble_eq_true rfl) (fun _ => rfl) (fun X ad C => g_lv [0] rfl (w_Po_leastPower_0 C ha0 h))
theorem d_Po_runBackwards_0 : decode c_Po_runBackwards 0 = .ok (.iconst 0, 1) := by decide +kernel
theorem d_Po_runBackwards_1 : decode c_Po_runBackwards 1 = .ok (.istore_n 2, 1) := by decide +kernel
theorem d_Po_runBackwards_2 : decode c_Po_runBackwards 2 = .ok (.iload_n 2, 1) := by decide +kernel
theorem d_Po_runBackwards_3 : decode c_Po_runBackwards 3 = .ok (.bipush 7, 2) := by decide +kernel
theorem d_Po_runBackwards_5 : decode c_Po_runBackwards 5 = .ok (.if_icmp .ge 42, 3) := by decide +kernel
theorem d_Po_runBackwards_8 : decode c_Po_runBackwards 8 = .ok (.iload_n 2, 1) := by decide +kernel
theorem d_Po_runBackwards_9 : decode c_Po_runBackwards 9 = .ok (.iload_n 1, 1) := by decide +kernel
theorem d_Po_runBackwards_10 : decode c_Po_runBackwards 10 = .ok (.iload_n 2, 1) := by decide +kernel
theorem d_Po_runBackwards_11 : decode c_Po_runBackwards 11 = .ok (.isub, 1) := by decide +kernel
theorem d_Po_runBackwards_12 : decode c_Po_runBackwards 12 = .ok (.if_icmp .ge 35, 3) := by decide +kernel
theorem d_Po_runBackwards_15 : decode c_Po_runBackwards 15 = .ok (.aload_n 0, 1) := by decide +kernel
theorem d_Po_runBackwards_16 : decode c_Po_runBackwards 16 = .ok (.iload_n 2, 1) := by decide +kernel
theorem d_Po_runBackwards_17 : decode c_Po_runBackwards 17 = .ok (.invokevirtual 15, 3) := by decide +kernel
theorem d_Po_runBackwards_20 : decode c_Po_runBackwards 20 = .ok (.lstore_n 3, 1) := by decide +kernel
theorem d_Po_runBackwards_21 : decode c_Po_runBackwards 21 = .ok (.aload_n 0, 1) := by decide +kernel
theorem d_Po_runBackwards_22 : decode c_Po_runBackwards 22 = .ok (.iload_n 2, 1) := by decide +kernel
theorem d_Po_runBackwards_23 : decode c_Po_runBackwards 23 = .ok (.aload_n 0, 1) := by decide +kernel
theorem d_Po_runBackwards_24 : decode c_Po_runBackwards 24 = .ok (.iload_n 1, 1) := by decide +kernel
theorem d_Po_runBackwards_25 : decode c_Po_runBackwards 25 = .ok (.iload_n 2, 1) := by decide +kernel
theorem d_Po_runBackwards_26 : decode c_Po_runBackwards 26 = .ok (.isub, 1) := by decide +kernel
theorem d_Po_runBackwards_27 : decode c_Po_runBackwards 27 = .ok (.invokevirtual 15, 3) := by decide +kernel
theorem d_Po_runBackwards_30 : decode c_Po_runBackwards 30 = .ok (.invokevirtual 19, 3) := by decide +kernel
theorem d_Po_runBackwards_33 : decode c_Po_runBackwards 33 = .ok (.aload_n 0, 1) := by decide +kernel
theorem d_Po_runBackwards_34 : decode c_Po_runBackwards 34 = .ok (.iload_n 1, 1) := by decide +kernel
theorem d_Po_runBackwards_35 : decode c_Po_runBackwards 35 = .ok (.iload_n 2, 1) := by decide +kernel
theorem d_Po_runBackwards_36 : decode c_Po_runBackwards 36 = .ok (.isub, 1) := by decide +kernel
theorem d_Po_runBackwards_37 : decode c_Po_runBackwards 37 = .ok (.lload_n 3, 1) := by decide +kernel
theorem d_Po_runBackwards_38 : decode c_Po_runBackwards 38 = .ok (.invokevirtual 19, 3) := by decide +kernel
theorem d_Po_runBackwards_41 : decode c_Po_runBackwards 41 = .ok (.iinc 2 1, 3) := by decide +kernel
theorem d_Po_runBackwards_44 : decode c_Po_runBackwards 44 = .ok (.goto (-42), 3) := by decide +kernel
theorem d_Po_runBackwards_47 : decode c_Po_runBackwards 47 = .ok (.return_, 1) := by decide +kernel
set_option maxRecDepth 20000 in
theorem w_Po_runBackwards_2b {X : HX} {ad : Nat → Nat} {I : HI} {J : HJ} {N : HN} {r : HJ} {k2 : HJ → Int32 → Option (HJ)} {a0 : Nat} {p1 : Int32} {x2 : Int32} (C : Cx X c_Po_runBackwards RX6 5 none rm_Po_runBackwards) (ha0 : gk Tc nC a0 (0, 6))
    (hk2 : ∀ (J : HJ) (x2 : Int32), k2 J x2 = some r → G Tc X ad nC 0 0 I J N (gE X Tc ad nC (I, r, N, fun _ => none)) 2 5 [(0, .ref (ad a0)), (1, .int p1), (2, .int x2)] [])
    (h : Po_runBackwards_2b N a0 p1 k2 J x2 = some r) : G Tc X ad nC 0 0 I J N (gE X Tc ad nC (I, r, N, fun _ => none)) 2 5 [(0, .ref (ad a0)), (1, .int p1), (2, .int x2)] [] := by
  refine g_iload_n (pc := 2) C d_Po_runBackwards_2 rfl 2 rfl ?_
  refine g_bipush (pc := 3) C (7 : Int32) d_Po_runBackwards_3 (by decide) ?_
  refine g_icmp_ge (pc := 5) C 47 d_Po_runBackwards_5 rfl (fun e1 => ?_) (fun e1 => ?_)
  · have h := o_pos e1 h
    cases h
    exact g_vret (pc := 47) C d_Po_runBackwards_47
  · have h := o_neg e1 h
    refine g_iload_n (pc := 8) C d_Po_runBackwards_8 rfl 2 rfl ?_
    refine g_iload_n (pc := 9) C d_Po_runBackwards_9 rfl 1 rfl ?_
    refine g_iload_n (pc := 10) C d_Po_runBackwards_10 rfl 2 rfl ?_
    refine g_isub (pc := 11) C d_Po_runBackwards_11 ?_
    refine g_icmp_ge (pc := 12) C 47 d_Po_runBackwards_12 rfl (fun e2 => ?_) (fun e2 => ?_)
    · have h := o_pos e2 h
      cases h
      exact g_vret (pc := 47) C d_Po_runBackwards_47
    · have h := o_neg e2 h
      refine g_aload_n (pc := 15) C d_Po_runBackwards_15 rfl 0 rfl ?_
      refine g_iload_n (pc := 16) C d_Po_runBackwards_16 rfl 2 rfl ?_
      obtain ⟨r3, hc4, h⟩ := o_bn1 h
      refine g_V (pc := 17) (rest := []) C (k_Po_at (xl X) ha0 hc4) sm_Po_at ml_Po_15 im_Po_at se_Po_at gcX6 rfl ha0 ⟨rfl, rfl, Nat.le_of_ble_eq_true rfl, Nat.le_of_ble_eq_true rfl⟩ ⟨Nat.zero_le _, Nat.zero_le _⟩ rfl rfl (Nat.le_of_ble_eq_true rfl) d_Po_runBackwards_17 [.long r3] rfl ?_
      refine g_lstore_n (pc := 20) (lv' := [(3, .long r3), (0, .ref (ad a0)), (1, .int p1), (2, .int x2)]) C d_Po_runBackwards_20 rfl (by decide) rfl ?_
      refine g_aload_n (pc := 21) C d_Po_runBackwards_21 rfl 1 rfl ?_
      refine g_iload_n (pc := 22) C d_Po_runBackwards_22 rfl 3 rfl ?_
      refine g_aload_n (pc := 23) C d_Po_runBackwards_23 rfl 1 rfl ?_
      refine g_iload_n (pc := 24) C d_Po_runBackwards_24 rfl 2 rfl ?_
      refine g_iload_n (pc := 25) C d_Po_runBackwards_25 rfl 3 rfl ?_
      refine g_isub (pc := 26) C d_Po_runBackwards_26 ?_
      obtain ⟨r5, hc6, h⟩ := o_bn1 h
      refine g_V (pc := 27) (rest := [.int x2, .ref (ad a0)]) C (k_Po_at (xl X) ha0 hc6) sm_Po_at ml_Po_15 im_Po_at se_Po_at gcX6 rfl ha0 ⟨rfl, rfl, Nat.le_of_ble_eq_true rfl, Nat.le_of_ble_eq_true rfl⟩ ⟨Nat.zero_le _, Nat.zero_le _⟩ rfl rfl (Nat.le_of_ble_eq_true rfl) d_Po_runBackwards_27 [.long r5, .int x2, .ref (ad a0)] rfl ?_
      obtain ⟨J7, hc8, h⟩ := o_bn1 h
      refine g_V (pc := 30) (rest := []) C (k_Po_put (xl X) ha0 hc8) sm_Po_put ml_Po_19 im_Po_put se_Po_put gcX6 rfl ha0 ⟨rfl, rfl, Nat.le_of_ble_eq_true rfl, Nat.le_of_ble_eq_true rfl⟩ ⟨Nat.zero_le _, Nat.zero_le _⟩ rfl rfl (Nat.le_of_ble_eq_true rfl) d_Po_runBackwards_30 [] rfl ?_
      refine g_aload_n (pc := 33) C d_Po_runBackwards_33 rfl 1 rfl ?_
      refine g_iload_n (pc := 34) C d_Po_runBackwards_34 rfl 2 rfl ?_
      refine g_iload_n (pc := 35) C d_Po_runBackwards_35 rfl 3 rfl ?_
      refine g_isub (pc := 36) C d_Po_runBackwards_36 ?_
      refine g_lload_n (pc := 37) C d_Po_runBackwards_37 rfl 0 rfl ?_
      obtain ⟨J9, hc10, h⟩ := o_bn1 h
      refine g_V (pc := 38) (rest := []) C (k_Po_put (xl X) ha0 hc10) sm_Po_put ml_Po_19 im_Po_put se_Po_put gcX6 rfl ha0 ⟨rfl, rfl, Nat.le_of_ble_eq_true rfl, Nat.le_of_ble_eq_true rfl⟩ ⟨Nat.zero_le _, Nat.zero_le _⟩ rfl rfl (Nat.le_of_ble_eq_true rfl) d_Po_runBackwards_38 [] rfl ?_
      refine g_iinc (pc := 41) (q := 3) (lv' := [(2, .int (x2 + 1)), (3, .long r3), (0, .ref (ad a0)), (1, .int p1)]) C d_Po_runBackwards_41 rfl rfl (by decide) rfl ?_
      refine g_goto (pc := 44) C 2 d_Po_runBackwards_44 rfl ?_
      refine g_lv [2, 3, 0] rfl ?_
      exact hk2 _ _ h
set_option maxRecDepth 20000 in
theorem w_Po_runBackwards_2 {X : HX} {ad : Nat → Nat} {I : HI} {N : HN} {r : HJ} {a0 : Nat} {p1 : Int32} (C : Cx X c_Po_runBackwards RX6 5 none rm_Po_runBackwards) (ha0 : gk Tc nC a0 (0, 6)) : ∀ (n : Nat) (J : HJ) (x2 : Int32), Po_runBackwards_2 N a0 p1 n J x2 = some r → G Tc X ad nC 0 0 I J N (gE X Tc ad nC (I, r, N, fun _ => none)) 2 5 [(0, .ref (ad a0)), (1, .int p1), (2, .int x2)] [] := by
  intro n
  induction n with
  | zero => intro J x2 h; cases h
  | succ n ih => intro J x2 h; exact w_Po_runBackwards_2b C ha0 ih h
set_option maxRecDepth 20000 in
theorem w_Po_runBackwards_0 {X : HX} {ad : Nat → Nat} {I : HI} {J : HJ} {N : HN} {r : HJ} {a0 : Nat} {p1 : Int32} (C : Cx X c_Po_runBackwards RX6 5 none rm_Po_runBackwards) (ha0 : gk Tc nC a0 (0, 6))
    (h : Po_runBackwards_0 N a0 p1 J = some r) : G Tc X ad nC 0 0 I J N (gE X Tc ad nC (I, r, N, fun _ => none)) 0 5 [(0, .ref (ad a0)), (1, .int p1)] [] := by
  refine g_iconst (pc := 0) C (0 : Int32) d_Po_runBackwards_0 (by decide) ?_
  refine g_istore_n (pc := 1) (lv' := [(2, .int (0 : Int32)), (0, .ref (ad a0)), (1, .int p1)]) C d_Po_runBackwards_1 rfl (by decide) rfl ?_
  refine g_lv [1, 2, 0] rfl ?_
  exact w_Po_runBackwards_2 C ha0 _ _ _ h
set_option maxRecDepth 20000 in
theorem k_Po_runBackwards (l : Launch) {I : HI} {J : HJ} {N : HN} {a0 : Nat} {p1 : Int32} {r : HJ} (ha0 : gk Tc nC a0 (0, 6)) (h : Po_runBackwards N a0 p1 J = some r) : gM l y_Po_runBackwards c_Po_runBackwards 5 none rm_Po_runBackwards Tc nC I J N (fun ad => [.ref (ad a0), .int p1]) (I, r, N, fun _ => none) :=
  g_meth (lv := fun ad => [(0, .ref (ad a0)), (1, .int p1)]) (by decide) (fun _ => Nat.le_of_ble_eq_true rfl) (fun _ => rfl) (fun X ad C => g_lv [0, 1] rfl (w_Po_runBackwards_0 C ha0 h))
theorem d_Po_valueAtMinus_0 : decode c_Po_valueAtMinus 0 = .ok (.lconst 0, 1) := by decide +kernel
theorem d_Po_valueAtMinus_1 : decode c_Po_valueAtMinus 1 = .ok (.lstore 5, 2) := by decide +kernel
theorem d_Po_valueAtMinus_3 : decode c_Po_valueAtMinus 3 = .ok (.lconst 1, 1) := by decide +kernel
theorem d_Po_valueAtMinus_4 : decode c_Po_valueAtMinus 4 = .ok (.lstore 7, 2) := by decide +kernel
theorem d_Po_valueAtMinus_6 : decode c_Po_valueAtMinus 6 = .ok (.iconst 3, 1) := by decide +kernel
theorem d_Po_valueAtMinus_7 : decode c_Po_valueAtMinus 7 = .ok (.istore 9, 2) := by decide +kernel
theorem d_Po_valueAtMinus_9 : decode c_Po_valueAtMinus 9 = .ok (.iload 9, 2) := by decide +kernel
theorem d_Po_valueAtMinus_11 : decode c_Po_valueAtMinus 11 = .ok (.ifCond .lt 33, 3) := by decide +kernel
theorem d_Po_valueAtMinus_14 : decode c_Po_valueAtMinus 14 = .ok (.lload_n 1, 1) := by decide +kernel
theorem d_Po_valueAtMinus_15 : decode c_Po_valueAtMinus 15 = .ok (.lneg, 1) := by decide +kernel
theorem d_Po_valueAtMinus_16 : decode c_Po_valueAtMinus 16 = .ok (.lload 5, 2) := by decide +kernel
theorem d_Po_valueAtMinus_18 : decode c_Po_valueAtMinus 18 = .ok (.lmul, 1) := by decide +kernel
theorem d_Po_valueAtMinus_19 : decode c_Po_valueAtMinus 19 = .ok (.lload 7, 2) := by decide +kernel
theorem d_Po_valueAtMinus_21 : decode c_Po_valueAtMinus 21 = .ok (.aload_n 0, 1) := by decide +kernel
theorem d_Po_valueAtMinus_22 : decode c_Po_valueAtMinus 22 = .ok (.getfield 9, 3) := by decide +kernel
theorem d_Po_valueAtMinus_25 : decode c_Po_valueAtMinus 25 = .ok (.iload 9, 2) := by decide +kernel
theorem d_Po_valueAtMinus_27 : decode c_Po_valueAtMinus 27 = .ok (.laload, 1) := by decide +kernel
theorem d_Po_valueAtMinus_28 : decode c_Po_valueAtMinus 28 = .ok (.lmul, 1) := by decide +kernel
theorem d_Po_valueAtMinus_29 : decode c_Po_valueAtMinus 29 = .ok (.ladd, 1) := by decide +kernel
theorem d_Po_valueAtMinus_30 : decode c_Po_valueAtMinus 30 = .ok (.lstore 5, 2) := by decide +kernel
theorem d_Po_valueAtMinus_32 : decode c_Po_valueAtMinus 32 = .ok (.lload 7, 2) := by decide +kernel
theorem d_Po_valueAtMinus_34 : decode c_Po_valueAtMinus 34 = .ok (.lload_n 3, 1) := by decide +kernel
theorem d_Po_valueAtMinus_35 : decode c_Po_valueAtMinus 35 = .ok (.lmul, 1) := by decide +kernel
theorem d_Po_valueAtMinus_36 : decode c_Po_valueAtMinus 36 = .ok (.lstore 7, 2) := by decide +kernel
theorem d_Po_valueAtMinus_38 : decode c_Po_valueAtMinus 38 = .ok (.iinc 9 (-1), 3) := by decide +kernel
theorem d_Po_valueAtMinus_41 : decode c_Po_valueAtMinus 41 = .ok (.goto (-32), 3) := by decide +kernel
theorem d_Po_valueAtMinus_44 : decode c_Po_valueAtMinus 44 = .ok (.lload 5, 2) := by decide +kernel
theorem d_Po_valueAtMinus_46 : decode c_Po_valueAtMinus 46 = .ok (.lreturn, 1) := by decide +kernel
set_option maxRecDepth 20000 in
theorem w_Po_valueAtMinus_9b {X : HX} {ad : Nat → Nat} {I : HI} {J : HJ} {N : HN} {r : Int64} {k9 : Int64 → Int64 → Int32 → Option (Int64)} {a0 : Nat} {p1 : Int64} {p3 : Int64} {x5 : Int64} {x7 : Int64} {x9 : Int32} (C : Cx X c_Po_valueAtMinus RX6 10 (some .long) rm_Po_valueAtMinus) (ha0 : gk Tc nC a0 (0, 6))
    (hk9 : ∀ (x5 : Int64) (x7 : Int64) (x9 : Int32), k9 x5 x7 x9 = some r → G Tc X ad nC 0 0 I J N (gE X Tc ad nC (I, J, N, fun _ => some (.long r))) 9 10 [(0, .ref (ad a0)), (1, .long p1), (3, .long p3), (5, .long x5), (7, .long x7), (9, .int x9)] [])
    (h : Po_valueAtMinus_9b J N a0 p1 p3 k9 x5 x7 x9 = some r) : G Tc X ad nC 0 0 I J N (gE X Tc ad nC (I, J, N, fun _ => some (.long r))) 9 10 [(0, .ref (ad a0)), (1, .long p1), (3, .long p3), (5, .long x5), (7, .long x7), (9, .int x9)] [] := by
  refine g_iload (pc := 9) C d_Po_valueAtMinus_9 5 rfl ?_
  refine g_if_lt (pc := 11) C 44 d_Po_valueAtMinus_11 rfl (fun e1 => ?_) (fun e1 => ?_)
  · have h := o_pos e1 h
    refine g_lload (pc := 44) C d_Po_valueAtMinus_44 3 rfl ?_
    cases h
    exact g_lret (pc := 46) C d_Po_valueAtMinus_46
  · have h := o_neg e1 h
    refine g_lload_n (pc := 14) C d_Po_valueAtMinus_14 rfl 1 rfl ?_
    refine g_lneg (pc := 15) C d_Po_valueAtMinus_15 ?_
    refine g_lload (pc := 16) C d_Po_valueAtMinus_16 3 rfl ?_
    refine g_lmul (pc := 18) C d_Po_valueAtMinus_18 ?_
    refine g_lload (pc := 19) C d_Po_valueAtMinus_19 4 rfl ?_
    refine g_aload_n (pc := 21) C d_Po_valueAtMinus_21 rfl 0 rfl ?_
    obtain ⟨b2, hnb2, hb2, h⟩ := o_ra h
    refine g_get (pc := 22) (k := 0) (v := va_rf ((N a0 0).map ad)) C gcX6 inX6 (by decide) fl_Po_9 ha0 rfl d_Po_valueAtMinus_22 ?_
    refine g_top (g_rf hnb2) ?_
    refine g_iload (pc := 25) C d_Po_valueAtMinus_25 5 rfl ?_
    obtain ⟨hi3, h⟩ := o_gd h
    refine g_lald (pc := 27) C hb2 hi3 d_Po_valueAtMinus_27 ?_
    refine g_lmul (pc := 28) C d_Po_valueAtMinus_28 ?_
    refine g_ladd (pc := 29) C d_Po_valueAtMinus_29 ?_
    obtain ⟨v4, ev4, h⟩ := o_bd h
    refine g_topl ev4 ?_
    refine g_lstore (pc := 30) (lv' := [(5, .long v4), (0, .ref (ad a0)), (1, .long p1), (3, .long p3), (7, .long x7), (9, .int x9)]) C d_Po_valueAtMinus_30 (by decide) rfl ?_
    refine g_lload (pc := 32) C d_Po_valueAtMinus_32 4 rfl ?_
    refine g_lload_n (pc := 34) C d_Po_valueAtMinus_34 rfl 3 rfl ?_
    refine g_lmul (pc := 35) C d_Po_valueAtMinus_35 ?_
    obtain ⟨v5, ev5, h⟩ := o_bd h
    refine g_topl ev5 ?_
    refine g_lstore (pc := 36) (lv' := [(7, .long v5), (5, .long v4), (0, .ref (ad a0)), (1, .long p1), (3, .long p3), (9, .int x9)]) C d_Po_valueAtMinus_36 (by decide) rfl ?_
    refine g_iinc (pc := 38) (q := 5) (lv' := [(9, .int (x9 + (-1))), (7, .long v5), (5, .long v4), (0, .ref (ad a0)), (1, .long p1), (3, .long p3)]) C d_Po_valueAtMinus_38 rfl rfl (by decide) rfl ?_
    refine g_goto (pc := 41) C 9 d_Po_valueAtMinus_41 rfl ?_
    refine g_lv [3, 4, 5, 2, 1, 0] rfl ?_
    exact hk9 _ _ _ h
set_option maxRecDepth 20000 in
theorem w_Po_valueAtMinus_9 {X : HX} {ad : Nat → Nat} {I : HI} {J : HJ} {N : HN} {r : Int64} {a0 : Nat} {p1 : Int64} {p3 : Int64} (C : Cx X c_Po_valueAtMinus RX6 10 (some .long) rm_Po_valueAtMinus) (ha0 : gk Tc nC a0 (0, 6)) : ∀ (n : Nat) (x5 : Int64) (x7 : Int64) (x9 : Int32), Po_valueAtMinus_9 J N a0 p1 p3 n x5 x7 x9 = some r → G Tc X ad nC 0 0 I J N (gE X Tc ad nC (I, J, N, fun _ => some (.long r))) 9 10 [(0, .ref (ad a0)), (1, .long p1), (3, .long p3), (5, .long x5), (7, .long x7), (9, .int x9)] [] := by
  intro n
  induction n with
  | zero => intro x5 x7 x9 h; cases h
  | succ n ih => intro x5 x7 x9 h; exact w_Po_valueAtMinus_9b C ha0 ih h
set_option maxRecDepth 20000 in
theorem w_Po_valueAtMinus_0 {X : HX} {ad : Nat → Nat} {I : HI} {J : HJ} {N : HN} {r : Int64} {a0 : Nat} {p1 : Int64} {p3 : Int64} (C : Cx X c_Po_valueAtMinus RX6 10 (some .long) rm_Po_valueAtMinus) (ha0 : gk Tc nC a0 (0, 6))
    (h : Po_valueAtMinus_0 J N a0 p1 p3 = some r) : G Tc X ad nC 0 0 I J N (gE X Tc ad nC (I, J, N, fun _ => some (.long r))) 0 10 [(0, .ref (ad a0)), (1, .long p1), (3, .long p3)] [] := by
  refine g_lconst (pc := 0) C (0 : Int64) d_Po_valueAtMinus_0 (by decide) ?_
  refine g_lstore (pc := 1) (lv' := [(5, .long (0 : Int64)), (0, .ref (ad a0)), (1, .long p1), (3, .long p3)]) C d_Po_valueAtMinus_1 (by decide) rfl ?_
  refine g_lconst (pc := 3) C (1 : Int64) d_Po_valueAtMinus_3 (by decide) ?_
  refine g_lstore (pc := 4) (lv' := [(7, .long (1 : Int64)), (5, .long (0 : Int64)), (0, .ref (ad a0)), (1, .long p1), (3, .long p3)]) C d_Po_valueAtMinus_4 (by decide) rfl ?_
  refine g_iconst (pc := 6) C (3 : Int32) d_Po_valueAtMinus_6 (by decide) ?_
  refine g_istore (pc := 7) (lv' := [(9, .int (3 : Int32)), (7, .long (1 : Int64)), (5, .long (0 : Int64)), (0, .ref (ad a0)), (1, .long p1), (3, .long p3)]) C d_Po_valueAtMinus_7 (by decide) rfl ?_
  refine g_lv [3, 4, 5, 2, 1, 0] rfl ?_
  exact w_Po_valueAtMinus_9 C ha0 _ _ _ _ h
set_option maxRecDepth 20000 in
theorem k_Po_valueAtMinus (l : Launch) {I : HI} {J : HJ} {N : HN} {a0 : Nat} {p1 : Int64} {p3 : Int64} {r : Int64} (ha0 : gk Tc nC a0 (0, 6)) (h : Po_valueAtMinus J N a0 p1 p3 = some r) : gM l y_Po_valueAtMinus c_Po_valueAtMinus 10 (some .long) rm_Po_valueAtMinus Tc nC I J N (fun ad => [.ref (ad a0), .long p1, .long p3]) (I, J, N, fun _ => some (.long r)) :=
  g_meth (lv := fun ad => [(0, .ref (ad a0)), (1, .long p1), (3, .long p3)]) (by decide) (fun _ => Nat.le_of_ble_eq_true rfl) (fun _ => rfl) (fun X ad C => g_lv [0, 1, 2] rfl (w_Po_valueAtMinus_0 C ha0 h))
theorem d_Po_divideByRoot_0 : decode c_Po_divideByRoot 0 = .ok (.lconst 0, 1) := by decide +kernel
theorem d_Po_divideByRoot_1 : decode c_Po_divideByRoot 1 = .ok (.lstore 5, 2) := by decide +kernel
theorem d_Po_divideByRoot_3 : decode c_Po_divideByRoot 3 = .ok (.bipush 6, 2) := by decide +kernel
theorem d_Po_divideByRoot_5 : decode c_Po_divideByRoot 5 = .ok (.istore 7, 2) := by decide +kernel
theorem d_Po_divideByRoot_7 : decode c_Po_divideByRoot 7 = .ok (.iload 7, 2) := by decide +kernel
theorem d_Po_divideByRoot_9 : decode c_Po_divideByRoot 9 = .ok (.ifCond .lt 44, 3) := by decide +kernel
theorem d_Po_divideByRoot_12 : decode c_Po_divideByRoot 12 = .ok (.lload_n 3, 1) := by decide +kernel
theorem d_Po_divideByRoot_13 : decode c_Po_divideByRoot 13 = .ok (.lconst 0, 1) := by decide +kernel
theorem d_Po_divideByRoot_14 : decode c_Po_divideByRoot 14 = .ok (.lcmp, 1) := by decide +kernel
theorem d_Po_divideByRoot_15 : decode c_Po_divideByRoot 15 = .ok (.ifCond .eq 38, 3) := by decide +kernel
theorem d_Po_divideByRoot_18 : decode c_Po_divideByRoot 18 = .ok (.aload_n 0, 1) := by decide +kernel
theorem d_Po_divideByRoot_19 : decode c_Po_divideByRoot 19 = .ok (.getfield 9, 3) := by decide +kernel
theorem d_Po_divideByRoot_22 : decode c_Po_divideByRoot 22 = .ok (.iload 7, 2) := by decide +kernel
theorem d_Po_divideByRoot_24 : decode c_Po_divideByRoot 24 = .ok (.laload, 1) := by decide +kernel
theorem d_Po_divideByRoot_25 : decode c_Po_divideByRoot 25 = .ok (.lload_n 1, 1) := by decide +kernel
theorem d_Po_divideByRoot_26 : decode c_Po_divideByRoot 26 = .ok (.lload 5, 2) := by decide +kernel
theorem d_Po_divideByRoot_28 : decode c_Po_divideByRoot 28 = .ok (.lmul, 1) := by decide +kernel
theorem d_Po_divideByRoot_29 : decode c_Po_divideByRoot 29 = .ok (.lsub, 1) := by decide +kernel
theorem d_Po_divideByRoot_30 : decode c_Po_divideByRoot 30 = .ok (.lload_n 3, 1) := by decide +kernel
theorem d_Po_divideByRoot_31 : decode c_Po_divideByRoot 31 = .ok (.ldiv, 1) := by decide +kernel
theorem d_Po_divideByRoot_32 : decode c_Po_divideByRoot 32 = .ok (.lstore 8, 2) := by decide +kernel
theorem d_Po_divideByRoot_34 : decode c_Po_divideByRoot 34 = .ok (.aload_n 0, 1) := by decide +kernel
theorem d_Po_divideByRoot_35 : decode c_Po_divideByRoot 35 = .ok (.getfield 9, 3) := by decide +kernel
theorem d_Po_divideByRoot_38 : decode c_Po_divideByRoot 38 = .ok (.iload 7, 2) := by decide +kernel
theorem d_Po_divideByRoot_40 : decode c_Po_divideByRoot 40 = .ok (.lload 5, 2) := by decide +kernel
theorem d_Po_divideByRoot_42 : decode c_Po_divideByRoot 42 = .ok (.lastore, 1) := by decide +kernel
theorem d_Po_divideByRoot_43 : decode c_Po_divideByRoot 43 = .ok (.lload 8, 2) := by decide +kernel
theorem d_Po_divideByRoot_45 : decode c_Po_divideByRoot 45 = .ok (.lstore 5, 2) := by decide +kernel
theorem d_Po_divideByRoot_47 : decode c_Po_divideByRoot 47 = .ok (.iinc 7 (-1), 3) := by decide +kernel
theorem d_Po_divideByRoot_50 : decode c_Po_divideByRoot 50 = .ok (.goto (-43), 3) := by decide +kernel
theorem d_Po_divideByRoot_53 : decode c_Po_divideByRoot 53 = .ok (.return_, 1) := by decide +kernel
set_option maxRecDepth 20000 in
theorem w_Po_divideByRoot_7b {X : HX} {ad : Nat → Nat} {I : HI} {J : HJ} {N : HN} {r : HJ} {k7 : HJ → Int64 → Int32 → Option (HJ)} {a0 : Nat} {p1 : Int64} {p3 : Int64} {x5 : Int64} {x7 : Int32} (C : Cx X c_Po_divideByRoot RX6 10 none rm_Po_divideByRoot) (ha0 : gk Tc nC a0 (0, 6))
    (hk7 : ∀ (J : HJ) (x5 : Int64) (x7 : Int32), k7 J x5 x7 = some r → G Tc X ad nC 0 0 I J N (gE X Tc ad nC (I, r, N, fun _ => none)) 7 10 [(0, .ref (ad a0)), (1, .long p1), (3, .long p3), (5, .long x5), (7, .int x7)] [])
    (h : Po_divideByRoot_7b N a0 p1 p3 k7 J x5 x7 = some r) : G Tc X ad nC 0 0 I J N (gE X Tc ad nC (I, r, N, fun _ => none)) 7 10 [(0, .ref (ad a0)), (1, .long p1), (3, .long p3), (5, .long x5), (7, .int x7)] [] := by
  refine g_iload (pc := 7) C d_Po_divideByRoot_7 4 rfl ?_
  refine g_if_lt (pc := 9) C 53 d_Po_divideByRoot_9 rfl (fun e1 => ?_) (fun e1 => ?_)
  · have h := o_pos e1 h
    cases h
    exact g_vret (pc := 53) C d_Po_divideByRoot_53
  · have h := o_neg e1 h
    refine g_lload_n (pc := 12) C d_Po_divideByRoot_12 rfl 2 rfl ?_
    refine g_lconst (pc := 13) C (0 : Int64) d_Po_divideByRoot_13 (by decide) ?_
    refine g_lcmp_eq (pc := 14) C 53 d_Po_divideByRoot_14 d_Po_divideByRoot_15 rfl (fun e2 => ?_) (fun e2 => ?_)
    · have h := o_pos e2 h
      cases h
      exact g_vret (pc := 53) C d_Po_divideByRoot_53
    · have h := o_neg e2 h
      refine g_aload_n (pc := 18) C d_Po_divideByRoot_18 rfl 0 rfl ?_
      obtain ⟨b3, hnb3, hb3, h⟩ := o_ra h
      refine g_get (pc := 19) (k := 0) (v := va_rf ((N a0 0).map ad)) C gcX6 inX6 (by decide) fl_Po_9 ha0 rfl d_Po_divideByRoot_19 ?_
      refine g_top (g_rf hnb3) ?_
      refine g_iload (pc := 22) C d_Po_divideByRoot_22 4 rfl ?_
      obtain ⟨hi4, h⟩ := o_gd h
      refine g_lald (pc := 24) C hb3 hi4 d_Po_divideByRoot_24 ?_
      refine g_lload_n (pc := 25) C d_Po_divideByRoot_25 rfl 1 rfl ?_
      refine g_lload (pc := 26) C d_Po_divideByRoot_26 3 rfl ?_
      refine g_lmul (pc := 28) C d_Po_divideByRoot_28 ?_
      refine g_lsub (pc := 29) C d_Po_divideByRoot_29 ?_
      refine g_lload_n (pc := 30) C d_Po_divideByRoot_30 rfl 2 rfl ?_
      obtain ⟨hz5, h⟩ := o_gd h
      refine g_ldiv (pc := 31) C d_Po_divideByRoot_31 (of_decide_eq_true hz5) ?_
      obtain ⟨v6, ev6, h⟩ := o_bd h
      refine g_topl ev6 ?_
      refine g_lstore (pc := 32) (lv' := [(8, .long v6), (0, .ref (ad a0)), (1, .long p1), (3, .long p3), (5, .long x5), (7, .int x7)]) C d_Po_divideByRoot_32 (by decide) rfl ?_
      refine g_aload_n (pc := 34) C d_Po_divideByRoot_34 rfl 1 rfl ?_
      obtain ⟨b7, hnb7, hb7, h⟩ := o_ra h
      refine g_get (pc := 35) (k := 0) (v := va_rf ((N a0 0).map ad)) C gcX6 inX6 (by decide) fl_Po_9 ha0 rfl d_Po_divideByRoot_35 ?_
      refine g_top (g_rf hnb7) ?_
      refine g_iload (pc := 38) C d_Po_divideByRoot_38 5 rfl ?_
      refine g_lload (pc := 40) C d_Po_divideByRoot_40 4 rfl ?_
      obtain ⟨hi8, h⟩ := o_gd h
      refine g_last (pc := 42) C hb7 hi8 d_Po_divideByRoot_42 ?_
      obtain ⟨J9, eJ9, h⟩ := o_bd h
      rw [← eJ9]
      refine g_lload (pc := 43) C d_Po_divideByRoot_43 0 rfl ?_
      refine g_lstore (pc := 45) (lv' := [(5, .long v6), (8, .long v6), (0, .ref (ad a0)), (1, .long p1), (3, .long p3), (7, .int x7)]) C d_Po_divideByRoot_45 (by decide) rfl ?_
      refine g_iinc (pc := 47) (q := 5) (lv' := [(7, .int (x7 + (-1))), (5, .long v6), (8, .long v6), (0, .ref (ad a0)), (1, .long p1), (3, .long p3)]) C d_Po_divideByRoot_47 rfl rfl (by decide) rfl ?_
      refine g_goto (pc := 50) C 7 d_Po_divideByRoot_50 rfl ?_
      refine g_lv [3, 4, 5, 1, 0] rfl ?_
      exact hk7 _ _ _ h
set_option maxRecDepth 20000 in
theorem w_Po_divideByRoot_7 {X : HX} {ad : Nat → Nat} {I : HI} {N : HN} {r : HJ} {a0 : Nat} {p1 : Int64} {p3 : Int64} (C : Cx X c_Po_divideByRoot RX6 10 none rm_Po_divideByRoot) (ha0 : gk Tc nC a0 (0, 6)) : ∀ (n : Nat) (J : HJ) (x5 : Int64) (x7 : Int32), Po_divideByRoot_7 N a0 p1 p3 n J x5 x7 = some r → G Tc X ad nC 0 0 I J N (gE X Tc ad nC (I, r, N, fun _ => none)) 7 10 [(0, .ref (ad a0)), (1, .long p1), (3, .long p3), (5, .long x5), (7, .int x7)] [] := by
  intro n
  induction n with
  | zero => intro J x5 x7 h; cases h
  | succ n ih => intro J x5 x7 h; exact w_Po_divideByRoot_7b C ha0 ih h
set_option maxRecDepth 20000 in
theorem w_Po_divideByRoot_0 {X : HX} {ad : Nat → Nat} {I : HI} {J : HJ} {N : HN} {r : HJ} {a0 : Nat} {p1 : Int64} {p3 : Int64} (C : Cx X c_Po_divideByRoot RX6 10 none rm_Po_divideByRoot) (ha0 : gk Tc nC a0 (0, 6))
    (h : Po_divideByRoot_0 N a0 p1 p3 J = some r) : G Tc X ad nC 0 0 I J N (gE X Tc ad nC (I, r, N, fun _ => none)) 0 10 [(0, .ref (ad a0)), (1, .long p1), (3, .long p3)] [] := by
  refine g_lconst (pc := 0) C (0 : Int64) d_Po_divideByRoot_0 (by decide) ?_
  refine g_lstore (pc := 1) (lv' := [(5, .long (0 : Int64)), (0, .ref (ad a0)), (1, .long p1), (3, .long p3)]) C d_Po_divideByRoot_1 (by decide) rfl ?_
  refine g_bipush (pc := 3) C (6 : Int32) d_Po_divideByRoot_3 (by decide) ?_
  refine g_istore (pc := 5) (lv' := [(7, .int (6 : Int32)), (5, .long (0 : Int64)), (0, .ref (ad a0)), (1, .long p1), (3, .long p3)]) C d_Po_divideByRoot_5 (by decide) rfl ?_
  refine g_lv [2, 3, 4, 1, 0] rfl ?_
  exact w_Po_divideByRoot_7 C ha0 _ _ _ _ h
set_option maxRecDepth 20000 in
theorem k_Po_divideByRoot (l : Launch) {I : HI} {J : HJ} {N : HN} {a0 : Nat} {p1 : Int64} {p3 : Int64} {r : HJ} (ha0 : gk Tc nC a0 (0, 6)) (h : Po_divideByRoot N a0 p1 p3 J = some r) : gM l y_Po_divideByRoot c_Po_divideByRoot 10 none rm_Po_divideByRoot Tc nC I J N (fun ad => [.ref (ad a0), .long p1, .long p3]) (I, r, N, fun _ => none) :=
  g_meth (lv := fun ad => [(0, .ref (ad a0)), (1, .long p1), (3, .long p3)]) (by decide) (fun _ => Nat.le_of_ble_eq_true rfl) (fun _ => rfl) (fun X ad C => g_lv [0, 1, 2] rfl (w_Po_divideByRoot_0 C ha0 h))
end
