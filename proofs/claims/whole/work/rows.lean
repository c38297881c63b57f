section
-- ===== PART A: goes FIRST, ahead of the names: the tables' words, and 'selects' of the private methods out of them =====
/-- a private method of a class that the tables say can be made, by its rows of tables_1 -/
def lw_okq (q : MethodName × Nat) : Prop := (q.1.cls ≠ "java/lang/invoke/MethodHandle" ∧ q.1.cls ≠ "java/lang/invoke/VarHandle") ∧ Cond.instantiable q.1.cls q.2 ∈ tables_1 ∧ Cond.privateMethod q.1 ∈ tables_1 ∧ Cond.instanceMethod q.1 ∈ tables_1
theorem lw_p0 : lw_okq (⟨"LadderMaker", "sheetRefusal", "(I)I"⟩, 9) := ⟨⟨by decide +kernel, by decide +kernel⟩, List.mem_of_getElem? (i := 16) (by decide +kernel), List.mem_of_getElem? (i := 324) (by decide +kernel), List.mem_of_getElem? (i := 325) (by decide +kernel)⟩
theorem lw_p1 : lw_okq (⟨"LadderMaker", "finding", "(I)I"⟩, 9) := ⟨⟨by decide +kernel, by decide +kernel⟩, List.mem_of_getElem? (i := 16) (by decide +kernel), List.mem_of_getElem? (i := 341) (by decide +kernel), List.mem_of_getElem? (i := 342) (by decide +kernel)⟩
theorem lw_p2 : lw_okq (⟨"LadderMaker$Reactance", "halfValue", "(LLadderMaker$Polynomial;III)J"⟩, 2) := ⟨⟨by decide +kernel, by decide +kernel⟩, List.mem_of_getElem? (i := 205) (by decide +kernel), List.mem_of_getElem? (i := 381) (by decide +kernel), List.mem_of_getElem? (i := 382) (by decide +kernel)⟩
theorem lw_p3 : lw_okq (⟨"LadderMaker", "ladderChanged", "()V"⟩, 9) := ⟨⟨by decide +kernel, by decide +kernel⟩, List.mem_of_getElem? (i := 16) (by decide +kernel), List.mem_of_getElem? (i := 416) (by decide +kernel), List.mem_of_getElem? (i := 417) (by decide +kernel)⟩
theorem lw_p4 : lw_okq (⟨"LadderMaker$Folder", "loadArm", "(LLadderMaker$Ladder;I)V"⟩, 3) := ⟨⟨by decide +kernel, by decide +kernel⟩, List.mem_of_getElem? (i := 73) (by decide +kernel), List.mem_of_getElem? (i := 434) (by decide +kernel), List.mem_of_getElem? (i := 435) (by decide +kernel)⟩
theorem lw_p5 : lw_okq (⟨"LadderMaker$Folder", "addArm", "()V"⟩, 3) := ⟨⟨by decide +kernel, by decide +kernel⟩, List.mem_of_getElem? (i := 73) (by decide +kernel), List.mem_of_getElem? (i := 439) (by decide +kernel), List.mem_of_getElem? (i := 440) (by decide +kernel)⟩
theorem lw_p6 : lw_okq (⟨"LadderMaker$Bill", "addPart", "(III)V"⟩, 2) := ⟨⟨by decide +kernel, by decide +kernel⟩, List.mem_of_getElem? (i := 155) (by decide +kernel), List.mem_of_getElem? (i := 474) (by decide +kernel), List.mem_of_getElem? (i := 475) (by decide +kernel)⟩
theorem lw_p7 : lw_okq (⟨"LadderMaker$Unfolder", "divideOn", "(Z)I"⟩, 10) := ⟨⟨by decide +kernel, by decide +kernel⟩, List.mem_of_getElem? (i := 92) (by decide +kernel), List.mem_of_getElem? (i := 503) (by decide +kernel), List.mem_of_getElem? (i := 504) (by decide +kernel)⟩
theorem lw_p8 : lw_okq (⟨"LadderMaker$Unfolder", "addRising", "(I)V"⟩, 10) := ⟨⟨by decide +kernel, by decide +kernel⟩, List.mem_of_getElem? (i := 92) (by decide +kernel), List.mem_of_getElem? (i := 523) (by decide +kernel), List.mem_of_getElem? (i := 524) (by decide +kernel)⟩
theorem lw_p9 : lw_okq (⟨"LadderMaker$Unfolder", "addFalling", "(I)V"⟩, 10) := ⟨⟨by decide +kernel, by decide +kernel⟩, List.mem_of_getElem? (i := 92) (by decide +kernel), List.mem_of_getElem? (i := 528) (by decide +kernel), List.mem_of_getElem? (i := 529) (by decide +kernel)⟩
theorem lw_p10 : lw_okq (⟨"LadderMaker$Unfolder", "divideByPoles", "(I)I"⟩, 10) := ⟨⟨by decide +kernel, by decide +kernel⟩, List.mem_of_getElem? (i := 92) (by decide +kernel), List.mem_of_getElem? (i := 543) (by decide +kernel), List.mem_of_getElem? (i := 544) (by decide +kernel)⟩
theorem lw_p11 : lw_okq (⟨"LadderMaker$Unfolder", "loadInX", "()V"⟩, 10) := ⟨⟨by decide +kernel, by decide +kernel⟩, List.mem_of_getElem? (i := 92) (by decide +kernel), List.mem_of_getElem? (i := 547) (by decide +kernel), List.mem_of_getElem? (i := 548) (by decide +kernel)⟩
theorem lw_p12 : lw_okq (⟨"LadderMaker$Unfolder", "findRoots", "()V"⟩, 10) := ⟨⟨by decide +kernel, by decide +kernel⟩, List.mem_of_getElem? (i := 92) (by decide +kernel), List.mem_of_getElem? (i := 556) (by decide +kernel), List.mem_of_getElem? (i := 557) (by decide +kernel)⟩
theorem lw_p13 : lw_okq (⟨"LadderMaker$Unfolder", "timesInRest", "(II)I"⟩, 10) := ⟨⟨by decide +kernel, by decide +kernel⟩, List.mem_of_getElem? (i := 92) (by decide +kernel), List.mem_of_getElem? (i := 563) (by decide +kernel), List.mem_of_getElem? (i := 564) (by decide +kernel)⟩
theorem lw_p14 : lw_okq (⟨"LadderMaker$Unfolder", "addRoot", "(III)V"⟩, 10) := ⟨⟨by decide +kernel, by decide +kernel⟩, List.mem_of_getElem? (i := 92) (by decide +kernel), List.mem_of_getElem? (i := 571) (by decide +kernel), List.mem_of_getElem? (i := 572) (by decide +kernel)⟩
theorem lw_p15 : lw_okq (⟨"LadderMaker$Unfolder", "poleAtGreatest", "(I)I"⟩, 10) := ⟨⟨by decide +kernel, by decide +kernel⟩, List.mem_of_getElem? (i := 92) (by decide +kernel), List.mem_of_getElem? (i := 575) (by decide +kernel), List.mem_of_getElem? (i := 576) (by decide +kernel)⟩
def lw_privs_1 : List (MethodName × Nat) := [(⟨"LadderMaker", "sheetRefusal", "(I)I"⟩, 9), (⟨"LadderMaker", "finding", "(I)I"⟩, 9), (⟨"LadderMaker$Reactance", "halfValue", "(LLadderMaker$Polynomial;III)J"⟩, 2), (⟨"LadderMaker", "ladderChanged", "()V"⟩, 9), (⟨"LadderMaker$Folder", "loadArm", "(LLadderMaker$Ladder;I)V"⟩, 3), (⟨"LadderMaker$Folder", "addArm", "()V"⟩, 3), (⟨"LadderMaker$Bill", "addPart", "(III)V"⟩, 2), (⟨"LadderMaker$Unfolder", "divideOn", "(Z)I"⟩, 10), (⟨"LadderMaker$Unfolder", "addRising", "(I)V"⟩, 10), (⟨"LadderMaker$Unfolder", "addFalling", "(I)V"⟩, 10), (⟨"LadderMaker$Unfolder", "divideByPoles", "(I)I"⟩, 10), (⟨"LadderMaker$Unfolder", "loadInX", "()V"⟩, 10), (⟨"LadderMaker$Unfolder", "findRoots", "()V"⟩, 10), (⟨"LadderMaker$Unfolder", "timesInRest", "(II)I"⟩, 10), (⟨"LadderMaker$Unfolder", "addRoot", "(III)V"⟩, 10), (⟨"LadderMaker$Unfolder", "poleAtGreatest", "(I)I"⟩, 10)]
theorem lw_r1 : ∀ q ∈ lw_privs_1, lw_okq q := List.forall_mem_cons.mpr ⟨lw_p0, List.forall_mem_cons.mpr ⟨lw_p1, List.forall_mem_cons.mpr ⟨lw_p2, List.forall_mem_cons.mpr ⟨lw_p3, List.forall_mem_cons.mpr ⟨lw_p4, List.forall_mem_cons.mpr ⟨lw_p5, List.forall_mem_cons.mpr ⟨lw_p6, List.forall_mem_cons.mpr ⟨lw_p7, List.forall_mem_cons.mpr ⟨lw_p8, List.forall_mem_cons.mpr ⟨lw_p9, List.forall_mem_cons.mpr ⟨lw_p10, List.forall_mem_cons.mpr ⟨lw_p11, List.forall_mem_cons.mpr ⟨lw_p12, List.forall_mem_cons.mpr ⟨lw_p13, List.forall_mem_cons.mpr ⟨lw_p14, List.forall_mem_cons.mpr ⟨lw_p15, fun _ h => absurd h List.not_mem_nil⟩⟩⟩⟩⟩⟩⟩⟩⟩⟩⟩⟩⟩⟩⟩⟩
theorem lw_p16 : lw_okq (⟨"LadderMaker$Unfolder", "poleAtZero", "(I)I"⟩, 10) := ⟨⟨by decide +kernel, by decide +kernel⟩, List.mem_of_getElem? (i := 92) (by decide +kernel), List.mem_of_getElem? (i := 579) (by decide +kernel), List.mem_of_getElem? (i := 580) (by decide +kernel)⟩
theorem lw_p17 : lw_okq (⟨"LadderMaker$Unfolder", "poleAtRoot", "(II)I"⟩, 10) := ⟨⟨by decide +kernel, by decide +kernel⟩, List.mem_of_getElem? (i := 92) (by decide +kernel), List.mem_of_getElem? (i := 583) (by decide +kernel), List.mem_of_getElem? (i := 584) (by decide +kernel)⟩
theorem lw_p18 : lw_okq (⟨"LadderMaker$Unfolder", "addBoth", "(I)V"⟩, 10) := ⟨⟨by decide +kernel, by decide +kernel⟩, List.mem_of_getElem? (i := 92) (by decide +kernel), List.mem_of_getElem? (i := 587) (by decide +kernel), List.mem_of_getElem? (i := 588) (by decide +kernel)⟩
theorem lw_p19 : lw_okq (⟨"LadderMaker$Memory", "isSought", "(I)Z"⟩, 3) := ⟨⟨by decide +kernel, by decide +kernel⟩, List.mem_of_getElem? (i := 170) (by decide +kernel), List.mem_of_getElem? (i := 651) (by decide +kernel), List.mem_of_getElem? (i := 652) (by decide +kernel)⟩
theorem lw_p20 : lw_okq (⟨"LadderMaker", "itemRefusal", "(II)I"⟩, 9) := ⟨⟨by decide +kernel, by decide +kernel⟩, List.mem_of_getElem? (i := 16) (by decide +kernel), List.mem_of_getElem? (i := 700) (by decide +kernel), List.mem_of_getElem? (i := 701) (by decide +kernel)⟩
theorem lw_p21 : lw_okq (⟨"LadderMaker", "digestOfRows", "(J)J"⟩, 9) := ⟨⟨by decide +kernel, by decide +kernel⟩, List.mem_of_getElem? (i := 16) (by decide +kernel), List.mem_of_getElem? (i := 754) (by decide +kernel), List.mem_of_getElem? (i := 755) (by decide +kernel)⟩
theorem lw_p22 : lw_okq (⟨"LadderMakerModel", "finds", "(I)I"⟩, 33) := ⟨⟨by decide +kernel, by decide +kernel⟩, List.mem_of_getElem? (i := 763) (by decide +kernel), List.mem_of_getElem? (i := 880) (by decide +kernel), List.mem_of_getElem? (i := 881) (by decide +kernel)⟩
theorem lw_p23 : lw_okq (⟨"LadderMakerModel", "lacks", "(II)I"⟩, 33) := ⟨⟨by decide +kernel, by decide +kernel⟩, List.mem_of_getElem? (i := 763) (by decide +kernel), List.mem_of_getElem? (i := 892) (by decide +kernel), List.mem_of_getElem? (i := 893) (by decide +kernel)⟩
theorem lw_p24 : lw_okq (⟨"LadderMakerModel", "isLawful", "()Z"⟩, 33) := ⟨⟨by decide +kernel, by decide +kernel⟩, List.mem_of_getElem? (i := 763) (by decide +kernel), List.mem_of_getElem? (i := 927) (by decide +kernel), List.mem_of_getElem? (i := 928) (by decide +kernel)⟩
theorem lw_p25 : lw_okq (⟨"LadderMakerModel", "sort", "(I)I"⟩, 33) := ⟨⟨by decide +kernel, by decide +kernel⟩, List.mem_of_getElem? (i := 763) (by decide +kernel), List.mem_of_getElem? (i := 931) (by decide +kernel), List.mem_of_getElem? (i := 932) (by decide +kernel)⟩
theorem lw_p26 : lw_okq (⟨"LadderMakerModel", "degree", "(I)I"⟩, 33) := ⟨⟨by decide +kernel, by decide +kernel⟩, List.mem_of_getElem? (i := 763) (by decide +kernel), List.mem_of_getElem? (i := 939) (by decide +kernel), List.mem_of_getElem? (i := 940) (by decide +kernel)⟩
theorem lw_p27 : lw_okq (⟨"LadderMakerModel", "infoBy", "(I)I"⟩, 33) := ⟨⟨by decide +kernel, by decide +kernel⟩, List.mem_of_getElem? (i := 763) (by decide +kernel), List.mem_of_getElem? (i := 956) (by decide +kernel), List.mem_of_getElem? (i := 957) (by decide +kernel)⟩
theorem lw_p28 : lw_okq (⟨"LadderMakerModel", "lowest", "(I)I"⟩, 33) := ⟨⟨by decide +kernel, by decide +kernel⟩, List.mem_of_getElem? (i := 763) (by decide +kernel), List.mem_of_getElem? (i := 960) (by decide +kernel), List.mem_of_getElem? (i := 961) (by decide +kernel)⟩
theorem lw_p29 : lw_okq (⟨"LadderMakerModel", "reactanceBy", "(III)J"⟩, 33) := ⟨⟨by decide +kernel, by decide +kernel⟩, List.mem_of_getElem? (i := 763) (by decide +kernel), List.mem_of_getElem? (i := 968) (by decide +kernel), List.mem_of_getElem? (i := 969) (by decide +kernel)⟩
theorem lw_p30 : lw_okq (⟨"LadderMakerModel", "turnedValue", "(III)J"⟩, 33) := ⟨⟨by decide +kernel, by decide +kernel⟩, List.mem_of_getElem? (i := 763) (by decide +kernel), List.mem_of_getElem? (i := 972) (by decide +kernel), List.mem_of_getElem? (i := 973) (by decide +kernel)⟩
theorem lw_p31 : lw_okq (⟨"LadderMakerModel", "unfolds", "(I)I"⟩, 33) := ⟨⟨by decide +kernel, by decide +kernel⟩, List.mem_of_getElem? (i := 763) (by decide +kernel), List.mem_of_getElem? (i := 1002) (by decide +kernel), List.mem_of_getElem? (i := 1003) (by decide +kernel)⟩
def lw_privs_2 : List (MethodName × Nat) := [(⟨"LadderMaker$Unfolder", "poleAtZero", "(I)I"⟩, 10), (⟨"LadderMaker$Unfolder", "poleAtRoot", "(II)I"⟩, 10), (⟨"LadderMaker$Unfolder", "addBoth", "(I)V"⟩, 10), (⟨"LadderMaker$Memory", "isSought", "(I)Z"⟩, 3), (⟨"LadderMaker", "itemRefusal", "(II)I"⟩, 9), (⟨"LadderMaker", "digestOfRows", "(J)J"⟩, 9), (⟨"LadderMakerModel", "finds", "(I)I"⟩, 33), (⟨"LadderMakerModel", "lacks", "(II)I"⟩, 33), (⟨"LadderMakerModel", "isLawful", "()Z"⟩, 33), (⟨"LadderMakerModel", "sort", "(I)I"⟩, 33), (⟨"LadderMakerModel", "degree", "(I)I"⟩, 33), (⟨"LadderMakerModel", "infoBy", "(I)I"⟩, 33), (⟨"LadderMakerModel", "lowest", "(I)I"⟩, 33), (⟨"LadderMakerModel", "reactanceBy", "(III)J"⟩, 33), (⟨"LadderMakerModel", "turnedValue", "(III)J"⟩, 33), (⟨"LadderMakerModel", "unfolds", "(I)I"⟩, 33)]
theorem lw_r2 : ∀ q ∈ lw_privs_2, lw_okq q := List.forall_mem_cons.mpr ⟨lw_p16, List.forall_mem_cons.mpr ⟨lw_p17, List.forall_mem_cons.mpr ⟨lw_p18, List.forall_mem_cons.mpr ⟨lw_p19, List.forall_mem_cons.mpr ⟨lw_p20, List.forall_mem_cons.mpr ⟨lw_p21, List.forall_mem_cons.mpr ⟨lw_p22, List.forall_mem_cons.mpr ⟨lw_p23, List.forall_mem_cons.mpr ⟨lw_p24, List.forall_mem_cons.mpr ⟨lw_p25, List.forall_mem_cons.mpr ⟨lw_p26, List.forall_mem_cons.mpr ⟨lw_p27, List.forall_mem_cons.mpr ⟨lw_p28, List.forall_mem_cons.mpr ⟨lw_p29, List.forall_mem_cons.mpr ⟨lw_p30, List.forall_mem_cons.mpr ⟨lw_p31, fun _ h => absurd h List.not_mem_nil⟩⟩⟩⟩⟩⟩⟩⟩⟩⟩⟩⟩⟩⟩⟩⟩
theorem lw_p32 : lw_okq (⟨"LadderMakerModel", "divides", "(I)I"⟩, 33) := ⟨⟨by decide +kernel, by decide +kernel⟩, List.mem_of_getElem? (i := 763) (by decide +kernel), List.mem_of_getElem? (i := 1006) (by decide +kernel), List.mem_of_getElem? (i := 1007) (by decide +kernel)⟩
theorem lw_p33 : lw_okq (⟨"LadderMakerModel", "swaps", "()V"⟩, 33) := ⟨⟨by decide +kernel, by decide +kernel⟩, List.mem_of_getElem? (i := 763) (by decide +kernel), List.mem_of_getElem? (i := 1013) (by decide +kernel), List.mem_of_getElem? (i := 1014) (by decide +kernel)⟩
theorem lw_p34 : lw_okq (⟨"LadderMakerModel", "scales", "(JJJJ)V"⟩, 33) := ⟨⟨by decide +kernel, by decide +kernel⟩, List.mem_of_getElem? (i := 763) (by decide +kernel), List.mem_of_getElem? (i := 1020) (by decide +kernel), List.mem_of_getElem? (i := 1021) (by decide +kernel)⟩
theorem lw_p35 : lw_okq (⟨"LadderMakerModel", "dividesOnce", "(III)I"⟩, 33) := ⟨⟨by decide +kernel, by decide +kernel⟩, List.mem_of_getElem? (i := 763) (by decide +kernel), List.mem_of_getElem? (i := 1024) (by decide +kernel), List.mem_of_getElem? (i := 1025) (by decide +kernel)⟩
theorem lw_p36 : lw_okq (⟨"LadderMakerModel", "takes", "(JJ)V"⟩, 33) := ⟨⟨by decide +kernel, by decide +kernel⟩, List.mem_of_getElem? (i := 763) (by decide +kernel), List.mem_of_getElem? (i := 1028) (by decide +kernel), List.mem_of_getElem? (i := 1029) (by decide +kernel)⟩
theorem lw_p37 : lw_okq (⟨"LadderMakerModel", "isHandy", "()Z"⟩, 33) := ⟨⟨by decide +kernel, by decide +kernel⟩, List.mem_of_getElem? (i := 763) (by decide +kernel), List.mem_of_getElem? (i := 1032) (by decide +kernel), List.mem_of_getElem? (i := 1033) (by decide +kernel)⟩
theorem lw_p38 : lw_okq (⟨"LadderMakerModel", "makes", "(I)V"⟩, 33) := ⟨⟨by decide +kernel, by decide +kernel⟩, List.mem_of_getElem? (i := 763) (by decide +kernel), List.mem_of_getElem? (i := 1037) (by decide +kernel), List.mem_of_getElem? (i := 1038) (by decide +kernel)⟩
theorem lw_p39 : lw_okq (⟨"LadderMakerModel", "lays", "(I)V"⟩, 33) := ⟨⟨by decide +kernel, by decide +kernel⟩, List.mem_of_getElem? (i := 763) (by decide +kernel), List.mem_of_getElem? (i := 1041) (by decide +kernel), List.mem_of_getElem? (i := 1042) (by decide +kernel)⟩
theorem lw_p40 : lw_okq (⟨"LadderMakerModel", "byRoots", "(I)I"⟩, 33) := ⟨⟨by decide +kernel, by decide +kernel⟩, List.mem_of_getElem? (i := 763) (by decide +kernel), List.mem_of_getElem? (i := 1045) (by decide +kernel), List.mem_of_getElem? (i := 1046) (by decide +kernel)⟩
theorem lw_p41 : lw_okq (⟨"LadderMakerModel", "candidates", "()V"⟩, 33) := ⟨⟨by decide +kernel, by decide +kernel⟩, List.mem_of_getElem? (i := 763) (by decide +kernel), List.mem_of_getElem? (i := 1049) (by decide +kernel), List.mem_of_getElem? (i := 1050) (by decide +kernel)⟩
theorem lw_p42 : lw_okq (⟨"LadderMakerModel", "squares", "(IZ[J)V"⟩, 33) := ⟨⟨by decide +kernel, by decide +kernel⟩, List.mem_of_getElem? (i := 763) (by decide +kernel), List.mem_of_getElem? (i := 1056) (by decide +kernel), List.mem_of_getElem? (i := 1057) (by decide +kernel)⟩
theorem lw_p43 : lw_okq (⟨"LadderMakerModel", "isDark", "()Z"⟩, 33) := ⟨⟨by decide +kernel, by decide +kernel⟩, List.mem_of_getElem? (i := 763) (by decide +kernel), List.mem_of_getElem? (i := 1063) (by decide +kernel), List.mem_of_getElem? (i := 1064) (by decide +kernel)⟩
theorem lw_p44 : lw_okq (⟨"LadderMakerModel", "takesOut", "(JJ)Z"⟩, 33) := ⟨⟨by decide +kernel, by decide +kernel⟩, List.mem_of_getElem? (i := 763) (by decide +kernel), List.mem_of_getElem? (i := 1067) (by decide +kernel), List.mem_of_getElem? (i := 1068) (by decide +kernel)⟩
theorem lw_p45 : lw_okq (⟨"LadderMakerModel", "ends", "(I)I"⟩, 33) := ⟨⟨by decide +kernel, by decide +kernel⟩, List.mem_of_getElem? (i := 763) (by decide +kernel), List.mem_of_getElem? (i := 1074) (by decide +kernel), List.mem_of_getElem? (i := 1075) (by decide +kernel)⟩
theorem lw_p46 : lw_okq (⟨"LadderMakerModel", "alone", "(IIIJJ)I"⟩, 33) := ⟨⟨by decide +kernel, by decide +kernel⟩, List.mem_of_getElem? (i := 763) (by decide +kernel), List.mem_of_getElem? (i := 1078) (by decide +kernel), List.mem_of_getElem? (i := 1079) (by decide +kernel)⟩
theorem lw_p47 : lw_okq (⟨"LadderMakerModel", "slopes", "()V"⟩, 33) := ⟨⟨by decide +kernel, by decide +kernel⟩, List.mem_of_getElem? (i := 763) (by decide +kernel), List.mem_of_getElem? (i := 1082) (by decide +kernel), List.mem_of_getElem? (i := 1083) (by decide +kernel)⟩
def lw_privs_3 : List (MethodName × Nat) := [(⟨"LadderMakerModel", "divides", "(I)I"⟩, 33), (⟨"LadderMakerModel", "swaps", "()V"⟩, 33), (⟨"LadderMakerModel", "scales", "(JJJJ)V"⟩, 33), (⟨"LadderMakerModel", "dividesOnce", "(III)I"⟩, 33), (⟨"LadderMakerModel", "takes", "(JJ)V"⟩, 33), (⟨"LadderMakerModel", "isHandy", "()Z"⟩, 33), (⟨"LadderMakerModel", "makes", "(I)V"⟩, 33), (⟨"LadderMakerModel", "lays", "(I)V"⟩, 33), (⟨"LadderMakerModel", "byRoots", "(I)I"⟩, 33), (⟨"LadderMakerModel", "candidates", "()V"⟩, 33), (⟨"LadderMakerModel", "squares", "(IZ[J)V"⟩, 33), (⟨"LadderMakerModel", "isDark", "()Z"⟩, 33), (⟨"LadderMakerModel", "takesOut", "(JJ)Z"⟩, 33), (⟨"LadderMakerModel", "ends", "(I)I"⟩, 33), (⟨"LadderMakerModel", "alone", "(IIIJJ)I"⟩, 33), (⟨"LadderMakerModel", "slopes", "()V"⟩, 33)]
theorem lw_r3 : ∀ q ∈ lw_privs_3, lw_okq q := List.forall_mem_cons.mpr ⟨lw_p32, List.forall_mem_cons.mpr ⟨lw_p33, List.forall_mem_cons.mpr ⟨lw_p34, List.forall_mem_cons.mpr ⟨lw_p35, List.forall_mem_cons.mpr ⟨lw_p36, List.forall_mem_cons.mpr ⟨lw_p37, List.forall_mem_cons.mpr ⟨lw_p38, List.forall_mem_cons.mpr ⟨lw_p39, List.forall_mem_cons.mpr ⟨lw_p40, List.forall_mem_cons.mpr ⟨lw_p41, List.forall_mem_cons.mpr ⟨lw_p42, List.forall_mem_cons.mpr ⟨lw_p43, List.forall_mem_cons.mpr ⟨lw_p44, List.forall_mem_cons.mpr ⟨lw_p45, List.forall_mem_cons.mpr ⟨lw_p46, List.forall_mem_cons.mpr ⟨lw_p47, fun _ h => absurd h List.not_mem_nil⟩⟩⟩⟩⟩⟩⟩⟩⟩⟩⟩⟩⟩⟩⟩⟩
theorem lw_p48 : lw_okq (⟨"LadderMakerModel", "isRoot", "(I)Z"⟩, 33) := ⟨⟨by decide +kernel, by decide +kernel⟩, List.mem_of_getElem? (i := 763) (by decide +kernel), List.mem_of_getElem? (i := 1086) (by decide +kernel), List.mem_of_getElem? (i := 1087) (by decide +kernel)⟩
theorem lw_p49 : lw_okq (⟨"LadderMakerModel", "rootOnce", "(IIJJ)I"⟩, 33) := ⟨⟨by decide +kernel, by decide +kernel⟩, List.mem_of_getElem? (i := 763) (by decide +kernel), List.mem_of_getElem? (i := 1090) (by decide +kernel), List.mem_of_getElem? (i := 1091) (by decide +kernel)⟩
theorem lw_p50 : lw_okq (⟨"LadderMakerModel", "folds", "()V"⟩, 33) := ⟨⟨by decide +kernel, by decide +kernel⟩, List.mem_of_getElem? (i := 763) (by decide +kernel), List.mem_of_getElem? (i := 1102) (by decide +kernel), List.mem_of_getElem? (i := 1103) (by decide +kernel)⟩
theorem lw_p51 : lw_okq (⟨"LadderMakerModel", "armOf", "(I)V"⟩, 33) := ⟨⟨by decide +kernel, by decide +kernel⟩, List.mem_of_getElem? (i := 763) (by decide +kernel), List.mem_of_getElem? (i := 1106) (by decide +kernel), List.mem_of_getElem? (i := 1107) (by decide +kernel)⟩
theorem lw_p52 : lw_okq (⟨"LadderMakerModel", "turnsOver", "()V"⟩, 33) := ⟨⟨by decide +kernel, by decide +kernel⟩, List.mem_of_getElem? (i := 763) (by decide +kernel), List.mem_of_getElem? (i := 1110) (by decide +kernel), List.mem_of_getElem? (i := 1111) (by decide +kernel)⟩
theorem lw_p53 : lw_okq (⟨"LadderMakerModel", "adds", "()V"⟩, 33) := ⟨⟨by decide +kernel, by decide +kernel⟩, List.mem_of_getElem? (i := 763) (by decide +kernel), List.mem_of_getElem? (i := 1114) (by decide +kernel), List.mem_of_getElem? (i := 1115) (by decide +kernel)⟩
theorem lw_p54 : lw_okq (⟨"LadderMakerModel", "asPair", "()V"⟩, 33) := ⟨⟨by decide +kernel, by decide +kernel⟩, List.mem_of_getElem? (i := 763) (by decide +kernel), List.mem_of_getElem? (i := 1118) (by decide +kernel), List.mem_of_getElem? (i := 1119) (by decide +kernel)⟩
theorem lw_p55 : lw_okq (⟨"LadderMakerModel", "foldBy", "(II)J"⟩, 33) := ⟨⟨by decide +kernel, by decide +kernel⟩, List.mem_of_getElem? (i := 763) (by decide +kernel), List.mem_of_getElem? (i := 1122) (by decide +kernel), List.mem_of_getElem? (i := 1123) (by decide +kernel)⟩
theorem lw_p56 : lw_okq (⟨"LadderMakerModel", "alikeNow", "()I"⟩, 33) := ⟨⟨by decide +kernel, by decide +kernel⟩, List.mem_of_getElem? (i := 763) (by decide +kernel), List.mem_of_getElem? (i := 1130) (by decide +kernel), List.mem_of_getElem? (i := 1131) (by decide +kernel)⟩
theorem lw_p57 : lw_okq (⟨"LadderMakerModel", "parts", "(Z)I"⟩, 33) := ⟨⟨by decide +kernel, by decide +kernel⟩, List.mem_of_getElem? (i := 763) (by decide +kernel), List.mem_of_getElem? (i := 1143) (by decide +kernel), List.mem_of_getElem? (i := 1144) (by decide +kernel)⟩
theorem lw_p58 : lw_okq (⟨"LadderMakerModel", "isFirst", "(IZ)Z"⟩, 33) := ⟨⟨by decide +kernel, by decide +kernel⟩, List.mem_of_getElem? (i := 763) (by decide +kernel), List.mem_of_getElem? (i := 1147) (by decide +kernel), List.mem_of_getElem? (i := 1148) (by decide +kernel)⟩
theorem lw_p59 : lw_okq (⟨"LadderMakerModel", "partUp", "(I)I"⟩, 33) := ⟨⟨by decide +kernel, by decide +kernel⟩, List.mem_of_getElem? (i := 763) (by decide +kernel), List.mem_of_getElem? (i := 1151) (by decide +kernel), List.mem_of_getElem? (i := 1152) (by decide +kernel)⟩
theorem lw_p60 : lw_okq (⟨"LadderMakerModel", "isLike", "(IIZ)Z"⟩, 33) := ⟨⟨by decide +kernel, by decide +kernel⟩, List.mem_of_getElem? (i := 763) (by decide +kernel), List.mem_of_getElem? (i := 1155) (by decide +kernel), List.mem_of_getElem? (i := 1156) (by decide +kernel)⟩
theorem lw_p61 : lw_okq (⟨"LadderMakerModel", "partDown", "(I)I"⟩, 33) := ⟨⟨by decide +kernel, by decide +kernel⟩, List.mem_of_getElem? (i := 763) (by decide +kernel), List.mem_of_getElem? (i := 1159) (by decide +kernel), List.mem_of_getElem? (i := 1160) (by decide +kernel)⟩
theorem lw_p62 : lw_okq (⟨"LadderMakerModel", "nthPart", "(I)I"⟩, 33) := ⟨⟨by decide +kernel, by decide +kernel⟩, List.mem_of_getElem? (i := 763) (by decide +kernel), List.mem_of_getElem? (i := 1163) (by decide +kernel), List.mem_of_getElem? (i := 1164) (by decide +kernel)⟩
theorem lw_p63 : lw_okq (⟨"LadderMakerModel", "billBy", "(II)I"⟩, 33) := ⟨⟨by decide +kernel, by decide +kernel⟩, List.mem_of_getElem? (i := 763) (by decide +kernel), List.mem_of_getElem? (i := 1167) (by decide +kernel), List.mem_of_getElem? (i := 1168) (by decide +kernel)⟩
def lw_privs_4 : List (MethodName × Nat) := [(⟨"LadderMakerModel", "isRoot", "(I)Z"⟩, 33), (⟨"LadderMakerModel", "rootOnce", "(IIJJ)I"⟩, 33), (⟨"LadderMakerModel", "folds", "()V"⟩, 33), (⟨"LadderMakerModel", "armOf", "(I)V"⟩, 33), (⟨"LadderMakerModel", "turnsOver", "()V"⟩, 33), (⟨"LadderMakerModel", "adds", "()V"⟩, 33), (⟨"LadderMakerModel", "asPair", "()V"⟩, 33), (⟨"LadderMakerModel", "foldBy", "(II)J"⟩, 33), (⟨"LadderMakerModel", "alikeNow", "()I"⟩, 33), (⟨"LadderMakerModel", "parts", "(Z)I"⟩, 33), (⟨"LadderMakerModel", "isFirst", "(IZ)Z"⟩, 33), (⟨"LadderMakerModel", "partUp", "(I)I"⟩, 33), (⟨"LadderMakerModel", "isLike", "(IIZ)Z"⟩, 33), (⟨"LadderMakerModel", "partDown", "(I)I"⟩, 33), (⟨"LadderMakerModel", "nthPart", "(I)I"⟩, 33), (⟨"LadderMakerModel", "billBy", "(II)I"⟩, 33)]
theorem lw_r4 : ∀ q ∈ lw_privs_4, lw_okq q := List.forall_mem_cons.mpr ⟨lw_p48, List.forall_mem_cons.mpr ⟨lw_p49, List.forall_mem_cons.mpr ⟨lw_p50, List.forall_mem_cons.mpr ⟨lw_p51, List.forall_mem_cons.mpr ⟨lw_p52, List.forall_mem_cons.mpr ⟨lw_p53, List.forall_mem_cons.mpr ⟨lw_p54, List.forall_mem_cons.mpr ⟨lw_p55, List.forall_mem_cons.mpr ⟨lw_p56, List.forall_mem_cons.mpr ⟨lw_p57, List.forall_mem_cons.mpr ⟨lw_p58, List.forall_mem_cons.mpr ⟨lw_p59, List.forall_mem_cons.mpr ⟨lw_p60, List.forall_mem_cons.mpr ⟨lw_p61, List.forall_mem_cons.mpr ⟨lw_p62, List.forall_mem_cons.mpr ⟨lw_p63, fun _ h => absurd h List.not_mem_nil⟩⟩⟩⟩⟩⟩⟩⟩⟩⟩⟩⟩⟩⟩⟩⟩
theorem lw_p64 : lw_okq (⟨"LadderMakerModel", "found", "()I"⟩, 33) := ⟨⟨by decide +kernel, by decide +kernel⟩, List.mem_of_getElem? (i := 763) (by decide +kernel), List.mem_of_getElem? (i := 1179) (by decide +kernel), List.mem_of_getElem? (i := 1180) (by decide +kernel)⟩
theorem lw_p65 : lw_okq (⟨"LadderMakerModel", "wishAsPair", "()V"⟩, 33) := ⟨⟨by decide +kernel, by decide +kernel⟩, List.mem_of_getElem? (i := 763) (by decide +kernel), List.mem_of_getElem? (i := 1183) (by decide +kernel), List.mem_of_getElem? (i := 1184) (by decide +kernel)⟩
theorem lw_p66 : lw_okq (⟨"LadderMakerModel", "keptBy", "(II)I"⟩, 33) := ⟨⟨by decide +kernel, by decide +kernel⟩, List.mem_of_getElem? (i := 763) (by decide +kernel), List.mem_of_getElem? (i := 1195) (by decide +kernel), List.mem_of_getElem? (i := 1196) (by decide +kernel)⟩
theorem lw_p67 : lw_okq (⟨"LadderMakerModel", "keptAll", "()I"⟩, 33) := ⟨⟨by decide +kernel, by decide +kernel⟩, List.mem_of_getElem? (i := 763) (by decide +kernel), List.mem_of_getElem? (i := 1214) (by decide +kernel), List.mem_of_getElem? (i := 1215) (by decide +kernel)⟩
theorem lw_p68 : lw_okq (⟨"LadderMakerModel", "sheets", "()I"⟩, 33) := ⟨⟨by decide +kernel, by decide +kernel⟩, List.mem_of_getElem? (i := 763) (by decide +kernel), List.mem_of_getElem? (i := 1219) (by decide +kernel), List.mem_of_getElem? (i := 1220) (by decide +kernel)⟩
theorem lw_p69 : lw_okq (⟨"LadderMakerModel", "ladderTells", "(J)J"⟩, 33) := ⟨⟨by decide +kernel, by decide +kernel⟩, List.mem_of_getElem? (i := 763) (by decide +kernel), List.mem_of_getElem? (i := 1230) (by decide +kernel), List.mem_of_getElem? (i := 1231) (by decide +kernel)⟩
def lw_privs_5 : List (MethodName × Nat) := [(⟨"LadderMakerModel", "found", "()I"⟩, 33), (⟨"LadderMakerModel", "wishAsPair", "()V"⟩, 33), (⟨"LadderMakerModel", "keptBy", "(II)I"⟩, 33), (⟨"LadderMakerModel", "keptAll", "()I"⟩, 33), (⟨"LadderMakerModel", "sheets", "()I"⟩, 33), (⟨"LadderMakerModel", "ladderTells", "(J)J"⟩, 33)]
theorem lw_r5 : ∀ q ∈ lw_privs_5, lw_okq q := List.forall_mem_cons.mpr ⟨lw_p64, List.forall_mem_cons.mpr ⟨lw_p65, List.forall_mem_cons.mpr ⟨lw_p66, List.forall_mem_cons.mpr ⟨lw_p67, List.forall_mem_cons.mpr ⟨lw_p68, List.forall_mem_cons.mpr ⟨lw_p69, fun _ h => absurd h List.not_mem_nil⟩⟩⟩⟩⟩⟩
def lw_privs : List (MethodName × Nat) := lw_privs_1 ++ (lw_privs_2 ++ (lw_privs_3 ++ (lw_privs_4 ++ (lw_privs_5))))
def lw_tbl : List Cond := k2_sels lw_privs ++ tables_1
theorem lw_privs_ok : ∀ q ∈ lw_privs, lw_okq q := by
  show ∀ q ∈ lw_privs_1 ++ (lw_privs_2 ++ (lw_privs_3 ++ (lw_privs_4 ++ (lw_privs_5)))), lw_okq q
  exact List.forall_mem_append.mpr ⟨lw_r1, List.forall_mem_append.mpr ⟨lw_r2, List.forall_mem_append.mpr ⟨lw_r3, List.forall_mem_append.mpr ⟨lw_r4, lw_r5⟩⟩⟩⟩
def lw_g : List Cond := lw_tbl.filter goodWord
theorem mg_t {w : Cond} (h : w ∈ tables_1) (g : goodWord w = true) : w ∈ lw_g := List.mem_filter.mpr ⟨List.mem_append_right _ h, g⟩
theorem mg_s {w : Cond} (h : w ∈ k2_sels lw_privs) (g : goodWord w = true) : w ∈ lw_g := List.mem_filter.mpr ⟨List.mem_append_left _ h, g⟩
theorem mg_n {w : Cond} (h : w ∈ tables_1) : w ∈ lw_tbl := List.mem_append_right _ h
def RX0 : String := "LadderMaker$Bill"
def TX0 : u_T := fun k => match k with
  | 0 => ("LadderMaker$Bill", "rows", "[[I", true)
  | _ => ("LadderMaker$Bill", "partCount", "I", false)
def tyX0 : Nat → FieldType := fun k => match k with
  | 0 => .array (.array .int)
  | _ => .int
theorem nmX0 : ∀ a, a < 2 → ∀ b, b < 2 → a ≠ b → (TX0 a).2.1 ≠ (TX0 b).2.1 := by decide +kernel
theorem tyX0_ok : ∀ k, k < 2 → parseFieldDescriptor (TX0 k).2.2.1 = some (tyX0 k) := by decide +kernel
theorem inlX0 : u_ws RX0 TX0 2 = [164, 166].filterMap (fun i => tables_1[i]?) := by decide +kernel
theorem ingX0 : (u_ws RX0 TX0 2).all goodWord = true := by decide +kernel
theorem inX0 : ∀ w ∈ u_ws RX0 TX0 2, w ∈ lw_g := by
  intro w hw
  have hg := List.all_eq_true.mp ingX0 w hw
  rw [inlX0] at hw
  obtain ⟨i, -, hi⟩ := List.mem_filterMap.mp hw
  exact mg_t (List.mem_of_getElem? hi) hg
def RX1 : String := "LadderMaker$Folder"
def TX1 : u_T := fun k => match k with
  | 0 => ("LadderMaker$Folder", "folded", "LLadderMaker$Pair;", true)
  | 1 => ("LadderMaker$Folder", "arm", "LLadderMaker$Pair;", true)
  | _ => ("LadderMaker$Folder", "sum", "LLadderMaker$Pair;", true)
def tyX1 : Nat → FieldType := fun k => match k with
  | 0 => .object "LadderMaker$Pair"
  | 1 => .object "LadderMaker$Pair"
  | _ => .object "LadderMaker$Pair"
theorem nmX1 : ∀ a, a < 3 → ∀ b, b < 3 → a ≠ b → (TX1 a).2.1 ≠ (TX1 b).2.1 := by decide +kernel
theorem tyX1_ok : ∀ k, k < 3 → parseFieldDescriptor (TX1 k).2.2.1 = some (tyX1 k) := by decide +kernel
theorem inlX1 : u_ws RX1 TX1 3 = [84, 86, 88].filterMap (fun i => tables_1[i]?) := by decide +kernel
theorem ingX1 : (u_ws RX1 TX1 3).all goodWord = true := by decide +kernel
theorem inX1 : ∀ w ∈ u_ws RX1 TX1 3, w ∈ lw_g := by
  intro w hw
  have hg := List.all_eq_true.mp ingX1 w hw
  rw [inlX1] at hw
  obtain ⟨i, -, hi⟩ := List.mem_filterMap.mp hw
  exact mg_t (List.mem_of_getElem? hi) hg
def RX2 : String := "LadderMaker$Fraction"
def TX2 : u_T := fun k => match k with
  | 0 => ("LadderMaker$Fraction", "above", "J", false)
  | _ => ("LadderMaker$Fraction", "below", "J", false)
def tyX2 : Nat → FieldType := fun k => match k with
  | 0 => .long
  | _ => .long
theorem nmX2 : ∀ a, a < 2 → ∀ b, b < 2 → a ≠ b → (TX2 a).2.1 ≠ (TX2 b).2.1 := by decide +kernel
theorem tyX2_ok : ∀ k, k < 2 → parseFieldDescriptor (TX2 k).2.2.1 = some (tyX2 k) := by decide +kernel
theorem inlX2 : u_ws RX2 TX2 2 = [117, 119].filterMap (fun i => tables_1[i]?) := by decide +kernel
theorem ingX2 : (u_ws RX2 TX2 2).all goodWord = true := by decide +kernel
theorem inX2 : ∀ w ∈ u_ws RX2 TX2 2, w ∈ lw_g := by
  intro w hw
  have hg := List.all_eq_true.mp ingX2 w hw
  rw [inlX2] at hw
  obtain ⟨i, -, hi⟩ := List.mem_filterMap.mp hw
  exact mg_t (List.mem_of_getElem? hi) hg
def RX3 : String := "LadderMaker$Ladder"
def TX3 : u_T := fun k => match k with
  | 0 => ("LadderMaker$Ladder", "arms", "[[I", true)
  | _ => ("LadderMaker$Ladder", "armCount", "I", false)
def tyX3 : Nat → FieldType := fun k => match k with
  | 0 => .array (.array .int)
  | _ => .int
theorem nmX3 : ∀ a, a < 2 → ∀ b, b < 2 → a ≠ b → (TX3 a).2.1 ≠ (TX3 b).2.1 := by decide +kernel
theorem tyX3_ok : ∀ k, k < 2 → parseFieldDescriptor (TX3 k).2.2.1 = some (tyX3 k) := by decide +kernel
theorem inlX3 : u_ws RX3 TX3 2 = [66, 68].filterMap (fun i => tables_1[i]?) := by decide +kernel
theorem ingX3 : (u_ws RX3 TX3 2).all goodWord = true := by decide +kernel
theorem inX3 : ∀ w ∈ u_ws RX3 TX3 2, w ∈ lw_g := by
  intro w hw
  have hg := List.all_eq_true.mp ingX3 w hw
  rw [inlX3] at hw
  obtain ⟨i, -, hi⟩ := List.mem_filterMap.mp hw
  exact mg_t (List.mem_of_getElem? hi) hg
def RX4 : String := "LadderMaker$Memory"
def TX4 : u_T := fun k => match k with
  | 0 => ("LadderMaker$Memory", "rows", "[[I", true)
  | 1 => ("LadderMaker$Memory", "sought", "LLadderMaker$Pair;", true)
  | _ => ("LadderMaker$Memory", "fractionCount", "I", false)
def tyX4 : Nat → FieldType := fun k => match k with
  | 0 => .array (.array .int)
  | 1 => .object "LadderMaker$Pair"
  | _ => .int
theorem nmX4 : ∀ a, a < 3 → ∀ b, b < 3 → a ≠ b → (TX4 a).2.1 ≠ (TX4 b).2.1 := by decide +kernel
theorem tyX4_ok : ∀ k, k < 3 → parseFieldDescriptor (TX4 k).2.2.1 = some (tyX4 k) := by decide +kernel
theorem inlX4 : u_ws RX4 TX4 3 = [182, 184, 186].filterMap (fun i => tables_1[i]?) := by decide +kernel
theorem ingX4 : (u_ws RX4 TX4 3).all goodWord = true := by decide +kernel
theorem inX4 : ∀ w ∈ u_ws RX4 TX4 3, w ∈ lw_g := by
  intro w hw
  have hg := List.all_eq_true.mp ingX4 w hw
  rw [inlX4] at hw
  obtain ⟨i, -, hi⟩ := List.mem_filterMap.mp hw
  exact mg_t (List.mem_of_getElem? hi) hg
def RX5 : String := "LadderMaker$Pair"
def TX5 : u_T := fun k => match k with
  | 0 => ("LadderMaker$Pair", "above", "LLadderMaker$Polynomial;", false)
  | _ => ("LadderMaker$Pair", "below", "LLadderMaker$Polynomial;", false)
def tyX5 : Nat → FieldType := fun k => match k with
  | 0 => .object "LadderMaker$Polynomial"
  | _ => .object "LadderMaker$Polynomial"
theorem nmX5 : ∀ a, a < 2 → ∀ b, b < 2 → a ≠ b → (TX5 a).2.1 ≠ (TX5 b).2.1 := by decide +kernel
theorem tyX5_ok : ∀ k, k < 2 → parseFieldDescriptor (TX5 k).2.2.1 = some (tyX5 k) := by decide +kernel
theorem inlX5 : u_ws RX5 TX5 2 = [48, 50].filterMap (fun i => tables_1[i]?) := by decide +kernel
theorem ingX5 : (u_ws RX5 TX5 2).all goodWord = true := by decide +kernel
theorem inX5 : ∀ w ∈ u_ws RX5 TX5 2, w ∈ lw_g := by
  intro w hw
  have hg := List.all_eq_true.mp ingX5 w hw
  rw [inlX5] at hw
  obtain ⟨i, -, hi⟩ := List.mem_filterMap.mp hw
  exact mg_t (List.mem_of_getElem? hi) hg
def RX6 : String := "LadderMaker$Polynomial"
def TX6 : u_T := fun k => match k with
  | _ => ("LadderMaker$Polynomial", "numbers", "[J", true)
def tyX6 : Nat → FieldType := fun k => match k with
  | _ => .array .long
theorem nmX6 : ∀ a, a < 1 → ∀ b, b < 1 → a ≠ b → (TX6 a).2.1 ≠ (TX6 b).2.1 := by decide +kernel
theorem tyX6_ok : ∀ k, k < 1 → parseFieldDescriptor (TX6 k).2.2.1 = some (tyX6 k) := by decide +kernel
theorem inlX6 : u_ws RX6 TX6 1 = [36].filterMap (fun i => tables_1[i]?) := by decide +kernel
theorem ingX6 : (u_ws RX6 TX6 1).all goodWord = true := by decide +kernel
theorem inX6 : ∀ w ∈ u_ws RX6 TX6 1, w ∈ lw_g := by
  intro w hw
  have hg := List.all_eq_true.mp ingX6 w hw
  rw [inlX6] at hw
  obtain ⟨i, -, hi⟩ := List.mem_filterMap.mp hw
  exact mg_t (List.mem_of_getElem? hi) hg
def RX7 : String := "LadderMaker$Reactance"
def TX7 : u_T := fun k => match k with
  | 0 => ("LadderMaker$Reactance", "inX", "LLadderMaker$Polynomial;", true)
  | _ => ("LadderMaker$Reactance", "result", "LLadderMaker$Fraction;", true)
def tyX7 : Nat → FieldType := fun k => match k with
  | 0 => .object "LadderMaker$Polynomial"
  | _ => .object "LadderMaker$Fraction"
theorem nmX7 : ∀ a, a < 2 → ∀ b, b < 2 → a ≠ b → (TX7 a).2.1 ≠ (TX7 b).2.1 := by decide +kernel
theorem tyX7_ok : ∀ k, k < 2 → parseFieldDescriptor (TX7 k).2.2.1 = some (tyX7 k) := by decide +kernel
theorem inlX7 : u_ws RX7 TX7 2 = [217, 219].filterMap (fun i => tables_1[i]?) := by decide +kernel
theorem ingX7 : (u_ws RX7 TX7 2).all goodWord = true := by decide +kernel
theorem inX7 : ∀ w ∈ u_ws RX7 TX7 2, w ∈ lw_g := by
  intro w hw
  have hg := List.all_eq_true.mp ingX7 w hw
  rw [inlX7] at hw
  obtain ⟨i, -, hi⟩ := List.mem_filterMap.mp hw
  exact mg_t (List.mem_of_getElem? hi) hg
def RX8 : String := "LadderMaker$Sheets"
def TX8 : u_T := fun k => match k with
  | 0 => ("LadderMaker$Sheets", "rows", "[[J", true)
  | _ => ("LadderMaker$Sheets", "sizes", "[I", true)
def tyX8 : Nat → FieldType := fun k => match k with
  | 0 => .array (.array .long)
  | _ => .array .int
theorem nmX8 : ∀ a, a < 2 → ∀ b, b < 2 → a ≠ b → (TX8 a).2.1 ≠ (TX8 b).2.1 := by decide +kernel
theorem tyX8_ok : ∀ k, k < 2 → parseFieldDescriptor (TX8 k).2.2.1 = some (tyX8 k) := by decide +kernel
theorem inlX8 : u_ws RX8 TX8 2 = [199, 201].filterMap (fun i => tables_1[i]?) := by decide +kernel
theorem ingX8 : (u_ws RX8 TX8 2).all goodWord = true := by decide +kernel
theorem inX8 : ∀ w ∈ u_ws RX8 TX8 2, w ∈ lw_g := by
  intro w hw
  have hg := List.all_eq_true.mp ingX8 w hw
  rw [inlX8] at hw
  obtain ⟨i, -, hi⟩ := List.mem_filterMap.mp hw
  exact mg_t (List.mem_of_getElem? hi) hg
def RX9 : String := "LadderMaker$Unfolder"
def TX9 : u_T := fun k => match k with
  | 0 => ("LadderMaker$Unfolder", "built", "LLadderMaker$Ladder;", true)
  | 1 => ("LadderMaker$Unfolder", "work", "LLadderMaker$Pair;", true)
  | 2 => ("LadderMaker$Unfolder", "inX", "LLadderMaker$Pair;", true)
  | 3 => ("LadderMaker$Unfolder", "rest", "LLadderMaker$Polynomial;", true)
  | 4 => ("LadderMaker$Unfolder", "k", "LLadderMaker$Fraction;", true)
  | 5 => ("LadderMaker$Unfolder", "byRoot", "LLadderMaker$Fraction;", true)
  | 6 => ("LadderMaker$Unfolder", "rootAbove", "[I", true)
  | 7 => ("LadderMaker$Unfolder", "rootBelow", "[I", true)
  | 8 => ("LadderMaker$Unfolder", "rootTimes", "[I", true)
  | _ => ("LadderMaker$Unfolder", "rootCount", "I", false)
def tyX9 : Nat → FieldType := fun k => match k with
  | 0 => .object "LadderMaker$Ladder"
  | 1 => .object "LadderMaker$Pair"
  | 2 => .object "LadderMaker$Pair"
  | 3 => .object "LadderMaker$Polynomial"
  | 4 => .object "LadderMaker$Fraction"
  | 5 => .object "LadderMaker$Fraction"
  | 6 => .array .int
  | 7 => .array .int
  | 8 => .array .int
  | _ => .int
theorem nmX9 : ∀ a, a < 10 → ∀ b, b < 10 → a ≠ b → (TX9 a).2.1 ≠ (TX9 b).2.1 := by decide +kernel
theorem tyX9_ok : ∀ k, k < 10 → parseFieldDescriptor (TX9 k).2.2.1 = some (tyX9 k) := by decide +kernel
theorem inlX9 : u_ws RX9 TX9 10 = [133, 135, 137, 139, 141, 143, 145, 147, 149, 151].filterMap (fun i => tables_1[i]?) := by decide +kernel
theorem ingX9 : (u_ws RX9 TX9 10).all goodWord = true := by decide +kernel
theorem inX9 : ∀ w ∈ u_ws RX9 TX9 10, w ∈ lw_g := by
  intro w hw
  have hg := List.all_eq_true.mp ingX9 w hw
  rw [inlX9] at hw
  obtain ⟨i, -, hi⟩ := List.mem_filterMap.mp hw
  exact mg_t (List.mem_of_getElem? hi) hg
def RX10 : String := "LadderMaker"
def TX10 : u_T := fun k => match k with
  | 0 => ("LadderMaker", "wish", "LLadderMaker$Pair;", true)
  | 1 => ("LadderMaker", "ladder", "LLadderMaker$Ladder;", true)
  | 2 => ("LadderMaker", "folder", "LLadderMaker$Folder;", true)
  | 3 => ("LadderMaker", "unfolder", "LLadderMaker$Unfolder;", true)
  | 4 => ("LadderMaker", "parts", "LLadderMaker$Bill;", true)
  | 5 => ("LadderMaker", "memory", "LLadderMaker$Memory;", true)
  | 6 => ("LadderMaker", "sheets", "LLadderMaker$Sheets;", true)
  | 7 => ("LadderMaker", "atFrequency", "LLadderMaker$Reactance;", true)
  | _ => ("LadderMaker", "latestFinding", "I", false)
def tyX10 : Nat → FieldType := fun k => match k with
  | 0 => .object "LadderMaker$Pair"
  | 1 => .object "LadderMaker$Ladder"
  | 2 => .object "LadderMaker$Folder"
  | 3 => .object "LadderMaker$Unfolder"
  | 4 => .object "LadderMaker$Bill"
  | 5 => .object "LadderMaker$Memory"
  | 6 => .object "LadderMaker$Sheets"
  | 7 => .object "LadderMaker$Reactance"
  | _ => .int
theorem nmX10 : ∀ a, a < 9 → ∀ b, b < 9 → a ≠ b → (TX10 a).2.1 ≠ (TX10 b).2.1 := by decide +kernel
theorem tyX10_ok : ∀ k, k < 9 → parseFieldDescriptor (TX10 k).2.2.1 = some (tyX10 k) := by decide +kernel
theorem inlX10 : u_ws RX10 TX10 9 = [231, 233, 235, 237, 239, 241, 243, 245, 247].filterMap (fun i => tables_1[i]?) := by decide +kernel
theorem ingX10 : (u_ws RX10 TX10 9).all goodWord = true := by decide +kernel
theorem inX10 : ∀ w ∈ u_ws RX10 TX10 9, w ∈ lw_g := by
  intro w hw
  have hg := List.all_eq_true.mp ingX10 w hw
  rw [inlX10] at hw
  obtain ⟨i, -, hi⟩ := List.mem_filterMap.mp hw
  exact mg_t (List.mem_of_getElem? hi) hg
def RX11 : String := "LadderMakerModel"
def TX11 : u_T := fun k => match k with
  | 0 => ("LadderMakerModel", "latest", "I", false)
  | 1 => ("LadderMakerModel", "sizes", "[I", true)
  | 2 => ("LadderMakerModel", "items", "[J", true)
  | 3 => ("LadderMakerModel", "aside", "[J", true)
  | 4 => ("LadderMakerModel", "wish", "[I", true)
  | 5 => ("LadderMakerModel", "arms", "[I", true)
  | 6 => ("LadderMakerModel", "many", "I", false)
  | 7 => ("LadderMakerModel", "made", "[I", true)
  | 8 => ("LadderMakerModel", "madeMany", "I", false)
  | 9 => ("LadderMakerModel", "valueUp", "J", false)
  | 10 => ("LadderMakerModel", "valueDown", "J", false)
  | 11 => ("LadderMakerModel", "p", "[J", true)
  | 12 => ("LadderMakerModel", "q", "[J", true)
  | 13 => ("LadderMakerModel", "scaleUp", "J", false)
  | 14 => ("LadderMakerModel", "scaleDown", "J", false)
  | 15 => ("LadderMakerModel", "g", "[J", true)
  | 16 => ("LadderMakerModel", "h", "[J", true)
  | 17 => ("LadderMakerModel", "left", "[J", true)
  | 18 => ("LadderMakerModel", "quotient", "[J", true)
  | 19 => ("LadderMakerModel", "rootUps", "[I", true)
  | 20 => ("LadderMakerModel", "rootDowns", "[I", true)
  | 21 => ("LadderMakerModel", "roots", "I", false)
  | 22 => ("LadderMakerModel", "slope", "[J", true)
  | 23 => ("LadderMakerModel", "a", "[J", true)
  | 24 => ("LadderMakerModel", "b", "[J", true)
  | 25 => ("LadderMakerModel", "armUp", "[J", true)
  | 26 => ("LadderMakerModel", "armDown", "[J", true)
  | 27 => ("LadderMakerModel", "sumUp", "[J", true)
  | 28 => ("LadderMakerModel", "sumDown", "[J", true)
  | 29 => ("LadderMakerModel", "memory", "[I", true)
  | 30 => ("LadderMakerModel", "times", "[I", true)
  | 31 => ("LadderMakerModel", "remembered", "I", false)
  | _ => ("LadderMakerModel", "pair", "[I", true)
def tyX11 : Nat → FieldType := fun k => match k with
  | 0 => .int
  | 1 => .array .int
  | 2 => .array .long
  | 3 => .array .long
  | 4 => .array .int
  | 5 => .array .int
  | 6 => .int
  | 7 => .array .int
  | 8 => .int
  | 9 => .long
  | 10 => .long
  | 11 => .array .long
  | 12 => .array .long
  | 13 => .long
  | 14 => .long
  | 15 => .array .long
  | 16 => .array .long
  | 17 => .array .long
  | 18 => .array .long
  | 19 => .array .int
  | 20 => .array .int
  | 21 => .int
  | 22 => .array .long
  | 23 => .array .long
  | 24 => .array .long
  | 25 => .array .long
  | 26 => .array .long
  | 27 => .array .long
  | 28 => .array .long
  | 29 => .array .int
  | 30 => .array .int
  | 31 => .int
  | _ => .array .int
theorem nmX11 : ∀ a, a < 33 → ∀ b, b < 33 → a ≠ b → (TX11 a).2.1 ≠ (TX11 b).2.1 := by decide +kernel
theorem tyX11_ok : ∀ k, k < 33 → parseFieldDescriptor (TX11 k).2.2.1 = some (tyX11 k) := by decide +kernel
theorem inlX11 : u_ws RX11 TX11 33 = [801, 803, 805, 807, 809, 811, 813, 815, 817, 819, 821, 823, 825, 827, 829, 831, 833, 835, 837, 839, 841, 843, 845, 847, 849, 851, 853, 855, 857, 859, 861, 863, 865].filterMap (fun i => tables_1[i]?) := by decide +kernel
theorem ingX11 : (u_ws RX11 TX11 33).all goodWord = true := by decide +kernel
theorem inX11 : ∀ w ∈ u_ws RX11 TX11 33, w ∈ lw_g := by
  intro w hw
  have hg := List.all_eq_true.mp ingX11 w hw
  rw [inlX11] at hw
  obtain ⟨i, -, hi⟩ := List.mem_filterMap.mp hw
  exact mg_t (List.mem_of_getElem? hi) hg
abbrev gcl : List vw_C := [(RX0, TX0, 2), (RX1, TX1, 3), (RX2, TX2, 2), (RX3, TX3, 2), (RX4, TX4, 3), (RX5, TX5, 2), (RX6, TX6, 1), (RX7, TX7, 2), (RX8, TX8, 2), (RX9, TX9, 10), (RX10, TX10, 9), (RX11, TX11, 33)]
theorem gcX0 : gcl[0]? = some (RX0, TX0, 2) := rfl
theorem gcX1 : gcl[1]? = some (RX1, TX1, 3) := rfl
theorem gcX2 : gcl[2]? = some (RX2, TX2, 2) := rfl
theorem gcX3 : gcl[3]? = some (RX3, TX3, 2) := rfl
theorem gcX4 : gcl[4]? = some (RX4, TX4, 3) := rfl
theorem gcX5 : gcl[5]? = some (RX5, TX5, 2) := rfl
theorem gcX6 : gcl[6]? = some (RX6, TX6, 1) := rfl
theorem gcX7 : gcl[7]? = some (RX7, TX7, 2) := rfl
theorem gcX8 : gcl[8]? = some (RX8, TX8, 2) := rfl
theorem gcX9 : gcl[9]? = some (RX9, TX9, 10) := rfl
theorem gcX10 : gcl[10]? = some (RX10, TX10, 9) := rfl
theorem gcX11 : gcl[11]? = some (RX11, TX11, 33) := rfl
def isN : Cond → Bool
  | .fieldLinkNest .. => true
  | .methodLinkNest .. => true
  | .arrayOver _ => true
  | _ => false
theorem lw_gi {y : MethodName} {cc : ByteArray} {nL : Nat} {ret : Option FieldType} (h : Cond.code y cc nL ret ∈ lw_g) : GoodIn lw_g (Cond.code y cc nL ret :: lw_g) := by
  intro w hw
  rcases List.mem_cons.mp hw with e | h'
  · subst e; exact ⟨h, good_of_word (List.mem_filter.mp h).2⟩
  · exact ⟨h', good_of_word (List.mem_filter.mp h').2⟩
/-- the words of nest mates, and that arrays of arrays have been made: they go with the state -/
def nwS (U : State) : Prop := ∀ w ∈ lw_tbl, isN w = true → w.before #[] U = true
theorem nwS.same {u U : State} (h : u.vm = U.vm) (q : nwS u) : nwS U := by
  intro w hw hi
  have h1 := q w hw hi
  cases w <;> first | (exact va_Nw.same rfl h h1) | (simp [isN] at hi; done) | skip
  rename_i ty
  have h2 := Cond.arrayOver_setVmC (args := #[]) (s := u) (vm' := U.vm) (by rw [h]; exact Vm.Alike.refl _) ty
  rw [← h2] at h1
  exact h1
theorem nwS.warm {s U : State} (hW : s.WarmedH U.vm) (q : nwS s) : nwS U := by
  intro w hw hi
  have h1 := q w hw hi
  cases w <;> first | (exact va_Nw.warmF hW h1) | (exact va_Nw.warmM hW h1) | (simp [isN] at hi; done) | skip
  rename_i ty
  have h2 := Cond.arrayOver_setVmC (args := #[]) (s := s) (vm' := U.vm) hW.alike ty
  rw [← h2] at h1
  exact h1
end
section
abbrev HI : Type := Nat → Nat → Int32
abbrev HJ : Type := Nat → Nat → Int64
abbrev HN : Type := Nat → Nat → Option Nat
abbrev HT : Type := Nat → Nat × Nat
/-- slot k of cell a becomes v -/
def up2 {α : Type} (f : Nat → Nat → α) (a k : Nat) (v : α) : Nat → Nat → α := va_up f a (va_up (f a) k v)
/-- the fields of an object of class c at the place a -/
def gob (ad : Nat → Nat) (I : HI) (J : HJ) (N : HN) (c a : Nat) : List Value := match c with
  | 0 => [va_rf ((N a 0).map ad), .int (I a 1)]
  | 1 => [va_rf ((N a 0).map ad), va_rf ((N a 1).map ad), va_rf ((N a 2).map ad)]
  | 2 => [.long (J a 0), .long (J a 1)]
  | 3 => [va_rf ((N a 0).map ad), .int (I a 1)]
  | 4 => [va_rf ((N a 0).map ad), va_rf ((N a 1).map ad), .int (I a 2)]
  | 5 => [va_rf ((N a 0).map ad), va_rf ((N a 1).map ad)]
  | 6 => [va_rf ((N a 0).map ad)]
  | 7 => [va_rf ((N a 0).map ad), va_rf ((N a 1).map ad)]
  | 8 => [va_rf ((N a 0).map ad), va_rf ((N a 1).map ad)]
  | 9 => [va_rf ((N a 0).map ad), va_rf ((N a 1).map ad), va_rf ((N a 2).map ad), va_rf ((N a 3).map ad), va_rf ((N a 4).map ad), va_rf ((N a 5).map ad), va_rf ((N a 6).map ad), va_rf ((N a 7).map ad), va_rf ((N a 8).map ad), .int (I a 9)]
  | 10 => [va_rf ((N a 0).map ad), va_rf ((N a 1).map ad), va_rf ((N a 2).map ad), va_rf ((N a 3).map ad), va_rf ((N a 4).map ad), va_rf ((N a 5).map ad), va_rf ((N a 6).map ad), va_rf ((N a 7).map ad), .int (I a 8)]
  | _ => [.int (I a 0), va_rf ((N a 1).map ad), va_rf ((N a 2).map ad), va_rf ((N a 3).map ad), va_rf ((N a 4).map ad), va_rf ((N a 5).map ad), .int (I a 6), va_rf ((N a 7).map ad), .int (I a 8), .long (J a 9), .long (J a 10), va_rf ((N a 11).map ad), va_rf ((N a 12).map ad), .long (J a 13), .long (J a 14), va_rf ((N a 15).map ad), va_rf ((N a 16).map ad), va_rf ((N a 17).map ad), va_rf ((N a 18).map ad), va_rf ((N a 19).map ad), va_rf ((N a 20).map ad), .int (I a 21), va_rf ((N a 22).map ad), va_rf ((N a 23).map ad), va_rf ((N a 24).map ad), va_rf ((N a 25).map ad), va_rf ((N a 26).map ad), va_rf ((N a 27).map ad), va_rf ((N a 28).map ad), va_rf ((N a 29).map ad), va_rf ((N a 30).map ad), .int (I a 31), va_rf ((N a 32).map ad)]
theorem gob_congr {ad : Nat → Nat} {I I' : HI} {J J' : HJ} {N N' : HN} {a : Nat} (h1 : I' a = I a) (h2 : J' a = J a) (h3 : N' a = N a) (c : Nat) : gob ad I' J' N' c a = gob ad I J N c a := by
  unfold gob
  split <;> simp only [h1, h2, h3]
def gce (T : HT) (y : Nat → ClassId) (ad : Nat → Nat) (I : HI) (J : HJ) (N : HN) (a : Nat) : va_E := match (T a).1 with
  | 0 => .inr ((T a).2, gob ad I J N (T a).2 a)
  | 1 => .inl (y 0, (T a).2, .inl (I a))
  | 2 => .inl (y 1, (T a).2, .inr (.inl (J a)))
  | 3 => .inl (y 2, (T a).2, .inr (.inr (.inr (.inr (fun k => (N a k).map ad)))))
  | _ => .inl (y 3, (T a).2, .inr (.inr (.inr (.inr (fun k => (N a k).map ad)))))
theorem gce_congr {T : HT} {y : Nat → ClassId} {ad : Nat → Nat} {I I' : HI} {J J' : HJ} {N N' : HN} {a : Nat} (h1 : I' a = I a) (h2 : J' a = J a) (h3 : N' a = N a) : gce T y ad I' J' N' a = gce T y ad I J N a := by
  unfold gce
  rw [gob_congr h1 h2 h3, h1, h2, h3]
def gwd (T : HT) (y : Nat → ClassId) (ad : Nat → Nat) (n : Nat) (I : HI) (J : HJ) (N : HN) : va_W := (List.range n).map (fun a => (ad a, gce T y ad I J N a))
theorem gwd_at {T : HT} {y : Nat → ClassId} {ad : Nat → Nat} {n : Nat} {I : HI} {J : HJ} {N : HN} {a : Nat} (h : a < n) : (gwd T y ad n I J N)[a]? = some (ad a, gce T y ad I J N a) := by
  unfold gwd
  rw [List.getElem?_map, List.getElem?_range h]
  rfl
theorem gwd_some {T : HT} {y : Nat → ClassId} {ad : Nat → Nat} {n : Nat} {I : HI} {J : HJ} {N : HN} {a : Nat} {q : Nat × va_E} (h : (gwd T y ad n I J N)[a]? = some q) : a < n ∧ q = (ad a, gce T y ad I J N a) := by
  by_cases h0 : a < n
  · rw [gwd_at h0] at h
    exact ⟨h0, (Option.some.inj h).symm⟩
  · unfold gwd at h
    rw [List.getElem?_eq_none (by simp; omega)] at h
    cases h
theorem gwd_set {T : HT} {y : Nat → ClassId} {ad : Nat → Nat} {n : Nat} {I I' : HI} {J J' : HJ} {N N' : HN} {a : Nat} {E : va_E} (hE : gce T y ad I' J' N' a = E) (h1 : ∀ b, b ≠ a → I' b = I b) (h2 : ∀ b, b ≠ a → J' b = J b) (h3 : ∀ b, b ≠ a → N' b = N b) : (gwd T y ad n I J N).set a (ad a, E) = gwd T y ad n I' J' N' := by
  apply List.ext_getElem?
  intro i
  by_cases hi : i < n
  · rw [gwd_at hi]
    by_cases hia : i = a
    · subst hia
      rw [List.getElem?_set_self (by unfold gwd; simp; exact hi), hE]
    · rw [List.getElem?_set_ne (fun h => hia h.symm), gwd_at hi, gce_congr (h1 i hia) (h2 i hia) (h3 i hia)]
  · rw [List.getElem?_eq_none (by unfold gwd; simp; omega), List.getElem?_eq_none (by unfold gwd; simp; omega)]
theorem va_up_of {α : Type} {f : Nat → α} {a b : Nat} {v : α} (h : b ≠ a) : va_up f a v b = f b := if_neg h
theorem va_up_at {α : Type} {f : Nat → α} {a : Nat} {v : α} : va_up f a v a = v := if_pos rfl
theorem up2_of {α : Type} {f : Nat → Nat → α} {a k b : Nat} {v : α} (h : b ≠ a) : up2 f a k v b = f b := if_neg h
theorem up2_at {α : Type} {f : Nat → Nat → α} {a k : Nat} {v : α} : up2 f a k v a = va_up (f a) k v := if_pos rfl
def gtys (y : Nat → ClassId) : List (ClassId × FieldType) := [(y 0, .int), (y 1, .long), (y 2, .array .int), (y 3, .array .long)]
/-- the machine's own part of a walk: program, launch, env, room, start, method, args, below, meth, code, class numbers, array classes, the cells that may change -/
abbrev HX : Type := Program × Launch × Env × Room × State × MethodId × Array Value × List Frame × Method × Code × va_G × (Nat → ClassId) × (Nat → Prop)
abbrev xp (X : HX) : Program := X.1
abbrev xl (X : HX) : Launch := X.2.1
abbrev xe (X : HX) : Env := X.2.2.1
abbrev xR (X : HX) : Room := X.2.2.2.1
abbrev xs (X : HX) : State := X.2.2.2.2.1
abbrev xm (X : HX) : MethodId := X.2.2.2.2.2.1
abbrev xa (X : HX) : Array Value := X.2.2.2.2.2.2.1
abbrev xb (X : HX) : List Frame := X.2.2.2.2.2.2.2.1
abbrev xt (X : HX) : Method := X.2.2.2.2.2.2.2.2.1
abbrev xc (X : HX) : Code := X.2.2.2.2.2.2.2.2.2.1
abbrev xD (X : HX) : va_G := X.2.2.2.2.2.2.2.2.2.2.1
abbrev xy (X : HX) : Nat → ClassId := X.2.2.2.2.2.2.2.2.2.2.2.1
abbrev xA (X : HX) : Nat → Prop := X.2.2.2.2.2.2.2.2.2.2.2.2
def gin (A : Nat → Prop) (ad : Nat → Nat) (n : Nat) : Prop := (∀ i j, i < n → j < n → ad i = ad j → i = j) ∧ ∀ i, i < n → A (ad i)
theorem gin_D {A : Nat → Prop} {ad : Nat → Nat} {n : Nat} (h : gin A ad n) (T : HT) (y : Nat → ClassId) (I : HI) (J : HJ) (N : HN) : va_D A (gwd T y ad n I J N) := by
  refine ⟨fun i j p q hi hj hpq => ?_, fun k q hk => ?_⟩
  · obtain ⟨h1, rfl⟩ := gwd_some hi
    obtain ⟨h2, rfl⟩ := gwd_some hj
    exact h.1 i j h1 h2 hpq
  · obtain ⟨h1, rfl⟩ := gwd_some hk
    exact h.2 k h1
def G (T : HT) (X : HX) (ad : Nat → Nat) (n mc ms : Nat) (I : HI) (J : HJ) (N : HN) (Q : State → Prop) (pc nL : Nat) (lv : List (Nat × Value)) (st : List Value) : Prop :=
  ∀ (H : Heap) (locs : List Loc) (ls : Array Slot), va_P (xD X) gcl (gwd T (xy X) ad n I J N) H → gin (xA X) ad n → va_S (xA X) (xs X).heap H locs → lv_has ls nL lv →
    W (xp X) (xl X) (xe X) (xR X) (xs X) (xm X) (xa X) (xb X) (xt X) (xc X) H locs mc ms Q (F0 (xm X) pc ls st)
def Cx (X : HX) (cc : ByteArray) (own : String) (nL : Nat) (ret : Option FieldType) (rm : Room) : Prop :=
  (xp X).tables.exec = Jvm.exec ∧ (xc X).code = cc ∧ (xc X).maxLocals = nL ∧ (xs X).vm.findClass own = some (xm X).cls ∧ (∀ w ∈ lw_g, w.before (xa X) (xs X) = true) ∧ (xt X).sig.returnType = ret ∧ (xt X).locks = false ∧ va_K (xD X) gcl (gtys (xy X)) (xs X) ∧ (∀ q, (xs X).heap.size ≤ q → xA X q) ∧ xR X = rm ∧ nwS (xs X)
def gk (T : HT) (n a : Nat) (κ : Nat × Nat) : Prop := a < n ∧ T a = κ
def ga (T : HT) (n a : Nat) (k : Nat) : Prop := a < n ∧ (T a).1 = k
theorem gce_o {T : HT} {n a ci : Nat} {y : Nat → ClassId} {ad : Nat → Nat} {I : HI} {J : HJ} {N : HN} (h : gk T n a (0, ci)) : gce T y ad I J N a = .inr (ci, gob ad I J N ci a) := by
  unfold gce
  rw [h.2] <;> rfl
theorem gce_i {T : HT} {n a : Nat} {y : Nat → ClassId} {ad : Nat → Nat} {I : HI} {J : HJ} {N : HN} (h : ga T n a 1) : gce T y ad I J N a = .inl (y 0, (T a).2, .inl (I a)) := by
  unfold gce
  rw [h.2] <;> rfl
theorem gce_l {T : HT} {n a : Nat} {y : Nat → ClassId} {ad : Nat → Nat} {I : HI} {J : HJ} {N : HN} (h : ga T n a 2) : gce T y ad I J N a = .inl (y 1, (T a).2, .inr (.inl (J a))) := by
  unfold gce
  rw [h.2] <;> rfl
theorem gce_a {T : HT} {n a : Nat} {y : Nat → ClassId} {ad : Nat → Nat} {I : HI} {J : HJ} {N : HN} (h : ga T n a 3) : gce T y ad I J N a = .inl (y 2, (T a).2, .inr (.inr (.inr (.inr (fun k => (N a k).map ad))))) := by
  unfold gce
  rw [h.2] <;> rfl
theorem gce_b {T : HT} {n a : Nat} {y : Nat → ClassId} {ad : Nat → Nat} {I : HI} {J : HJ} {N : HN} (h : ga T n a 4) : gce T y ad I J N a = .inl (y 3, (T a).2, .inr (.inr (.inr (.inr (fun k => (N a k).map ad))))) := by
  unfold gce
  rw [h.2] <;> rfl
/-- an index in its row -/
def inb (i : Int32) (n : Nat) : Bool := !(decide (i < 0)) && decide (i.toNatClampNeg < n)
theorem inb_in {i : Int32} {n : Nat} (h : inb i n = true) : vp_in i n := by
  unfold inb at h
  simp only [Bool.and_eq_true, Bool.not_eq_true', decide_eq_false_iff_not, decide_eq_true_eq] at h
  intro q
  rcases q with q | q
  · exact h.1 q
  · omega
/-- the words of pure functions: a guard, a reference's cell, a call's answer, a named value -/
def gd {R : Type} (b : Bool) (K : Option R) : Option R := match b with
  | true => K
  | false => none
theorem o_gd {R : Type} {b : Bool} {K : Option R} {r : R} (h : gd b K = some r) : b = true ∧ K = some r := by
  cases b
  · cases h
  · exact ⟨rfl, h⟩
def rq {R : Type} (T : HT) (n : Nat) (x : Option Nat) (κ : Nat × Nat) (K : Nat → Option R) : Option R := match x with
  | some b => gd (decide (b < n ∧ T b = κ)) (K b)
  | none => none
theorem o_rq {R : Type} {T : HT} {n : Nat} {x : Option Nat} {κ : Nat × Nat} {K : Nat → Option R} {r : R} (h : rq T n x κ K = some r) : ∃ b, x = some b ∧ gk T n b κ ∧ K b = some r := by
  cases x with
  | none => cases h
  | some b =>
    obtain ⟨h1, h2⟩ := o_gd h
    exact ⟨b, rfl, (of_decide_eq_true h1 : b < n ∧ T b = κ), h2⟩
def ra {R : Type} (T : HT) (n : Nat) (x : Option Nat) (κ : Nat) (K : Nat → Option R) : Option R := match x with
  | some b => gd (decide (b < n ∧ (T b).1 = κ)) (K b)
  | none => none
theorem o_ra {R : Type} {T : HT} {n : Nat} {x : Option Nat} {κ : Nat} {K : Nat → Option R} {r : R} (h : ra T n x κ K = some r) : ∃ b, x = some b ∧ ga T n b κ ∧ K b = some r := by
  cases x with
  | none => cases h
  | some b =>
    obtain ⟨h1, h2⟩ := o_gd h
    exact ⟨b, rfl, (of_decide_eq_true h1 : b < n ∧ (T b).1 = κ), h2⟩
def bd {α R : Type} (e : α) (K : α → Option R) : Option R := K e
theorem o_bd {α R : Type} {e : α} {K : α → Option R} {r : R} (h : bd e K = some r) : ∃ v, v = e ∧ K v = some r := ⟨e, rfl, h⟩
def b1 {A R : Type} (x : Option A) (K : A → Option R) : Option R := match x with
  | some a => K a
  | none => none
theorem o_b1 {A R : Type} {x : Option A} {K : A → Option R} {r : R} (h : b1 x K = some r) : ∃ a, x = some a ∧ K a = some r := by
  cases x with
  | none => cases h
  | some a => exact ⟨a, rfl, h⟩
def b2 {A B R : Type} (x : Option (A × B)) (K : A → B → Option R) : Option R := match x with
  | some (a, b) => K a b
  | none => none
theorem o_b2 {A B R : Type} {x : Option (A × B)} {K : A → B → Option R} {r : R} (h : b2 x K = some r) : ∃ a b, x = some (a, b) ∧ K a b = some r := by
  rcases x with _ | ⟨a, b⟩
  · cases h
  · exact ⟨a, b, rfl, h⟩
def b3 {A B C R : Type} (x : Option (A × B × C)) (K : A → B → C → Option R) : Option R := match x with
  | some (a, b, c) => K a b c
  | none => none
theorem o_b3 {A B C R : Type} {x : Option (A × B × C)} {K : A → B → C → Option R} {r : R} (h : b3 x K = some r) : ∃ a b c, x = some (a, b, c) ∧ K a b c = some r := by
  rcases x with _ | ⟨a, b, c⟩
  · cases h
  · exact ⟨a, b, c, rfl, h⟩
def b4 {A B C D R : Type} (x : Option (A × B × C × D)) (K : A → B → C → D → Option R) : Option R := match x with
  | some (a, b, c, d) => K a b c d
  | none => none
theorem o_b4 {A B C D R : Type} {x : Option (A × B × C × D)} {K : A → B → C → D → Option R} {r : R} (h : b4 x K = some r) : ∃ a b c d, x = some (a, b, c, d) ∧ K a b c d = some r := by
  rcases x with _ | ⟨a, b, c, d⟩
  · cases h
  · exact ⟨a, b, c, d, rfl, h⟩
theorem o_pos {R : Type} {c : Prop} {D : Decidable c} {A B : Option R} {r : R} (e : c) (h : (@ite (Option R) c D A B) = some r) : A = some r := by
  rw [if_pos e] at h
  exact h
theorem o_neg {R : Type} {c : Prop} {D : Decidable c} {A B : Option R} {r : R} (e : ¬ c) (h : (@ite (Option R) c D A B) = some r) : B = some r := by
  rw [if_neg e] at h
  exact h
/-- a method's contract: from the world (I, J, N) to the world o, with o's answer -/
def gA (ad : Nat → Nat) (n sz : Nat) : Nat → Prop := fun q => (∃ i, i < n ∧ q = ad i) ∨ sz ≤ q
abbrev HO : Type := HI × HJ × HN × ((Nat → Nat) → Option Value)
def gPc (T : HT) (D : va_G) (y : Nat → ClassId) (ad : Nat → Nat) (n sz : Nat) (I : HI) (J : HJ) (N : HN) (av : List Value) : Array Value → State → Prop := fun v U =>
  v = av.toArray ∧ U.heap.size = sz ∧ va_P D gcl (gwd T y ad n I J N) U.heap ∧ va_K D gcl (gtys y) U ∧ nwS U ∧ ∀ i j, i < n → j < n → ad i = ad j → i = j
def gQc (T : HT) (D : va_G) (y : Nat → ClassId) (ad : Nat → Nat) (n : Nat) (A : Nat → Prop) (o : HO) : Array Value → State → Outcome → State → Prop := fun _ st oc t =>
  (oc = .returned (o.2.2.2 ad) ∧ va_P D gcl (gwd T y ad n o.1 o.2.1 o.2.2.1) t.heap) ∧ va_F A st t
def gM (l : Launch) (y : MethodName) (cc : ByteArray) (nL : Nat) (ret : Option FieldType) (rm : Room) (T : HT) (n : Nat) (I : HI) (J : HJ) (N : HN) (av : (Nat → Nat) → List Value) (o : HO) : Prop :=
  ∀ (D : va_G) (yc : Nat → ClassId) (ad : Nat → Nat) (sz : Nat), Met l y (Cond.code y cc nL ret :: lw_g) rm (gPc T D yc ad n sz I J N (av ad)) (gQc T D yc ad n (gA ad n sz) o) 0 0 (gA ad n sz)
def gE (X : HX) (T : HT) (ad : Nat → Nat) (n : Nat) (o : HO) : State → Prop := MQ (xb X) (gQc T (xD X) (xy X) ad n (xA X) o) (xa X) (xs X) 0 0 (xA X)
theorem g_meth {l : Launch} {y : MethodName} {cc : ByteArray} {nL : Nat} {ret : Option FieldType} {rm : Room} {T : HT} {n : Nat} {I : HI} {J : HJ} {N : HN} {av : (Nat → Nat) → List Value} {o : HO} {lv : (Nat → Nat) → List (Nat × Value)} (hy : plainName y.cls = true) (hlen : ∀ ad, (lg_sl (av ad)).length ≤ nL) (hlv : ∀ ad, lv_args 0 (av ad) = lv ad)
    (body : ∀ (X : HX) (ad : Nat → Nat), Cx X cc y.cls nL ret rm → G T X ad n 0 0 I J N (gE X T ad n o) 0 nL (lv ad) []) : gM l y cc nL ret rm T n I J N av o := by
  intro D yc ad sz
  refine Met.ofW (cc := cc) (maxL := nL) (ret := ret) hy rfl ?_
  intro p e s m args below meth c s₁ B hml hv
  obtain ⟨rfl, hsz, hP, hK, hnw, hinj⟩ := hv
  subst hsz
  have hts := atoms_spec (ws := Cond.code y cc nL ret :: lw_g) B.pre
  have hl := lv_entry (av ad) (n := nL) (hlen ad)
  rw [lg_entry_eq]
  rw [hlv ad] at hl
  exact body (p, l, e, rm, s, m, (av ad).toArray, below, meth, c, D, yc, gA ad n s.heap.size) ad ⟨B.exec, B.bytes, hml, findClass_of_methodNamed B.named, fun w hw => hts w (List.mem_cons_of_mem _ hw), B.returns, B.notSynchronized, hK, fun q h => Or.inr h, rfl, hnw⟩ s.heap [] _ hP ⟨hinj, fun i hi => Or.inl ⟨i, hi, rfl⟩⟩ va_S.rf hl
section GR
variable {T : HT} {X : HX} {ad : Nat → Nat} {n mc ms : Nat} {I : HI} {J : HJ} {N : HN} {Q : State → Prop} {pc nL : Nat} {lv lv' : List (Nat × Value)} {rest : List Value} {cc : ByteArray} {own : String} {ret : Option FieldType} {rm : Room}
theorem g_lv (ks : List Nat) {st : List Value} (hl : lv_pick lv ks = lv') (k : G T X ad n mc ms I J N Q pc nL lv' st) : G T X ad n mc ms I J N Q pc nL lv st := fun H locs ls hP hD hS h => k H locs ls hP hD hS (lv_sub h ks hl)
theorem g_topi {x v : Int32} (e : v = x) (k : G T X ad n mc ms I J N Q pc nL lv (.int v :: rest)) : G T X ad n mc ms I J N Q pc nL lv (.int x :: rest) := e ▸ k
theorem g_topl {x v : Int64} (e : v = x) (k : G T X ad n mc ms I J N Q pc nL lv (.long v :: rest)) : G T X ad n mc ms I J N Q pc nL lv (.long x :: rest) := e ▸ k
theorem g_iadd (C : Cx X cc own nL ret rm) {x y : Int32} (d : decode cc pc = .ok (.iadd, 1)) (k : G T X ad n mc ms I J N Q (pc + 1) nL lv (.int (x + y) :: rest)) : G T X ad n mc ms I J N Q pc nL lv (.int y :: .int x :: rest) := fun H locs ls hP hD hS hl => lv_iadd C.1 C.2.1 d (k H locs ls hP hD hS hl)
theorem g_isub (C : Cx X cc own nL ret rm) {x y : Int32} (d : decode cc pc = .ok (.isub, 1)) (k : G T X ad n mc ms I J N Q (pc + 1) nL lv (.int (x - y) :: rest)) : G T X ad n mc ms I J N Q pc nL lv (.int y :: .int x :: rest) := fun H locs ls hP hD hS hl => lv_isub C.1 C.2.1 d (k H locs ls hP hD hS hl)
theorem g_imul (C : Cx X cc own nL ret rm) {x y : Int32} (d : decode cc pc = .ok (.imul, 1)) (k : G T X ad n mc ms I J N Q (pc + 1) nL lv (.int (x * y) :: rest)) : G T X ad n mc ms I J N Q pc nL lv (.int y :: .int x :: rest) := fun H locs ls hP hD hS hl => lv_imul C.1 C.2.1 d (k H locs ls hP hD hS hl)
theorem g_iand (C : Cx X cc own nL ret rm) {x y : Int32} (d : decode cc pc = .ok (.iand, 1)) (k : G T X ad n mc ms I J N Q (pc + 1) nL lv (.int (x &&& y) :: rest)) : G T X ad n mc ms I J N Q pc nL lv (.int y :: .int x :: rest) := fun H locs ls hP hD hS hl => lv_iand C.1 C.2.1 d (k H locs ls hP hD hS hl)
theorem g_idiv (C : Cx X cc own nL ret rm) {x y : Int32} (d : decode cc pc = .ok (.idiv, 1)) (hne : ¬ y = 0) (k : G T X ad n mc ms I J N Q (pc + 1) nL lv (.int (x / y) :: rest)) : G T X ad n mc ms I J N Q pc nL lv (.int y :: .int x :: rest) := fun H locs ls hP hD hS hl => lv_idiv C.1 C.2.1 d hne (k H locs ls hP hD hS hl)
theorem g_irem (C : Cx X cc own nL ret rm) {x y : Int32} (d : decode cc pc = .ok (.irem, 1)) (hne : ¬ y = 0) (k : G T X ad n mc ms I J N Q (pc + 1) nL lv (.int (x - x / y * y) :: rest)) : G T X ad n mc ms I J N Q pc nL lv (.int y :: .int x :: rest) := fun H locs ls hP hD hS hl => lv_irem C.1 C.2.1 d hne (k H locs ls hP hD hS hl)
theorem g_ladd (C : Cx X cc own nL ret rm) {x y : Int64} (d : decode cc pc = .ok (.ladd, 1)) (k : G T X ad n mc ms I J N Q (pc + 1) nL lv (.long (x + y) :: rest)) : G T X ad n mc ms I J N Q pc nL lv (.long y :: .long x :: rest) := fun H locs ls hP hD hS hl => lv_ladd C.1 C.2.1 d (k H locs ls hP hD hS hl)
theorem g_lsub (C : Cx X cc own nL ret rm) {x y : Int64} (d : decode cc pc = .ok (.lsub, 1)) (k : G T X ad n mc ms I J N Q (pc + 1) nL lv (.long (x - y) :: rest)) : G T X ad n mc ms I J N Q pc nL lv (.long y :: .long x :: rest) := fun H locs ls hP hD hS hl => lv_lsub C.1 C.2.1 d (k H locs ls hP hD hS hl)
theorem g_lmul (C : Cx X cc own nL ret rm) {x y : Int64} (d : decode cc pc = .ok (.lmul, 1)) (k : G T X ad n mc ms I J N Q (pc + 1) nL lv (.long (x * y) :: rest)) : G T X ad n mc ms I J N Q pc nL lv (.long y :: .long x :: rest) := fun H locs ls hP hD hS hl => lv_lmul C.1 C.2.1 d (k H locs ls hP hD hS hl)
theorem g_ldiv (C : Cx X cc own nL ret rm) {x y : Int64} (d : decode cc pc = .ok (.ldiv, 1)) (hne : ¬ y = 0) (k : G T X ad n mc ms I J N Q (pc + 1) nL lv (.long (x / y) :: rest)) : G T X ad n mc ms I J N Q pc nL lv (.long y :: .long x :: rest) := fun H locs ls hP hD hS hl => lv_ldiv C.1 C.2.1 d hne (k H locs ls hP hD hS hl)
theorem g_lrem (C : Cx X cc own nL ret rm) {x y : Int64} (d : decode cc pc = .ok (.lrem, 1)) (hne : ¬ y = 0) (k : G T X ad n mc ms I J N Q (pc + 1) nL lv (.long (x - x / y * y) :: rest)) : G T X ad n mc ms I J N Q pc nL lv (.long y :: .long x :: rest) := fun H locs ls hP hD hS hl => lv_lrem C.1 C.2.1 d hne (k H locs ls hP hD hS hl)
theorem g_ineg (C : Cx X cc own nL ret rm) {x : Int32} (d : decode cc pc = .ok (.ineg, 1)) (k : G T X ad n mc ms I J N Q (pc + 1) nL lv (.int (-x) :: rest)) : G T X ad n mc ms I J N Q pc nL lv (.int x :: rest) := fun H locs ls hP hD hS hl => lv_ineg C.1 C.2.1 d (k H locs ls hP hD hS hl)
theorem g_lneg (C : Cx X cc own nL ret rm) {x : Int64} (d : decode cc pc = .ok (.lneg, 1)) (k : G T X ad n mc ms I J N Q (pc + 1) nL lv (.long (-x) :: rest)) : G T X ad n mc ms I J N Q pc nL lv (.long x :: rest) := fun H locs ls hP hD hS hl => lv_lneg C.1 C.2.1 d (k H locs ls hP hD hS hl)
theorem g_i2l (C : Cx X cc own nL ret rm) {x : Int32} (d : decode cc pc = .ok (.i2l, 1)) (k : G T X ad n mc ms I J N Q (pc + 1) nL lv (.long x.toInt64 :: rest)) : G T X ad n mc ms I J N Q pc nL lv (.int x :: rest) := fun H locs ls hP hD hS hl => lv_i2l C.1 C.2.1 d rfl (k H locs ls hP hD hS hl)
theorem g_l2i (C : Cx X cc own nL ret rm) {x : Int64} (d : decode cc pc = .ok (.l2i, 1)) (k : G T X ad n mc ms I J N Q (pc + 1) nL lv (.int x.toInt32 :: rest)) : G T X ad n mc ms I J N Q pc nL lv (.long x :: rest) := fun H locs ls hP hD hS hl => lv_l2i C.1 C.2.1 d rfl (k H locs ls hP hD hS hl)
theorem g_dup (C : Cx X cc own nL ret rm) {v : Value} (d : decode cc pc = .ok (.dup, 1)) (hv : v.category = 1) (k : G T X ad n mc ms I J N Q (pc + 1) nL lv (v :: v :: rest)) : G T X ad n mc ms I J N Q pc nL lv (v :: rest) := fun H locs ls hP hD hS hl => lv_dup C.1 C.2.1 d hv (k H locs ls hP hD hS hl)
theorem g_pop (C : Cx X cc own nL ret rm) {v : Value} (d : decode cc pc = .ok (.pop, 1)) (hv : v.category = 1) (k : G T X ad n mc ms I J N Q (pc + 1) nL lv rest) : G T X ad n mc ms I J N Q pc nL lv (v :: rest) := fun H locs ls hP hD hS hl => lv_pop C.1 C.2.1 d hv (k H locs ls hP hD hS hl)
theorem g_dup2 (C : Cx X cc own nL ret rm) {v w : Value} (d : decode cc pc = .ok (.dup2, 1)) (hv : v.category = 1) (hw : w.category = 1) (k : G T X ad n mc ms I J N Q (pc + 1) nL lv (v :: w :: v :: w :: rest)) : G T X ad n mc ms I J N Q pc nL lv (v :: w :: rest) := fun H locs ls hP hD hS hl => lv_dup2_11 C.1 C.2.1 d hv hw (k H locs ls hP hD hS hl)
theorem g_iconst (C : Cx X cc own nL ret rm) {m : Int} (v : Int32) (d : decode cc pc = .ok (.iconst m, 1)) (hv : Int32.ofInt m = v) (k : G T X ad n mc ms I J N Q (pc + 1) nL lv (.int v :: rest)) : G T X ad n mc ms I J N Q pc nL lv rest := fun H locs ls hP hD hS hl => lv_iconst C.1 C.2.1 d hv (k H locs ls hP hD hS hl)
theorem g_bipush (C : Cx X cc own nL ret rm) {m : Int} (v : Int32) (d : decode cc pc = .ok (.bipush m, 2)) (hv : (Int8.ofInt m).toInt32 = v) (k : G T X ad n mc ms I J N Q (pc + 2) nL lv (.int v :: rest)) : G T X ad n mc ms I J N Q pc nL lv rest := fun H locs ls hP hD hS hl => lv_bipush C.1 C.2.1 d hv (k H locs ls hP hD hS hl)
theorem g_sipush (C : Cx X cc own nL ret rm) {m : Int} (v : Int32) (d : decode cc pc = .ok (.sipush m, 3)) (hv : (Int16.ofInt m).toInt32 = v) (k : G T X ad n mc ms I J N Q (pc + 3) nL lv (.int v :: rest)) : G T X ad n mc ms I J N Q pc nL lv rest := fun H locs ls hP hD hS hl => lv_sipush C.1 C.2.1 d hv (k H locs ls hP hD hS hl)
theorem g_lconst (C : Cx X cc own nL ret rm) {m : Fin 2} (v : Int64) (d : decode cc pc = .ok (.lconst m, 1)) (hv : Int64.ofNat (m : Nat) = v) (k : G T X ad n mc ms I J N Q (pc + 1) nL lv (.long v :: rest)) : G T X ad n mc ms I J N Q pc nL lv rest := fun H locs ls hP hD hS hl => lv_lconst C.1 C.2.1 d hv (k H locs ls hP hD hS hl)
theorem g_ldc (C : Cx X cc own nL ret rm) {i : Nat} {v : Int32} (w : Cond.constant own i v ∈ lw_g) (d : decode cc pc = .ok (.ldc i, 2)) (k : G T X ad n mc ms I J N Q (pc + 2) nL lv (.int v :: rest)) : G T X ad n mc ms I J N Q pc nL lv rest := fun H locs ls hP hD hS hl => lv_ldc C.1 C.2.1 C.2.2.2.1 (C.2.2.2.2.1 _ w) d (k H locs ls hP hD hS hl)
theorem g_ldc2 (C : Cx X cc own nL ret rm) {i : Nat} {v : Int64} (w : Cond.constantLong own i v ∈ lw_g) (d : decode cc pc = .ok (.ldc2_w i, 3)) (k : G T X ad n mc ms I J N Q (pc + 3) nL lv (.long v :: rest)) : G T X ad n mc ms I J N Q pc nL lv rest := fun H locs ls hP hD hS hl => lv_ldc2 C.1 C.2.1 C.2.2.2.1 (C.2.2.2.2.1 _ w) d (k H locs ls hP hD hS hl)
theorem g_iload_n (C : Cx X cc own nL ret rm) {j : Fin 4} {i : Nat} {x : Int32} (d : decode cc pc = .ok (.iload_n j, 1)) (hi : (j : Nat) = i) (q : Nat) (hq : lv[q]? = some (i, .int x)) (k : G T X ad n mc ms I J N Q (pc + 1) nL lv (.int x :: rest)) : G T X ad n mc ms I J N Q pc nL lv rest := fun H locs ls hP hD hS hl => lv_iload_n C.1 C.2.1 d hi (lv_at hl q hq) (k H locs ls hP hD hS hl)
theorem g_iload (C : Cx X cc own nL ret rm) {i : Nat} {x : Int32} (d : decode cc pc = .ok (.iload i, 2)) (q : Nat) (hq : lv[q]? = some (i, .int x)) (k : G T X ad n mc ms I J N Q (pc + 2) nL lv (.int x :: rest)) : G T X ad n mc ms I J N Q pc nL lv rest := fun H locs ls hP hD hS hl => lv_iload C.1 C.2.1 d (lv_at hl q hq) (k H locs ls hP hD hS hl)
theorem g_istore_n (C : Cx X cc own nL ret rm) {j : Fin 4} {i : Nat} {x : Int32} (d : decode cc pc = .ok (.istore_n j, 1)) (hi : (j : Nat) = i) (hn : i < nL) (hl' : (i, Value.int x) :: lv.filter (fun q => !(q.1 == i) && !(q.1 + 1 == i && q.2.category == 2)) = lv') (k : G T X ad n mc ms I J N Q (pc + 1) nL lv' rest) : G T X ad n mc ms I J N Q pc nL lv (.int x :: rest) := fun H locs ls hP hD hS hl => lv_istore_n C.1 C.2.1 d hi hl hn hl' (fun ls hl => k H locs ls hP hD hS hl)
theorem g_istore (C : Cx X cc own nL ret rm) {i : Nat} {x : Int32} (d : decode cc pc = .ok (.istore i, 2)) (hn : i < nL) (hl' : (i, Value.int x) :: lv.filter (fun q => !(q.1 == i) && !(q.1 + 1 == i && q.2.category == 2)) = lv') (k : G T X ad n mc ms I J N Q (pc + 2) nL lv' rest) : G T X ad n mc ms I J N Q pc nL lv (.int x :: rest) := fun H locs ls hP hD hS hl => lv_istore C.1 C.2.1 d hl hn hl' (fun ls hl => k H locs ls hP hD hS hl)
theorem g_lload_n (C : Cx X cc own nL ret rm) {j : Fin 4} {i : Nat} {x : Int64} (d : decode cc pc = .ok (.lload_n j, 1)) (hi : (j : Nat) = i) (q : Nat) (hq : lv[q]? = some (i, .long x)) (k : G T X ad n mc ms I J N Q (pc + 1) nL lv (.long x :: rest)) : G T X ad n mc ms I J N Q pc nL lv rest := fun H locs ls hP hD hS hl => lv_lload_n C.1 C.2.1 d hi (lv_at hl q hq) (k H locs ls hP hD hS hl)
theorem g_lload (C : Cx X cc own nL ret rm) {i : Nat} {x : Int64} (d : decode cc pc = .ok (.lload i, 2)) (q : Nat) (hq : lv[q]? = some (i, .long x)) (k : G T X ad n mc ms I J N Q (pc + 2) nL lv (.long x :: rest)) : G T X ad n mc ms I J N Q pc nL lv rest := fun H locs ls hP hD hS hl => lv_lload C.1 C.2.1 d (lv_at hl q hq) (k H locs ls hP hD hS hl)
theorem g_lstore_n (C : Cx X cc own nL ret rm) {j : Fin 4} {i : Nat} {x : Int64} (d : decode cc pc = .ok (.lstore_n j, 1)) (hi : (j : Nat) = i) (hn : i + 1 < nL) (hl' : (i, Value.long x) :: lv.filter (fun q => !(q.1 == i) && (!(q.1 == i + 1) && !(q.1 + 1 == i && q.2.category == 2))) = lv') (k : G T X ad n mc ms I J N Q (pc + 1) nL lv' rest) : G T X ad n mc ms I J N Q pc nL lv (.long x :: rest) := fun H locs ls hP hD hS hl => lv_lstore_n C.1 C.2.1 d hi hl hn hl' (fun ls hl => k H locs ls hP hD hS hl)
theorem g_lstore (C : Cx X cc own nL ret rm) {i : Nat} {x : Int64} (d : decode cc pc = .ok (.lstore i, 2)) (hn : i + 1 < nL) (hl' : (i, Value.long x) :: lv.filter (fun q => !(q.1 == i) && (!(q.1 == i + 1) && !(q.1 + 1 == i && q.2.category == 2))) = lv') (k : G T X ad n mc ms I J N Q (pc + 2) nL lv' rest) : G T X ad n mc ms I J N Q pc nL lv (.long x :: rest) := fun H locs ls hP hD hS hl => lv_lstore C.1 C.2.1 d hl hn hl' (fun ls hl => k H locs ls hP hD hS hl)
theorem g_aload_n (C : Cx X cc own nL ret rm) {j : Fin 4} {i : Nat} {x : Nat} (d : decode cc pc = .ok (.aload_n j, 1)) (hi : (j : Nat) = i) (q : Nat) (hq : lv[q]? = some (i, .ref x)) (k : G T X ad n mc ms I J N Q (pc + 1) nL lv (.ref x :: rest)) : G T X ad n mc ms I J N Q pc nL lv rest := fun H locs ls hP hD hS hl => lv_aload_n C.1 C.2.1 d hi (lv_at hl q hq) (k H locs ls hP hD hS hl)
theorem g_aload (C : Cx X cc own nL ret rm) {i : Nat} {x : Nat} (d : decode cc pc = .ok (.aload i, 2)) (q : Nat) (hq : lv[q]? = some (i, .ref x)) (k : G T X ad n mc ms I J N Q (pc + 2) nL lv (.ref x :: rest)) : G T X ad n mc ms I J N Q pc nL lv rest := fun H locs ls hP hD hS hl => lv_aload C.1 C.2.1 d (lv_at hl q hq) (k H locs ls hP hD hS hl)
theorem g_astore_n (C : Cx X cc own nL ret rm) {j : Fin 4} {i : Nat} {x : Nat} (d : decode cc pc = .ok (.astore_n j, 1)) (hi : (j : Nat) = i) (hn : i < nL) (hl' : (i, Value.ref x) :: lv.filter (fun q => !(q.1 == i) && !(q.1 + 1 == i && q.2.category == 2)) = lv') (k : G T X ad n mc ms I J N Q (pc + 1) nL lv' rest) : G T X ad n mc ms I J N Q pc nL lv (.ref x :: rest) := fun H locs ls hP hD hS hl => lv_astore_n C.1 C.2.1 d hi hl hn hl' (fun ls hl => k H locs ls hP hD hS hl)
theorem g_astore (C : Cx X cc own nL ret rm) {i : Nat} {x : Nat} (d : decode cc pc = .ok (.astore i, 2)) (hn : i < nL) (hl' : (i, Value.ref x) :: lv.filter (fun q => !(q.1 == i) && !(q.1 + 1 == i && q.2.category == 2)) = lv') (k : G T X ad n mc ms I J N Q (pc + 2) nL lv' rest) : G T X ad n mc ms I J N Q pc nL lv (.ref x :: rest) := fun H locs ls hP hD hS hl => lv_astore C.1 C.2.1 d hl hn hl' (fun ls hl => k H locs ls hP hD hS hl)
theorem g_iinc (C : Cx X cc own nL ret rm) {i q : Nat} {m : Int} {x v : Int32} (d : decode cc pc = .ok (.iinc i m, 3)) (hq : lv[q]? = some (i, .int x)) (hv : x + Int32.ofInt m = v) (hn : i < nL) (hl' : (i, Value.int v) :: lv.filter (fun q => !(q.1 == i) && !(q.1 + 1 == i && q.2.category == 2)) = lv') (k : G T X ad n mc ms I J N Q (pc + 3) nL lv' rest) : G T X ad n mc ms I J N Q pc nL lv rest := fun H locs ls hP hD hS hl => lv_iinc C.1 C.2.1 d hl hq hv hn hl' (fun ls hl => k H locs ls hP hD hS hl)
theorem g_icmp_eq (C : Cx X cc own nL ret rm) {x y : Int32} {off : Int} (tgt : Nat) (d : decode cc pc = .ok (.if_icmp .eq off, 3)) (ht : (pc : Int) + off = (tgt : Int)) (kt : x = y → G T X ad n mc ms I J N Q tgt nL lv rest) (kf : ¬ x = y → G T X ad n mc ms I J N Q (pc + 3) nL lv rest) : G T X ad n mc ms I J N Q pc nL lv (.int y :: .int x :: rest) := fun H locs ls hP hD hS hl => lv_icmp_eq C.1 C.2.1 d ht (fun e => kt e H locs ls hP hD hS hl) (fun e => kf e H locs ls hP hD hS hl)
theorem g_if_eq (C : Cx X cc own nL ret rm) {x : Int32} {off : Int} (tgt : Nat) (d : decode cc pc = .ok (.ifCond .eq off, 3)) (ht : (pc : Int) + off = (tgt : Int)) (kt : x = 0 → G T X ad n mc ms I J N Q tgt nL lv rest) (kf : ¬ x = 0 → G T X ad n mc ms I J N Q (pc + 3) nL lv rest) : G T X ad n mc ms I J N Q pc nL lv (.int x :: rest) := fun H locs ls hP hD hS hl => lv_if_eq C.1 C.2.1 d ht (fun e => kt e H locs ls hP hD hS hl) (fun e => kf e H locs ls hP hD hS hl)
theorem g_lcmp_eq (C : Cx X cc own nL ret rm) {x y : Int64} {off : Int} (tgt : Nat) (d0 : decode cc pc = .ok (.lcmp, 1)) (d : decode cc (pc + 1) = .ok (.ifCond .eq off, 3)) (ht : ((pc + 1 : Nat) : Int) + off = (tgt : Int)) (kt : x = y → G T X ad n mc ms I J N Q tgt nL lv rest) (kf : ¬ x = y → G T X ad n mc ms I J N Q (pc + 1 + 3) nL lv rest) : G T X ad n mc ms I J N Q pc nL lv (.long y :: .long x :: rest) := fun H locs ls hP hD hS hl => W.lcmp C.1 C.2.1 d0 (lv_if_eq C.1 C.2.1 d ht (fun e => kt ((lg_cmp_eq x y).mp e) H locs ls hP hD hS hl) (fun e => kf (fun q => e ((lg_cmp_eq x y).mpr q)) H locs ls hP hD hS hl))
theorem g_icmp_ne (C : Cx X cc own nL ret rm) {x y : Int32} {off : Int} (tgt : Nat) (d : decode cc pc = .ok (.if_icmp .ne off, 3)) (ht : (pc : Int) + off = (tgt : Int)) (kt : ¬ x = y → G T X ad n mc ms I J N Q tgt nL lv rest) (kf : x = y → G T X ad n mc ms I J N Q (pc + 3) nL lv rest) : G T X ad n mc ms I J N Q pc nL lv (.int y :: .int x :: rest) := fun H locs ls hP hD hS hl => lv_icmp_ne C.1 C.2.1 d ht (fun e => kt e H locs ls hP hD hS hl) (fun e => kf e H locs ls hP hD hS hl)
theorem g_if_ne (C : Cx X cc own nL ret rm) {x : Int32} {off : Int} (tgt : Nat) (d : decode cc pc = .ok (.ifCond .ne off, 3)) (ht : (pc : Int) + off = (tgt : Int)) (kt : ¬ x = 0 → G T X ad n mc ms I J N Q tgt nL lv rest) (kf : x = 0 → G T X ad n mc ms I J N Q (pc + 3) nL lv rest) : G T X ad n mc ms I J N Q pc nL lv (.int x :: rest) := fun H locs ls hP hD hS hl => lv_if_ne C.1 C.2.1 d ht (fun e => kt e H locs ls hP hD hS hl) (fun e => kf e H locs ls hP hD hS hl)
theorem g_lcmp_ne (C : Cx X cc own nL ret rm) {x y : Int64} {off : Int} (tgt : Nat) (d0 : decode cc pc = .ok (.lcmp, 1)) (d : decode cc (pc + 1) = .ok (.ifCond .ne off, 3)) (ht : ((pc + 1 : Nat) : Int) + off = (tgt : Int)) (kt : ¬ x = y → G T X ad n mc ms I J N Q tgt nL lv rest) (kf : x = y → G T X ad n mc ms I J N Q (pc + 1 + 3) nL lv rest) : G T X ad n mc ms I J N Q pc nL lv (.long y :: .long x :: rest) := fun H locs ls hP hD hS hl => W.lcmp C.1 C.2.1 d0 (lv_if_ne C.1 C.2.1 d ht (fun e => kt (fun q => e ((lg_cmp_eq x y).mpr q)) H locs ls hP hD hS hl) (fun e => kf ((lg_cmp_eq x y).mp e) H locs ls hP hD hS hl))
theorem g_icmp_lt (C : Cx X cc own nL ret rm) {x y : Int32} {off : Int} (tgt : Nat) (d : decode cc pc = .ok (.if_icmp .lt off, 3)) (ht : (pc : Int) + off = (tgt : Int)) (kt : x < y → G T X ad n mc ms I J N Q tgt nL lv rest) (kf : ¬ x < y → G T X ad n mc ms I J N Q (pc + 3) nL lv rest) : G T X ad n mc ms I J N Q pc nL lv (.int y :: .int x :: rest) := fun H locs ls hP hD hS hl => lv_icmp_lt C.1 C.2.1 d ht (fun e => kt e H locs ls hP hD hS hl) (fun e => kf e H locs ls hP hD hS hl)
theorem g_if_lt (C : Cx X cc own nL ret rm) {x : Int32} {off : Int} (tgt : Nat) (d : decode cc pc = .ok (.ifCond .lt off, 3)) (ht : (pc : Int) + off = (tgt : Int)) (kt : x < 0 → G T X ad n mc ms I J N Q tgt nL lv rest) (kf : ¬ x < 0 → G T X ad n mc ms I J N Q (pc + 3) nL lv rest) : G T X ad n mc ms I J N Q pc nL lv (.int x :: rest) := fun H locs ls hP hD hS hl => lv_if_lt C.1 C.2.1 d ht (fun e => kt e H locs ls hP hD hS hl) (fun e => kf e H locs ls hP hD hS hl)
theorem g_lcmp_lt (C : Cx X cc own nL ret rm) {x y : Int64} {off : Int} (tgt : Nat) (d0 : decode cc pc = .ok (.lcmp, 1)) (d : decode cc (pc + 1) = .ok (.ifCond .lt off, 3)) (ht : ((pc + 1 : Nat) : Int) + off = (tgt : Int)) (kt : x < y → G T X ad n mc ms I J N Q tgt nL lv rest) (kf : ¬ x < y → G T X ad n mc ms I J N Q (pc + 1 + 3) nL lv rest) : G T X ad n mc ms I J N Q pc nL lv (.long y :: .long x :: rest) := fun H locs ls hP hD hS hl => W.lcmp C.1 C.2.1 d0 (lv_if_lt C.1 C.2.1 d ht (fun e => kt ((lg_cmp_lt x y).mp e) H locs ls hP hD hS hl) (fun e => kf (fun q => e ((lg_cmp_lt x y).mpr q)) H locs ls hP hD hS hl))
theorem g_icmp_ge (C : Cx X cc own nL ret rm) {x y : Int32} {off : Int} (tgt : Nat) (d : decode cc pc = .ok (.if_icmp .ge off, 3)) (ht : (pc : Int) + off = (tgt : Int)) (kt : y ≤ x → G T X ad n mc ms I J N Q tgt nL lv rest) (kf : ¬ y ≤ x → G T X ad n mc ms I J N Q (pc + 3) nL lv rest) : G T X ad n mc ms I J N Q pc nL lv (.int y :: .int x :: rest) := fun H locs ls hP hD hS hl => lv_icmp_ge C.1 C.2.1 d ht (fun e => kt e H locs ls hP hD hS hl) (fun e => kf e H locs ls hP hD hS hl)
theorem g_if_ge (C : Cx X cc own nL ret rm) {x : Int32} {off : Int} (tgt : Nat) (d : decode cc pc = .ok (.ifCond .ge off, 3)) (ht : (pc : Int) + off = (tgt : Int)) (kt : 0 ≤ x → G T X ad n mc ms I J N Q tgt nL lv rest) (kf : ¬ 0 ≤ x → G T X ad n mc ms I J N Q (pc + 3) nL lv rest) : G T X ad n mc ms I J N Q pc nL lv (.int x :: rest) := fun H locs ls hP hD hS hl => lv_if_ge C.1 C.2.1 d ht (fun e => kt e H locs ls hP hD hS hl) (fun e => kf e H locs ls hP hD hS hl)
theorem g_lcmp_ge (C : Cx X cc own nL ret rm) {x y : Int64} {off : Int} (tgt : Nat) (d0 : decode cc pc = .ok (.lcmp, 1)) (d : decode cc (pc + 1) = .ok (.ifCond .ge off, 3)) (ht : ((pc + 1 : Nat) : Int) + off = (tgt : Int)) (kt : y ≤ x → G T X ad n mc ms I J N Q tgt nL lv rest) (kf : ¬ y ≤ x → G T X ad n mc ms I J N Q (pc + 1 + 3) nL lv rest) : G T X ad n mc ms I J N Q pc nL lv (.long y :: .long x :: rest) := fun H locs ls hP hD hS hl => W.lcmp C.1 C.2.1 d0 (lv_if_ge C.1 C.2.1 d ht (fun e => kt ((lg_cmp_ge x y).mp e) H locs ls hP hD hS hl) (fun e => kf (fun q => e ((lg_cmp_ge x y).mpr q)) H locs ls hP hD hS hl))
theorem g_icmp_gt (C : Cx X cc own nL ret rm) {x y : Int32} {off : Int} (tgt : Nat) (d : decode cc pc = .ok (.if_icmp .gt off, 3)) (ht : (pc : Int) + off = (tgt : Int)) (kt : y < x → G T X ad n mc ms I J N Q tgt nL lv rest) (kf : ¬ y < x → G T X ad n mc ms I J N Q (pc + 3) nL lv rest) : G T X ad n mc ms I J N Q pc nL lv (.int y :: .int x :: rest) := fun H locs ls hP hD hS hl => lv_icmp_gt C.1 C.2.1 d ht (fun e => kt e H locs ls hP hD hS hl) (fun e => kf e H locs ls hP hD hS hl)
theorem g_if_gt (C : Cx X cc own nL ret rm) {x : Int32} {off : Int} (tgt : Nat) (d : decode cc pc = .ok (.ifCond .gt off, 3)) (ht : (pc : Int) + off = (tgt : Int)) (kt : 0 < x → G T X ad n mc ms I J N Q tgt nL lv rest) (kf : ¬ 0 < x → G T X ad n mc ms I J N Q (pc + 3) nL lv rest) : G T X ad n mc ms I J N Q pc nL lv (.int x :: rest) := fun H locs ls hP hD hS hl => lv_if_gt C.1 C.2.1 d ht (fun e => kt e H locs ls hP hD hS hl) (fun e => kf e H locs ls hP hD hS hl)
theorem g_lcmp_gt (C : Cx X cc own nL ret rm) {x y : Int64} {off : Int} (tgt : Nat) (d0 : decode cc pc = .ok (.lcmp, 1)) (d : decode cc (pc + 1) = .ok (.ifCond .gt off, 3)) (ht : ((pc + 1 : Nat) : Int) + off = (tgt : Int)) (kt : y < x → G T X ad n mc ms I J N Q tgt nL lv rest) (kf : ¬ y < x → G T X ad n mc ms I J N Q (pc + 1 + 3) nL lv rest) : G T X ad n mc ms I J N Q pc nL lv (.long y :: .long x :: rest) := fun H locs ls hP hD hS hl => W.lcmp C.1 C.2.1 d0 (lv_if_gt C.1 C.2.1 d ht (fun e => kt ((lg_cmp_gt x y).mp e) H locs ls hP hD hS hl) (fun e => kf (fun q => e ((lg_cmp_gt x y).mpr q)) H locs ls hP hD hS hl))
theorem g_icmp_le (C : Cx X cc own nL ret rm) {x y : Int32} {off : Int} (tgt : Nat) (d : decode cc pc = .ok (.if_icmp .le off, 3)) (ht : (pc : Int) + off = (tgt : Int)) (kt : x ≤ y → G T X ad n mc ms I J N Q tgt nL lv rest) (kf : ¬ x ≤ y → G T X ad n mc ms I J N Q (pc + 3) nL lv rest) : G T X ad n mc ms I J N Q pc nL lv (.int y :: .int x :: rest) := fun H locs ls hP hD hS hl => lv_icmp_le C.1 C.2.1 d ht (fun e => kt e H locs ls hP hD hS hl) (fun e => kf e H locs ls hP hD hS hl)
theorem g_if_le (C : Cx X cc own nL ret rm) {x : Int32} {off : Int} (tgt : Nat) (d : decode cc pc = .ok (.ifCond .le off, 3)) (ht : (pc : Int) + off = (tgt : Int)) (kt : x ≤ 0 → G T X ad n mc ms I J N Q tgt nL lv rest) (kf : ¬ x ≤ 0 → G T X ad n mc ms I J N Q (pc + 3) nL lv rest) : G T X ad n mc ms I J N Q pc nL lv (.int x :: rest) := fun H locs ls hP hD hS hl => lv_if_le C.1 C.2.1 d ht (fun e => kt e H locs ls hP hD hS hl) (fun e => kf e H locs ls hP hD hS hl)
theorem g_lcmp_le (C : Cx X cc own nL ret rm) {x y : Int64} {off : Int} (tgt : Nat) (d0 : decode cc pc = .ok (.lcmp, 1)) (d : decode cc (pc + 1) = .ok (.ifCond .le off, 3)) (ht : ((pc + 1 : Nat) : Int) + off = (tgt : Int)) (kt : x ≤ y → G T X ad n mc ms I J N Q tgt nL lv rest) (kf : ¬ x ≤ y → G T X ad n mc ms I J N Q (pc + 1 + 3) nL lv rest) : G T X ad n mc ms I J N Q pc nL lv (.long y :: .long x :: rest) := fun H locs ls hP hD hS hl => W.lcmp C.1 C.2.1 d0 (lv_if_le C.1 C.2.1 d ht (fun e => kt ((lg_cmp_le x y).mp e) H locs ls hP hD hS hl) (fun e => kf (fun q => e ((lg_cmp_le x y).mpr q)) H locs ls hP hD hS hl))
theorem g_goto (C : Cx X cc own nL ret rm) {off : Int} (tgt : Nat) {st : List Value} (d : decode cc pc = .ok (.goto off, 3)) (ht : (pc : Int) + off = (tgt : Int)) (k : G T X ad n mc ms I J N Q tgt nL lv st) : G T X ad n mc ms I J N Q pc nL lv st := fun H locs ls hP hD hS hl => lv_goto C.1 C.2.1 d ht (k H locs ls hP hD hS hl)
theorem g_tableIn (C : Cx X cc own nL ret rm) {dflt lo hi : Int} {offs : Array Int} {len : Nat} {x : Int32} {off : Int} (tgt : Nat) (d : decode cc pc = .ok (.tableswitch dflt lo hi offs, len)) (h1 : ¬ x.toInt < lo) (h2 : ¬ hi < x.toInt) (ho : offs[(x.toInt - lo).toNat]? = some off) (ht : (pc : Int) + off = (tgt : Int)) (k : G T X ad n mc ms I J N Q tgt nL lv rest) : G T X ad n mc ms I J N Q pc nL lv (.int x :: rest) := fun H locs ls hP hD hS hl => lv_tableIn C.1 C.2.1 d h1 h2 ho ht (k H locs ls hP hD hS hl)
theorem g_tableOut (C : Cx X cc own nL ret rm) {dflt lo hi : Int} {offs : Array Int} {len : Nat} {x : Int32} (tgt : Nat) (d : decode cc pc = .ok (.tableswitch dflt lo hi offs, len)) (h : x.toInt < lo ∨ hi < x.toInt) (ht : (pc : Int) + dflt = (tgt : Int)) (k : G T X ad n mc ms I J N Q tgt nL lv rest) : G T X ad n mc ms I J N Q pc nL lv (.int x :: rest) := fun H locs ls hP hD hS hl => lv_tableOut C.1 C.2.1 d h ht (k H locs ls hP hD hS hl)
theorem g_iret (C : Cx X cc own nL (some .int) rm) {v : Int32} (d : decode cc pc = .ok (.ireturn, 1)) : G T X ad n 0 0 I J N (gE X T ad n (I, J, N, fun _ => some (.int v))) pc nL lv [.int v] := fun H locs ls hP hD hS hl => W.iret C.1 C.2.1 C.2.2.2.2.2.1 (fun t ht hW => ⟨⟨rfl, by rw [ht]; exact hP⟩, hS.F ht⟩) hS.2.2 d C.2.2.2.2.2.2.1
theorem g_zret (C : Cx X cc own nL (some .boolean) rm) {v : Int32} (hn : narrow .boolean (.int v) = .int v) (d : decode cc pc = .ok (.ireturn, 1)) : G T X ad n 0 0 I J N (gE X T ad n (I, J, N, fun _ => some (.int v))) pc nL lv [.int v] := fun H locs ls hP hD hS hl => W.zret C.1 C.2.1 C.2.2.2.2.2.1 hn (fun t ht hW => ⟨⟨rfl, by rw [ht]; exact hP⟩, hS.F ht⟩) hS.2.2 d C.2.2.2.2.2.2.1
theorem g_lret (C : Cx X cc own nL (some .long) rm) {v : Int64} (d : decode cc pc = .ok (.lreturn, 1)) : G T X ad n 0 0 I J N (gE X T ad n (I, J, N, fun _ => some (.long v))) pc nL lv [.long v] := fun H locs ls hP hD hS hl => W.lret C.1 C.2.1 C.2.2.2.2.2.1 (fun t ht hW => ⟨⟨rfl, by rw [ht]; exact hP⟩, hS.F ht⟩) hS.2.2 d C.2.2.2.2.2.2.1
theorem g_vret (C : Cx X cc own nL none rm) (d : decode cc pc = .ok (.return_, 1)) : G T X ad n 0 0 I J N (gE X T ad n (I, J, N, fun _ => none)) pc nL lv [] := fun H locs ls hP hD hS hl => W.vret C.1 C.2.1 C.2.2.2.2.2.1 (fun t ht hW => ⟨⟨rfl, by rw [ht]; exact hP⟩, hS.F ht⟩) hS.2.2 d C.2.2.2.2.2.2.1
theorem g_aret {cn : String} {b : Nat} (C : Cx X cc own nL (some (.object cn)) rm) (d : decode cc pc = .ok (.areturn, 1)) : G T X ad n 0 0 I J N (gE X T ad n (I, J, N, fun ad => some (.ref (ad b)))) pc nL lv [.ref (ad b)] := fun H locs ls hP hD hS hl => W.aret C.1 C.2.1 C.2.2.2.2.2.1 (Or.inl ⟨_, rfl⟩) (Or.inr ⟨_, rfl⟩) (fun t ht hW => ⟨⟨rfl, by rw [ht]; exact hP⟩, hS.F ht⟩) hS.2.2 d C.2.2.2.2.2.2.1
theorem g_get (C : Cx X cc own nL ret rm) {a ci idx k NF : Nat} {Cn : String} {TF : u_T} {v : Value} (hc : gcl[ci]? = some (Cn, TF, NF)) (hin : ∀ w ∈ u_ws Cn TF NF, w ∈ lw_g) (hk : k < NF) (hlink : Cond.fieldLink own idx (TF k).1 (TF k).2.1 (TF k).2.2.1 ∈ lw_g) (ha : gk T n a (0, ci)) (hv : (gob ad I J N ci a)[k]? = some v) (d : decode cc pc = .ok (.getfield idx, 3)) (kk : G T X ad n mc ms I J N Q (pc + 3) nL lv (v :: rest)) : G T X ad n mc ms I J N Q pc nL lv (.ref (ad a) :: rest) := fun H locs ls hP hD hS hl =>
  va_get C.1 C.2.1 C.2.2.2.2.1 hin C.2.2.2.1 C.2.2.2.2.2.2.2.1 hP a (by rw [gwd_at ha.1, gce_o ha]) hc k hk (C.2.2.2.2.1 _ hlink) (fun _ h => h) hv d (kk H locs ls hP hD hS hl)
theorem g_getN (C : Cx X cc own nL ret rm) {a ci idx k NF : Nat} {Cn host : String} {TF : u_T} {v : Value} (hc : gcl[ci]? = some (Cn, TF, NF)) (hin : ∀ w ∈ u_ws Cn TF NF, w ∈ lw_g) (hk : k < NF) (hlink : Cond.fieldLinkNest own idx (TF k).1 (TF k).2.1 (TF k).2.2.1 host ∈ lw_tbl) (ha : gk T n a (0, ci)) (hv : (gob ad I J N ci a)[k]? = some v) (d : decode cc pc = .ok (.getfield idx, 3)) (kk : G T X ad n mc ms I J N Q (pc + 3) nL lv (v :: rest)) : G T X ad n mc ms I J N Q pc nL lv (.ref (ad a) :: rest) := fun H locs ls hP hD hS hl =>
  va_getN C.1 C.2.1 C.2.2.2.2.1 hin C.2.2.2.1 C.2.2.2.2.2.2.2.1 hP a (by rw [gwd_at ha.1, gce_o ha]) hc k hk (va_Nw.use rfl (C.2.2.2.2.2.2.2.2.2.2 _ hlink rfl)) (fun _ h => h) hv d (kk H locs ls hP hD hS hl)
theorem g_rf {a k b : Nat} (h : N a k = some b) : va_rf ((N a k).map ad) = .ref (ad b) := by rw [h]; rfl
/-- a reference on the stack, by the cell that it names -/
theorem g_top {v w : Value} (e : v = w) (k : G T X ad n mc ms I J N Q pc nL lv (w :: rest)) : G T X ad n mc ms I J N Q pc nL lv (v :: rest) := e ▸ k
theorem g_put (C : Cx X cc own nL ret rm) {a ci idx k NF : Nat} {Cn : String} {TF : u_T} {ty0 : Nat → FieldType} {ty : FieldType} {v : Value} {I' : HI} {J' : HJ} {N' : HN} (hc : gcl[ci]? = some (Cn, TF, NF)) (hin : ∀ w ∈ u_ws Cn TF NF, w ∈ lw_g) (hty : ∀ k, k < NF → parseFieldDescriptor (TF k).2.2.1 = some (ty0 k)) (hnm : ∀ a, a < NF → ∀ b, b < NF → a ≠ b → (TF a).2.1 ≠ (TF b).2.1) (hk : k < NF) (hlink : Cond.fieldLink own idx (TF k).1 (TF k).2.1 (TF k).2.2.1 ∈ lw_g) (hfin : (TF k).2.2.2 = false) (ha : gk T n a (0, ci)) (hd : parseFieldDescriptor (TF k).2.2.1 = some ty) (hn : narrow ty v = v) (hfit : fits ty v = true) (hl9 : k < (gob ad I J N ci a).length)
    (hset : gob ad I' J' N' ci a = (gob ad I J N ci a).set k v) (h1 : ∀ b, b ≠ a → I' b = I b) (h2 : ∀ b, b ≠ a → J' b = J b) (h3 : ∀ b, b ≠ a → N' b = N b) (d : decode cc pc = .ok (.putfield idx, 3)) (kk : G T X ad n mc ms I' J' N' Q (pc + 3) nL lv rest) : G T X ad n mc ms I J N Q pc nL lv (v :: .ref (ad a) :: rest) := fun H locs ls hP hD hS hl =>
  va_put C.1 C.2.1 C.2.2.2.2.1 hin ty0 hty hnm C.2.2.2.1 C.2.2.2.2.2.2.2.1 hP (gin_D hD T _ I J N) hS a (by rw [gwd_at ha.1, gce_o ha]) hc k hk (C.2.2.2.2.1 _ hlink) (fun _ h => h) hfin hd hn hfit hl9 d (fun H1 locs1 hP1 _ hS1 => kk H1 locs1 ls (by rw [gwd_set (by rw [gce_o ha, hset]) h1 h2 h3] at hP1; exact hP1) hD hS1 hl)
theorem g_putN (C : Cx X cc own nL ret rm) {a ci idx k NF : Nat} {Cn host : String} {TF : u_T} {ty0 : Nat → FieldType} {ty : FieldType} {v : Value} {I' : HI} {J' : HJ} {N' : HN} (hc : gcl[ci]? = some (Cn, TF, NF)) (hin : ∀ w ∈ u_ws Cn TF NF, w ∈ lw_g) (hty : ∀ k, k < NF → parseFieldDescriptor (TF k).2.2.1 = some (ty0 k)) (hnm : ∀ a, a < NF → ∀ b, b < NF → a ≠ b → (TF a).2.1 ≠ (TF b).2.1) (hk : k < NF) (hlink : Cond.fieldLinkNest own idx (TF k).1 (TF k).2.1 (TF k).2.2.1 host ∈ lw_tbl) (hfin : (TF k).2.2.2 = false) (ha : gk T n a (0, ci)) (hd : parseFieldDescriptor (TF k).2.2.1 = some ty) (hn : narrow ty v = v) (hfit : fits ty v = true) (hl9 : k < (gob ad I J N ci a).length)
    (hset : gob ad I' J' N' ci a = (gob ad I J N ci a).set k v) (h1 : ∀ b, b ≠ a → I' b = I b) (h2 : ∀ b, b ≠ a → J' b = J b) (h3 : ∀ b, b ≠ a → N' b = N b) (d : decode cc pc = .ok (.putfield idx, 3)) (kk : G T X ad n mc ms I' J' N' Q (pc + 3) nL lv rest) : G T X ad n mc ms I J N Q pc nL lv (v :: .ref (ad a) :: rest) := fun H locs ls hP hD hS hl =>
  va_putN C.1 C.2.1 C.2.2.2.2.1 hin ty0 hty hnm C.2.2.2.1 C.2.2.2.2.2.2.2.1 hP (gin_D hD T _ I J N) hS a (by rw [gwd_at ha.1, gce_o ha]) hc k hk (va_Nw.use rfl (C.2.2.2.2.2.2.2.2.2.2 _ hlink rfl)) (fun _ h => h) hfin hd hn hfit hl9 d (fun H1 locs1 hP1 _ hS1 => kk H1 locs1 ls (by rw [gwd_set (by rw [gce_o ha, hset]) h1 h2 h3] at hP1; exact hP1) hD hS1 hl)
theorem g_putF (C : Cx X cc own nL ret rm) {a ci idx k NF : Nat} {Cn : String} {TF : u_T} {ty0 : Nat → FieldType} {ty : FieldType} {v : Value} {I' : HI} {J' : HJ} {N' : HN} (hi : (xt X).name = "<init>") (hc : gcl[ci]? = some (Cn, TF, NF)) (hin : ∀ w ∈ u_ws Cn TF NF, w ∈ lw_g) (hty : ∀ k, k < NF → parseFieldDescriptor (TF k).2.2.1 = some (ty0 k)) (hnm : ∀ a, a < NF → ∀ b, b < NF → a ≠ b → (TF a).2.1 ≠ (TF b).2.1) (hk : k < NF) (hlink : Cond.fieldLink own idx (TF k).1 (TF k).2.1 (TF k).2.2.1 ∈ lw_g) (hfin : (TF k).2.2.2 = true) (hdecl : (TF k).1 = own) (ha : gk T n a (0, ci)) (hd : parseFieldDescriptor (TF k).2.2.1 = some ty) (hn : narrow ty v = v) (hfit : fits ty v = true) (hl9 : k < (gob ad I J N ci a).length)
    (hset : gob ad I' J' N' ci a = (gob ad I J N ci a).set k v) (h1 : ∀ b, b ≠ a → I' b = I b) (h2 : ∀ b, b ≠ a → J' b = J b) (h3 : ∀ b, b ≠ a → N' b = N b) (d : decode cc pc = .ok (.putfield idx, 3)) (kk : G T X ad n mc ms I' J' N' Q (pc + 3) nL lv rest) : G T X ad n mc ms I J N Q pc nL lv (v :: .ref (ad a) :: rest) := fun H locs ls hP hD hS hl =>
  va_putF C.1 C.2.1 C.2.2.2.2.1 hin ty0 hty hnm C.2.2.2.1 C.2.2.2.2.2.2.2.1 hP (gin_D hD T _ I J N) hS a (by rw [gwd_at ha.1, gce_o ha]) hc k hk (C.2.2.2.2.1 _ hlink) (fun _ h => h) hfin hi hdecl hd hn hfit hl9 d (fun H1 locs1 hP1 _ hS1 => kk H1 locs1 ls (by rw [gwd_set (by rw [gce_o ha, hset]) h1 h2 h3] at hP1; exact hP1) hD hS1 hl)
theorem g_iald (C : Cx X cc own nL ret rm) {a : Nat} {i : Int32} (ha : ga T n a 1) (hi : inb i (T a).2 = true) (d : decode cc pc = .ok (.iaload, 1)) (kk : G T X ad n mc ms I J N Q (pc + 1) nL lv (.int (I a i.toNatClampNeg) :: rest)) : G T X ad n mc ms I J N Q pc nL lv (.int i :: .ref (ad a) :: rest) := fun H locs ls hP hD hS hl =>
  va_iald C.1 C.2.1 C.2.2.2.2.2.2.2.1 hP a 0 (by rw [gwd_at ha.1, gce_i ha]) rfl (inb_in hi) d (kk H locs ls hP hD hS hl)
theorem g_lald (C : Cx X cc own nL ret rm) {a : Nat} {i : Int32} (ha : ga T n a 2) (hi : inb i (T a).2 = true) (d : decode cc pc = .ok (.laload, 1)) (kk : G T X ad n mc ms I J N Q (pc + 1) nL lv (.long (J a i.toNatClampNeg) :: rest)) : G T X ad n mc ms I J N Q pc nL lv (.int i :: .ref (ad a) :: rest) := fun H locs ls hP hD hS hl =>
  va_lald C.1 C.2.1 C.2.2.2.2.2.2.2.1 hP a 1 (by rw [gwd_at ha.1, gce_l ha]) rfl (inb_in hi) d (kk H locs ls hP hD hS hl)
theorem g_iast (C : Cx X cc own nL ret rm) {a : Nat} {i x : Int32} (ha : ga T n a 1) (hi : inb i (T a).2 = true) (d : decode cc pc = .ok (.iastore, 1)) (kk : G T X ad n mc ms (up2 I a i.toNatClampNeg x) J N Q (pc + 1) nL lv rest) : G T X ad n mc ms I J N Q pc nL lv (.int x :: .int i :: .ref (ad a) :: rest) := fun H locs ls hP hD hS hl =>
  va_iast C.1 C.2.1 C.2.2.2.2.2.2.2.1 hP (gin_D hD T _ I J N) hS a 0 (by rw [gwd_at ha.1, gce_i ha]) rfl (inb_in hi) d (fun H1 locs1 hP1 _ hS1 => kk H1 locs1 ls (by rw [gwd_set (I' := up2 I a i.toNatClampNeg x) (J' := J) (N' := N) (by rw [gce_i ha, up2_at]; rfl) (fun b hb => up2_of hb) (fun _ _ => rfl) (fun _ _ => rfl)] at hP1; exact hP1) hD hS1 hl)
theorem g_last (C : Cx X cc own nL ret rm) {a : Nat} {i : Int32} {x : Int64} (ha : ga T n a 2) (hi : inb i (T a).2 = true) (d : decode cc pc = .ok (.lastore, 1)) (kk : G T X ad n mc ms I (up2 J a i.toNatClampNeg x) N Q (pc + 1) nL lv rest) : G T X ad n mc ms I J N Q pc nL lv (.long x :: .int i :: .ref (ad a) :: rest) := fun H locs ls hP hD hS hl =>
  va_last C.1 C.2.1 C.2.2.2.2.2.2.2.1 hP (gin_D hD T _ I J N) hS a 1 (by rw [gwd_at ha.1, gce_l ha]) rfl (inb_in hi) d (fun H1 locs1 hP1 _ hS1 => kk H1 locs1 ls (by rw [gwd_set (I' := I) (J' := up2 J a i.toNatClampNeg x) (N' := N) (by rw [gce_l ha, up2_at]; rfl) (fun _ _ => rfl) (fun b hb => up2_of hb) (fun _ _ => rfl)] at hP1; exact hP1) hD hS1 hl)
theorem g_aald {b : Nat} (κ t0 : Nat) {tt : FieldType} (C : Cx X cc own nL ret rm) {a : Nat} {i : Int32} (ha : ga T n a κ) (hk : κ = 3 ∧ t0 = 2 ∧ tt = .array .int ∨ κ = 4 ∧ t0 = 3 ∧ tt = .array .long) (hi : inb i (T a).2 = true) (hb : N a i.toNatClampNeg = some b) (d : decode cc pc = .ok (.aaload, 1)) (kk : G T X ad n mc ms I J N Q (pc + 1) nL lv (.ref (ad b) :: rest)) : G T X ad n mc ms I J N Q pc nL lv (.int i :: .ref (ad a) :: rest) := fun H locs ls hP hD hS hl => by
  have hin := inb_in hi
  have hlt : i.toNatClampNeg < (T a).2 := Nat.not_le.mp fun q => hin (Or.inr q)
  have key : ∀ (cA : ClassId) (t1 : Nat) (t2 : FieldType), (gtys (xy X))[t1]? = some (cA, t2) → t2.isReference = true → gce T (xy X) ad I J N a = .inl (cA, (T a).2, .inr (.inr (.inr (.inr (fun k => (N a k).map ad))))) → W (xp X) (xl X) (xe X) (xR X) (xs X) (xm X) (xa X) (xb X) (xt X) (xc X) H locs mc ms Q (F0 (xm X) pc ls (.int i :: .ref (ad a) :: rest)) := by
    intro cA t1 t2 ht hr hg
    have hc := hP a _ (gwd_at ha.1)
    rw [hg] at hc
    exact W.aald (v := .ref (ad b)) (ty := t2) C.1 C.2.1 hc ((C.2.2.2.2.2.2.2.1.2 t1 _ ht).1 (T a).2 (fun j => va_rf ((N a j).map ad))) hr (fun q => by cases q) (by show ¬ (i < 0 ∨ (arrV _ _ _).slots.size ≤ _); rw [arrV_size]; exact hin) (by show (arrV _ _ _).slots[_]? = _; rw [arrV_read _ _ hlt]; show some (va_rf ((N a i.toNatClampNeg).map ad)) = _; rw [hb]; rfl) rfl rfl d (kk H locs ls hP hD hS hl)
  rcases hk with ⟨rfl, rfl, rfl⟩ | ⟨rfl, rfl, rfl⟩
  · exact key _ 2 (.array .int) rfl rfl (gce_a ha)
  · exact key _ 3 (.array .long) rfl rfl (gce_b ha)
/-- what a call wants of the tables, by kind: 0 virtual, 1 static, 2 special -/
def sM (y : MethodName) (cc : ByteArray) (nL : Nat) (ret : Option FieldType) (np : Nat) : Prop := Cond.code y cc nL ret ∈ lw_g ∧ Cond.initialized y.cls ∈ lw_g ∧ (y.cls ≠ "java/lang/invoke/MethodHandle" ∧ y.cls ≠ "java/lang/invoke/VarHandle" ∧ (parseMethodDescriptor y.desc).map (fun d => d.parameters.length) = some np)
theorem g_pre {D : va_G} {yc : Nat → ClassId} {sz : Nat} {av : List Value} : FrameBlind (gPc T D yc ad n sz I J N av) := fun a U g mk h => ⟨h.1, h.2.1, h.2.2.1, va_K.moved (u := U) (U := U.calling g mk a) (Vm.Alike.refl U.vm) h.2.2.2.1, nwS.same (u := U) (U := U.calling g mk a) rfl h.2.2.2.2.1, h.2.2.2.2.2⟩
theorem g_call {st0 : List Value} {a9 : Array Value} {I' : HI} {J' : HJ} {N' : HN} {rv : (Nat → Nat) → Option Value}
    (hr : ∀ (H : Heap) (locs : List Loc) (ls : Array Slot), va_P (xD X) gcl (gwd T (xy X) ad n I J N) H → gin (xA X) ad n → lv_has ls nL lv → va_Run (xp X) (xl X) (xe X) (xR X) (xs X) (xm X) (xa X) (xb X) (xt X) (xc X) H locs mc ms 0 0 (F0 (xm X) pc ls st0) rest (gQc T (xD X) (xy X) ad n (gA ad n H.size) (I', J', N', rv) a9) (gA ad n H.size))
    (hA : ∀ q, (xs X).heap.size ≤ q → xA X q)
    (k : G T X ad n mc ms I' J' N' Q (pc + 3) nL lv ((rv ad).toList ++ rest)) : G T X ad n mc ms I J N Q pc nL lv st0 := by
  intro H locs ls hP hD hS hl T0 hT XS
  obtain ⟨v, st₀, t, T', L, h0, X', hL, e1, e2, ⟨⟨hv, hP1⟩, hz, hk⟩, st⟩ := hr H locs ls hP hD hl T0 hT XS
  have hA0 : ∀ q, gA ad n H.size q → xA X q := fun q h => by
    rcases h with ⟨i, hi, rfl⟩ | h
    · exact hD.2 i hi
    · exact hA q (Nat.le_trans hS.1 h)
  cases hv
  rw [h0] at hz hk
  obtain ⟨t2, a1, b1⟩ := k T'.heap (locs ++ L) ls (by rw [e1]; exact hP1) hD ⟨Nat.le_trans hS.1 (by rw [e1]; exact hz), fun q h1 h2 => by rw [e1, hk q (Nat.lt_of_lt_of_le h1 hS.1) (fun z => h2 (hA0 q z))]; exact hS.2.1 q h1 h2, fun q hq => by
      rcases List.mem_append.mp hq with h | h
      · exact hS.2.2 q h
      · exact hA0 _ (hL q h)⟩ hl T' rfl X'
  exact ⟨t2, st t2 a1, b1⟩
theorem g_V {y : MethodName} {cc2 : ByteArray} {nL2 np idx ci b : Nat} {ret2 : Option FieldType} {rm2 : Room} {I' : HI} {J' : HJ} {N' : HN} {rv : (Nat → Nat) → Option Value} {As : (Nat → Nat) → List Value} {st0 : List Value} {Cn : String} {TF : u_T} {NF : Nat} (C : Cx X cc own nL ret rm) (M : gM (xl X) y cc2 nL2 ret2 rm2 T n I J N (fun ad => .ref (ad b) :: As ad) (I', J', N', rv)) (S : sM y cc2 nL2 ret2 np) (w1 : Cond.methodLink own idx y ∈ lw_g) (w2 : Cond.instanceMethod y ∈ lw_g) (w3 : Cond.selects y.cls y y ∈ lw_g) (hc : gcl[ci]? = some (Cn, TF, NF)) (hcn : Cn = y.cls) (hb : gk T n b (0, ci)) (hR : rm2.cells = 0 ∧ rm2.slots = 0 ∧ rm2.frames + 1 ≤ rm.frames ∧ 8 + (nL2 + 11) + rm2.locals ≤ rm.locals) (hf : mc ≤ rm.cells ∧ ms ≤ rm.slots) (hn : (As ad).length = np) (hst : st0 = (As ad).reverse ++ .ref (ad b) :: rest) (hW : (rest.map fun v => v.category).sum ≤ 8) (d : decode cc pc = .ok (.invokevirtual idx, 3))
    (k : G T X ad n mc ms I' J' N' Q (pc + 3) nL lv ((rv ad).toList ++ rest)) : G T X ad n mc ms I J N Q pc nL lv st0 := by
  have eR := C.2.2.2.2.2.2.2.2.2.1
  subst hcn
  refine g_call (a9 := (Value.ref (ad b) :: As ad).toArray) (fun H locs ls hP hD hl => ?_) C.2.2.2.2.2.2.2.2.1 k
  exact va_runV (b := ad b) (As := As ad) (n := np) ⟨C.1, C.2.1, C.2.2.1, C.2.2.2.1, C.2.2.2.2.1⟩ (M (xD X) (xy X) ad H.size) ⟨callB_of np C.2.2.2.2.1 (lw_gi S.1) rfl hR.1 hR.2.1 (C.2.2.2.2.1 _ S.2.1) (C.2.2.2.2.1 _ w1) S.2.2 (by rw [eR]; exact hR.2.2), C.2.2.2.2.1 _ w2, C.2.2.2.2.1 _ w3⟩ ⟨g_pre, va_recv C.2.2.2.2.2.2.2.1 hP hc (by rw [gwd_at hb.1, gce_o hb]), fun U hU hWm => ⟨rfl, by rw [hU], by rw [hU]; exact hP, va_K.moved hWm.alike C.2.2.2.2.2.2.2.1, nwS.warm hWm C.2.2.2.2.2.2.2.2.2.2, hD.1⟩⟩ rfl hn hl.1 (by rw [hst]) (lv_room hW) d (by rw [eR]; exact hf)
theorem g_VN {y : MethodName} {cc2 : ByteArray} {nL2 np idx ci b : Nat} {ret2 : Option FieldType} {rm2 : Room} {I' : HI} {J' : HJ} {N' : HN} {rv : (Nat → Nat) → Option Value} {As : (Nat → Nat) → List Value} {st0 : List Value} {Cn host : String} {TF : u_T} {NF : Nat} (C : Cx X cc own nL ret rm) (M : gM (xl X) y cc2 nL2 ret2 rm2 T n I J N (fun ad => .ref (ad b) :: As ad) (I', J', N', rv)) (S : sM y cc2 nL2 ret2 np) (w1 : Cond.methodLinkNest own idx y host ∈ lw_tbl) (w2 : Cond.instanceMethod y ∈ lw_g) (w3 : Cond.selects y.cls y y ∈ lw_g) (hc : gcl[ci]? = some (Cn, TF, NF)) (hcn : Cn = y.cls) (hb : gk T n b (0, ci)) (hR : rm2.cells = 0 ∧ rm2.slots = 0 ∧ rm2.frames + 1 ≤ rm.frames ∧ 8 + (nL2 + 11) + rm2.locals ≤ rm.locals) (hf : mc ≤ rm.cells ∧ ms ≤ rm.slots) (hn : (As ad).length = np) (hst : st0 = (As ad).reverse ++ .ref (ad b) :: rest) (hW : (rest.map fun v => v.category).sum ≤ 8) (d : decode cc pc = .ok (.invokevirtual idx, 3))
    (k : G T X ad n mc ms I' J' N' Q (pc + 3) nL lv ((rv ad).toList ++ rest)) : G T X ad n mc ms I J N Q pc nL lv st0 := by
  have eR := C.2.2.2.2.2.2.2.2.2.1
  subst hcn
  refine g_call (a9 := (Value.ref (ad b) :: As ad).toArray) (fun H locs ls hP hD hl => ?_) C.2.2.2.2.2.2.2.2.1 k
  exact va_runVN (b := ad b) (As := As ad) (n := np) ⟨C.1, C.2.1, C.2.2.1, C.2.2.2.1, C.2.2.2.2.1⟩ (M (xD X) (xy X) ad H.size) ⟨va_cnB np C.2.2.2.2.1 (lw_gi S.1) rfl hR.1 hR.2.1 (C.2.2.2.2.2.2.2.2.2.2 _ w1 rfl) (C.2.2.2.2.1 _ S.2.1) S.2.2 (by rw [eR]; exact hR.2.2), C.2.2.2.2.1 _ w2, C.2.2.2.2.1 _ w3⟩ ⟨g_pre, va_recv C.2.2.2.2.2.2.2.1 hP hc (by rw [gwd_at hb.1, gce_o hb]), fun U hU hWm => ⟨rfl, by rw [hU], by rw [hU]; exact hP, va_K.moved hWm.alike C.2.2.2.2.2.2.2.1, nwS.warm hWm C.2.2.2.2.2.2.2.2.2.2, hD.1⟩⟩ rfl hn hl.1 (by rw [hst]) (lv_room hW) d (by rw [eR]; exact hf)
theorem g_S {y : MethodName} {cc2 : ByteArray} {nL2 np idx : Nat} {ret2 : Option FieldType} {rm2 : Room} {I' : HI} {J' : HJ} {N' : HN} {rv : (Nat → Nat) → Option Value} {As : (Nat → Nat) → List Value} {st0 : List Value} (C : Cx X cc own nL ret rm) (M : gM (xl X) y cc2 nL2 ret2 rm2 T n I J N As (I', J', N', rv)) (S : sM y cc2 nL2 ret2 np) (w1 : Cond.methodLink own idx y ∈ lw_g) (w2 : Cond.static y ∈ lw_g) (hR : rm2.cells = 0 ∧ rm2.slots = 0 ∧ rm2.frames + 1 ≤ rm.frames ∧ 8 + (nL2 + 11) + rm2.locals ≤ rm.locals) (hf : mc ≤ rm.cells ∧ ms ≤ rm.slots) (hn : (As ad).length = np) (hst : st0 = (As ad).reverse ++ rest) (hW : (rest.map fun v => v.category).sum ≤ 8) (d : decode cc pc = .ok (.invokestatic idx, 3))
    (k : G T X ad n mc ms I' J' N' Q (pc + 3) nL lv ((rv ad).toList ++ rest)) : G T X ad n mc ms I J N Q pc nL lv st0 := by
  have eR := C.2.2.2.2.2.2.2.2.2.1
  refine g_call (a9 := (As ad).toArray) (fun H locs ls hP hD hl => ?_) C.2.2.2.2.2.2.2.2.1 k
  exact va_runS (As := As ad) (n := np) ⟨C.1, C.2.1, C.2.2.1, C.2.2.2.1, C.2.2.2.2.1⟩ (M (xD X) (xy X) ad H.size) ⟨callB_of np C.2.2.2.2.1 (lw_gi S.1) rfl hR.1 hR.2.1 (C.2.2.2.2.1 _ S.2.1) (C.2.2.2.2.1 _ w1) S.2.2 (by rw [eR]; exact hR.2.2), C.2.2.2.2.1 _ w2⟩ ⟨g_pre, fun U hU hWm => ⟨rfl, by rw [hU], by rw [hU]; exact hP, va_K.moved hWm.alike C.2.2.2.2.2.2.2.1, nwS.warm hWm C.2.2.2.2.2.2.2.2.2.2, hD.1⟩⟩ rfl hn hl.1 (by rw [hst]) (lv_room hW) d (by rw [eR]; exact hf)
theorem g_SN {y : MethodName} {cc2 : ByteArray} {nL2 np idx : Nat} {ret2 : Option FieldType} {rm2 : Room} {I' : HI} {J' : HJ} {N' : HN} {rv : (Nat → Nat) → Option Value} {As : (Nat → Nat) → List Value} {st0 : List Value} {host : String} (C : Cx X cc own nL ret rm) (M : gM (xl X) y cc2 nL2 ret2 rm2 T n I J N As (I', J', N', rv)) (S : sM y cc2 nL2 ret2 np) (w1 : Cond.methodLinkNest own idx y host ∈ lw_tbl) (w2 : Cond.static y ∈ lw_g) (hR : rm2.cells = 0 ∧ rm2.slots = 0 ∧ rm2.frames + 1 ≤ rm.frames ∧ 8 + (nL2 + 11) + rm2.locals ≤ rm.locals) (hf : mc ≤ rm.cells ∧ ms ≤ rm.slots) (hn : (As ad).length = np) (hst : st0 = (As ad).reverse ++ rest) (hW : (rest.map fun v => v.category).sum ≤ 8) (d : decode cc pc = .ok (.invokestatic idx, 3))
    (k : G T X ad n mc ms I' J' N' Q (pc + 3) nL lv ((rv ad).toList ++ rest)) : G T X ad n mc ms I J N Q pc nL lv st0 := by
  have eR := C.2.2.2.2.2.2.2.2.2.1
  refine g_call (a9 := (As ad).toArray) (fun H locs ls hP hD hl => ?_) C.2.2.2.2.2.2.2.2.1 k
  exact va_runSN (As := As ad) (n := np) ⟨C.1, C.2.1, C.2.2.1, C.2.2.2.1, C.2.2.2.2.1⟩ (M (xD X) (xy X) ad H.size) ⟨va_cnB np C.2.2.2.2.1 (lw_gi S.1) rfl hR.1 hR.2.1 (C.2.2.2.2.2.2.2.2.2.2 _ w1 rfl) (C.2.2.2.2.1 _ S.2.1) S.2.2 (by rw [eR]; exact hR.2.2), C.2.2.2.2.1 _ w2, trivial⟩ ⟨g_pre, fun U hU hWm => ⟨rfl, by rw [hU], by rw [hU]; exact hP, va_K.moved hWm.alike C.2.2.2.2.2.2.2.1, nwS.warm hWm C.2.2.2.2.2.2.2.2.2.2, hD.1⟩⟩ rfl hn hl.1 (by rw [hst]) (lv_room hW) d (by rw [eR]; exact hf)
end GR
end
