abbrev c_Bi_init : ByteArray := prog_2_method_1_code
def y_Bi_init : MethodName := ⟨RX0, "<init>", "()V"⟩
abbrev c_La_item : ByteArray := prog_5_method_2_code
def y_La_item : MethodName := ⟨RX3, "item", "(II)I"⟩
def rm_La_item : Room := { frames := 0, cells := 0, slots := 0, locals := 0 }
abbrev c_Bi_addPart : ByteArray := prog_2_method_3_code
def y_Bi_addPart : MethodName := ⟨RX0, "addPart", "(III)V"⟩
def rm_Bi_addPart : Room := { frames := 0, cells := 0, slots := 0, locals := 0 }
abbrev c_Bi_countUp : ByteArray := prog_2_method_2_code
def y_Bi_countUp : MethodName := ⟨RX0, "countUp", "(LLadderMaker$Ladder;)V"⟩
def rm_Bi_countUp : Room := { frames := 1, cells := 0, slots := 0, locals := 25 }
abbrev c_Bi_item : ByteArray := prog_2_method_4_code
def y_Bi_item : MethodName := ⟨RX0, "item", "(II)I"⟩
def rm_Bi_item : Room := { frames := 0, cells := 0, slots := 0, locals := 0 }
abbrev c_Bi_differentValues : ByteArray := prog_2_method_5_code
def y_Bi_differentValues : MethodName := ⟨RX0, "differentValues", "()I"⟩
def rm_Bi_differentValues : Room := { frames := 1, cells := 0, slots := 0, locals := 23 }
abbrev c_Po_init : ByteArray := prog_8_method_1_code
def y_Po_init : MethodName := ⟨RX6, "<init>", "()V"⟩
abbrev c_Pa_init : ByteArray := prog_7_method_1_code
def y_Pa_init : MethodName := ⟨RX5, "<init>", "()V"⟩
abbrev c_Fo_init : ByteArray := prog_3_method_1_code
def y_Fo_init : MethodName := ⟨RX1, "<init>", "()V"⟩
abbrev c_Po_clear : ByteArray := prog_8_method_4_code
def y_Po_clear : MethodName := ⟨RX6, "clear", "()V"⟩
def rm_Po_clear : Room := { frames := 0, cells := 0, slots := 0, locals := 0 }
abbrev c_Pa_side : ByteArray := prog_7_method_2_code
def y_Pa_side : MethodName := ⟨RX5, "side", "(I)LLadderMaker$Polynomial;"⟩
def rm_Pa_side : Room := { frames := 0, cells := 0, slots := 0, locals := 0 }
abbrev c_Po_put : ByteArray := prog_8_method_3_code
def y_Po_put : MethodName := ⟨RX6, "put", "(IJ)V"⟩
def rm_Po_put : Room := { frames := 0, cells := 0, slots := 0, locals := 0 }
abbrev c_Fo_loadArm : ByteArray := prog_3_method_3_code
def y_Fo_loadArm : MethodName := ⟨RX1, "loadArm", "(LLadderMaker$Ladder;I)V"⟩
def rm_Fo_loadArm : Room := { frames := 1, cells := 0, slots := 0, locals := 23 }
abbrev c_Pa_swap : ByteArray := prog_7_method_6_code
def y_Pa_swap : MethodName := ⟨RX5, "swap", "()V"⟩
def rm_Pa_swap : Room := { frames := 0, cells := 0, slots := 0, locals := 0 }
abbrev c_Po_addProduct : ByteArray := prog_8_method_11_code
def y_Po_addProduct : MethodName := ⟨RX6, "addProduct", "(LLadderMaker$Polynomial;LLadderMaker$Polynomial;)V"⟩
def rm_Po_addProduct : Room := { frames := 0, cells := 0, slots := 0, locals := 0 }
abbrev c_Po_load : ByteArray := prog_8_method_5_code
def y_Po_load : MethodName := ⟨RX6, "load", "(LLadderMaker$Polynomial;)V"⟩
def rm_Po_load : Room := { frames := 0, cells := 0, slots := 0, locals := 0 }
abbrev c_Pa_load : ByteArray := prog_7_method_5_code
def y_Pa_load : MethodName := ⟨RX5, "load", "(LLadderMaker$Pair;)V"⟩
def rm_Pa_load : Room := { frames := 1, cells := 0, slots := 0, locals := 22 }
abbrev c_Fo_addArm : ByteArray := prog_3_method_4_code
def y_Fo_addArm : MethodName := ⟨RX1, "addArm", "()V"⟩
def rm_Fo_addArm : Room := { frames := 2, cells := 0, slots := 0, locals := 43 }
abbrev c_Po_at : ByteArray := prog_8_method_2_code
def y_Po_at : MethodName := ⟨RX6, "at", "(I)J"⟩
def rm_Po_at : Room := { frames := 0, cells := 0, slots := 0, locals := 0 }
abbrev c_Pa_number : ByteArray := prog_7_method_3_code
def y_Pa_number : MethodName := ⟨RX5, "number", "(I)J"⟩
def rm_Pa_number : Room := { frames := 1, cells := 0, slots := 0, locals := 21 }
abbrev c_Lm_commonDivisor : ByteArray := prog_1_method_40_code
def y_Lm_commonDivisor : MethodName := ⟨RX10, "commonDivisor", "(JJ)J"⟩
def rm_Lm_commonDivisor : Room := { frames := 1, cells := 0, slots := 0, locals := 24 }
abbrev c_Po_degree : ByteArray := prog_8_method_7_code
def y_Po_degree : MethodName := ⟨RX6, "degree", "()I"⟩
def rm_Po_degree : Room := { frames := 0, cells := 0, slots := 0, locals := 0 }
abbrev c_Po_divideBy : ByteArray := prog_8_method_13_code
def y_Po_divideBy : MethodName := ⟨RX6, "divideBy", "(J)V"⟩
def rm_Po_divideBy : Room := { frames := 0, cells := 0, slots := 0, locals := 0 }
abbrev c_Pa_becomeAsPair : ByteArray := prog_7_method_9_code
def y_Pa_becomeAsPair : MethodName := ⟨RX5, "becomeAsPair", "()V"⟩
def rm_Pa_becomeAsPair : Room := { frames := 2, cells := 0, slots := 0, locals := 54 }
abbrev c_Fo_foldUp : ByteArray := prog_3_method_2_code
def y_Fo_foldUp : MethodName := ⟨RX1, "foldUp", "(LLadderMaker$Ladder;)V"⟩
def rm_Fo_foldUp : Room := { frames := 3, cells := 0, slots := 0, locals := 79 }
abbrev c_Fr_init : ByteArray := prog_4_method_1_code
def y_Fr_init : MethodName := ⟨RX2, "<init>", "()V"⟩
abbrev c_Fr_put : ByteArray := prog_4_method_2_code
def y_Fr_put : MethodName := ⟨RX2, "put", "(JJ)V"⟩
def rm_Fr_put : Room := { frames := 2, cells := 0, slots := 0, locals := 54 }
abbrev c_Fr_isHandy : ByteArray := prog_4_method_3_code
def y_Fr_isHandy : MethodName := ⟨RX2, "isHandy", "()Z"⟩
def rm_Fr_isHandy : Room := { frames := 0, cells := 0, slots := 0, locals := 0 }
abbrev c_La_init : ByteArray := prog_5_method_1_code
def y_La_init : MethodName := ⟨RX3, "<init>", "()V"⟩
abbrev c_La_valueCount : ByteArray := prog_5_method_3_code
def y_La_valueCount : MethodName := ⟨RX3, "valueCount", "()I"⟩
def rm_La_valueCount : Room := { frames := 0, cells := 0, slots := 0, locals := 0 }
abbrev c_La_add : ByteArray := prog_5_method_4_code
def y_La_add : MethodName := ⟨RX3, "add", "(IIIII)Z"⟩
def rm_La_add : Room := { frames := 1, cells := 0, slots := 0, locals := 22 }
abbrev c_La_dropLast : ByteArray := prog_5_method_5_code
def y_La_dropLast : MethodName := ⟨RX3, "dropLast", "()V"⟩
def rm_La_dropLast : Room := { frames := 0, cells := 0, slots := 0, locals := 0 }
abbrev c_La_clear : ByteArray := prog_5_method_6_code
def y_La_clear : MethodName := ⟨RX3, "clear", "()V"⟩
def rm_La_clear : Room := { frames := 0, cells := 0, slots := 0, locals := 0 }
abbrev c_La_load : ByteArray := prog_5_method_7_code
def y_La_load : MethodName := ⟨RX3, "load", "(LLadderMaker$Ladder;)V"⟩
def rm_La_load : Room := { frames := 1, cells := 0, slots := 0, locals := 23 }
abbrev c_Me_init : ByteArray := prog_6_method_1_code
def y_Me_init : MethodName := ⟨RX4, "<init>", "()V"⟩
abbrev c_Me_holds : ByteArray := prog_6_method_2_code
def y_Me_holds : MethodName := ⟨RX4, "holds", "(I)Z"⟩
def rm_Me_holds : Room := { frames := 0, cells := 0, slots := 0, locals := 0 }
abbrev c_Me_item : ByteArray := prog_6_method_3_code
def y_Me_item : MethodName := ⟨RX4, "item", "(II)I"⟩
def rm_Me_item : Room := { frames := 1, cells := 0, slots := 0, locals := 21 }
abbrev c_Me_isSought : ByteArray := prog_6_method_5_code
def y_Me_isSought : MethodName := ⟨RX4, "isSought", "(I)Z"⟩
def rm_Me_isSought : Room := { frames := 2, cells := 0, slots := 0, locals := 44 }
abbrev c_Me_numberOf : ByteArray := prog_6_method_4_code
def y_Me_numberOf : MethodName := ⟨RX4, "numberOf", "(LLadderMaker$Pair;)I"⟩
def rm_Me_numberOf : Room := { frames := 3, cells := 0, slots := 0, locals := 79 }
abbrev c_Me_keepOnce : ByteArray := prog_6_method_6_code
def y_Me_keepOnce : MethodName := ⟨RX4, "keepOnce", "(LLadderMaker$Pair;)I"⟩
def rm_Me_keepOnce : Room := { frames := 4, cells := 0, slots := 0, locals := 101 }
abbrev c_Me_timesOfAll : ByteArray := prog_6_method_7_code
def y_Me_timesOfAll : MethodName := ⟨RX4, "timesOfAll", "()I"⟩
def rm_Me_timesOfAll : Room := { frames := 2, cells := 0, slots := 0, locals := 44 }
abbrev c_Pa_putNumber : ByteArray := prog_7_method_4_code
def y_Pa_putNumber : MethodName := ⟨RX5, "putNumber", "(IJ)V"⟩
def rm_Pa_putNumber : Room := { frames := 1, cells := 0, slots := 0, locals := 23 }
abbrev c_Po_isOfParity : ByteArray := prog_8_method_9_code
def y_Po_isOfParity : MethodName := ⟨RX6, "isOfParity", "(I)Z"⟩
def rm_Po_isOfParity : Room := { frames := 0, cells := 0, slots := 0, locals := 0 }
abbrev c_Pa_isLawful : ByteArray := prog_7_method_7_code
def y_Pa_isLawful : MethodName := ⟨RX5, "isLawful", "()Z"⟩
def rm_Pa_isLawful : Room := { frames := 1, cells := 0, slots := 0, locals := 23 }
abbrev c_Pa_greaterDegree : ByteArray := prog_7_method_8_code
def y_Pa_greaterDegree : MethodName := ⟨RX5, "greaterDegree", "()I"⟩
def rm_Pa_greaterDegree : Room := { frames := 1, cells := 0, slots := 0, locals := 24 }
abbrev c_Pa_isFractionOf : ByteArray := prog_7_method_10_code
def y_Pa_isFractionOf : MethodName := ⟨RX5, "isFractionOf", "(LLadderMaker$Pair;)Z"⟩
def rm_Pa_isFractionOf : Room := { frames := 1, cells := 0, slots := 0, locals := 21 }
abbrev c_Po_multiplyBy : ByteArray := prog_8_method_12_code
def y_Po_multiplyBy : MethodName := ⟨RX6, "multiplyBy", "(J)V"⟩
def rm_Po_multiplyBy : Room := { frames := 0, cells := 0, slots := 0, locals := 0 }
abbrev c_Pa_goOn : ByteArray := prog_7_method_11_code
def y_Pa_goOn : MethodName := ⟨RX5, "goOn", "(LLadderMaker$Fraction;I)V"⟩
def rm_Pa_goOn : Room := { frames := 1, cells := 0, slots := 0, locals := 23 }
abbrev c_Po_loadEveryOther : ByteArray := prog_8_method_6_code
def y_Po_loadEveryOther : MethodName := ⟨RX6, "loadEveryOther", "(LLadderMaker$Polynomial;I)V"⟩
def rm_Po_loadEveryOther : Room := { frames := 1, cells := 0, slots := 0, locals := 21 }
abbrev c_Po_leastPower : ByteArray := prog_8_method_8_code
def y_Po_leastPower : MethodName := ⟨RX6, "leastPower", "()I"⟩
def rm_Po_leastPower : Room := { frames := 0, cells := 0, slots := 0, locals := 0 }
abbrev c_Po_runBackwards : ByteArray := prog_8_method_10_code
def y_Po_runBackwards : MethodName := ⟨RX6, "runBackwards", "(I)V"⟩
def rm_Po_runBackwards : Room := { frames := 1, cells := 0, slots := 0, locals := 23 }
abbrev c_Po_valueAtMinus : ByteArray := prog_8_method_14_code
def y_Po_valueAtMinus : MethodName := ⟨RX6, "valueAtMinus", "(JJ)J"⟩
def rm_Po_valueAtMinus : Room := { frames := 0, cells := 0, slots := 0, locals := 0 }
abbrev c_Po_divideByRoot : ByteArray := prog_8_method_15_code
def y_Po_divideByRoot : MethodName := ⟨RX6, "divideByRoot", "(JJ)V"⟩
def rm_Po_divideByRoot : Room := { frames := 0, cells := 0, slots := 0, locals := 0 }
abbrev c_Re_init : ByteArray := prog_9_method_1_code
def y_Re_init : MethodName := ⟨RX7, "<init>", "()V"⟩
abbrev c_Re_halfValue : ByteArray := prog_9_method_3_code
def y_Re_halfValue : MethodName := ⟨RX7, "halfValue", "(LLadderMaker$Polynomial;III)J"⟩
def rm_Re_halfValue : Room := { frames := 2, cells := 0, slots := 0, locals := 44 }
abbrev c_Re_workOut : ByteArray := prog_9_method_2_code
def y_Re_workOut : MethodName := ⟨RX7, "workOut", "(LLadderMaker$Pair;II)Z"⟩
def rm_Re_workOut : Room := { frames := 3, cells := 0, slots := 0, locals := 80 }
abbrev c_Sh_init : ByteArray := prog_10_method_1_code
def y_Sh_init : MethodName := ⟨RX8, "<init>", "()V"⟩
abbrev c_Sh_isSheet : ByteArray := prog_10_method_2_code
def y_Sh_isSheet : MethodName := ⟨RX8, "isSheet", "(I)Z"⟩
def rm_Sh_isSheet : Room := { frames := 0, cells := 0, slots := 0, locals := 0 }
abbrev c_Sh_size : ByteArray := prog_10_method_3_code
def y_Sh_size : MethodName := ⟨RX8, "size", "(I)I"⟩
def rm_Sh_size : Room := { frames := 1, cells := 0, slots := 0, locals := 21 }
abbrev c_Sh_isLost : ByteArray := prog_10_method_4_code
def y_Sh_isLost : MethodName := ⟨RX8, "isLost", "(I)Z"⟩
def rm_Sh_isLost : Room := { frames := 2, cells := 0, slots := 0, locals := 42 }
abbrev c_Sh_notLost : ByteArray := prog_10_method_5_code
def y_Sh_notLost : MethodName := ⟨RX8, "notLost", "()I"⟩
def rm_Sh_notLost : Room := { frames := 3, cells := 0, slots := 0, locals := 63 }
abbrev c_Sh_renew : ByteArray := prog_10_method_6_code
def y_Sh_renew : MethodName := ⟨RX8, "renew", "(II)V"⟩
def rm_Sh_renew : Room := { frames := 1, cells := 0, slots := 0, locals := 21 }
abbrev c_Sh_forget : ByteArray := prog_10_method_7_code
def y_Sh_forget : MethodName := ⟨RX8, "forget", "(I)V"⟩
def rm_Sh_forget : Room := { frames := 1, cells := 0, slots := 0, locals := 21 }
abbrev c_Sh_hasRun : ByteArray := prog_10_method_8_code
def y_Sh_hasRun : MethodName := ⟨RX8, "hasRun", "(III)Z"⟩
def rm_Sh_hasRun : Room := { frames := 2, cells := 0, slots := 0, locals := 42 }
abbrev c_Sh_item : ByteArray := prog_10_method_9_code
def y_Sh_item : MethodName := ⟨RX8, "item", "(II)J"⟩
def rm_Sh_item : Room := { frames := 3, cells := 0, slots := 0, locals := 65 }
abbrev c_Sh_put : ByteArray := prog_10_method_10_code
def y_Sh_put : MethodName := ⟨RX8, "put", "(IIJ)V"⟩
def rm_Sh_put : Room := { frames := 3, cells := 0, slots := 0, locals := 65 }
abbrev c_Sh_move : ByteArray := prog_10_method_11_code
def y_Sh_move : MethodName := ⟨RX8, "move", "(IIIII)V"⟩
def rm_Sh_move : Room := { frames := 3, cells := 0, slots := 0, locals := 65 }
abbrev c_Un_init : ByteArray := prog_11_method_1_code
def y_Un_init : MethodName := ⟨RX9, "<init>", "()V"⟩
abbrev c_Un_begin : ByteArray := prog_11_method_3_code
def y_Un_begin : MethodName := ⟨RX9, "begin", "(LLadderMaker$Pair;)V"⟩
def rm_Un_begin : Room := { frames := 2, cells := 0, slots := 0, locals := 43 }
abbrev c_Un_endOf : ByteArray := prog_11_method_4_code
def y_Un_endOf : MethodName := ⟨RX9, "endOf", "(LLadderMaker$Polynomial;Z)I"⟩
def rm_Un_endOf : Room := { frames := 1, cells := 0, slots := 0, locals := 21 }
abbrev c_Un_unlawful : ByteArray := prog_11_method_13_code
def y_Un_unlawful : MethodName := ⟨RX9, "unlawful", "(I)I"⟩
def rm_Un_unlawful : Room := { frames := 0, cells := 0, slots := 0, locals := 0 }
abbrev c_Un_addRising : ByteArray := prog_11_method_14_code
def y_Un_addRising : MethodName := ⟨RX9, "addRising", "(I)V"⟩
def rm_Un_addRising : Room := { frames := 2, cells := 0, slots := 0, locals := 49 }
abbrev c_Un_addFalling : ByteArray := prog_11_method_15_code
def y_Un_addFalling : MethodName := ⟨RX9, "addFalling", "(I)V"⟩
def rm_Un_addFalling : Room := { frames := 2, cells := 0, slots := 0, locals := 49 }
abbrev c_Un_divideOn : ByteArray := prog_11_method_2_code
def y_Un_divideOn : MethodName := ⟨RX9, "divideOn", "(LLadderMaker$Pair;Z)I"⟩
def rm_Un_divideOn : Room := { frames := 3, cells := 0, slots := 0, locals := 80 }
abbrev c_Un_loadInX : ByteArray := prog_11_method_6_code
def y_Un_loadInX : MethodName := ⟨RX9, "loadInX", "()V"⟩
def rm_Un_loadInX : Room := { frames := 2, cells := 0, slots := 0, locals := 44 }
abbrev c_Un_timesInRest : ByteArray := prog_11_method_8_code
def y_Un_timesInRest : MethodName := ⟨RX9, "timesInRest", "(II)I"⟩
def rm_Un_timesInRest : Room := { frames := 1, cells := 0, slots := 0, locals := 29 }
abbrev c_Un_addRoot : ByteArray := prog_11_method_9_code
def y_Un_addRoot : MethodName := ⟨RX9, "addRoot", "(III)V"⟩
def rm_Un_addRoot : Room := { frames := 0, cells := 0, slots := 0, locals := 0 }
abbrev c_Un_findRoots : ByteArray := prog_11_method_7_code
def y_Un_findRoots : MethodName := ⟨RX9, "findRoots", "()V"⟩
def rm_Un_findRoots : Room := { frames := 2, cells := 0, slots := 0, locals := 54 }
abbrev c_Un_poleAtGreatest : ByteArray := prog_11_method_10_code
def y_Un_poleAtGreatest : MethodName := ⟨RX9, "poleAtGreatest", "(I)I"⟩
def rm_Un_poleAtGreatest : Room := { frames := 3, cells := 0, slots := 0, locals := 80 }
abbrev c_Un_poleAtZero : ByteArray := prog_11_method_11_code
def y_Un_poleAtZero : MethodName := ⟨RX9, "poleAtZero", "(I)I"⟩
def rm_Un_poleAtZero : Room := { frames := 3, cells := 0, slots := 0, locals := 80 }
abbrev c_Un_addBoth : ByteArray := prog_11_method_16_code
def y_Un_addBoth : MethodName := ⟨RX9, "addBoth", "(I)V"⟩
def rm_Un_addBoth : Room := { frames := 2, cells := 0, slots := 0, locals := 49 }
abbrev c_Un_poleAtRoot : ByteArray := prog_11_method_12_code
def y_Un_poleAtRoot : MethodName := ⟨RX9, "poleAtRoot", "(II)I"⟩
def rm_Un_poleAtRoot : Room := { frames := 3, cells := 0, slots := 0, locals := 80 }
abbrev c_Un_divideByPoles : ByteArray := prog_11_method_5_code
def y_Un_divideByPoles : MethodName := ⟨RX9, "divideByPoles", "(LLadderMaker$Pair;I)I"⟩
def rm_Un_divideByPoles : Room := { frames := 4, cells := 0, slots := 0, locals := 104 }
abbrev c_Lm_init : ByteArray := prog_1_method_1_code
def y_Lm_init : MethodName := ⟨RX10, "<init>", "()V"⟩
abbrev c_Lm_isPlace : ByteArray := prog_1_method_37_code
def y_Lm_isPlace : MethodName := ⟨RX10, "isPlace", "(I)Z"⟩
def rm_Lm_isPlace : Room := { frames := 0, cells := 0, slots := 0, locals := 0 }
abbrev c_Lm_isPower : ByteArray := prog_1_method_38_code
def y_Lm_isPower : MethodName := ⟨RX10, "isPower", "(I)Z"⟩
def rm_Lm_isPower : Room := { frames := 0, cells := 0, slots := 0, locals := 0 }
abbrev c_Lm_isWishNumber : ByteArray := prog_1_method_39_code
def y_Lm_isWishNumber : MethodName := ⟨RX10, "isWishNumber", "(J)Z"⟩
def rm_Lm_isWishNumber : Room := { frames := 0, cells := 0, slots := 0, locals := 0 }
abbrev c_Lm_tell : ByteArray := prog_1_method_2_code
def y_Lm_tell : MethodName := ⟨RX10, "tell", "(III)I"⟩
def rm_Lm_tell : Room := { frames := 1, cells := 0, slots := 0, locals := 23 }
abbrev c_Lm_told : ByteArray := prog_1_method_3_code
def y_Lm_told : MethodName := ⟨RX10, "told", "(II)I"⟩
def rm_Lm_told : Room := { frames := 1, cells := 0, slots := 0, locals := 21 }
abbrev c_Lm_turn : ByteArray := prog_1_method_4_code
def y_Lm_turn : MethodName := ⟨RX10, "turn", "()I"⟩
def rm_Lm_turn : Room := { frames := 2, cells := 0, slots := 0, locals := 43 }
abbrev c_Lm_reverse : ByteArray := prog_1_method_5_code
def y_Lm_reverse : MethodName := ⟨RX10, "reverse", "()I"⟩
def rm_Lm_reverse : Room := { frames := 2, cells := 0, slots := 0, locals := 47 }
abbrev c_Lm_finding : ByteArray := prog_1_method_33_code
def y_Lm_finding : MethodName := ⟨RX10, "finding", "(I)I"⟩
def rm_Lm_finding : Room := { frames := 0, cells := 0, slots := 0, locals := 0 }
abbrev c_Lm_sheetRefusal : ByteArray := prog_1_method_34_code
def y_Lm_sheetRefusal : MethodName := ⟨RX10, "sheetRefusal", "(I)I"⟩
def rm_Lm_sheetRefusal : Room := { frames := 3, cells := 0, slots := 0, locals := 63 }
abbrev c_Lm_read : ByteArray := prog_1_method_6_code
def y_Lm_read : MethodName := ⟨RX10, "read", "(II)I"⟩
def rm_Lm_read : Room := { frames := 4, cells := 0, slots := 0, locals := 87 }
abbrev c_Lm_info : ByteArray := prog_1_method_7_code
def y_Lm_info : MethodName := ⟨RX10, "info", "(I)I"⟩
def rm_Lm_info : Room := { frames := 2, cells := 0, slots := 0, locals := 43 }
abbrev c_Lm_asLong : ByteArray := prog_1_method_36_code
def y_Lm_asLong : MethodName := ⟨RX10, "asLong", "(I)J"⟩
def rm_Lm_asLong : Room := { frames := 0, cells := 0, slots := 0, locals := 0 }
abbrev c_Lm_reactance : ByteArray := prog_1_method_8_code
def y_Lm_reactance : MethodName := ⟨RX10, "reactance", "(III)J"⟩
def rm_Lm_reactance : Room := { frames := 4, cells := 0, slots := 0, locals := 108 }
abbrev c_Lm_ladderChanged : ByteArray := prog_1_method_32_code
def y_Lm_ladderChanged : MethodName := ⟨RX10, "ladderChanged", "()V"⟩
def rm_Lm_ladderChanged : Room := { frames := 4, cells := 0, slots := 0, locals := 104 }
abbrev c_Lm_arm : ByteArray := prog_1_method_9_code
def y_Lm_arm : MethodName := ⟨RX10, "arm", "(III)I"⟩
def rm_Lm_arm : Room := { frames := 5, cells := 0, slots := 0, locals := 124 }
abbrev c_Lm_back : ByteArray := prog_1_method_10_code
def y_Lm_back : MethodName := ⟨RX10, "back", "()I"⟩
def rm_Lm_back : Room := { frames := 5, cells := 0, slots := 0, locals := 124 }
abbrev c_Lm_would : ByteArray := prog_1_method_12_code
def y_Lm_would : MethodName := ⟨RX10, "would", "(I)I"⟩
def rm_Lm_would : Room := { frames := 5, cells := 0, slots := 0, locals := 128 }
abbrev c_Lm_unfold : ByteArray := prog_1_method_11_code
def y_Lm_unfold : MethodName := ⟨RX10, "unfold", "(I)I"⟩
def rm_Lm_unfold : Room := { frames := 6, cells := 0, slots := 0, locals := 149 }
abbrev c_Lm_element : ByteArray := prog_1_method_13_code
def y_Lm_element : MethodName := ⟨RX10, "element", "(II)I"⟩
def rm_Lm_element : Room := { frames := 1, cells := 0, slots := 0, locals := 23 }
abbrev c_Lm_fold : ByteArray := prog_1_method_14_code
def y_Lm_fold : MethodName := ⟨RX10, "fold", "(II)J"⟩
def rm_Lm_fold : Room := { frames := 1, cells := 0, slots := 0, locals := 21 }
abbrev c_Lm_alike : ByteArray := prog_1_method_15_code
def y_Lm_alike : MethodName := ⟨RX10, "alike", "()I"⟩
def rm_Lm_alike : Room := { frames := 2, cells := 0, slots := 0, locals := 46 }
abbrev c_Lm_take : ByteArray := prog_1_method_16_code
def y_Lm_take : MethodName := ⟨RX10, "take", "()I"⟩
def rm_Lm_take : Room := { frames := 2, cells := 0, slots := 0, locals := 44 }
abbrev c_Lm_bill : ByteArray := prog_1_method_17_code
def y_Lm_bill : MethodName := ⟨RX10, "bill", "(II)I"⟩
def rm_Lm_bill : Room := { frames := 1, cells := 0, slots := 0, locals := 23 }
abbrev c_Lm_values : ByteArray := prog_1_method_18_code
def y_Lm_values : MethodName := ⟨RX10, "values", "()I"⟩
def rm_Lm_values : Room := { frames := 2, cells := 0, slots := 0, locals := 47 }
abbrev c_Lm_keep : ByteArray := prog_1_method_19_code
def y_Lm_keep : MethodName := ⟨RX10, "keep", "()I"⟩
def rm_Lm_keep : Room := { frames := 5, cells := 0, slots := 0, locals := 124 }
abbrev c_Lm_find : ByteArray := prog_1_method_20_code
def y_Lm_find : MethodName := ⟨RX10, "find", "()I"⟩
def rm_Lm_find : Room := { frames := 4, cells := 0, slots := 0, locals := 101 }
abbrev c_Lm_kept : ByteArray := prog_1_method_21_code
def y_Lm_kept : MethodName := ⟨RX10, "kept", "(II)I"⟩
def rm_Lm_kept : Room := { frames := 2, cells := 0, slots := 0, locals := 44 }
abbrev c_Lm_recall : ByteArray := prog_1_method_22_code
def y_Lm_recall : MethodName := ⟨RX10, "recall", "(I)I"⟩
def rm_Lm_recall : Room := { frames := 2, cells := 0, slots := 0, locals := 46 }
abbrev c_Lm_sheet : ByteArray := prog_1_method_23_code
def y_Lm_sheet : MethodName := ⟨RX10, "sheet", "(II)I"⟩
def rm_Lm_sheet : Room := { frames := 2, cells := 0, slots := 0, locals := 44 }
abbrev c_Lm_lose : ByteArray := prog_1_method_24_code
def y_Lm_lose : MethodName := ⟨RX10, "lose", "(I)I"⟩
def rm_Lm_lose : Room := { frames := 4, cells := 0, slots := 0, locals := 84 }
abbrev c_Lm_itemRefusal : ByteArray := prog_1_method_35_code
def y_Lm_itemRefusal : MethodName := ⟨RX10, "itemRefusal", "(II)I"⟩
def rm_Lm_itemRefusal : Room := { frames := 4, cells := 0, slots := 0, locals := 84 }
abbrev c_Lm_lay : ByteArray := prog_1_method_25_code
def y_Lm_lay : MethodName := ⟨RX10, "lay", "(III)I"⟩
def rm_Lm_lay : Room := { frames := 5, cells := 0, slots := 0, locals := 107 }
abbrev c_Lm_get : ByteArray := prog_1_method_26_code
def y_Lm_get : MethodName := ⟨RX10, "get", "(II)J"⟩
def rm_Lm_get : Room := { frames := 5, cells := 0, slots := 0, locals := 107 }
abbrev c_Lm_copy : ByteArray := prog_1_method_27_code
def y_Lm_copy : MethodName := ⟨RX10, "copy", "(IIIII)I"⟩
def rm_Lm_copy : Room := { frames := 4, cells := 0, slots := 0, locals := 90 }
abbrev c_Lm_write : ByteArray := prog_1_method_28_code
def y_Lm_write : MethodName := ⟨RX10, "write", "(I)I"⟩
def rm_Lm_write : Room := { frames := 4, cells := 0, slots := 0, locals := 89 }
abbrev c_Lm_count : ByteArray := prog_1_method_29_code
def y_Lm_count : MethodName := ⟨RX10, "count", "(I)I"⟩
def rm_Lm_count : Room := { frames := 4, cells := 0, slots := 0, locals := 85 }
abbrev c_Lm_digestOfRows : ByteArray := prog_1_method_31_code
def y_Lm_digestOfRows : MethodName := ⟨RX10, "digestOfRows", "(J)J"⟩
def rm_Lm_digestOfRows : Room := { frames := 5, cells := 0, slots := 0, locals := 121 }
abbrev c_Lm_digest : ByteArray := prog_1_method_30_code
def y_Lm_digest : MethodName := ⟨RX10, "digest", "()J"⟩
def rm_Lm_digest : Room := { frames := 6, cells := 0, slots := 0, locals := 149 }
abbrev c_Mo_init : ByteArray := prog_13_method_1_code
def y_Mo_init : MethodName := ⟨RX11, "<init>", "()V"⟩
abbrev c_Mo_in : ByteArray := prog_13_method_3_code
def y_Mo_in : MethodName := ⟨RX11, "in", "(JJJ)Z"⟩
def rm_Mo_in : Room := { frames := 0, cells := 0, slots := 0, locals := 0 }
abbrev c_Mo_isTwo : ByteArray := prog_13_method_4_code
def y_Mo_isTwo : MethodName := ⟨RX11, "isTwo", "(I)Z"⟩
def rm_Mo_isTwo : Room := { frames := 1, cells := 0, slots := 0, locals := 25 }
abbrev c_Mo_no : ByteArray := prog_13_method_5_code
def y_Mo_no : MethodName := ⟨RX11, "no", "(I)J"⟩
def rm_Mo_no : Room := { frames := 0, cells := 0, slots := 0, locals := 0 }
abbrev c_Mo_greater : ByteArray := prog_13_method_6_code
def y_Mo_greater : MethodName := ⟨RX11, "greater", "(II)I"⟩
def rm_Mo_greater : Room := { frames := 0, cells := 0, slots := 0, locals := 0 }
abbrev c_Mo_lesser : ByteArray := prog_13_method_7_code
def y_Mo_lesser : MethodName := ⟨RX11, "lesser", "(II)I"⟩
def rm_Mo_lesser : Room := { frames := 0, cells := 0, slots := 0, locals := 0 }
abbrev c_Mo_divisor : ByteArray := prog_13_method_8_code
def y_Mo_divisor : MethodName := ⟨RX11, "divisor", "(JJ)J"⟩
def rm_Mo_divisor : Room := { frames := 0, cells := 0, slots := 0, locals := 0 }
abbrev c_Mo_finds : ByteArray := prog_13_method_9_code
def y_Mo_finds : MethodName := ⟨RX11, "finds", "(I)I"⟩
def rm_Mo_finds : Room := { frames := 0, cells := 0, slots := 0, locals := 0 }
abbrev c_Mo_isSheet : ByteArray := prog_13_method_10_code
def y_Mo_isSheet : MethodName := ⟨RX11, "isSheet", "(I)Z"⟩
def rm_Mo_isSheet : Room := { frames := 1, cells := 0, slots := 0, locals := 25 }
abbrev c_Mo_sheet : ByteArray := prog_13_method_11_code
def y_Mo_sheet : MethodName := ⟨RX11, "sheet", "(II)I"⟩
def rm_Mo_sheet : Room := { frames := 2, cells := 0, slots := 0, locals := 45 }
abbrev c_Mo_lose : ByteArray := prog_13_method_12_code
def y_Mo_lose : MethodName := ⟨RX11, "lose", "(I)I"⟩
def rm_Mo_lose : Room := { frames := 2, cells := 0, slots := 0, locals := 45 }
abbrev c_Mo_lacks : ByteArray := prog_13_method_13_code
def y_Mo_lacks : MethodName := ⟨RX11, "lacks", "(II)I"⟩
def rm_Mo_lacks : Room := { frames := 1, cells := 0, slots := 0, locals := 25 }
abbrev c_Mo_lay : ByteArray := prog_13_method_14_code
def y_Mo_lay : MethodName := ⟨RX11, "lay", "(III)I"⟩
def rm_Mo_lay : Room := { frames := 2, cells := 0, slots := 0, locals := 47 }
abbrev c_Mo_get : ByteArray := prog_13_method_15_code
def y_Mo_get : MethodName := ⟨RX11, "get", "(II)J"⟩
def rm_Mo_get : Room := { frames := 2, cells := 0, slots := 0, locals := 47 }
abbrev c_Mo_copy : ByteArray := prog_13_method_16_code
def y_Mo_copy : MethodName := ⟨RX11, "copy", "(IIIII)I"⟩
def rm_Mo_copy : Room := { frames := 2, cells := 0, slots := 0, locals := 45 }
abbrev c_Mo_tell : ByteArray := prog_13_method_17_code
def y_Mo_tell : MethodName := ⟨RX11, "tell", "(III)I"⟩
def rm_Mo_tell : Room := { frames := 2, cells := 0, slots := 0, locals := 45 }
abbrev c_Mo_told : ByteArray := prog_13_method_18_code
def y_Mo_told : MethodName := ⟨RX11, "told", "(II)I"⟩
def rm_Mo_told : Room := { frames := 2, cells := 0, slots := 0, locals := 45 }
abbrev c_Mo_degree : ByteArray := prog_13_method_19_code
def y_Mo_degree : MethodName := ⟨RX11, "degree", "(I)I"⟩
def rm_Mo_degree : Room := { frames := 0, cells := 0, slots := 0, locals := 0 }
abbrev c_Mo_lowest : ByteArray := prog_13_method_20_code
def y_Mo_lowest : MethodName := ⟨RX11, "lowest", "(I)I"⟩
def rm_Mo_lowest : Room := { frames := 0, cells := 0, slots := 0, locals := 0 }
abbrev c_Mo_sort : ByteArray := prog_13_method_21_code
def y_Mo_sort : MethodName := ⟨RX11, "sort", "(I)I"⟩
def rm_Mo_sort : Room := { frames := 0, cells := 0, slots := 0, locals := 0 }
abbrev c_Mo_isLawful : ByteArray := prog_13_method_22_code
def y_Mo_isLawful : MethodName := ⟨RX11, "isLawful", "()Z"⟩
def rm_Mo_isLawful : Room := { frames := 1, cells := 0, slots := 0, locals := 24 }
abbrev c_Mo_turn : ByteArray := prog_13_method_23_code
def y_Mo_turn : MethodName := ⟨RX11, "turn", "()I"⟩
def rm_Mo_turn : Room := { frames := 2, cells := 0, slots := 0, locals := 44 }
abbrev c_Mo_reverse : ByteArray := prog_13_method_24_code
def y_Mo_reverse : MethodName := ⟨RX11, "reverse", "()I"⟩
def rm_Mo_reverse : Room := { frames := 1, cells := 0, slots := 0, locals := 23 }
abbrev c_Mo_read : ByteArray := prog_13_method_25_code
def y_Mo_read : MethodName := ⟨RX11, "read", "(II)I"⟩
def rm_Mo_read : Room := { frames := 2, cells := 0, slots := 0, locals := 45 }
abbrev c_Mo_infoBy : ByteArray := prog_13_method_26_code
def y_Mo_infoBy : MethodName := ⟨RX11, "infoBy", "(I)I"⟩
def rm_Mo_infoBy : Room := { frames := 2, cells := 0, slots := 0, locals := 44 }
abbrev c_Mo_info : ByteArray := prog_13_method_27_code
def y_Mo_info : MethodName := ⟨RX11, "info", "(I)I"⟩
def rm_Mo_info : Room := { frames := 3, cells := 0, slots := 0, locals := 65 }
abbrev c_Mo_power : ByteArray := prog_13_method_28_code
def y_Mo_power : MethodName := ⟨RX11, "power", "(JI)J"⟩
def rm_Mo_power : Room := { frames := 0, cells := 0, slots := 0, locals := 0 }
abbrev c_Mo_turnedValue : ByteArray := prog_13_method_29_code
def y_Mo_turnedValue : MethodName := ⟨RX11, "turnedValue", "(III)J"⟩
def rm_Mo_turnedValue : Room := { frames := 1, cells := 0, slots := 0, locals := 25 }
abbrev c_Mo_reactanceBy : ByteArray := prog_13_method_30_code
def y_Mo_reactanceBy : MethodName := ⟨RX11, "reactanceBy", "(III)J"⟩
def rm_Mo_reactanceBy : Room := { frames := 2, cells := 0, slots := 0, locals := 53 }
abbrev c_Mo_reactance : ByteArray := prog_13_method_31_code
def y_Mo_reactance : MethodName := ⟨RX11, "reactance", "(III)J"⟩
def rm_Mo_reactance : Room := { frames := 3, cells := 0, slots := 0, locals := 82 }
abbrev c_Mo_valuesIn : ByteArray := prog_13_method_32_code
def y_Mo_valuesIn : MethodName := ⟨RX11, "valuesIn", "([II)I"⟩
def rm_Mo_valuesIn : Room := { frames := 0, cells := 0, slots := 0, locals := 0 }
abbrev c_Mo_arm : ByteArray := prog_13_method_33_code
def y_Mo_arm : MethodName := ⟨RX11, "arm", "(III)I"⟩
def rm_Mo_arm : Room := { frames := 2, cells := 0, slots := 0, locals := 45 }
abbrev c_Mo_back : ByteArray := prog_13_method_34_code
def y_Mo_back : MethodName := ⟨RX11, "back", "()I"⟩
def rm_Mo_back : Room := { frames := 0, cells := 0, slots := 0, locals := 0 }
abbrev c_Mo_element : ByteArray := prog_13_method_35_code
def y_Mo_element : MethodName := ⟨RX11, "element", "(II)I"⟩
def rm_Mo_element : Room := { frames := 1, cells := 0, slots := 0, locals := 25 }
abbrev c_Mo_takes : ByteArray := prog_13_method_36_code
def y_Mo_takes : MethodName := ⟨RX11, "takes", "(JJ)V"⟩
def rm_Mo_takes : Room := { frames := 1, cells := 0, slots := 0, locals := 30 }
abbrev c_Mo_isHandy : ByteArray := prog_13_method_37_code
def y_Mo_isHandy : MethodName := ⟨RX11, "isHandy", "()Z"⟩
def rm_Mo_isHandy : Room := { frames := 0, cells := 0, slots := 0, locals := 0 }
abbrev c_Mo_makes : ByteArray := prog_13_method_38_code
def y_Mo_makes : MethodName := ⟨RX11, "makes", "(I)V"⟩
def rm_Mo_makes : Room := { frames := 0, cells := 0, slots := 0, locals := 0 }
abbrev c_Mo_lays : ByteArray := prog_13_method_39_code
def y_Mo_lays : MethodName := ⟨RX11, "lays", "(I)V"⟩
def rm_Mo_lays : Room := { frames := 0, cells := 0, slots := 0, locals := 0 }
abbrev c_Mo_top : ByteArray := prog_13_method_40_code
def y_Mo_top : MethodName := ⟨RX11, "top", "([J)I"⟩
def rm_Mo_top : Room := { frames := 0, cells := 0, slots := 0, locals := 0 }
abbrev c_Mo_content : ByteArray := prog_13_method_41_code
def y_Mo_content : MethodName := ⟨RX11, "content", "([J)J"⟩
def rm_Mo_content : Room := { frames := 1, cells := 0, slots := 0, locals := 30 }
abbrev c_Mo_scales : ByteArray := prog_13_method_42_code
def y_Mo_scales : MethodName := ⟨RX11, "scales", "(JJJJ)V"⟩
def rm_Mo_scales : Room := { frames := 1, cells := 0, slots := 0, locals := 30 }
abbrev c_Mo_swaps : ByteArray := prog_13_method_43_code
def y_Mo_swaps : MethodName := ⟨RX11, "swaps", "()V"⟩
def rm_Mo_swaps : Room := { frames := 0, cells := 0, slots := 0, locals := 0 }
abbrev c_Mo_dividesOnce : ByteArray := prog_13_method_45_code
def y_Mo_dividesOnce : MethodName := ⟨RX11, "dividesOnce", "(III)I"⟩
def rm_Mo_dividesOnce : Room := { frames := 2, cells := 0, slots := 0, locals := 62 }
abbrev c_Mo_divides : ByteArray := prog_13_method_44_code
def y_Mo_divides : MethodName := ⟨RX11, "divides", "(I)I"⟩
def rm_Mo_divides : Room := { frames := 3, cells := 0, slots := 0, locals := 100 }
abbrev c_Mo_squares : ByteArray := prog_13_method_46_code
def y_Mo_squares : MethodName := ⟨RX11, "squares", "(IZ[J)V"⟩
def rm_Mo_squares : Room := { frames := 0, cells := 0, slots := 0, locals := 0 }
abbrev c_Mo_downs : ByteArray := prog_13_method_47_code
def y_Mo_downs : MethodName := ⟨RX11, "downs", "([J)V"⟩
def rm_Mo_downs : Room := { frames := 0, cells := 0, slots := 0, locals := 0 }
abbrev c_Mo_valueAt : ByteArray := prog_13_method_48_code
def y_Mo_valueAt : MethodName := ⟨RX11, "valueAt", "([JJJ)J"⟩
def rm_Mo_valueAt : Room := { frames := 1, cells := 0, slots := 0, locals := 25 }
abbrev c_Mo_takesOut : ByteArray := prog_13_method_49_code
def y_Mo_takesOut : MethodName := ⟨RX11, "takesOut", "(JJ)Z"⟩
def rm_Mo_takesOut : Room := { frames := 2, cells := 0, slots := 0, locals := 53 }
abbrev c_Mo_candidate : ByteArray := prog_13_method_50_code
def y_Mo_candidate : MethodName := ⟨RX11, "candidate", "(II)I"⟩
def rm_Mo_candidate : Room := { frames := 0, cells := 0, slots := 0, locals := 0 }
abbrev c_Mo_candidates : ByteArray := prog_13_method_51_code
def y_Mo_candidates : MethodName := ⟨RX11, "candidates", "()V"⟩
def rm_Mo_candidates : Room := { frames := 1, cells := 0, slots := 0, locals := 31 }
abbrev c_Mo_isDark : ByteArray := prog_13_method_52_code
def y_Mo_isDark : MethodName := ⟨RX11, "isDark", "()Z"⟩
def rm_Mo_isDark : Room := { frames := 3, cells := 0, slots := 0, locals := 83 }
abbrev c_Mo_isRoot : ByteArray := prog_13_method_53_code
def y_Mo_isRoot : MethodName := ⟨RX11, "isRoot", "(I)Z"⟩
def rm_Mo_isRoot : Room := { frames := 2, cells := 0, slots := 0, locals := 53 }
abbrev c_Mo_slopes : ByteArray := prog_13_method_54_code
def y_Mo_slopes : MethodName := ⟨RX11, "slopes", "()V"⟩
def rm_Mo_slopes : Room := { frames := 0, cells := 0, slots := 0, locals := 0 }
abbrev c_Mo_alone : ByteArray := prog_13_method_56_code
def y_Mo_alone : MethodName := ⟨RX11, "alone", "(IIIJJ)I"⟩
def rm_Mo_alone : Room := { frames := 2, cells := 0, slots := 0, locals := 56 }
abbrev c_Mo_ends : ByteArray := prog_13_method_57_code
def y_Mo_ends : MethodName := ⟨RX11, "ends", "(I)I"⟩
def rm_Mo_ends : Room := { frames := 3, cells := 0, slots := 0, locals := 83 }
abbrev c_Mo_rootOnce : ByteArray := prog_13_method_58_code
def y_Mo_rootOnce : MethodName := ⟨RX11, "rootOnce", "(IIJJ)I"⟩
def rm_Mo_rootOnce : Room := { frames := 2, cells := 0, slots := 0, locals := 56 }
abbrev c_Mo_byRoots : ByteArray := prog_13_method_55_code
def y_Mo_byRoots : MethodName := ⟨RX11, "byRoots", "(I)I"⟩
def rm_Mo_byRoots : Room := { frames := 4, cells := 0, slots := 0, locals := 106 }
abbrev c_Mo_unfolds : ByteArray := prog_13_method_59_code
def y_Mo_unfolds : MethodName := ⟨RX11, "unfolds", "(I)I"⟩
def rm_Mo_unfolds : Room := { frames := 5, cells := 0, slots := 0, locals := 132 }
abbrev c_Mo_would : ByteArray := prog_13_method_60_code
def y_Mo_would : MethodName := ⟨RX11, "would", "(I)I"⟩
def rm_Mo_would : Room := { frames := 6, cells := 0, slots := 0, locals := 153 }
abbrev c_Mo_unfold : ByteArray := prog_13_method_61_code
def y_Mo_unfold : MethodName := ⟨RX11, "unfold", "(I)I"⟩
def rm_Mo_unfold : Room := { frames := 6, cells := 0, slots := 0, locals := 153 }
abbrev c_Mo_armOf : ByteArray := prog_13_method_62_code
def y_Mo_armOf : MethodName := ⟨RX11, "armOf", "(I)V"⟩
def rm_Mo_armOf : Room := { frames := 0, cells := 0, slots := 0, locals := 0 }
abbrev c_Mo_turnsOver : ByteArray := prog_13_method_63_code
def y_Mo_turnsOver : MethodName := ⟨RX11, "turnsOver", "()V"⟩
def rm_Mo_turnsOver : Room := { frames := 0, cells := 0, slots := 0, locals := 0 }
abbrev c_Mo_asPair : ByteArray := prog_13_method_64_code
def y_Mo_asPair : MethodName := ⟨RX11, "asPair", "()V"⟩
def rm_Mo_asPair : Room := { frames := 1, cells := 0, slots := 0, locals := 30 }
abbrev c_Mo_adds : ByteArray := prog_13_method_65_code
def y_Mo_adds : MethodName := ⟨RX11, "adds", "()V"⟩
def rm_Mo_adds : Room := { frames := 0, cells := 0, slots := 0, locals := 0 }
abbrev c_Mo_folds : ByteArray := prog_13_method_66_code
def y_Mo_folds : MethodName := ⟨RX11, "folds", "()V"⟩
def rm_Mo_folds : Room := { frames := 2, cells := 0, slots := 0, locals := 55 }
abbrev c_Mo_foldBy : ByteArray := prog_13_method_67_code
def y_Mo_foldBy : MethodName := ⟨RX11, "foldBy", "(II)J"⟩
def rm_Mo_foldBy : Room := { frames := 0, cells := 0, slots := 0, locals := 0 }
abbrev c_Mo_fold : ByteArray := prog_13_method_68_code
def y_Mo_fold : MethodName := ⟨RX11, "fold", "(II)J"⟩
def rm_Mo_fold : Room := { frames := 3, cells := 0, slots := 0, locals := 77 }
abbrev c_Mo_alikeNow : ByteArray := prog_13_method_69_code
def y_Mo_alikeNow : MethodName := ⟨RX11, "alikeNow", "()I"⟩
def rm_Mo_alikeNow : Room := { frames := 1, cells := 0, slots := 0, locals := 25 }
abbrev c_Mo_alike : ByteArray := prog_13_method_70_code
def y_Mo_alike : MethodName := ⟨RX11, "alike", "()I"⟩
def rm_Mo_alike : Room := { frames := 3, cells := 0, slots := 0, locals := 77 }
abbrev c_Mo_take : ByteArray := prog_13_method_71_code
def y_Mo_take : MethodName := ⟨RX11, "take", "()I"⟩
def rm_Mo_take : Room := { frames := 3, cells := 0, slots := 0, locals := 77 }
abbrev c_Mo_partUp : ByteArray := prog_13_method_72_code
def y_Mo_partUp : MethodName := ⟨RX11, "partUp", "(I)I"⟩
def rm_Mo_partUp : Room := { frames := 0, cells := 0, slots := 0, locals := 0 }
abbrev c_Mo_partDown : ByteArray := prog_13_method_73_code
def y_Mo_partDown : MethodName := ⟨RX11, "partDown", "(I)I"⟩
def rm_Mo_partDown : Room := { frames := 0, cells := 0, slots := 0, locals := 0 }
abbrev c_Mo_isLike : ByteArray := prog_13_method_74_code
def y_Mo_isLike : MethodName := ⟨RX11, "isLike", "(IIZ)Z"⟩
def rm_Mo_isLike : Room := { frames := 1, cells := 0, slots := 0, locals := 21 }
abbrev c_Mo_isFirst : ByteArray := prog_13_method_75_code
def y_Mo_isFirst : MethodName := ⟨RX11, "isFirst", "(IZ)Z"⟩
def rm_Mo_isFirst : Room := { frames := 2, cells := 0, slots := 0, locals := 44 }
abbrev c_Mo_parts : ByteArray := prog_13_method_76_code
def y_Mo_parts : MethodName := ⟨RX11, "parts", "(Z)I"⟩
def rm_Mo_parts : Room := { frames := 3, cells := 0, slots := 0, locals := 68 }
abbrev c_Mo_billBy : ByteArray := prog_13_method_77_code
def y_Mo_billBy : MethodName := ⟨RX11, "billBy", "(II)I"⟩
def rm_Mo_billBy : Room := { frames := 2, cells := 0, slots := 0, locals := 44 }
abbrev c_Mo_nthPart : ByteArray := prog_13_method_78_code
def y_Mo_nthPart : MethodName := ⟨RX11, "nthPart", "(I)I"⟩
def rm_Mo_nthPart : Room := { frames := 3, cells := 0, slots := 0, locals := 68 }
abbrev c_Mo_bill : ByteArray := prog_13_method_79_code
def y_Mo_bill : MethodName := ⟨RX11, "bill", "(II)I"⟩
def rm_Mo_bill : Room := { frames := 4, cells := 0, slots := 0, locals := 91 }
abbrev c_Mo_values : ByteArray := prog_13_method_80_code
def y_Mo_values : MethodName := ⟨RX11, "values", "()I"⟩
def rm_Mo_values : Room := { frames := 4, cells := 0, slots := 0, locals := 91 }
abbrev c_Mo_wishAsPair : ByteArray := prog_13_method_81_code
def y_Mo_wishAsPair : MethodName := ⟨RX11, "wishAsPair", "()V"⟩
def rm_Mo_wishAsPair : Room := { frames := 2, cells := 0, slots := 0, locals := 55 }
abbrev c_Mo_found : ByteArray := prog_13_method_82_code
def y_Mo_found : MethodName := ⟨RX11, "found", "()I"⟩
def rm_Mo_found : Room := { frames := 3, cells := 0, slots := 0, locals := 76 }
abbrev c_Mo_keep : ByteArray := prog_13_method_83_code
def y_Mo_keep : MethodName := ⟨RX11, "keep", "()I"⟩
def rm_Mo_keep : Room := { frames := 4, cells := 0, slots := 0, locals := 99 }
abbrev c_Mo_find : ByteArray := prog_13_method_84_code
def y_Mo_find : MethodName := ⟨RX11, "find", "()I"⟩
def rm_Mo_find : Room := { frames := 4, cells := 0, slots := 0, locals := 99 }
abbrev c_Mo_keptBy : ByteArray := prog_13_method_85_code
def y_Mo_keptBy : MethodName := ⟨RX11, "keptBy", "(II)I"⟩
def rm_Mo_keptBy : Room := { frames := 0, cells := 0, slots := 0, locals := 0 }
abbrev c_Mo_kept : ByteArray := prog_13_method_86_code
def y_Mo_kept : MethodName := ⟨RX11, "kept", "(II)I"⟩
def rm_Mo_kept : Room := { frames := 1, cells := 0, slots := 0, locals := 25 }
abbrev c_Mo_recall : ByteArray := prog_13_method_87_code
def y_Mo_recall : MethodName := ⟨RX11, "recall", "(I)I"⟩
def rm_Mo_recall : Room := { frames := 1, cells := 0, slots := 0, locals := 25 }
abbrev c_Mo_write : ByteArray := prog_13_method_88_code
def y_Mo_write : MethodName := ⟨RX11, "write", "(I)I"⟩
def rm_Mo_write : Room := { frames := 2, cells := 0, slots := 0, locals := 45 }
abbrev c_Mo_keptAll : ByteArray := prog_13_method_89_code
def y_Mo_keptAll : MethodName := ⟨RX11, "keptAll", "()I"⟩
def rm_Mo_keptAll : Room := { frames := 0, cells := 0, slots := 0, locals := 0 }
abbrev c_Mo_sheets : ByteArray := prog_13_method_90_code
def y_Mo_sheets : MethodName := ⟨RX11, "sheets", "()I"⟩
def rm_Mo_sheets : Room := { frames := 0, cells := 0, slots := 0, locals := 0 }
abbrev c_Mo_count : ByteArray := prog_13_method_91_code
def y_Mo_count : MethodName := ⟨RX11, "count", "(I)I"⟩
def rm_Mo_count : Room := { frames := 4, cells := 0, slots := 0, locals := 97 }
abbrev c_Mo_ladderTells : ByteArray := prog_13_method_92_code
def y_Mo_ladderTells : MethodName := ⟨RX11, "ladderTells", "(J)J"⟩
def rm_Mo_ladderTells : Room := { frames := 5, cells := 0, slots := 0, locals := 111 }
abbrev c_Mo_digest : ByteArray := prog_13_method_93_code
def y_Mo_digest : MethodName := ⟨RX11, "digest", "()J"⟩
def rm_Mo_digest : Room := { frames := 6, cells := 0, slots := 0, locals := 153 }
theorem sm_Bi_init : sM y_Bi_init c_Bi_init 1 none 0 := ⟨mg_t (List.mem_of_getElem? (i := 158) (by decide +kernel)) rfl, mg_t (List.mem_of_getElem? (i := 8) (by decide +kernel)) rfl, by decide, by decide, by decide +kernel⟩
theorem im_Bi_init : Cond.instanceMethod y_Bi_init ∈ lw_g := mg_t (List.mem_of_getElem? (i := 157) (by decide +kernel)) rfl
theorem sm_La_item : sM y_La_item c_La_item 4 (some .int) 2 := ⟨mg_t (List.mem_of_getElem? (i := 426) (by decide +kernel)) rfl, mg_t (List.mem_of_getElem? (i := 4) (by decide +kernel)) rfl, by decide, by decide, by decide +kernel⟩
theorem im_La_item : Cond.instanceMethod y_La_item ∈ lw_g := mg_t (List.mem_of_getElem? (i := 424) (by decide +kernel)) rfl
theorem se_La_item : Cond.selects RX3 y_La_item y_La_item ∈ lw_g := mg_t (List.mem_of_getElem? (i := 425) (by decide +kernel)) rfl
theorem sm_Bi_addPart : sM y_Bi_addPart c_Bi_addPart 6 none 3 := ⟨mg_t (List.mem_of_getElem? (i := 476) (by decide +kernel)) rfl, mg_t (List.mem_of_getElem? (i := 8) (by decide +kernel)) rfl, by decide, by decide, by decide +kernel⟩
theorem im_Bi_addPart : Cond.instanceMethod y_Bi_addPart ∈ lw_g := mg_t (List.mem_of_getElem? (i := 475) (by decide +kernel)) rfl
theorem se_Bi_addPart : Cond.selects RX0 y_Bi_addPart y_Bi_addPart ∈ lw_g := mg_s (List.mem_of_getElem? (i := 6) (by decide +kernel)) rfl
theorem sm_Bi_countUp : sM y_Bi_countUp c_Bi_countUp 3 none 1 := ⟨mg_t (List.mem_of_getElem? (i := 471) (by decide +kernel)) rfl, mg_t (List.mem_of_getElem? (i := 8) (by decide +kernel)) rfl, by decide, by decide, by decide +kernel⟩
theorem im_Bi_countUp : Cond.instanceMethod y_Bi_countUp ∈ lw_g := mg_t (List.mem_of_getElem? (i := 469) (by decide +kernel)) rfl
theorem se_Bi_countUp : Cond.selects RX0 y_Bi_countUp y_Bi_countUp ∈ lw_g := mg_t (List.mem_of_getElem? (i := 470) (by decide +kernel)) rfl
theorem sm_Bi_item : sM y_Bi_item c_Bi_item 4 (some .int) 2 := ⟨mg_t (List.mem_of_getElem? (i := 626) (by decide +kernel)) rfl, mg_t (List.mem_of_getElem? (i := 8) (by decide +kernel)) rfl, by decide, by decide, by decide +kernel⟩
theorem im_Bi_item : Cond.instanceMethod y_Bi_item ∈ lw_g := mg_t (List.mem_of_getElem? (i := 624) (by decide +kernel)) rfl
theorem se_Bi_item : Cond.selects RX0 y_Bi_item y_Bi_item ∈ lw_g := mg_t (List.mem_of_getElem? (i := 625) (by decide +kernel)) rfl
theorem sm_Bi_differentValues : sM y_Bi_differentValues c_Bi_differentValues 5 (some .int) 0 := ⟨mg_t (List.mem_of_getElem? (i := 634) (by decide +kernel)) rfl, mg_t (List.mem_of_getElem? (i := 8) (by decide +kernel)) rfl, by decide, by decide, by decide +kernel⟩
theorem im_Bi_differentValues : Cond.instanceMethod y_Bi_differentValues ∈ lw_g := mg_t (List.mem_of_getElem? (i := 632) (by decide +kernel)) rfl
theorem se_Bi_differentValues : Cond.selects RX0 y_Bi_differentValues y_Bi_differentValues ∈ lw_g := mg_t (List.mem_of_getElem? (i := 633) (by decide +kernel)) rfl
theorem sm_Po_init : sM y_Po_init c_Po_init 1 none 0 := ⟨mg_t (List.mem_of_getElem? (i := 33) (by decide +kernel)) rfl, mg_t (List.mem_of_getElem? (i := 3) (by decide +kernel)) rfl, by decide, by decide, by decide +kernel⟩
theorem im_Po_init : Cond.instanceMethod y_Po_init ∈ lw_g := mg_t (List.mem_of_getElem? (i := 32) (by decide +kernel)) rfl
theorem sm_Pa_init : sM y_Pa_init c_Pa_init 1 none 0 := ⟨mg_t (List.mem_of_getElem? (i := 27) (by decide +kernel)) rfl, mg_t (List.mem_of_getElem? (i := 2) (by decide +kernel)) rfl, by decide, by decide, by decide +kernel⟩
theorem im_Pa_init : Cond.instanceMethod y_Pa_init ∈ lw_g := mg_t (List.mem_of_getElem? (i := 26) (by decide +kernel)) rfl
theorem sm_Fo_init : sM y_Fo_init c_Fo_init 1 none 0 := ⟨mg_t (List.mem_of_getElem? (i := 76) (by decide +kernel)) rfl, mg_t (List.mem_of_getElem? (i := 5) (by decide +kernel)) rfl, by decide, by decide, by decide +kernel⟩
theorem im_Fo_init : Cond.instanceMethod y_Fo_init ∈ lw_g := mg_t (List.mem_of_getElem? (i := 75) (by decide +kernel)) rfl
theorem sm_Po_clear : sM y_Po_clear c_Po_clear 2 none 0 := ⟨mg_t (List.mem_of_getElem? (i := 430) (by decide +kernel)) rfl, mg_t (List.mem_of_getElem? (i := 3) (by decide +kernel)) rfl, by decide, by decide, by decide +kernel⟩
theorem im_Po_clear : Cond.instanceMethod y_Po_clear ∈ lw_g := mg_t (List.mem_of_getElem? (i := 428) (by decide +kernel)) rfl
theorem se_Po_clear : Cond.selects RX6 y_Po_clear y_Po_clear ∈ lw_g := mg_t (List.mem_of_getElem? (i := 429) (by decide +kernel)) rfl
theorem sm_Pa_side : sM y_Pa_side c_Pa_side 2 (some (.object "LadderMaker$Polynomial")) 1 := ⟨mg_t (List.mem_of_getElem? (i := 269) (by decide +kernel)) rfl, mg_t (List.mem_of_getElem? (i := 2) (by decide +kernel)) rfl, by decide, by decide, by decide +kernel⟩
theorem im_Pa_side : Cond.instanceMethod y_Pa_side ∈ lw_g := mg_t (List.mem_of_getElem? (i := 267) (by decide +kernel)) rfl
theorem se_Pa_side : Cond.selects RX5 y_Pa_side y_Pa_side ∈ lw_g := mg_t (List.mem_of_getElem? (i := 268) (by decide +kernel)) rfl
theorem sm_Po_put : sM y_Po_put c_Po_put 4 none 2 := ⟨mg_t (List.mem_of_getElem? (i := 277) (by decide +kernel)) rfl, mg_t (List.mem_of_getElem? (i := 3) (by decide +kernel)) rfl, by decide, by decide, by decide +kernel⟩
theorem im_Po_put : Cond.instanceMethod y_Po_put ∈ lw_g := mg_t (List.mem_of_getElem? (i := 275) (by decide +kernel)) rfl
theorem se_Po_put : Cond.selects RX6 y_Po_put y_Po_put ∈ lw_g := mg_t (List.mem_of_getElem? (i := 276) (by decide +kernel)) rfl
theorem sm_Fo_loadArm : sM y_Fo_loadArm c_Fo_loadArm 13 none 2 := ⟨mg_t (List.mem_of_getElem? (i := 436) (by decide +kernel)) rfl, mg_t (List.mem_of_getElem? (i := 5) (by decide +kernel)) rfl, by decide, by decide, by decide +kernel⟩
theorem im_Fo_loadArm : Cond.instanceMethod y_Fo_loadArm ∈ lw_g := mg_t (List.mem_of_getElem? (i := 435) (by decide +kernel)) rfl
theorem se_Fo_loadArm : Cond.selects RX1 y_Fo_loadArm y_Fo_loadArm ∈ lw_g := mg_s (List.mem_of_getElem? (i := 4) (by decide +kernel)) rfl
theorem sm_Pa_swap : sM y_Pa_swap c_Pa_swap 2 none 0 := ⟨mg_t (List.mem_of_getElem? (i := 289) (by decide +kernel)) rfl, mg_t (List.mem_of_getElem? (i := 2) (by decide +kernel)) rfl, by decide, by decide, by decide +kernel⟩
theorem im_Pa_swap : Cond.instanceMethod y_Pa_swap ∈ lw_g := mg_t (List.mem_of_getElem? (i := 287) (by decide +kernel)) rfl
theorem se_Pa_swap : Cond.selects RX5 y_Pa_swap y_Pa_swap ∈ lw_g := mg_t (List.mem_of_getElem? (i := 288) (by decide +kernel)) rfl
theorem sm_Po_addProduct : sM y_Po_addProduct c_Po_addProduct 5 none 2 := ⟨mg_t (List.mem_of_getElem? (i := 445) (by decide +kernel)) rfl, mg_t (List.mem_of_getElem? (i := 3) (by decide +kernel)) rfl, by decide, by decide, by decide +kernel⟩
theorem im_Po_addProduct : Cond.instanceMethod y_Po_addProduct ∈ lw_g := mg_t (List.mem_of_getElem? (i := 443) (by decide +kernel)) rfl
theorem se_Po_addProduct : Cond.selects RX6 y_Po_addProduct y_Po_addProduct ∈ lw_g := mg_t (List.mem_of_getElem? (i := 444) (by decide +kernel)) rfl
theorem sm_Po_load : sM y_Po_load c_Po_load 3 none 1 := ⟨mg_t (List.mem_of_getElem? (i := 453) (by decide +kernel)) rfl, mg_t (List.mem_of_getElem? (i := 3) (by decide +kernel)) rfl, by decide, by decide, by decide +kernel⟩
theorem im_Po_load : Cond.instanceMethod y_Po_load ∈ lw_g := mg_t (List.mem_of_getElem? (i := 451) (by decide +kernel)) rfl
theorem se_Po_load : Cond.selects RX6 y_Po_load y_Po_load ∈ lw_g := mg_t (List.mem_of_getElem? (i := 452) (by decide +kernel)) rfl
theorem sm_Pa_load : sM y_Pa_load c_Pa_load 2 none 1 := ⟨mg_t (List.mem_of_getElem? (i := 449) (by decide +kernel)) rfl, mg_t (List.mem_of_getElem? (i := 2) (by decide +kernel)) rfl, by decide, by decide, by decide +kernel⟩
theorem im_Pa_load : Cond.instanceMethod y_Pa_load ∈ lw_g := mg_t (List.mem_of_getElem? (i := 447) (by decide +kernel)) rfl
theorem se_Pa_load : Cond.selects RX5 y_Pa_load y_Pa_load ∈ lw_g := mg_t (List.mem_of_getElem? (i := 448) (by decide +kernel)) rfl
theorem sm_Fo_addArm : sM y_Fo_addArm c_Fo_addArm 1 none 0 := ⟨mg_t (List.mem_of_getElem? (i := 441) (by decide +kernel)) rfl, mg_t (List.mem_of_getElem? (i := 5) (by decide +kernel)) rfl, by decide, by decide, by decide +kernel⟩
theorem im_Fo_addArm : Cond.instanceMethod y_Fo_addArm ∈ lw_g := mg_t (List.mem_of_getElem? (i := 440) (by decide +kernel)) rfl
theorem se_Fo_addArm : Cond.selects RX1 y_Fo_addArm y_Fo_addArm ∈ lw_g := mg_s (List.mem_of_getElem? (i := 5) (by decide +kernel)) rfl
theorem sm_Po_at : sM y_Po_at c_Po_at 2 (some .long) 1 := ⟨mg_t (List.mem_of_getElem? (i := 273) (by decide +kernel)) rfl, mg_t (List.mem_of_getElem? (i := 3) (by decide +kernel)) rfl, by decide, by decide, by decide +kernel⟩
theorem im_Po_at : Cond.instanceMethod y_Po_at ∈ lw_g := mg_t (List.mem_of_getElem? (i := 271) (by decide +kernel)) rfl
theorem se_Po_at : Cond.selects RX6 y_Po_at y_Po_at ∈ lw_g := mg_t (List.mem_of_getElem? (i := 272) (by decide +kernel)) rfl
theorem sm_Pa_number : sM y_Pa_number c_Pa_number 2 (some .long) 1 := ⟨mg_t (List.mem_of_getElem? (i := 461) (by decide +kernel)) rfl, mg_t (List.mem_of_getElem? (i := 2) (by decide +kernel)) rfl, by decide, by decide, by decide +kernel⟩
theorem im_Pa_number : Cond.instanceMethod y_Pa_number ∈ lw_g := mg_t (List.mem_of_getElem? (i := 459) (by decide +kernel)) rfl
theorem se_Pa_number : Cond.selects RX5 y_Pa_number y_Pa_number ∈ lw_g := mg_t (List.mem_of_getElem? (i := 460) (by decide +kernel)) rfl
theorem sm_Lm_commonDivisor : sM y_Lm_commonDivisor c_Lm_commonDivisor 11 (some .long) 2 := ⟨mg_t (List.mem_of_getElem? (i := 398) (by decide +kernel)) rfl, mg_t (List.mem_of_getElem? (i := 1) (by decide +kernel)) rfl, by decide, by decide, by decide +kernel⟩
theorem st_Lm_commonDivisor : Cond.static y_Lm_commonDivisor ∈ lw_g := mg_t (List.mem_of_getElem? (i := 397) (by decide +kernel)) rfl
theorem sm_Po_degree : sM y_Po_degree c_Po_degree 2 (some .int) 0 := ⟨mg_t (List.mem_of_getElem? (i := 309) (by decide +kernel)) rfl, mg_t (List.mem_of_getElem? (i := 3) (by decide +kernel)) rfl, by decide, by decide, by decide +kernel⟩
theorem im_Po_degree : Cond.instanceMethod y_Po_degree ∈ lw_g := mg_t (List.mem_of_getElem? (i := 307) (by decide +kernel)) rfl
theorem se_Po_degree : Cond.selects RX6 y_Po_degree y_Po_degree ∈ lw_g := mg_t (List.mem_of_getElem? (i := 308) (by decide +kernel)) rfl
theorem sm_Po_divideBy : sM y_Po_divideBy c_Po_divideBy 4 none 1 := ⟨mg_t (List.mem_of_getElem? (i := 467) (by decide +kernel)) rfl, mg_t (List.mem_of_getElem? (i := 3) (by decide +kernel)) rfl, by decide, by decide, by decide +kernel⟩
theorem im_Po_divideBy : Cond.instanceMethod y_Po_divideBy ∈ lw_g := mg_t (List.mem_of_getElem? (i := 465) (by decide +kernel)) rfl
theorem se_Po_divideBy : Cond.selects RX6 y_Po_divideBy y_Po_divideBy ∈ lw_g := mg_t (List.mem_of_getElem? (i := 466) (by decide +kernel)) rfl
theorem sm_Pa_becomeAsPair : sM y_Pa_becomeAsPair c_Pa_becomeAsPair 6 none 0 := ⟨mg_t (List.mem_of_getElem? (i := 457) (by decide +kernel)) rfl, mg_t (List.mem_of_getElem? (i := 2) (by decide +kernel)) rfl, by decide, by decide, by decide +kernel⟩
theorem im_Pa_becomeAsPair : Cond.instanceMethod y_Pa_becomeAsPair ∈ lw_g := mg_t (List.mem_of_getElem? (i := 455) (by decide +kernel)) rfl
theorem se_Pa_becomeAsPair : Cond.selects RX5 y_Pa_becomeAsPair y_Pa_becomeAsPair ∈ lw_g := mg_t (List.mem_of_getElem? (i := 456) (by decide +kernel)) rfl
theorem sm_Fo_foldUp : sM y_Fo_foldUp c_Fo_foldUp 6 none 1 := ⟨mg_t (List.mem_of_getElem? (i := 422) (by decide +kernel)) rfl, mg_t (List.mem_of_getElem? (i := 5) (by decide +kernel)) rfl, by decide, by decide, by decide +kernel⟩
theorem im_Fo_foldUp : Cond.instanceMethod y_Fo_foldUp ∈ lw_g := mg_t (List.mem_of_getElem? (i := 420) (by decide +kernel)) rfl
theorem se_Fo_foldUp : Cond.selects RX1 y_Fo_foldUp y_Fo_foldUp ∈ lw_g := mg_t (List.mem_of_getElem? (i := 421) (by decide +kernel)) rfl
theorem sm_Fr_init : sM y_Fr_init c_Fr_init 1 none 0 := ⟨mg_t (List.mem_of_getElem? (i := 107) (by decide +kernel)) rfl, mg_t (List.mem_of_getElem? (i := 7) (by decide +kernel)) rfl, by decide, by decide, by decide +kernel⟩
theorem im_Fr_init : Cond.instanceMethod y_Fr_init ∈ lw_g := mg_t (List.mem_of_getElem? (i := 106) (by decide +kernel)) rfl
theorem sm_Fr_put : sM y_Fr_put c_Fr_put 7 none 2 := ⟨mg_t (List.mem_of_getElem? (i := 395) (by decide +kernel)) rfl, mg_t (List.mem_of_getElem? (i := 7) (by decide +kernel)) rfl, by decide, by decide, by decide +kernel⟩
theorem im_Fr_put : Cond.instanceMethod y_Fr_put ∈ lw_g := mg_t (List.mem_of_getElem? (i := 393) (by decide +kernel)) rfl
theorem se_Fr_put : Cond.selects RX2 y_Fr_put y_Fr_put ∈ lw_g := mg_t (List.mem_of_getElem? (i := 394) (by decide +kernel)) rfl
theorem sm_Fr_isHandy : sM y_Fr_isHandy c_Fr_isHandy 1 (some .boolean) 0 := ⟨mg_t (List.mem_of_getElem? (i := 520) (by decide +kernel)) rfl, mg_t (List.mem_of_getElem? (i := 7) (by decide +kernel)) rfl, by decide, by decide, by decide +kernel⟩
theorem im_Fr_isHandy : Cond.instanceMethod y_Fr_isHandy ∈ lw_g := mg_t (List.mem_of_getElem? (i := 518) (by decide +kernel)) rfl
theorem se_Fr_isHandy : Cond.selects RX2 y_Fr_isHandy y_Fr_isHandy ∈ lw_g := mg_t (List.mem_of_getElem? (i := 519) (by decide +kernel)) rfl
theorem sm_La_init : sM y_La_init c_La_init 1 none 0 := ⟨mg_t (List.mem_of_getElem? (i := 57) (by decide +kernel)) rfl, mg_t (List.mem_of_getElem? (i := 4) (by decide +kernel)) rfl, by decide, by decide, by decide +kernel⟩
theorem im_La_init : Cond.instanceMethod y_La_init ∈ lw_g := mg_t (List.mem_of_getElem? (i := 56) (by decide +kernel)) rfl
theorem sm_La_valueCount : sM y_La_valueCount c_La_valueCount 3 (some .int) 0 := ⟨mg_t (List.mem_of_getElem? (i := 414) (by decide +kernel)) rfl, mg_t (List.mem_of_getElem? (i := 4) (by decide +kernel)) rfl, by decide, by decide, by decide +kernel⟩
theorem im_La_valueCount : Cond.instanceMethod y_La_valueCount ∈ lw_g := mg_t (List.mem_of_getElem? (i := 412) (by decide +kernel)) rfl
theorem se_La_valueCount : Cond.selects RX3 y_La_valueCount y_La_valueCount ∈ lw_g := mg_t (List.mem_of_getElem? (i := 413) (by decide +kernel)) rfl
theorem sm_La_add : sM y_La_add c_La_add 8 (some .boolean) 5 := ⟨mg_t (List.mem_of_getElem? (i := 410) (by decide +kernel)) rfl, mg_t (List.mem_of_getElem? (i := 4) (by decide +kernel)) rfl, by decide, by decide, by decide +kernel⟩
theorem im_La_add : Cond.instanceMethod y_La_add ∈ lw_g := mg_t (List.mem_of_getElem? (i := 408) (by decide +kernel)) rfl
theorem se_La_add : Cond.selects RX3 y_La_add y_La_add ∈ lw_g := mg_t (List.mem_of_getElem? (i := 409) (by decide +kernel)) rfl
theorem sm_La_dropLast : sM y_La_dropLast c_La_dropLast 1 none 0 := ⟨mg_t (List.mem_of_getElem? (i := 484) (by decide +kernel)) rfl, mg_t (List.mem_of_getElem? (i := 4) (by decide +kernel)) rfl, by decide, by decide, by decide +kernel⟩
theorem im_La_dropLast : Cond.instanceMethod y_La_dropLast ∈ lw_g := mg_t (List.mem_of_getElem? (i := 482) (by decide +kernel)) rfl
theorem se_La_dropLast : Cond.selects RX3 y_La_dropLast y_La_dropLast ∈ lw_g := mg_t (List.mem_of_getElem? (i := 483) (by decide +kernel)) rfl
theorem sm_La_clear : sM y_La_clear c_La_clear 1 none 0 := ⟨mg_t (List.mem_of_getElem? (i := 504) (by decide +kernel)) rfl, mg_t (List.mem_of_getElem? (i := 4) (by decide +kernel)) rfl, by decide, by decide, by decide +kernel⟩
theorem im_La_clear : Cond.instanceMethod y_La_clear ∈ lw_g := mg_t (List.mem_of_getElem? (i := 502) (by decide +kernel)) rfl
theorem se_La_clear : Cond.selects RX3 y_La_clear y_La_clear ∈ lw_g := mg_t (List.mem_of_getElem? (i := 503) (by decide +kernel)) rfl
theorem sm_La_load : sM y_La_load c_La_load 4 none 1 := ⟨mg_t (List.mem_of_getElem? (i := 593) (by decide +kernel)) rfl, mg_t (List.mem_of_getElem? (i := 4) (by decide +kernel)) rfl, by decide, by decide, by decide +kernel⟩
theorem im_La_load : Cond.instanceMethod y_La_load ∈ lw_g := mg_t (List.mem_of_getElem? (i := 591) (by decide +kernel)) rfl
theorem se_La_load : Cond.selects RX3 y_La_load y_La_load ∈ lw_g := mg_t (List.mem_of_getElem? (i := 592) (by decide +kernel)) rfl
theorem sm_Me_init : sM y_Me_init c_Me_init 1 none 0 := ⟨mg_t (List.mem_of_getElem? (i := 173) (by decide +kernel)) rfl, mg_t (List.mem_of_getElem? (i := 9) (by decide +kernel)) rfl, by decide, by decide, by decide +kernel⟩
theorem im_Me_init : Cond.instanceMethod y_Me_init ∈ lw_g := mg_t (List.mem_of_getElem? (i := 172) (by decide +kernel)) rfl
theorem sm_Me_holds : sM y_Me_holds c_Me_holds 2 (some .boolean) 1 := ⟨mg_t (List.mem_of_getElem? (i := 661) (by decide +kernel)) rfl, mg_t (List.mem_of_getElem? (i := 9) (by decide +kernel)) rfl, by decide, by decide, by decide +kernel⟩
theorem im_Me_holds : Cond.instanceMethod y_Me_holds ∈ lw_g := mg_t (List.mem_of_getElem? (i := 659) (by decide +kernel)) rfl
theorem se_Me_holds : Cond.selects RX4 y_Me_holds y_Me_holds ∈ lw_g := mg_t (List.mem_of_getElem? (i := 660) (by decide +kernel)) rfl
theorem sm_Me_item : sM y_Me_item c_Me_item 4 (some .int) 2 := ⟨mg_t (List.mem_of_getElem? (i := 657) (by decide +kernel)) rfl, mg_t (List.mem_of_getElem? (i := 9) (by decide +kernel)) rfl, by decide, by decide, by decide +kernel⟩
theorem im_Me_item : Cond.instanceMethod y_Me_item ∈ lw_g := mg_t (List.mem_of_getElem? (i := 655) (by decide +kernel)) rfl
theorem se_Me_item : Cond.selects RX4 y_Me_item y_Me_item ∈ lw_g := mg_t (List.mem_of_getElem? (i := 656) (by decide +kernel)) rfl
theorem sm_Me_isSought : sM y_Me_isSought c_Me_isSought 3 (some .boolean) 1 := ⟨mg_t (List.mem_of_getElem? (i := 653) (by decide +kernel)) rfl, mg_t (List.mem_of_getElem? (i := 9) (by decide +kernel)) rfl, by decide, by decide, by decide +kernel⟩
theorem im_Me_isSought : Cond.instanceMethod y_Me_isSought ∈ lw_g := mg_t (List.mem_of_getElem? (i := 652) (by decide +kernel)) rfl
theorem se_Me_isSought : Cond.selects RX4 y_Me_isSought y_Me_isSought ∈ lw_g := mg_s (List.mem_of_getElem? (i := 18) (by decide +kernel)) rfl
theorem sm_Me_numberOf : sM y_Me_numberOf c_Me_numberOf 3 (some .int) 1 := ⟨mg_t (List.mem_of_getElem? (i := 647) (by decide +kernel)) rfl, mg_t (List.mem_of_getElem? (i := 9) (by decide +kernel)) rfl, by decide, by decide, by decide +kernel⟩
theorem im_Me_numberOf : Cond.instanceMethod y_Me_numberOf ∈ lw_g := mg_t (List.mem_of_getElem? (i := 645) (by decide +kernel)) rfl
theorem se_Me_numberOf : Cond.selects RX4 y_Me_numberOf y_Me_numberOf ∈ lw_g := mg_t (List.mem_of_getElem? (i := 646) (by decide +kernel)) rfl
theorem sm_Me_keepOnce : sM y_Me_keepOnce c_Me_keepOnce 4 (some .int) 1 := ⟨mg_t (List.mem_of_getElem? (i := 643) (by decide +kernel)) rfl, mg_t (List.mem_of_getElem? (i := 9) (by decide +kernel)) rfl, by decide, by decide, by decide +kernel⟩
theorem im_Me_keepOnce : Cond.instanceMethod y_Me_keepOnce ∈ lw_g := mg_t (List.mem_of_getElem? (i := 641) (by decide +kernel)) rfl
theorem se_Me_keepOnce : Cond.selects RX4 y_Me_keepOnce y_Me_keepOnce ∈ lw_g := mg_t (List.mem_of_getElem? (i := 642) (by decide +kernel)) rfl
theorem sm_Me_timesOfAll : sM y_Me_timesOfAll c_Me_timesOfAll 3 (some .int) 0 := ⟨mg_t (List.mem_of_getElem? (i := 735) (by decide +kernel)) rfl, mg_t (List.mem_of_getElem? (i := 9) (by decide +kernel)) rfl, by decide, by decide, by decide +kernel⟩
theorem im_Me_timesOfAll : Cond.instanceMethod y_Me_timesOfAll ∈ lw_g := mg_t (List.mem_of_getElem? (i := 733) (by decide +kernel)) rfl
theorem se_Me_timesOfAll : Cond.selects RX4 y_Me_timesOfAll y_Me_timesOfAll ∈ lw_g := mg_t (List.mem_of_getElem? (i := 734) (by decide +kernel)) rfl
theorem sm_Pa_putNumber : sM y_Pa_putNumber c_Pa_putNumber 4 none 2 := ⟨mg_t (List.mem_of_getElem? (i := 356) (by decide +kernel)) rfl, mg_t (List.mem_of_getElem? (i := 2) (by decide +kernel)) rfl, by decide, by decide, by decide +kernel⟩
theorem im_Pa_putNumber : Cond.instanceMethod y_Pa_putNumber ∈ lw_g := mg_t (List.mem_of_getElem? (i := 354) (by decide +kernel)) rfl
theorem se_Pa_putNumber : Cond.selects RX5 y_Pa_putNumber y_Pa_putNumber ∈ lw_g := mg_t (List.mem_of_getElem? (i := 355) (by decide +kernel)) rfl
theorem sm_Po_isOfParity : sM y_Po_isOfParity c_Po_isOfParity 4 (some .boolean) 1 := ⟨mg_t (List.mem_of_getElem? (i := 297) (by decide +kernel)) rfl, mg_t (List.mem_of_getElem? (i := 3) (by decide +kernel)) rfl, by decide, by decide, by decide +kernel⟩
theorem im_Po_isOfParity : Cond.instanceMethod y_Po_isOfParity ∈ lw_g := mg_t (List.mem_of_getElem? (i := 295) (by decide +kernel)) rfl
theorem se_Po_isOfParity : Cond.selects RX6 y_Po_isOfParity y_Po_isOfParity ∈ lw_g := mg_t (List.mem_of_getElem? (i := 296) (by decide +kernel)) rfl
theorem sm_Pa_isLawful : sM y_Pa_isLawful c_Pa_isLawful 1 (some .boolean) 0 := ⟨mg_t (List.mem_of_getElem? (i := 293) (by decide +kernel)) rfl, mg_t (List.mem_of_getElem? (i := 2) (by decide +kernel)) rfl, by decide, by decide, by decide +kernel⟩
theorem im_Pa_isLawful : Cond.instanceMethod y_Pa_isLawful ∈ lw_g := mg_t (List.mem_of_getElem? (i := 291) (by decide +kernel)) rfl
theorem se_Pa_isLawful : Cond.selects RX5 y_Pa_isLawful y_Pa_isLawful ∈ lw_g := mg_t (List.mem_of_getElem? (i := 292) (by decide +kernel)) rfl
theorem sm_Pa_greaterDegree : sM y_Pa_greaterDegree c_Pa_greaterDegree 1 (some .int) 0 := ⟨mg_t (List.mem_of_getElem? (i := 305) (by decide +kernel)) rfl, mg_t (List.mem_of_getElem? (i := 2) (by decide +kernel)) rfl, by decide, by decide, by decide +kernel⟩
theorem im_Pa_greaterDegree : Cond.instanceMethod y_Pa_greaterDegree ∈ lw_g := mg_t (List.mem_of_getElem? (i := 303) (by decide +kernel)) rfl
theorem se_Pa_greaterDegree : Cond.selects RX5 y_Pa_greaterDegree y_Pa_greaterDegree ∈ lw_g := mg_t (List.mem_of_getElem? (i := 304) (by decide +kernel)) rfl
theorem sm_Pa_isFractionOf : sM y_Pa_isFractionOf c_Pa_isFractionOf 6 (some .boolean) 1 := ⟨mg_t (List.mem_of_getElem? (i := 612) (by decide +kernel)) rfl, mg_t (List.mem_of_getElem? (i := 2) (by decide +kernel)) rfl, by decide, by decide, by decide +kernel⟩
theorem im_Pa_isFractionOf : Cond.instanceMethod y_Pa_isFractionOf ∈ lw_g := mg_t (List.mem_of_getElem? (i := 610) (by decide +kernel)) rfl
theorem se_Pa_isFractionOf : Cond.selects RX5 y_Pa_isFractionOf y_Pa_isFractionOf ∈ lw_g := mg_t (List.mem_of_getElem? (i := 611) (by decide +kernel)) rfl
theorem sm_Po_multiplyBy : sM y_Po_multiplyBy c_Po_multiplyBy 4 none 1 := ⟨mg_t (List.mem_of_getElem? (i := 538) (by decide +kernel)) rfl, mg_t (List.mem_of_getElem? (i := 3) (by decide +kernel)) rfl, by decide, by decide, by decide +kernel⟩
theorem im_Po_multiplyBy : Cond.instanceMethod y_Po_multiplyBy ∈ lw_g := mg_t (List.mem_of_getElem? (i := 536) (by decide +kernel)) rfl
theorem se_Po_multiplyBy : Cond.selects RX6 y_Po_multiplyBy y_Po_multiplyBy ∈ lw_g := mg_t (List.mem_of_getElem? (i := 537) (by decide +kernel)) rfl
theorem sm_Pa_goOn : sM y_Pa_goOn c_Pa_goOn 4 none 2 := ⟨mg_t (List.mem_of_getElem? (i := 534) (by decide +kernel)) rfl, mg_t (List.mem_of_getElem? (i := 2) (by decide +kernel)) rfl, by decide, by decide, by decide +kernel⟩
theorem im_Pa_goOn : Cond.instanceMethod y_Pa_goOn ∈ lw_g := mg_t (List.mem_of_getElem? (i := 532) (by decide +kernel)) rfl
theorem se_Pa_goOn : Cond.selects RX5 y_Pa_goOn y_Pa_goOn ∈ lw_g := mg_t (List.mem_of_getElem? (i := 533) (by decide +kernel)) rfl
theorem sm_Po_loadEveryOther : sM y_Po_loadEveryOther c_Po_loadEveryOther 4 none 2 := ⟨mg_t (List.mem_of_getElem? (i := 387) (by decide +kernel)) rfl, mg_t (List.mem_of_getElem? (i := 3) (by decide +kernel)) rfl, by decide, by decide, by decide +kernel⟩
theorem im_Po_loadEveryOther : Cond.instanceMethod y_Po_loadEveryOther ∈ lw_g := mg_t (List.mem_of_getElem? (i := 385) (by decide +kernel)) rfl
theorem se_Po_loadEveryOther : Cond.selects RX6 y_Po_loadEveryOther y_Po_loadEveryOther ∈ lw_g := mg_t (List.mem_of_getElem? (i := 386) (by decide +kernel)) rfl
theorem sm_Po_leastPower : sM y_Po_leastPower c_Po_leastPower 2 (some .int) 0 := ⟨mg_t (List.mem_of_getElem? (i := 366) (by decide +kernel)) rfl, mg_t (List.mem_of_getElem? (i := 3) (by decide +kernel)) rfl, by decide, by decide, by decide +kernel⟩
theorem im_Po_leastPower : Cond.instanceMethod y_Po_leastPower ∈ lw_g := mg_t (List.mem_of_getElem? (i := 364) (by decide +kernel)) rfl
theorem se_Po_leastPower : Cond.selects RX6 y_Po_leastPower y_Po_leastPower ∈ lw_g := mg_t (List.mem_of_getElem? (i := 365) (by decide +kernel)) rfl
theorem sm_Po_runBackwards : sM y_Po_runBackwards c_Po_runBackwards 5 none 1 := ⟨mg_t (List.mem_of_getElem? (i := 316) (by decide +kernel)) rfl, mg_t (List.mem_of_getElem? (i := 3) (by decide +kernel)) rfl, by decide, by decide, by decide +kernel⟩
theorem im_Po_runBackwards : Cond.instanceMethod y_Po_runBackwards ∈ lw_g := mg_t (List.mem_of_getElem? (i := 314) (by decide +kernel)) rfl
theorem se_Po_runBackwards : Cond.selects RX6 y_Po_runBackwards y_Po_runBackwards ∈ lw_g := mg_t (List.mem_of_getElem? (i := 315) (by decide +kernel)) rfl
theorem sm_Po_valueAtMinus : sM y_Po_valueAtMinus c_Po_valueAtMinus 10 (some .long) 2 := ⟨mg_t (List.mem_of_getElem? (i := 391) (by decide +kernel)) rfl, mg_t (List.mem_of_getElem? (i := 3) (by decide +kernel)) rfl, by decide, by decide, by decide +kernel⟩
theorem im_Po_valueAtMinus : Cond.instanceMethod y_Po_valueAtMinus ∈ lw_g := mg_t (List.mem_of_getElem? (i := 389) (by decide +kernel)) rfl
theorem se_Po_valueAtMinus : Cond.selects RX6 y_Po_valueAtMinus y_Po_valueAtMinus ∈ lw_g := mg_t (List.mem_of_getElem? (i := 390) (by decide +kernel)) rfl
theorem sm_Po_divideByRoot : sM y_Po_divideByRoot c_Po_divideByRoot 10 none 2 := ⟨mg_t (List.mem_of_getElem? (i := 569) (by decide +kernel)) rfl, mg_t (List.mem_of_getElem? (i := 3) (by decide +kernel)) rfl, by decide, by decide, by decide +kernel⟩
theorem im_Po_divideByRoot : Cond.instanceMethod y_Po_divideByRoot ∈ lw_g := mg_t (List.mem_of_getElem? (i := 567) (by decide +kernel)) rfl
theorem se_Po_divideByRoot : Cond.selects RX6 y_Po_divideByRoot y_Po_divideByRoot ∈ lw_g := mg_t (List.mem_of_getElem? (i := 568) (by decide +kernel)) rfl
theorem sm_Re_init : sM y_Re_init c_Re_init 1 none 0 := ⟨mg_t (List.mem_of_getElem? (i := 208) (by decide +kernel)) rfl, mg_t (List.mem_of_getElem? (i := 11) (by decide +kernel)) rfl, by decide, by decide, by decide +kernel⟩
theorem im_Re_init : Cond.instanceMethod y_Re_init ∈ lw_g := mg_t (List.mem_of_getElem? (i := 207) (by decide +kernel)) rfl
theorem sm_Re_halfValue : sM y_Re_halfValue c_Re_halfValue 5 (some .long) 4 := ⟨mg_t (List.mem_of_getElem? (i := 383) (by decide +kernel)) rfl, mg_t (List.mem_of_getElem? (i := 11) (by decide +kernel)) rfl, by decide, by decide, by decide +kernel⟩
theorem im_Re_halfValue : Cond.instanceMethod y_Re_halfValue ∈ lw_g := mg_t (List.mem_of_getElem? (i := 382) (by decide +kernel)) rfl
theorem se_Re_halfValue : Cond.selects RX7 y_Re_halfValue y_Re_halfValue ∈ lw_g := mg_s (List.mem_of_getElem? (i := 2) (by decide +kernel)) rfl
theorem sm_Re_workOut : sM y_Re_workOut c_Re_workOut 9 (some .boolean) 3 := ⟨mg_t (List.mem_of_getElem? (i := 378) (by decide +kernel)) rfl, mg_t (List.mem_of_getElem? (i := 11) (by decide +kernel)) rfl, by decide, by decide, by decide +kernel⟩
theorem im_Re_workOut : Cond.instanceMethod y_Re_workOut ∈ lw_g := mg_t (List.mem_of_getElem? (i := 376) (by decide +kernel)) rfl
theorem se_Re_workOut : Cond.selects RX7 y_Re_workOut y_Re_workOut ∈ lw_g := mg_t (List.mem_of_getElem? (i := 377) (by decide +kernel)) rfl
theorem sm_Sh_init : sM y_Sh_init c_Sh_init 2 none 0 := ⟨mg_t (List.mem_of_getElem? (i := 193) (by decide +kernel)) rfl, mg_t (List.mem_of_getElem? (i := 10) (by decide +kernel)) rfl, by decide, by decide, by decide +kernel⟩
theorem im_Sh_init : Cond.instanceMethod y_Sh_init ∈ lw_g := mg_t (List.mem_of_getElem? (i := 192) (by decide +kernel)) rfl
theorem sm_Sh_isSheet : sM y_Sh_isSheet c_Sh_isSheet 2 (some .boolean) 1 := ⟨mg_t (List.mem_of_getElem? (i := 330) (by decide +kernel)) rfl, mg_t (List.mem_of_getElem? (i := 10) (by decide +kernel)) rfl, by decide, by decide, by decide +kernel⟩
theorem im_Sh_isSheet : Cond.instanceMethod y_Sh_isSheet ∈ lw_g := mg_t (List.mem_of_getElem? (i := 328) (by decide +kernel)) rfl
theorem se_Sh_isSheet : Cond.selects RX8 y_Sh_isSheet y_Sh_isSheet ∈ lw_g := mg_t (List.mem_of_getElem? (i := 329) (by decide +kernel)) rfl
theorem sm_Sh_size : sM y_Sh_size c_Sh_size 2 (some .int) 1 := ⟨mg_t (List.mem_of_getElem? (i := 338) (by decide +kernel)) rfl, mg_t (List.mem_of_getElem? (i := 10) (by decide +kernel)) rfl, by decide, by decide, by decide +kernel⟩
theorem im_Sh_size : Cond.instanceMethod y_Sh_size ∈ lw_g := mg_t (List.mem_of_getElem? (i := 336) (by decide +kernel)) rfl
theorem se_Sh_size : Cond.selects RX8 y_Sh_size y_Sh_size ∈ lw_g := mg_t (List.mem_of_getElem? (i := 337) (by decide +kernel)) rfl
theorem sm_Sh_isLost : sM y_Sh_isLost c_Sh_isLost 2 (some .boolean) 1 := ⟨mg_t (List.mem_of_getElem? (i := 334) (by decide +kernel)) rfl, mg_t (List.mem_of_getElem? (i := 10) (by decide +kernel)) rfl, by decide, by decide, by decide +kernel⟩
theorem im_Sh_isLost : Cond.instanceMethod y_Sh_isLost ∈ lw_g := mg_t (List.mem_of_getElem? (i := 332) (by decide +kernel)) rfl
theorem se_Sh_isLost : Cond.selects RX8 y_Sh_isLost y_Sh_isLost ∈ lw_g := mg_t (List.mem_of_getElem? (i := 333) (by decide +kernel)) rfl
theorem sm_Sh_notLost : sM y_Sh_notLost c_Sh_notLost 3 (some .int) 0 := ⟨mg_t (List.mem_of_getElem? (i := 740) (by decide +kernel)) rfl, mg_t (List.mem_of_getElem? (i := 10) (by decide +kernel)) rfl, by decide, by decide, by decide +kernel⟩
theorem im_Sh_notLost : Cond.instanceMethod y_Sh_notLost ∈ lw_g := mg_t (List.mem_of_getElem? (i := 738) (by decide +kernel)) rfl
theorem se_Sh_notLost : Cond.selects RX8 y_Sh_notLost y_Sh_notLost ∈ lw_g := mg_t (List.mem_of_getElem? (i := 739) (by decide +kernel)) rfl
theorem sm_Sh_renew : sM y_Sh_renew c_Sh_renew 4 none 2 := ⟨mg_t (List.mem_of_getElem? (i := 685) (by decide +kernel)) rfl, mg_t (List.mem_of_getElem? (i := 10) (by decide +kernel)) rfl, by decide, by decide, by decide +kernel⟩
theorem im_Sh_renew : Cond.instanceMethod y_Sh_renew ∈ lw_g := mg_t (List.mem_of_getElem? (i := 683) (by decide +kernel)) rfl
theorem se_Sh_renew : Cond.selects RX8 y_Sh_renew y_Sh_renew ∈ lw_g := mg_t (List.mem_of_getElem? (i := 684) (by decide +kernel)) rfl
theorem sm_Sh_forget : sM y_Sh_forget c_Sh_forget 2 none 1 := ⟨mg_t (List.mem_of_getElem? (i := 694) (by decide +kernel)) rfl, mg_t (List.mem_of_getElem? (i := 10) (by decide +kernel)) rfl, by decide, by decide, by decide +kernel⟩
theorem im_Sh_forget : Cond.instanceMethod y_Sh_forget ∈ lw_g := mg_t (List.mem_of_getElem? (i := 692) (by decide +kernel)) rfl
theorem se_Sh_forget : Cond.selects RX8 y_Sh_forget y_Sh_forget ∈ lw_g := mg_t (List.mem_of_getElem? (i := 693) (by decide +kernel)) rfl
theorem sm_Sh_hasRun : sM y_Sh_hasRun c_Sh_hasRun 4 (some .boolean) 3 := ⟨mg_t (List.mem_of_getElem? (i := 347) (by decide +kernel)) rfl, mg_t (List.mem_of_getElem? (i := 10) (by decide +kernel)) rfl, by decide, by decide, by decide +kernel⟩
theorem im_Sh_hasRun : Cond.instanceMethod y_Sh_hasRun ∈ lw_g := mg_t (List.mem_of_getElem? (i := 345) (by decide +kernel)) rfl
theorem se_Sh_hasRun : Cond.selects RX8 y_Sh_hasRun y_Sh_hasRun ∈ lw_g := mg_t (List.mem_of_getElem? (i := 346) (by decide +kernel)) rfl
theorem sm_Sh_item : sM y_Sh_item c_Sh_item 3 (some .long) 2 := ⟨mg_t (List.mem_of_getElem? (i := 351) (by decide +kernel)) rfl, mg_t (List.mem_of_getElem? (i := 10) (by decide +kernel)) rfl, by decide, by decide, by decide +kernel⟩
theorem im_Sh_item : Cond.instanceMethod y_Sh_item ∈ lw_g := mg_t (List.mem_of_getElem? (i := 349) (by decide +kernel)) rfl
theorem se_Sh_item : Cond.selects RX8 y_Sh_item y_Sh_item ∈ lw_g := mg_t (List.mem_of_getElem? (i := 350) (by decide +kernel)) rfl
theorem sm_Sh_put : sM y_Sh_put c_Sh_put 5 none 3 := ⟨mg_t (List.mem_of_getElem? (i := 706) (by decide +kernel)) rfl, mg_t (List.mem_of_getElem? (i := 10) (by decide +kernel)) rfl, by decide, by decide, by decide +kernel⟩
theorem im_Sh_put : Cond.instanceMethod y_Sh_put ∈ lw_g := mg_t (List.mem_of_getElem? (i := 704) (by decide +kernel)) rfl
theorem se_Sh_put : Cond.selects RX8 y_Sh_put y_Sh_put ∈ lw_g := mg_t (List.mem_of_getElem? (i := 705) (by decide +kernel)) rfl
theorem sm_Sh_move : sM y_Sh_move c_Sh_move 6 none 5 := ⟨mg_t (List.mem_of_getElem? (i := 718) (by decide +kernel)) rfl, mg_t (List.mem_of_getElem? (i := 10) (by decide +kernel)) rfl, by decide, by decide, by decide +kernel⟩
theorem im_Sh_move : Cond.instanceMethod y_Sh_move ∈ lw_g := mg_t (List.mem_of_getElem? (i := 716) (by decide +kernel)) rfl
theorem se_Sh_move : Cond.selects RX8 y_Sh_move y_Sh_move ∈ lw_g := mg_t (List.mem_of_getElem? (i := 717) (by decide +kernel)) rfl
theorem sm_Un_init : sM y_Un_init c_Un_init 1 none 0 := ⟨mg_t (List.mem_of_getElem? (i := 95) (by decide +kernel)) rfl, mg_t (List.mem_of_getElem? (i := 6) (by decide +kernel)) rfl, by decide, by decide, by decide +kernel⟩
theorem im_Un_init : Cond.instanceMethod y_Un_init ∈ lw_g := mg_t (List.mem_of_getElem? (i := 94) (by decide +kernel)) rfl
theorem sm_Un_begin : sM y_Un_begin c_Un_begin 2 none 1 := ⟨mg_t (List.mem_of_getElem? (i := 500) (by decide +kernel)) rfl, mg_t (List.mem_of_getElem? (i := 6) (by decide +kernel)) rfl, by decide, by decide, by decide +kernel⟩
theorem im_Un_begin : Cond.instanceMethod y_Un_begin ∈ lw_g := mg_t (List.mem_of_getElem? (i := 499) (by decide +kernel)) rfl
theorem se_Un_begin : Cond.selects RX9 y_Un_begin y_Un_begin ∈ lw_g := mg_s (List.mem_of_getElem? (i := 7) (by decide +kernel)) rfl
theorem sm_Un_endOf : sM y_Un_endOf c_Un_endOf 2 (some .int) 2 := ⟨mg_t (List.mem_of_getElem? (i := 508) (by decide +kernel)) rfl, mg_t (List.mem_of_getElem? (i := 6) (by decide +kernel)) rfl, by decide, by decide, by decide +kernel⟩
theorem st_Un_endOf : Cond.static y_Un_endOf ∈ lw_g := mg_t (List.mem_of_getElem? (i := 507) (by decide +kernel)) rfl
theorem sm_Un_unlawful : sM y_Un_unlawful c_Un_unlawful 1 (some .int) 1 := ⟨mg_t (List.mem_of_getElem? (i := 516) (by decide +kernel)) rfl, mg_t (List.mem_of_getElem? (i := 6) (by decide +kernel)) rfl, by decide, by decide, by decide +kernel⟩
theorem st_Un_unlawful : Cond.static y_Un_unlawful ∈ lw_g := mg_t (List.mem_of_getElem? (i := 515) (by decide +kernel)) rfl
theorem sm_Un_addRising : sM y_Un_addRising c_Un_addRising 4 none 1 := ⟨mg_t (List.mem_of_getElem? (i := 525) (by decide +kernel)) rfl, mg_t (List.mem_of_getElem? (i := 6) (by decide +kernel)) rfl, by decide, by decide, by decide +kernel⟩
theorem im_Un_addRising : Cond.instanceMethod y_Un_addRising ∈ lw_g := mg_t (List.mem_of_getElem? (i := 524) (by decide +kernel)) rfl
theorem se_Un_addRising : Cond.selects RX9 y_Un_addRising y_Un_addRising ∈ lw_g := mg_s (List.mem_of_getElem? (i := 8) (by decide +kernel)) rfl
theorem sm_Un_addFalling : sM y_Un_addFalling c_Un_addFalling 4 none 1 := ⟨mg_t (List.mem_of_getElem? (i := 530) (by decide +kernel)) rfl, mg_t (List.mem_of_getElem? (i := 6) (by decide +kernel)) rfl, by decide, by decide, by decide +kernel⟩
theorem im_Un_addFalling : Cond.instanceMethod y_Un_addFalling ∈ lw_g := mg_t (List.mem_of_getElem? (i := 529) (by decide +kernel)) rfl
theorem se_Un_addFalling : Cond.selects RX9 y_Un_addFalling y_Un_addFalling ∈ lw_g := mg_s (List.mem_of_getElem? (i := 9) (by decide +kernel)) rfl
theorem sm_Un_divideOn : sM y_Un_divideOn c_Un_divideOn 7 (some .int) 2 := ⟨mg_t (List.mem_of_getElem? (i := 496) (by decide +kernel)) rfl, mg_t (List.mem_of_getElem? (i := 6) (by decide +kernel)) rfl, by decide, by decide, by decide +kernel⟩
theorem im_Un_divideOn : Cond.instanceMethod y_Un_divideOn ∈ lw_g := mg_t (List.mem_of_getElem? (i := 494) (by decide +kernel)) rfl
theorem se_Un_divideOn : Cond.selects RX9 y_Un_divideOn y_Un_divideOn ∈ lw_g := mg_t (List.mem_of_getElem? (i := 495) (by decide +kernel)) rfl
theorem sm_Un_loadInX : sM y_Un_loadInX c_Un_loadInX 3 none 0 := ⟨mg_t (List.mem_of_getElem? (i := 549) (by decide +kernel)) rfl, mg_t (List.mem_of_getElem? (i := 6) (by decide +kernel)) rfl, by decide, by decide, by decide +kernel⟩
theorem im_Un_loadInX : Cond.instanceMethod y_Un_loadInX ∈ lw_g := mg_t (List.mem_of_getElem? (i := 548) (by decide +kernel)) rfl
theorem se_Un_loadInX : Cond.selects RX9 y_Un_loadInX y_Un_loadInX ∈ lw_g := mg_s (List.mem_of_getElem? (i := 10) (by decide +kernel)) rfl
theorem sm_Un_timesInRest : sM y_Un_timesInRest c_Un_timesInRest 4 (some .int) 2 := ⟨mg_t (List.mem_of_getElem? (i := 565) (by decide +kernel)) rfl, mg_t (List.mem_of_getElem? (i := 6) (by decide +kernel)) rfl, by decide, by decide, by decide +kernel⟩
theorem im_Un_timesInRest : Cond.instanceMethod y_Un_timesInRest ∈ lw_g := mg_t (List.mem_of_getElem? (i := 564) (by decide +kernel)) rfl
theorem se_Un_timesInRest : Cond.selects RX9 y_Un_timesInRest y_Un_timesInRest ∈ lw_g := mg_s (List.mem_of_getElem? (i := 12) (by decide +kernel)) rfl
theorem sm_Un_addRoot : sM y_Un_addRoot c_Un_addRoot 5 none 3 := ⟨mg_t (List.mem_of_getElem? (i := 573) (by decide +kernel)) rfl, mg_t (List.mem_of_getElem? (i := 6) (by decide +kernel)) rfl, by decide, by decide, by decide +kernel⟩
theorem im_Un_addRoot : Cond.instanceMethod y_Un_addRoot ∈ lw_g := mg_t (List.mem_of_getElem? (i := 572) (by decide +kernel)) rfl
theorem se_Un_addRoot : Cond.selects RX9 y_Un_addRoot y_Un_addRoot ∈ lw_g := mg_s (List.mem_of_getElem? (i := 13) (by decide +kernel)) rfl
theorem sm_Un_findRoots : sM y_Un_findRoots c_Un_findRoots 3 none 0 := ⟨mg_t (List.mem_of_getElem? (i := 558) (by decide +kernel)) rfl, mg_t (List.mem_of_getElem? (i := 6) (by decide +kernel)) rfl, by decide, by decide, by decide +kernel⟩
theorem im_Un_findRoots : Cond.instanceMethod y_Un_findRoots ∈ lw_g := mg_t (List.mem_of_getElem? (i := 557) (by decide +kernel)) rfl
theorem se_Un_findRoots : Cond.selects RX9 y_Un_findRoots y_Un_findRoots ∈ lw_g := mg_s (List.mem_of_getElem? (i := 11) (by decide +kernel)) rfl
theorem sm_Un_poleAtGreatest : sM y_Un_poleAtGreatest c_Un_poleAtGreatest 4 (some .int) 1 := ⟨mg_t (List.mem_of_getElem? (i := 577) (by decide +kernel)) rfl, mg_t (List.mem_of_getElem? (i := 6) (by decide +kernel)) rfl, by decide, by decide, by decide +kernel⟩
theorem im_Un_poleAtGreatest : Cond.instanceMethod y_Un_poleAtGreatest ∈ lw_g := mg_t (List.mem_of_getElem? (i := 576) (by decide +kernel)) rfl
theorem se_Un_poleAtGreatest : Cond.selects RX9 y_Un_poleAtGreatest y_Un_poleAtGreatest ∈ lw_g := mg_s (List.mem_of_getElem? (i := 14) (by decide +kernel)) rfl
theorem sm_Un_poleAtZero : sM y_Un_poleAtZero c_Un_poleAtZero 2 (some .int) 1 := ⟨mg_t (List.mem_of_getElem? (i := 581) (by decide +kernel)) rfl, mg_t (List.mem_of_getElem? (i := 6) (by decide +kernel)) rfl, by decide, by decide, by decide +kernel⟩
theorem im_Un_poleAtZero : Cond.instanceMethod y_Un_poleAtZero ∈ lw_g := mg_t (List.mem_of_getElem? (i := 580) (by decide +kernel)) rfl
theorem se_Un_poleAtZero : Cond.selects RX9 y_Un_poleAtZero y_Un_poleAtZero ∈ lw_g := mg_s (List.mem_of_getElem? (i := 15) (by decide +kernel)) rfl
theorem sm_Un_addBoth : sM y_Un_addBoth c_Un_addBoth 6 none 1 := ⟨mg_t (List.mem_of_getElem? (i := 589) (by decide +kernel)) rfl, mg_t (List.mem_of_getElem? (i := 6) (by decide +kernel)) rfl, by decide, by decide, by decide +kernel⟩
theorem im_Un_addBoth : Cond.instanceMethod y_Un_addBoth ∈ lw_g := mg_t (List.mem_of_getElem? (i := 588) (by decide +kernel)) rfl
theorem se_Un_addBoth : Cond.selects RX9 y_Un_addBoth y_Un_addBoth ∈ lw_g := mg_s (List.mem_of_getElem? (i := 17) (by decide +kernel)) rfl
theorem sm_Un_poleAtRoot : sM y_Un_poleAtRoot c_Un_poleAtRoot 5 (some .int) 2 := ⟨mg_t (List.mem_of_getElem? (i := 585) (by decide +kernel)) rfl, mg_t (List.mem_of_getElem? (i := 6) (by decide +kernel)) rfl, by decide, by decide, by decide +kernel⟩
theorem im_Un_poleAtRoot : Cond.instanceMethod y_Un_poleAtRoot ∈ lw_g := mg_t (List.mem_of_getElem? (i := 584) (by decide +kernel)) rfl
theorem se_Un_poleAtRoot : Cond.selects RX9 y_Un_poleAtRoot y_Un_poleAtRoot ∈ lw_g := mg_s (List.mem_of_getElem? (i := 16) (by decide +kernel)) rfl
theorem sm_Un_divideByPoles : sM y_Un_divideByPoles c_Un_divideByPoles 5 (some .int) 2 := ⟨mg_t (List.mem_of_getElem? (i := 545) (by decide +kernel)) rfl, mg_t (List.mem_of_getElem? (i := 6) (by decide +kernel)) rfl, by decide, by decide, by decide +kernel⟩
theorem im_Un_divideByPoles : Cond.instanceMethod y_Un_divideByPoles ∈ lw_g := mg_t (List.mem_of_getElem? (i := 543) (by decide +kernel)) rfl
theorem se_Un_divideByPoles : Cond.selects RX9 y_Un_divideByPoles y_Un_divideByPoles ∈ lw_g := mg_t (List.mem_of_getElem? (i := 544) (by decide +kernel)) rfl
theorem sm_Lm_init : sM y_Lm_init c_Lm_init 1 none 0 := ⟨mg_t (List.mem_of_getElem? (i := 19) (by decide +kernel)) rfl, mg_t (List.mem_of_getElem? (i := 1) (by decide +kernel)) rfl, by decide, by decide, by decide +kernel⟩
theorem im_Lm_init : Cond.instanceMethod y_Lm_init ∈ lw_g := mg_t (List.mem_of_getElem? (i := 18) (by decide +kernel)) rfl
theorem sm_Lm_isPlace : sM y_Lm_isPlace c_Lm_isPlace 1 (some .boolean) 1 := ⟨mg_t (List.mem_of_getElem? (i := 256) (by decide +kernel)) rfl, mg_t (List.mem_of_getElem? (i := 1) (by decide +kernel)) rfl, by decide, by decide, by decide +kernel⟩
theorem st_Lm_isPlace : Cond.static y_Lm_isPlace ∈ lw_g := mg_t (List.mem_of_getElem? (i := 255) (by decide +kernel)) rfl
theorem sm_Lm_isPower : sM y_Lm_isPower c_Lm_isPower 1 (some .boolean) 1 := ⟨mg_t (List.mem_of_getElem? (i := 259) (by decide +kernel)) rfl, mg_t (List.mem_of_getElem? (i := 1) (by decide +kernel)) rfl, by decide, by decide, by decide +kernel⟩
theorem st_Lm_isPower : Cond.static y_Lm_isPower ∈ lw_g := mg_t (List.mem_of_getElem? (i := 258) (by decide +kernel)) rfl
theorem sm_Lm_isWishNumber : sM y_Lm_isWishNumber c_Lm_isWishNumber 2 (some .boolean) 1 := ⟨mg_t (List.mem_of_getElem? (i := 262) (by decide +kernel)) rfl, mg_t (List.mem_of_getElem? (i := 1) (by decide +kernel)) rfl, by decide, by decide, by decide +kernel⟩
theorem st_Lm_isWishNumber : Cond.static y_Lm_isWishNumber ∈ lw_g := mg_t (List.mem_of_getElem? (i := 261) (by decide +kernel)) rfl
theorem sm_Lm_tell : sM y_Lm_tell c_Lm_tell 6 (some .int) 3 := ⟨mg_t (List.mem_of_getElem? (i := 253) (by decide +kernel)) rfl, mg_t (List.mem_of_getElem? (i := 1) (by decide +kernel)) rfl, by decide, by decide, by decide +kernel⟩
theorem im_Lm_tell : Cond.instanceMethod y_Lm_tell ∈ lw_g := mg_t (List.mem_of_getElem? (i := 251) (by decide +kernel)) rfl
theorem se_Lm_tell : Cond.selects RX10 y_Lm_tell y_Lm_tell ∈ lw_g := mg_t (List.mem_of_getElem? (i := 252) (by decide +kernel)) rfl
theorem sm_Lm_told : sM y_Lm_told c_Lm_told 3 (some .int) 2 := ⟨mg_t (List.mem_of_getElem? (i := 281) (by decide +kernel)) rfl, mg_t (List.mem_of_getElem? (i := 1) (by decide +kernel)) rfl, by decide, by decide, by decide +kernel⟩
theorem im_Lm_told : Cond.instanceMethod y_Lm_told ∈ lw_g := mg_t (List.mem_of_getElem? (i := 279) (by decide +kernel)) rfl
theorem se_Lm_told : Cond.selects RX10 y_Lm_told y_Lm_told ∈ lw_g := mg_t (List.mem_of_getElem? (i := 280) (by decide +kernel)) rfl
theorem sm_Lm_turn : sM y_Lm_turn c_Lm_turn 1 (some .int) 0 := ⟨mg_t (List.mem_of_getElem? (i := 285) (by decide +kernel)) rfl, mg_t (List.mem_of_getElem? (i := 1) (by decide +kernel)) rfl, by decide, by decide, by decide +kernel⟩
theorem im_Lm_turn : Cond.instanceMethod y_Lm_turn ∈ lw_g := mg_t (List.mem_of_getElem? (i := 283) (by decide +kernel)) rfl
theorem se_Lm_turn : Cond.selects RX10 y_Lm_turn y_Lm_turn ∈ lw_g := mg_t (List.mem_of_getElem? (i := 284) (by decide +kernel)) rfl
theorem sm_Lm_reverse : sM y_Lm_reverse c_Lm_reverse 2 (some .int) 0 := ⟨mg_t (List.mem_of_getElem? (i := 301) (by decide +kernel)) rfl, mg_t (List.mem_of_getElem? (i := 1) (by decide +kernel)) rfl, by decide, by decide, by decide +kernel⟩
theorem im_Lm_reverse : Cond.instanceMethod y_Lm_reverse ∈ lw_g := mg_t (List.mem_of_getElem? (i := 299) (by decide +kernel)) rfl
theorem se_Lm_reverse : Cond.selects RX10 y_Lm_reverse y_Lm_reverse ∈ lw_g := mg_t (List.mem_of_getElem? (i := 300) (by decide +kernel)) rfl
theorem sm_Lm_finding : sM y_Lm_finding c_Lm_finding 2 (some .int) 1 := ⟨mg_t (List.mem_of_getElem? (i := 343) (by decide +kernel)) rfl, mg_t (List.mem_of_getElem? (i := 1) (by decide +kernel)) rfl, by decide, by decide, by decide +kernel⟩
theorem im_Lm_finding : Cond.instanceMethod y_Lm_finding ∈ lw_g := mg_t (List.mem_of_getElem? (i := 342) (by decide +kernel)) rfl
theorem se_Lm_finding : Cond.selects RX10 y_Lm_finding y_Lm_finding ∈ lw_g := mg_s (List.mem_of_getElem? (i := 1) (by decide +kernel)) rfl
theorem sm_Lm_sheetRefusal : sM y_Lm_sheetRefusal c_Lm_sheetRefusal 2 (some .int) 1 := ⟨mg_t (List.mem_of_getElem? (i := 326) (by decide +kernel)) rfl, mg_t (List.mem_of_getElem? (i := 1) (by decide +kernel)) rfl, by decide, by decide, by decide +kernel⟩
theorem im_Lm_sheetRefusal : Cond.instanceMethod y_Lm_sheetRefusal ∈ lw_g := mg_t (List.mem_of_getElem? (i := 325) (by decide +kernel)) rfl
theorem se_Lm_sheetRefusal : Cond.selects RX10 y_Lm_sheetRefusal y_Lm_sheetRefusal ∈ lw_g := mg_s (List.mem_of_getElem? (i := 0) (by decide +kernel)) rfl
theorem sm_Lm_read : sM y_Lm_read c_Lm_read 5 (some .int) 2 := ⟨mg_t (List.mem_of_getElem? (i := 322) (by decide +kernel)) rfl, mg_t (List.mem_of_getElem? (i := 1) (by decide +kernel)) rfl, by decide, by decide, by decide +kernel⟩
theorem im_Lm_read : Cond.instanceMethod y_Lm_read ∈ lw_g := mg_t (List.mem_of_getElem? (i := 320) (by decide +kernel)) rfl
theorem se_Lm_read : Cond.selects RX10 y_Lm_read y_Lm_read ∈ lw_g := mg_t (List.mem_of_getElem? (i := 321) (by decide +kernel)) rfl
theorem sm_Lm_info : sM y_Lm_info c_Lm_info 2 (some .int) 1 := ⟨mg_t (List.mem_of_getElem? (i := 361) (by decide +kernel)) rfl, mg_t (List.mem_of_getElem? (i := 1) (by decide +kernel)) rfl, by decide, by decide, by decide +kernel⟩
theorem im_Lm_info : Cond.instanceMethod y_Lm_info ∈ lw_g := mg_t (List.mem_of_getElem? (i := 359) (by decide +kernel)) rfl
theorem se_Lm_info : Cond.selects RX10 y_Lm_info y_Lm_info ∈ lw_g := mg_t (List.mem_of_getElem? (i := 360) (by decide +kernel)) rfl
theorem sm_Lm_asLong : sM y_Lm_asLong c_Lm_asLong 1 (some .long) 1 := ⟨mg_t (List.mem_of_getElem? (i := 373) (by decide +kernel)) rfl, mg_t (List.mem_of_getElem? (i := 1) (by decide +kernel)) rfl, by decide, by decide, by decide +kernel⟩
theorem st_Lm_asLong : Cond.static y_Lm_asLong ∈ lw_g := mg_t (List.mem_of_getElem? (i := 372) (by decide +kernel)) rfl
theorem sm_Lm_reactance : sM y_Lm_reactance c_Lm_reactance 4 (some .long) 3 := ⟨mg_t (List.mem_of_getElem? (i := 370) (by decide +kernel)) rfl, mg_t (List.mem_of_getElem? (i := 1) (by decide +kernel)) rfl, by decide, by decide, by decide +kernel⟩
theorem im_Lm_reactance : Cond.instanceMethod y_Lm_reactance ∈ lw_g := mg_t (List.mem_of_getElem? (i := 368) (by decide +kernel)) rfl
theorem se_Lm_reactance : Cond.selects RX10 y_Lm_reactance y_Lm_reactance ∈ lw_g := mg_t (List.mem_of_getElem? (i := 369) (by decide +kernel)) rfl
theorem sm_Lm_ladderChanged : sM y_Lm_ladderChanged c_Lm_ladderChanged 1 none 0 := ⟨mg_t (List.mem_of_getElem? (i := 418) (by decide +kernel)) rfl, mg_t (List.mem_of_getElem? (i := 1) (by decide +kernel)) rfl, by decide, by decide, by decide +kernel⟩
theorem im_Lm_ladderChanged : Cond.instanceMethod y_Lm_ladderChanged ∈ lw_g := mg_t (List.mem_of_getElem? (i := 417) (by decide +kernel)) rfl
theorem se_Lm_ladderChanged : Cond.selects RX10 y_Lm_ladderChanged y_Lm_ladderChanged ∈ lw_g := mg_s (List.mem_of_getElem? (i := 3) (by decide +kernel)) rfl
theorem sm_Lm_arm : sM y_Lm_arm c_Lm_arm 6 (some .int) 3 := ⟨mg_t (List.mem_of_getElem? (i := 406) (by decide +kernel)) rfl, mg_t (List.mem_of_getElem? (i := 1) (by decide +kernel)) rfl, by decide, by decide, by decide +kernel⟩
theorem im_Lm_arm : Cond.instanceMethod y_Lm_arm ∈ lw_g := mg_t (List.mem_of_getElem? (i := 404) (by decide +kernel)) rfl
theorem se_Lm_arm : Cond.selects RX10 y_Lm_arm y_Lm_arm ∈ lw_g := mg_t (List.mem_of_getElem? (i := 405) (by decide +kernel)) rfl
theorem sm_Lm_back : sM y_Lm_back c_Lm_back 1 (some .int) 0 := ⟨mg_t (List.mem_of_getElem? (i := 480) (by decide +kernel)) rfl, mg_t (List.mem_of_getElem? (i := 1) (by decide +kernel)) rfl, by decide, by decide, by decide +kernel⟩
theorem im_Lm_back : Cond.instanceMethod y_Lm_back ∈ lw_g := mg_t (List.mem_of_getElem? (i := 478) (by decide +kernel)) rfl
theorem se_Lm_back : Cond.selects RX10 y_Lm_back y_Lm_back ∈ lw_g := mg_t (List.mem_of_getElem? (i := 479) (by decide +kernel)) rfl
theorem sm_Lm_would : sM y_Lm_would c_Lm_would 2 (some .int) 1 := ⟨mg_t (List.mem_of_getElem? (i := 492) (by decide +kernel)) rfl, mg_t (List.mem_of_getElem? (i := 1) (by decide +kernel)) rfl, by decide, by decide, by decide +kernel⟩
theorem im_Lm_would : Cond.instanceMethod y_Lm_would ∈ lw_g := mg_t (List.mem_of_getElem? (i := 490) (by decide +kernel)) rfl
theorem se_Lm_would : Cond.selects RX10 y_Lm_would y_Lm_would ∈ lw_g := mg_t (List.mem_of_getElem? (i := 491) (by decide +kernel)) rfl
theorem sm_Lm_unfold : sM y_Lm_unfold c_Lm_unfold 3 (some .int) 1 := ⟨mg_t (List.mem_of_getElem? (i := 488) (by decide +kernel)) rfl, mg_t (List.mem_of_getElem? (i := 1) (by decide +kernel)) rfl, by decide, by decide, by decide +kernel⟩
theorem im_Lm_unfold : Cond.instanceMethod y_Lm_unfold ∈ lw_g := mg_t (List.mem_of_getElem? (i := 486) (by decide +kernel)) rfl
theorem se_Lm_unfold : Cond.selects RX10 y_Lm_unfold y_Lm_unfold ∈ lw_g := mg_t (List.mem_of_getElem? (i := 487) (by decide +kernel)) rfl
theorem sm_Lm_element : sM y_Lm_element c_Lm_element 3 (some .int) 2 := ⟨mg_t (List.mem_of_getElem? (i := 599) (by decide +kernel)) rfl, mg_t (List.mem_of_getElem? (i := 1) (by decide +kernel)) rfl, by decide, by decide, by decide +kernel⟩
theorem im_Lm_element : Cond.instanceMethod y_Lm_element ∈ lw_g := mg_t (List.mem_of_getElem? (i := 597) (by decide +kernel)) rfl
theorem se_Lm_element : Cond.selects RX10 y_Lm_element y_Lm_element ∈ lw_g := mg_t (List.mem_of_getElem? (i := 598) (by decide +kernel)) rfl
theorem sm_Lm_fold : sM y_Lm_fold c_Lm_fold 3 (some .long) 2 := ⟨mg_t (List.mem_of_getElem? (i := 604) (by decide +kernel)) rfl, mg_t (List.mem_of_getElem? (i := 1) (by decide +kernel)) rfl, by decide, by decide, by decide +kernel⟩
theorem im_Lm_fold : Cond.instanceMethod y_Lm_fold ∈ lw_g := mg_t (List.mem_of_getElem? (i := 602) (by decide +kernel)) rfl
theorem se_Lm_fold : Cond.selects RX10 y_Lm_fold y_Lm_fold ∈ lw_g := mg_t (List.mem_of_getElem? (i := 603) (by decide +kernel)) rfl
theorem sm_Lm_alike : sM y_Lm_alike c_Lm_alike 1 (some .int) 0 := ⟨mg_t (List.mem_of_getElem? (i := 608) (by decide +kernel)) rfl, mg_t (List.mem_of_getElem? (i := 1) (by decide +kernel)) rfl, by decide, by decide, by decide +kernel⟩
theorem im_Lm_alike : Cond.instanceMethod y_Lm_alike ∈ lw_g := mg_t (List.mem_of_getElem? (i := 606) (by decide +kernel)) rfl
theorem se_Lm_alike : Cond.selects RX10 y_Lm_alike y_Lm_alike ∈ lw_g := mg_t (List.mem_of_getElem? (i := 607) (by decide +kernel)) rfl
theorem sm_Lm_take : sM y_Lm_take c_Lm_take 2 (some .int) 0 := ⟨mg_t (List.mem_of_getElem? (i := 616) (by decide +kernel)) rfl, mg_t (List.mem_of_getElem? (i := 1) (by decide +kernel)) rfl, by decide, by decide, by decide +kernel⟩
theorem im_Lm_take : Cond.instanceMethod y_Lm_take ∈ lw_g := mg_t (List.mem_of_getElem? (i := 614) (by decide +kernel)) rfl
theorem se_Lm_take : Cond.selects RX10 y_Lm_take y_Lm_take ∈ lw_g := mg_t (List.mem_of_getElem? (i := 615) (by decide +kernel)) rfl
theorem sm_Lm_bill : sM y_Lm_bill c_Lm_bill 3 (some .int) 2 := ⟨mg_t (List.mem_of_getElem? (i := 622) (by decide +kernel)) rfl, mg_t (List.mem_of_getElem? (i := 1) (by decide +kernel)) rfl, by decide, by decide, by decide +kernel⟩
theorem im_Lm_bill : Cond.instanceMethod y_Lm_bill ∈ lw_g := mg_t (List.mem_of_getElem? (i := 620) (by decide +kernel)) rfl
theorem se_Lm_bill : Cond.selects RX10 y_Lm_bill y_Lm_bill ∈ lw_g := mg_t (List.mem_of_getElem? (i := 621) (by decide +kernel)) rfl
theorem sm_Lm_values : sM y_Lm_values c_Lm_values 1 (some .int) 0 := ⟨mg_t (List.mem_of_getElem? (i := 630) (by decide +kernel)) rfl, mg_t (List.mem_of_getElem? (i := 1) (by decide +kernel)) rfl, by decide, by decide, by decide +kernel⟩
theorem im_Lm_values : Cond.instanceMethod y_Lm_values ∈ lw_g := mg_t (List.mem_of_getElem? (i := 628) (by decide +kernel)) rfl
theorem se_Lm_values : Cond.selects RX10 y_Lm_values y_Lm_values ∈ lw_g := mg_t (List.mem_of_getElem? (i := 629) (by decide +kernel)) rfl
theorem sm_Lm_keep : sM y_Lm_keep c_Lm_keep 1 (some .int) 0 := ⟨mg_t (List.mem_of_getElem? (i := 639) (by decide +kernel)) rfl, mg_t (List.mem_of_getElem? (i := 1) (by decide +kernel)) rfl, by decide, by decide, by decide +kernel⟩
theorem im_Lm_keep : Cond.instanceMethod y_Lm_keep ∈ lw_g := mg_t (List.mem_of_getElem? (i := 637) (by decide +kernel)) rfl
theorem se_Lm_keep : Cond.selects RX10 y_Lm_keep y_Lm_keep ∈ lw_g := mg_t (List.mem_of_getElem? (i := 638) (by decide +kernel)) rfl
theorem sm_Lm_find : sM y_Lm_find c_Lm_find 1 (some .int) 0 := ⟨mg_t (List.mem_of_getElem? (i := 666) (by decide +kernel)) rfl, mg_t (List.mem_of_getElem? (i := 1) (by decide +kernel)) rfl, by decide, by decide, by decide +kernel⟩
theorem im_Lm_find : Cond.instanceMethod y_Lm_find ∈ lw_g := mg_t (List.mem_of_getElem? (i := 664) (by decide +kernel)) rfl
theorem se_Lm_find : Cond.selects RX10 y_Lm_find y_Lm_find ∈ lw_g := mg_t (List.mem_of_getElem? (i := 665) (by decide +kernel)) rfl
theorem sm_Lm_kept : sM y_Lm_kept c_Lm_kept 3 (some .int) 2 := ⟨mg_t (List.mem_of_getElem? (i := 671) (by decide +kernel)) rfl, mg_t (List.mem_of_getElem? (i := 1) (by decide +kernel)) rfl, by decide, by decide, by decide +kernel⟩
theorem im_Lm_kept : Cond.instanceMethod y_Lm_kept ∈ lw_g := mg_t (List.mem_of_getElem? (i := 669) (by decide +kernel)) rfl
theorem se_Lm_kept : Cond.selects RX10 y_Lm_kept y_Lm_kept ∈ lw_g := mg_t (List.mem_of_getElem? (i := 670) (by decide +kernel)) rfl
theorem sm_Lm_recall : sM y_Lm_recall c_Lm_recall 3 (some .int) 1 := ⟨mg_t (List.mem_of_getElem? (i := 677) (by decide +kernel)) rfl, mg_t (List.mem_of_getElem? (i := 1) (by decide +kernel)) rfl, by decide, by decide, by decide +kernel⟩
theorem im_Lm_recall : Cond.instanceMethod y_Lm_recall ∈ lw_g := mg_t (List.mem_of_getElem? (i := 675) (by decide +kernel)) rfl
theorem se_Lm_recall : Cond.selects RX10 y_Lm_recall y_Lm_recall ∈ lw_g := mg_t (List.mem_of_getElem? (i := 676) (by decide +kernel)) rfl
theorem sm_Lm_sheet : sM y_Lm_sheet c_Lm_sheet 3 (some .int) 2 := ⟨mg_t (List.mem_of_getElem? (i := 681) (by decide +kernel)) rfl, mg_t (List.mem_of_getElem? (i := 1) (by decide +kernel)) rfl, by decide, by decide, by decide +kernel⟩
theorem im_Lm_sheet : Cond.instanceMethod y_Lm_sheet ∈ lw_g := mg_t (List.mem_of_getElem? (i := 679) (by decide +kernel)) rfl
theorem se_Lm_sheet : Cond.selects RX10 y_Lm_sheet y_Lm_sheet ∈ lw_g := mg_t (List.mem_of_getElem? (i := 680) (by decide +kernel)) rfl
theorem sm_Lm_lose : sM y_Lm_lose c_Lm_lose 4 (some .int) 1 := ⟨mg_t (List.mem_of_getElem? (i := 689) (by decide +kernel)) rfl, mg_t (List.mem_of_getElem? (i := 1) (by decide +kernel)) rfl, by decide, by decide, by decide +kernel⟩
theorem im_Lm_lose : Cond.instanceMethod y_Lm_lose ∈ lw_g := mg_t (List.mem_of_getElem? (i := 687) (by decide +kernel)) rfl
theorem se_Lm_lose : Cond.selects RX10 y_Lm_lose y_Lm_lose ∈ lw_g := mg_t (List.mem_of_getElem? (i := 688) (by decide +kernel)) rfl
theorem sm_Lm_itemRefusal : sM y_Lm_itemRefusal c_Lm_itemRefusal 4 (some .int) 2 := ⟨mg_t (List.mem_of_getElem? (i := 702) (by decide +kernel)) rfl, mg_t (List.mem_of_getElem? (i := 1) (by decide +kernel)) rfl, by decide, by decide, by decide +kernel⟩
theorem im_Lm_itemRefusal : Cond.instanceMethod y_Lm_itemRefusal ∈ lw_g := mg_t (List.mem_of_getElem? (i := 701) (by decide +kernel)) rfl
theorem se_Lm_itemRefusal : Cond.selects RX10 y_Lm_itemRefusal y_Lm_itemRefusal ∈ lw_g := mg_s (List.mem_of_getElem? (i := 19) (by decide +kernel)) rfl
theorem sm_Lm_lay : sM y_Lm_lay c_Lm_lay 5 (some .int) 3 := ⟨mg_t (List.mem_of_getElem? (i := 698) (by decide +kernel)) rfl, mg_t (List.mem_of_getElem? (i := 1) (by decide +kernel)) rfl, by decide, by decide, by decide +kernel⟩
theorem im_Lm_lay : Cond.instanceMethod y_Lm_lay ∈ lw_g := mg_t (List.mem_of_getElem? (i := 696) (by decide +kernel)) rfl
theorem se_Lm_lay : Cond.selects RX10 y_Lm_lay y_Lm_lay ∈ lw_g := mg_t (List.mem_of_getElem? (i := 697) (by decide +kernel)) rfl
theorem sm_Lm_get : sM y_Lm_get c_Lm_get 4 (some .long) 2 := ⟨mg_t (List.mem_of_getElem? (i := 710) (by decide +kernel)) rfl, mg_t (List.mem_of_getElem? (i := 1) (by decide +kernel)) rfl, by decide, by decide, by decide +kernel⟩
theorem im_Lm_get : Cond.instanceMethod y_Lm_get ∈ lw_g := mg_t (List.mem_of_getElem? (i := 708) (by decide +kernel)) rfl
theorem se_Lm_get : Cond.selects RX10 y_Lm_get y_Lm_get ∈ lw_g := mg_t (List.mem_of_getElem? (i := 709) (by decide +kernel)) rfl
theorem sm_Lm_copy : sM y_Lm_copy c_Lm_copy 6 (some .int) 5 := ⟨mg_t (List.mem_of_getElem? (i := 714) (by decide +kernel)) rfl, mg_t (List.mem_of_getElem? (i := 1) (by decide +kernel)) rfl, by decide, by decide, by decide +kernel⟩
theorem im_Lm_copy : Cond.instanceMethod y_Lm_copy ∈ lw_g := mg_t (List.mem_of_getElem? (i := 712) (by decide +kernel)) rfl
theorem se_Lm_copy : Cond.selects RX10 y_Lm_copy y_Lm_copy ∈ lw_g := mg_t (List.mem_of_getElem? (i := 713) (by decide +kernel)) rfl
theorem sm_Lm_write : sM y_Lm_write c_Lm_write 5 (some .int) 1 := ⟨mg_t (List.mem_of_getElem? (i := 725) (by decide +kernel)) rfl, mg_t (List.mem_of_getElem? (i := 1) (by decide +kernel)) rfl, by decide, by decide, by decide +kernel⟩
theorem im_Lm_write : Cond.instanceMethod y_Lm_write ∈ lw_g := mg_t (List.mem_of_getElem? (i := 723) (by decide +kernel)) rfl
theorem se_Lm_write : Cond.selects RX10 y_Lm_write y_Lm_write ∈ lw_g := mg_t (List.mem_of_getElem? (i := 724) (by decide +kernel)) rfl
theorem sm_Lm_count : sM y_Lm_count c_Lm_count 2 (some .int) 1 := ⟨mg_t (List.mem_of_getElem? (i := 730) (by decide +kernel)) rfl, mg_t (List.mem_of_getElem? (i := 1) (by decide +kernel)) rfl, by decide, by decide, by decide +kernel⟩
theorem im_Lm_count : Cond.instanceMethod y_Lm_count ∈ lw_g := mg_t (List.mem_of_getElem? (i := 728) (by decide +kernel)) rfl
theorem se_Lm_count : Cond.selects RX10 y_Lm_count y_Lm_count ∈ lw_g := mg_t (List.mem_of_getElem? (i := 729) (by decide +kernel)) rfl
theorem sm_Lm_digestOfRows : sM y_Lm_digestOfRows c_Lm_digestOfRows 7 (some .long) 1 := ⟨mg_t (List.mem_of_getElem? (i := 756) (by decide +kernel)) rfl, mg_t (List.mem_of_getElem? (i := 1) (by decide +kernel)) rfl, by decide, by decide, by decide +kernel⟩
theorem im_Lm_digestOfRows : Cond.instanceMethod y_Lm_digestOfRows ∈ lw_g := mg_t (List.mem_of_getElem? (i := 755) (by decide +kernel)) rfl
theorem se_Lm_digestOfRows : Cond.selects RX10 y_Lm_digestOfRows y_Lm_digestOfRows ∈ lw_g := mg_s (List.mem_of_getElem? (i := 20) (by decide +kernel)) rfl
theorem sm_Lm_digest : sM y_Lm_digest c_Lm_digest 4 (some .long) 0 := ⟨mg_t (List.mem_of_getElem? (i := 745) (by decide +kernel)) rfl, mg_t (List.mem_of_getElem? (i := 1) (by decide +kernel)) rfl, by decide, by decide, by decide +kernel⟩
theorem im_Lm_digest : Cond.instanceMethod y_Lm_digest ∈ lw_g := mg_t (List.mem_of_getElem? (i := 743) (by decide +kernel)) rfl
theorem se_Lm_digest : Cond.selects RX10 y_Lm_digest y_Lm_digest ∈ lw_g := mg_t (List.mem_of_getElem? (i := 744) (by decide +kernel)) rfl
theorem sm_Mo_init : sM y_Mo_init c_Mo_init 2 none 0 := ⟨mg_t (List.mem_of_getElem? (i := 766) (by decide +kernel)) rfl, mg_t (List.mem_of_getElem? (i := 12) (by decide +kernel)) rfl, by decide, by decide, by decide +kernel⟩
theorem im_Mo_init : Cond.instanceMethod y_Mo_init ∈ lw_g := mg_t (List.mem_of_getElem? (i := 765) (by decide +kernel)) rfl
theorem sm_Mo_in : sM y_Mo_in c_Mo_in 6 (some .boolean) 3 := ⟨mg_t (List.mem_of_getElem? (i := 878) (by decide +kernel)) rfl, mg_t (List.mem_of_getElem? (i := 12) (by decide +kernel)) rfl, by decide, by decide, by decide +kernel⟩
theorem st_Mo_in : Cond.static y_Mo_in ∈ lw_g := mg_t (List.mem_of_getElem? (i := 877) (by decide +kernel)) rfl
theorem sm_Mo_isTwo : sM y_Mo_isTwo c_Mo_isTwo 1 (some .boolean) 1 := ⟨mg_t (List.mem_of_getElem? (i := 913) (by decide +kernel)) rfl, mg_t (List.mem_of_getElem? (i := 12) (by decide +kernel)) rfl, by decide, by decide, by decide +kernel⟩
theorem st_Mo_isTwo : Cond.static y_Mo_isTwo ∈ lw_g := mg_t (List.mem_of_getElem? (i := 912) (by decide +kernel)) rfl
theorem sm_Mo_no : sM y_Mo_no c_Mo_no 1 (some .long) 1 := ⟨mg_t (List.mem_of_getElem? (i := 901) (by decide +kernel)) rfl, mg_t (List.mem_of_getElem? (i := 12) (by decide +kernel)) rfl, by decide, by decide, by decide +kernel⟩
theorem st_Mo_no : Cond.static y_Mo_no ∈ lw_g := mg_t (List.mem_of_getElem? (i := 900) (by decide +kernel)) rfl
theorem sm_Mo_greater : sM y_Mo_greater c_Mo_greater 2 (some .int) 2 := ⟨mg_t (List.mem_of_getElem? (i := 944) (by decide +kernel)) rfl, mg_t (List.mem_of_getElem? (i := 12) (by decide +kernel)) rfl, by decide, by decide, by decide +kernel⟩
theorem st_Mo_greater : Cond.static y_Mo_greater ∈ lw_g := mg_t (List.mem_of_getElem? (i := 943) (by decide +kernel)) rfl
theorem sm_Mo_lesser : sM y_Mo_lesser c_Mo_lesser 2 (some .int) 2 := ⟨mg_t (List.mem_of_getElem? (i := 1208) (by decide +kernel)) rfl, mg_t (List.mem_of_getElem? (i := 12) (by decide +kernel)) rfl, by decide, by decide, by decide +kernel⟩
theorem st_Mo_lesser : Cond.static y_Mo_lesser ∈ lw_g := mg_t (List.mem_of_getElem? (i := 1207) (by decide +kernel)) rfl
theorem sm_Mo_divisor : sM y_Mo_divisor c_Mo_divisor 11 (some .long) 2 := ⟨mg_t (List.mem_of_getElem? (i := 980) (by decide +kernel)) rfl, mg_t (List.mem_of_getElem? (i := 12) (by decide +kernel)) rfl, by decide, by decide, by decide +kernel⟩
theorem st_Mo_divisor : Cond.static y_Mo_divisor ∈ lw_g := mg_t (List.mem_of_getElem? (i := 979) (by decide +kernel)) rfl
theorem sm_Mo_finds : sM y_Mo_finds c_Mo_finds 2 (some .int) 1 := ⟨mg_t (List.mem_of_getElem? (i := 882) (by decide +kernel)) rfl, mg_t (List.mem_of_getElem? (i := 12) (by decide +kernel)) rfl, by decide, by decide, by decide +kernel⟩
theorem im_Mo_finds : Cond.instanceMethod y_Mo_finds ∈ lw_g := mg_t (List.mem_of_getElem? (i := 881) (by decide +kernel)) rfl
theorem se_Mo_finds : Cond.selects RX11 y_Mo_finds y_Mo_finds ∈ lw_g := mg_s (List.mem_of_getElem? (i := 21) (by decide +kernel)) rfl
theorem sm_Mo_isSheet : sM y_Mo_isSheet c_Mo_isSheet 1 (some .boolean) 1 := ⟨mg_t (List.mem_of_getElem? (i := 874) (by decide +kernel)) rfl, mg_t (List.mem_of_getElem? (i := 12) (by decide +kernel)) rfl, by decide, by decide, by decide +kernel⟩
theorem st_Mo_isSheet : Cond.static y_Mo_isSheet ∈ lw_g := mg_t (List.mem_of_getElem? (i := 873) (by decide +kernel)) rfl
theorem sm_Mo_sheet : sM y_Mo_sheet c_Mo_sheet 4 (some .int) 2 := ⟨mg_t (List.mem_of_getElem? (i := 871) (by decide +kernel)) rfl, mg_t (List.mem_of_getElem? (i := 12) (by decide +kernel)) rfl, by decide, by decide, by decide +kernel⟩
theorem im_Mo_sheet : Cond.instanceMethod y_Mo_sheet ∈ lw_g := mg_t (List.mem_of_getElem? (i := 869) (by decide +kernel)) rfl
theorem se_Mo_sheet : Cond.selects RX11 y_Mo_sheet y_Mo_sheet ∈ lw_g := mg_t (List.mem_of_getElem? (i := 870) (by decide +kernel)) rfl
theorem sm_Mo_lose : sM y_Mo_lose c_Mo_lose 3 (some .int) 1 := ⟨mg_t (List.mem_of_getElem? (i := 886) (by decide +kernel)) rfl, mg_t (List.mem_of_getElem? (i := 12) (by decide +kernel)) rfl, by decide, by decide, by decide +kernel⟩
theorem im_Mo_lose : Cond.instanceMethod y_Mo_lose ∈ lw_g := mg_t (List.mem_of_getElem? (i := 884) (by decide +kernel)) rfl
theorem se_Mo_lose : Cond.selects RX11 y_Mo_lose y_Mo_lose ∈ lw_g := mg_t (List.mem_of_getElem? (i := 885) (by decide +kernel)) rfl
theorem sm_Mo_lacks : sM y_Mo_lacks c_Mo_lacks 3 (some .int) 2 := ⟨mg_t (List.mem_of_getElem? (i := 894) (by decide +kernel)) rfl, mg_t (List.mem_of_getElem? (i := 12) (by decide +kernel)) rfl, by decide, by decide, by decide +kernel⟩
theorem im_Mo_lacks : Cond.instanceMethod y_Mo_lacks ∈ lw_g := mg_t (List.mem_of_getElem? (i := 893) (by decide +kernel)) rfl
theorem se_Mo_lacks : Cond.selects RX11 y_Mo_lacks y_Mo_lacks ∈ lw_g := mg_s (List.mem_of_getElem? (i := 22) (by decide +kernel)) rfl
theorem sm_Mo_lay : sM y_Mo_lay c_Mo_lay 5 (some .int) 3 := ⟨mg_t (List.mem_of_getElem? (i := 890) (by decide +kernel)) rfl, mg_t (List.mem_of_getElem? (i := 12) (by decide +kernel)) rfl, by decide, by decide, by decide +kernel⟩
theorem im_Mo_lay : Cond.instanceMethod y_Mo_lay ∈ lw_g := mg_t (List.mem_of_getElem? (i := 888) (by decide +kernel)) rfl
theorem se_Mo_lay : Cond.selects RX11 y_Mo_lay y_Mo_lay ∈ lw_g := mg_t (List.mem_of_getElem? (i := 889) (by decide +kernel)) rfl
theorem sm_Mo_get : sM y_Mo_get c_Mo_get 4 (some .long) 2 := ⟨mg_t (List.mem_of_getElem? (i := 898) (by decide +kernel)) rfl, mg_t (List.mem_of_getElem? (i := 12) (by decide +kernel)) rfl, by decide, by decide, by decide +kernel⟩
theorem im_Mo_get : Cond.instanceMethod y_Mo_get ∈ lw_g := mg_t (List.mem_of_getElem? (i := 896) (by decide +kernel)) rfl
theorem se_Mo_get : Cond.selects RX11 y_Mo_get y_Mo_get ∈ lw_g := mg_t (List.mem_of_getElem? (i := 897) (by decide +kernel)) rfl
theorem sm_Mo_copy : sM y_Mo_copy c_Mo_copy 7 (some .int) 5 := ⟨mg_t (List.mem_of_getElem? (i := 906) (by decide +kernel)) rfl, mg_t (List.mem_of_getElem? (i := 12) (by decide +kernel)) rfl, by decide, by decide, by decide +kernel⟩
theorem im_Mo_copy : Cond.instanceMethod y_Mo_copy ∈ lw_g := mg_t (List.mem_of_getElem? (i := 904) (by decide +kernel)) rfl
theorem se_Mo_copy : Cond.selects RX11 y_Mo_copy y_Mo_copy ∈ lw_g := mg_t (List.mem_of_getElem? (i := 905) (by decide +kernel)) rfl
theorem sm_Mo_tell : sM y_Mo_tell c_Mo_tell 5 (some .int) 3 := ⟨mg_t (List.mem_of_getElem? (i := 910) (by decide +kernel)) rfl, mg_t (List.mem_of_getElem? (i := 12) (by decide +kernel)) rfl, by decide, by decide, by decide +kernel⟩
theorem im_Mo_tell : Cond.instanceMethod y_Mo_tell ∈ lw_g := mg_t (List.mem_of_getElem? (i := 908) (by decide +kernel)) rfl
theorem se_Mo_tell : Cond.selects RX11 y_Mo_tell y_Mo_tell ∈ lw_g := mg_t (List.mem_of_getElem? (i := 909) (by decide +kernel)) rfl
theorem sm_Mo_told : sM y_Mo_told c_Mo_told 3 (some .int) 2 := ⟨mg_t (List.mem_of_getElem? (i := 921) (by decide +kernel)) rfl, mg_t (List.mem_of_getElem? (i := 12) (by decide +kernel)) rfl, by decide, by decide, by decide +kernel⟩
theorem im_Mo_told : Cond.instanceMethod y_Mo_told ∈ lw_g := mg_t (List.mem_of_getElem? (i := 919) (by decide +kernel)) rfl
theorem se_Mo_told : Cond.selects RX11 y_Mo_told y_Mo_told ∈ lw_g := mg_t (List.mem_of_getElem? (i := 920) (by decide +kernel)) rfl
theorem sm_Mo_degree : sM y_Mo_degree c_Mo_degree 4 (some .int) 1 := ⟨mg_t (List.mem_of_getElem? (i := 941) (by decide +kernel)) rfl, mg_t (List.mem_of_getElem? (i := 12) (by decide +kernel)) rfl, by decide, by decide, by decide +kernel⟩
theorem im_Mo_degree : Cond.instanceMethod y_Mo_degree ∈ lw_g := mg_t (List.mem_of_getElem? (i := 940) (by decide +kernel)) rfl
theorem se_Mo_degree : Cond.selects RX11 y_Mo_degree y_Mo_degree ∈ lw_g := mg_s (List.mem_of_getElem? (i := 25) (by decide +kernel)) rfl
theorem sm_Mo_lowest : sM y_Mo_lowest c_Mo_lowest 4 (some .int) 1 := ⟨mg_t (List.mem_of_getElem? (i := 962) (by decide +kernel)) rfl, mg_t (List.mem_of_getElem? (i := 12) (by decide +kernel)) rfl, by decide, by decide, by decide +kernel⟩
theorem im_Mo_lowest : Cond.instanceMethod y_Mo_lowest ∈ lw_g := mg_t (List.mem_of_getElem? (i := 961) (by decide +kernel)) rfl
theorem se_Mo_lowest : Cond.selects RX11 y_Mo_lowest y_Mo_lowest ∈ lw_g := mg_s (List.mem_of_getElem? (i := 27) (by decide +kernel)) rfl
theorem sm_Mo_sort : sM y_Mo_sort c_Mo_sort 5 (some .int) 1 := ⟨mg_t (List.mem_of_getElem? (i := 933) (by decide +kernel)) rfl, mg_t (List.mem_of_getElem? (i := 12) (by decide +kernel)) rfl, by decide, by decide, by decide +kernel⟩
theorem im_Mo_sort : Cond.instanceMethod y_Mo_sort ∈ lw_g := mg_t (List.mem_of_getElem? (i := 932) (by decide +kernel)) rfl
theorem se_Mo_sort : Cond.selects RX11 y_Mo_sort y_Mo_sort ∈ lw_g := mg_s (List.mem_of_getElem? (i := 24) (by decide +kernel)) rfl
theorem sm_Mo_isLawful : sM y_Mo_isLawful c_Mo_isLawful 1 (some .boolean) 0 := ⟨mg_t (List.mem_of_getElem? (i := 929) (by decide +kernel)) rfl, mg_t (List.mem_of_getElem? (i := 12) (by decide +kernel)) rfl, by decide, by decide, by decide +kernel⟩
theorem im_Mo_isLawful : Cond.instanceMethod y_Mo_isLawful ∈ lw_g := mg_t (List.mem_of_getElem? (i := 928) (by decide +kernel)) rfl
theorem se_Mo_isLawful : Cond.selects RX11 y_Mo_isLawful y_Mo_isLawful ∈ lw_g := mg_s (List.mem_of_getElem? (i := 23) (by decide +kernel)) rfl
theorem sm_Mo_turn : sM y_Mo_turn c_Mo_turn 3 (some .int) 0 := ⟨mg_t (List.mem_of_getElem? (i := 925) (by decide +kernel)) rfl, mg_t (List.mem_of_getElem? (i := 12) (by decide +kernel)) rfl, by decide, by decide, by decide +kernel⟩
theorem im_Mo_turn : Cond.instanceMethod y_Mo_turn ∈ lw_g := mg_t (List.mem_of_getElem? (i := 923) (by decide +kernel)) rfl
theorem se_Mo_turn : Cond.selects RX11 y_Mo_turn y_Mo_turn ∈ lw_g := mg_t (List.mem_of_getElem? (i := 924) (by decide +kernel)) rfl
theorem sm_Mo_reverse : sM y_Mo_reverse c_Mo_reverse 5 (some .int) 0 := ⟨mg_t (List.mem_of_getElem? (i := 937) (by decide +kernel)) rfl, mg_t (List.mem_of_getElem? (i := 12) (by decide +kernel)) rfl, by decide, by decide, by decide +kernel⟩
theorem im_Mo_reverse : Cond.instanceMethod y_Mo_reverse ∈ lw_g := mg_t (List.mem_of_getElem? (i := 935) (by decide +kernel)) rfl
theorem se_Mo_reverse : Cond.selects RX11 y_Mo_reverse y_Mo_reverse ∈ lw_g := mg_t (List.mem_of_getElem? (i := 936) (by decide +kernel)) rfl
theorem sm_Mo_read : sM y_Mo_read c_Mo_read 4 (some .int) 2 := ⟨mg_t (List.mem_of_getElem? (i := 948) (by decide +kernel)) rfl, mg_t (List.mem_of_getElem? (i := 12) (by decide +kernel)) rfl, by decide, by decide, by decide +kernel⟩
theorem im_Mo_read : Cond.instanceMethod y_Mo_read ∈ lw_g := mg_t (List.mem_of_getElem? (i := 946) (by decide +kernel)) rfl
theorem se_Mo_read : Cond.selects RX11 y_Mo_read y_Mo_read ∈ lw_g := mg_t (List.mem_of_getElem? (i := 947) (by decide +kernel)) rfl
theorem sm_Mo_infoBy : sM y_Mo_infoBy c_Mo_infoBy 2 (some .int) 1 := ⟨mg_t (List.mem_of_getElem? (i := 958) (by decide +kernel)) rfl, mg_t (List.mem_of_getElem? (i := 12) (by decide +kernel)) rfl, by decide, by decide, by decide +kernel⟩
theorem im_Mo_infoBy : Cond.instanceMethod y_Mo_infoBy ∈ lw_g := mg_t (List.mem_of_getElem? (i := 957) (by decide +kernel)) rfl
theorem se_Mo_infoBy : Cond.selects RX11 y_Mo_infoBy y_Mo_infoBy ∈ lw_g := mg_s (List.mem_of_getElem? (i := 26) (by decide +kernel)) rfl
theorem sm_Mo_info : sM y_Mo_info c_Mo_info 2 (some .int) 1 := ⟨mg_t (List.mem_of_getElem? (i := 953) (by decide +kernel)) rfl, mg_t (List.mem_of_getElem? (i := 12) (by decide +kernel)) rfl, by decide, by decide, by decide +kernel⟩
theorem im_Mo_info : Cond.instanceMethod y_Mo_info ∈ lw_g := mg_t (List.mem_of_getElem? (i := 951) (by decide +kernel)) rfl
theorem se_Mo_info : Cond.selects RX11 y_Mo_info y_Mo_info ∈ lw_g := mg_t (List.mem_of_getElem? (i := 952) (by decide +kernel)) rfl
theorem sm_Mo_power : sM y_Mo_power c_Mo_power 6 (some .long) 2 := ⟨mg_t (List.mem_of_getElem? (i := 977) (by decide +kernel)) rfl, mg_t (List.mem_of_getElem? (i := 12) (by decide +kernel)) rfl, by decide, by decide, by decide +kernel⟩
theorem st_Mo_power : Cond.static y_Mo_power ∈ lw_g := mg_t (List.mem_of_getElem? (i := 976) (by decide +kernel)) rfl
theorem sm_Mo_turnedValue : sM y_Mo_turnedValue c_Mo_turnedValue 9 (some .long) 3 := ⟨mg_t (List.mem_of_getElem? (i := 974) (by decide +kernel)) rfl, mg_t (List.mem_of_getElem? (i := 12) (by decide +kernel)) rfl, by decide, by decide, by decide +kernel⟩
theorem im_Mo_turnedValue : Cond.instanceMethod y_Mo_turnedValue ∈ lw_g := mg_t (List.mem_of_getElem? (i := 973) (by decide +kernel)) rfl
theorem se_Mo_turnedValue : Cond.selects RX11 y_Mo_turnedValue y_Mo_turnedValue ∈ lw_g := mg_s (List.mem_of_getElem? (i := 29) (by decide +kernel)) rfl
theorem sm_Mo_reactanceBy : sM y_Mo_reactanceBy c_Mo_reactanceBy 10 (some .long) 3 := ⟨mg_t (List.mem_of_getElem? (i := 970) (by decide +kernel)) rfl, mg_t (List.mem_of_getElem? (i := 12) (by decide +kernel)) rfl, by decide, by decide, by decide +kernel⟩
theorem im_Mo_reactanceBy : Cond.instanceMethod y_Mo_reactanceBy ∈ lw_g := mg_t (List.mem_of_getElem? (i := 969) (by decide +kernel)) rfl
theorem se_Mo_reactanceBy : Cond.selects RX11 y_Mo_reactanceBy y_Mo_reactanceBy ∈ lw_g := mg_s (List.mem_of_getElem? (i := 28) (by decide +kernel)) rfl
theorem sm_Mo_reactance : sM y_Mo_reactance c_Mo_reactance 4 (some .long) 3 := ⟨mg_t (List.mem_of_getElem? (i := 966) (by decide +kernel)) rfl, mg_t (List.mem_of_getElem? (i := 12) (by decide +kernel)) rfl, by decide, by decide, by decide +kernel⟩
theorem im_Mo_reactance : Cond.instanceMethod y_Mo_reactance ∈ lw_g := mg_t (List.mem_of_getElem? (i := 964) (by decide +kernel)) rfl
theorem se_Mo_reactance : Cond.selects RX11 y_Mo_reactance y_Mo_reactance ∈ lw_g := mg_t (List.mem_of_getElem? (i := 965) (by decide +kernel)) rfl
theorem sm_Mo_valuesIn : sM y_Mo_valuesIn c_Mo_valuesIn 4 (some .int) 2 := ⟨mg_t (List.mem_of_getElem? (i := 987) (by decide +kernel)) rfl, mg_t (List.mem_of_getElem? (i := 12) (by decide +kernel)) rfl, by decide, by decide, by decide +kernel⟩
theorem st_Mo_valuesIn : Cond.static y_Mo_valuesIn ∈ lw_g := mg_t (List.mem_of_getElem? (i := 986) (by decide +kernel)) rfl
theorem sm_Mo_arm : sM y_Mo_arm c_Mo_arm 4 (some .int) 3 := ⟨mg_t (List.mem_of_getElem? (i := 984) (by decide +kernel)) rfl, mg_t (List.mem_of_getElem? (i := 12) (by decide +kernel)) rfl, by decide, by decide, by decide +kernel⟩
theorem im_Mo_arm : Cond.instanceMethod y_Mo_arm ∈ lw_g := mg_t (List.mem_of_getElem? (i := 982) (by decide +kernel)) rfl
theorem se_Mo_arm : Cond.selects RX11 y_Mo_arm y_Mo_arm ∈ lw_g := mg_t (List.mem_of_getElem? (i := 983) (by decide +kernel)) rfl
theorem sm_Mo_back : sM y_Mo_back c_Mo_back 1 (some .int) 0 := ⟨mg_t (List.mem_of_getElem? (i := 991) (by decide +kernel)) rfl, mg_t (List.mem_of_getElem? (i := 12) (by decide +kernel)) rfl, by decide, by decide, by decide +kernel⟩
theorem im_Mo_back : Cond.instanceMethod y_Mo_back ∈ lw_g := mg_t (List.mem_of_getElem? (i := 989) (by decide +kernel)) rfl
theorem se_Mo_back : Cond.selects RX11 y_Mo_back y_Mo_back ∈ lw_g := mg_t (List.mem_of_getElem? (i := 990) (by decide +kernel)) rfl
theorem sm_Mo_element : sM y_Mo_element c_Mo_element 3 (some .int) 2 := ⟨mg_t (List.mem_of_getElem? (i := 995) (by decide +kernel)) rfl, mg_t (List.mem_of_getElem? (i := 12) (by decide +kernel)) rfl, by decide, by decide, by decide +kernel⟩
theorem im_Mo_element : Cond.instanceMethod y_Mo_element ∈ lw_g := mg_t (List.mem_of_getElem? (i := 993) (by decide +kernel)) rfl
theorem se_Mo_element : Cond.selects RX11 y_Mo_element y_Mo_element ∈ lw_g := mg_t (List.mem_of_getElem? (i := 994) (by decide +kernel)) rfl
theorem sm_Mo_takes : sM y_Mo_takes c_Mo_takes 7 none 2 := ⟨mg_t (List.mem_of_getElem? (i := 1030) (by decide +kernel)) rfl, mg_t (List.mem_of_getElem? (i := 12) (by decide +kernel)) rfl, by decide, by decide, by decide +kernel⟩
theorem im_Mo_takes : Cond.instanceMethod y_Mo_takes ∈ lw_g := mg_t (List.mem_of_getElem? (i := 1029) (by decide +kernel)) rfl
theorem se_Mo_takes : Cond.selects RX11 y_Mo_takes y_Mo_takes ∈ lw_g := mg_s (List.mem_of_getElem? (i := 35) (by decide +kernel)) rfl
theorem sm_Mo_isHandy : sM y_Mo_isHandy c_Mo_isHandy 1 (some .boolean) 0 := ⟨mg_t (List.mem_of_getElem? (i := 1034) (by decide +kernel)) rfl, mg_t (List.mem_of_getElem? (i := 12) (by decide +kernel)) rfl, by decide, by decide, by decide +kernel⟩
theorem im_Mo_isHandy : Cond.instanceMethod y_Mo_isHandy ∈ lw_g := mg_t (List.mem_of_getElem? (i := 1033) (by decide +kernel)) rfl
theorem se_Mo_isHandy : Cond.selects RX11 y_Mo_isHandy y_Mo_isHandy ∈ lw_g := mg_s (List.mem_of_getElem? (i := 36) (by decide +kernel)) rfl
theorem sm_Mo_makes : sM y_Mo_makes c_Mo_makes 3 none 1 := ⟨mg_t (List.mem_of_getElem? (i := 1039) (by decide +kernel)) rfl, mg_t (List.mem_of_getElem? (i := 12) (by decide +kernel)) rfl, by decide, by decide, by decide +kernel⟩
theorem im_Mo_makes : Cond.instanceMethod y_Mo_makes ∈ lw_g := mg_t (List.mem_of_getElem? (i := 1038) (by decide +kernel)) rfl
theorem se_Mo_makes : Cond.selects RX11 y_Mo_makes y_Mo_makes ∈ lw_g := mg_s (List.mem_of_getElem? (i := 37) (by decide +kernel)) rfl
theorem sm_Mo_lays : sM y_Mo_lays c_Mo_lays 2 none 1 := ⟨mg_t (List.mem_of_getElem? (i := 1043) (by decide +kernel)) rfl, mg_t (List.mem_of_getElem? (i := 12) (by decide +kernel)) rfl, by decide, by decide, by decide +kernel⟩
theorem im_Mo_lays : Cond.instanceMethod y_Mo_lays ∈ lw_g := mg_t (List.mem_of_getElem? (i := 1042) (by decide +kernel)) rfl
theorem se_Mo_lays : Cond.selects RX11 y_Mo_lays y_Mo_lays ∈ lw_g := mg_s (List.mem_of_getElem? (i := 38) (by decide +kernel)) rfl
theorem sm_Mo_top : sM y_Mo_top c_Mo_top 3 (some .int) 1 := ⟨mg_t (List.mem_of_getElem? (i := 1011) (by decide +kernel)) rfl, mg_t (List.mem_of_getElem? (i := 12) (by decide +kernel)) rfl, by decide, by decide, by decide +kernel⟩
theorem st_Mo_top : Cond.static y_Mo_top ∈ lw_g := mg_t (List.mem_of_getElem? (i := 1010) (by decide +kernel)) rfl
theorem sm_Mo_content : sM y_Mo_content c_Mo_content 4 (some .long) 1 := ⟨mg_t (List.mem_of_getElem? (i := 1018) (by decide +kernel)) rfl, mg_t (List.mem_of_getElem? (i := 12) (by decide +kernel)) rfl, by decide, by decide, by decide +kernel⟩
theorem st_Mo_content : Cond.static y_Mo_content ∈ lw_g := mg_t (List.mem_of_getElem? (i := 1017) (by decide +kernel)) rfl
theorem sm_Mo_scales : sM y_Mo_scales c_Mo_scales 13 none 4 := ⟨mg_t (List.mem_of_getElem? (i := 1022) (by decide +kernel)) rfl, mg_t (List.mem_of_getElem? (i := 12) (by decide +kernel)) rfl, by decide, by decide, by decide +kernel⟩
theorem im_Mo_scales : Cond.instanceMethod y_Mo_scales ∈ lw_g := mg_t (List.mem_of_getElem? (i := 1021) (by decide +kernel)) rfl
theorem se_Mo_scales : Cond.selects RX11 y_Mo_scales y_Mo_scales ∈ lw_g := mg_s (List.mem_of_getElem? (i := 33) (by decide +kernel)) rfl
theorem sm_Mo_swaps : sM y_Mo_swaps c_Mo_swaps 4 none 0 := ⟨mg_t (List.mem_of_getElem? (i := 1015) (by decide +kernel)) rfl, mg_t (List.mem_of_getElem? (i := 12) (by decide +kernel)) rfl, by decide, by decide, by decide +kernel⟩
theorem im_Mo_swaps : Cond.instanceMethod y_Mo_swaps ∈ lw_g := mg_t (List.mem_of_getElem? (i := 1014) (by decide +kernel)) rfl
theorem se_Mo_swaps : Cond.selects RX11 y_Mo_swaps y_Mo_swaps ∈ lw_g := mg_s (List.mem_of_getElem? (i := 32) (by decide +kernel)) rfl
theorem sm_Mo_dividesOnce : sM y_Mo_dividesOnce c_Mo_dividesOnce 19 (some .int) 3 := ⟨mg_t (List.mem_of_getElem? (i := 1026) (by decide +kernel)) rfl, mg_t (List.mem_of_getElem? (i := 12) (by decide +kernel)) rfl, by decide, by decide, by decide +kernel⟩
theorem im_Mo_dividesOnce : Cond.instanceMethod y_Mo_dividesOnce ∈ lw_g := mg_t (List.mem_of_getElem? (i := 1025) (by decide +kernel)) rfl
theorem se_Mo_dividesOnce : Cond.selects RX11 y_Mo_dividesOnce y_Mo_dividesOnce ∈ lw_g := mg_s (List.mem_of_getElem? (i := 34) (by decide +kernel)) rfl
theorem sm_Mo_divides : sM y_Mo_divides c_Mo_divides 9 (some .int) 1 := ⟨mg_t (List.mem_of_getElem? (i := 1008) (by decide +kernel)) rfl, mg_t (List.mem_of_getElem? (i := 12) (by decide +kernel)) rfl, by decide, by decide, by decide +kernel⟩
theorem im_Mo_divides : Cond.instanceMethod y_Mo_divides ∈ lw_g := mg_t (List.mem_of_getElem? (i := 1007) (by decide +kernel)) rfl
theorem se_Mo_divides : Cond.selects RX11 y_Mo_divides y_Mo_divides ∈ lw_g := mg_s (List.mem_of_getElem? (i := 31) (by decide +kernel)) rfl
theorem sm_Mo_squares : sM y_Mo_squares c_Mo_squares 6 none 3 := ⟨mg_t (List.mem_of_getElem? (i := 1058) (by decide +kernel)) rfl, mg_t (List.mem_of_getElem? (i := 12) (by decide +kernel)) rfl, by decide, by decide, by decide +kernel⟩
theorem im_Mo_squares : Cond.instanceMethod y_Mo_squares ∈ lw_g := mg_t (List.mem_of_getElem? (i := 1057) (by decide +kernel)) rfl
theorem se_Mo_squares : Cond.selects RX11 y_Mo_squares y_Mo_squares ∈ lw_g := mg_s (List.mem_of_getElem? (i := 41) (by decide +kernel)) rfl
theorem sm_Mo_downs : sM y_Mo_downs c_Mo_downs 2 none 1 := ⟨mg_t (List.mem_of_getElem? (i := 1061) (by decide +kernel)) rfl, mg_t (List.mem_of_getElem? (i := 12) (by decide +kernel)) rfl, by decide, by decide, by decide +kernel⟩
theorem st_Mo_downs : Cond.static y_Mo_downs ∈ lw_g := mg_t (List.mem_of_getElem? (i := 1060) (by decide +kernel)) rfl
theorem sm_Mo_valueAt : sM y_Mo_valueAt c_Mo_valueAt 9 (some .long) 3 := ⟨mg_t (List.mem_of_getElem? (i := 1072) (by decide +kernel)) rfl, mg_t (List.mem_of_getElem? (i := 12) (by decide +kernel)) rfl, by decide, by decide, by decide +kernel⟩
theorem st_Mo_valueAt : Cond.static y_Mo_valueAt ∈ lw_g := mg_t (List.mem_of_getElem? (i := 1071) (by decide +kernel)) rfl
theorem sm_Mo_takesOut : sM y_Mo_takesOut c_Mo_takesOut 11 (some .boolean) 2 := ⟨mg_t (List.mem_of_getElem? (i := 1069) (by decide +kernel)) rfl, mg_t (List.mem_of_getElem? (i := 12) (by decide +kernel)) rfl, by decide, by decide, by decide +kernel⟩
theorem im_Mo_takesOut : Cond.instanceMethod y_Mo_takesOut ∈ lw_g := mg_t (List.mem_of_getElem? (i := 1068) (by decide +kernel)) rfl
theorem se_Mo_takesOut : Cond.selects RX11 y_Mo_takesOut y_Mo_takesOut ∈ lw_g := mg_s (List.mem_of_getElem? (i := 43) (by decide +kernel)) rfl
theorem sm_Mo_candidate : sM y_Mo_candidate c_Mo_candidate 12 (some .int) 2 := ⟨mg_t (List.mem_of_getElem? (i := 1054) (by decide +kernel)) rfl, mg_t (List.mem_of_getElem? (i := 12) (by decide +kernel)) rfl, by decide, by decide, by decide +kernel⟩
theorem st_Mo_candidate : Cond.static y_Mo_candidate ∈ lw_g := mg_t (List.mem_of_getElem? (i := 1053) (by decide +kernel)) rfl
theorem sm_Mo_candidates : sM y_Mo_candidates c_Mo_candidates 3 none 0 := ⟨mg_t (List.mem_of_getElem? (i := 1051) (by decide +kernel)) rfl, mg_t (List.mem_of_getElem? (i := 12) (by decide +kernel)) rfl, by decide, by decide, by decide +kernel⟩
theorem im_Mo_candidates : Cond.instanceMethod y_Mo_candidates ∈ lw_g := mg_t (List.mem_of_getElem? (i := 1050) (by decide +kernel)) rfl
theorem se_Mo_candidates : Cond.selects RX11 y_Mo_candidates y_Mo_candidates ∈ lw_g := mg_s (List.mem_of_getElem? (i := 40) (by decide +kernel)) rfl
theorem sm_Mo_isDark : sM y_Mo_isDark c_Mo_isDark 4 (some .boolean) 0 := ⟨mg_t (List.mem_of_getElem? (i := 1065) (by decide +kernel)) rfl, mg_t (List.mem_of_getElem? (i := 12) (by decide +kernel)) rfl, by decide, by decide, by decide +kernel⟩
theorem im_Mo_isDark : Cond.instanceMethod y_Mo_isDark ∈ lw_g := mg_t (List.mem_of_getElem? (i := 1064) (by decide +kernel)) rfl
theorem se_Mo_isDark : Cond.selects RX11 y_Mo_isDark y_Mo_isDark ∈ lw_g := mg_s (List.mem_of_getElem? (i := 42) (by decide +kernel)) rfl
theorem sm_Mo_isRoot : sM y_Mo_isRoot c_Mo_isRoot 2 (some .boolean) 1 := ⟨mg_t (List.mem_of_getElem? (i := 1088) (by decide +kernel)) rfl, mg_t (List.mem_of_getElem? (i := 12) (by decide +kernel)) rfl, by decide, by decide, by decide +kernel⟩
theorem im_Mo_isRoot : Cond.instanceMethod y_Mo_isRoot ∈ lw_g := mg_t (List.mem_of_getElem? (i := 1087) (by decide +kernel)) rfl
theorem se_Mo_isRoot : Cond.selects RX11 y_Mo_isRoot y_Mo_isRoot ∈ lw_g := mg_s (List.mem_of_getElem? (i := 47) (by decide +kernel)) rfl
theorem sm_Mo_slopes : sM y_Mo_slopes c_Mo_slopes 2 none 0 := ⟨mg_t (List.mem_of_getElem? (i := 1084) (by decide +kernel)) rfl, mg_t (List.mem_of_getElem? (i := 12) (by decide +kernel)) rfl, by decide, by decide, by decide +kernel⟩
theorem im_Mo_slopes : Cond.instanceMethod y_Mo_slopes ∈ lw_g := mg_t (List.mem_of_getElem? (i := 1083) (by decide +kernel)) rfl
theorem se_Mo_slopes : Cond.selects RX11 y_Mo_slopes y_Mo_slopes ∈ lw_g := mg_s (List.mem_of_getElem? (i := 46) (by decide +kernel)) rfl
theorem sm_Mo_alone : sM y_Mo_alone c_Mo_alone 8 (some .int) 5 := ⟨mg_t (List.mem_of_getElem? (i := 1080) (by decide +kernel)) rfl, mg_t (List.mem_of_getElem? (i := 12) (by decide +kernel)) rfl, by decide, by decide, by decide +kernel⟩
theorem im_Mo_alone : Cond.instanceMethod y_Mo_alone ∈ lw_g := mg_t (List.mem_of_getElem? (i := 1079) (by decide +kernel)) rfl
theorem se_Mo_alone : Cond.selects RX11 y_Mo_alone y_Mo_alone ∈ lw_g := mg_s (List.mem_of_getElem? (i := 45) (by decide +kernel)) rfl
theorem sm_Mo_ends : sM y_Mo_ends c_Mo_ends 3 (some .int) 1 := ⟨mg_t (List.mem_of_getElem? (i := 1076) (by decide +kernel)) rfl, mg_t (List.mem_of_getElem? (i := 12) (by decide +kernel)) rfl, by decide, by decide, by decide +kernel⟩
theorem im_Mo_ends : Cond.instanceMethod y_Mo_ends ∈ lw_g := mg_t (List.mem_of_getElem? (i := 1075) (by decide +kernel)) rfl
theorem se_Mo_ends : Cond.selects RX11 y_Mo_ends y_Mo_ends ∈ lw_g := mg_s (List.mem_of_getElem? (i := 44) (by decide +kernel)) rfl
theorem sm_Mo_rootOnce : sM y_Mo_rootOnce c_Mo_rootOnce 23 (some .int) 4 := ⟨mg_t (List.mem_of_getElem? (i := 1092) (by decide +kernel)) rfl, mg_t (List.mem_of_getElem? (i := 12) (by decide +kernel)) rfl, by decide, by decide, by decide +kernel⟩
theorem im_Mo_rootOnce : Cond.instanceMethod y_Mo_rootOnce ∈ lw_g := mg_t (List.mem_of_getElem? (i := 1091) (by decide +kernel)) rfl
theorem se_Mo_rootOnce : Cond.selects RX11 y_Mo_rootOnce y_Mo_rootOnce ∈ lw_g := mg_s (List.mem_of_getElem? (i := 48) (by decide +kernel)) rfl
theorem sm_Mo_byRoots : sM y_Mo_byRoots c_Mo_byRoots 7 (some .int) 1 := ⟨mg_t (List.mem_of_getElem? (i := 1047) (by decide +kernel)) rfl, mg_t (List.mem_of_getElem? (i := 12) (by decide +kernel)) rfl, by decide, by decide, by decide +kernel⟩
theorem im_Mo_byRoots : Cond.instanceMethod y_Mo_byRoots ∈ lw_g := mg_t (List.mem_of_getElem? (i := 1046) (by decide +kernel)) rfl
theorem se_Mo_byRoots : Cond.selects RX11 y_Mo_byRoots y_Mo_byRoots ∈ lw_g := mg_s (List.mem_of_getElem? (i := 39) (by decide +kernel)) rfl
theorem sm_Mo_unfolds : sM y_Mo_unfolds c_Mo_unfolds 2 (some .int) 1 := ⟨mg_t (List.mem_of_getElem? (i := 1004) (by decide +kernel)) rfl, mg_t (List.mem_of_getElem? (i := 12) (by decide +kernel)) rfl, by decide, by decide, by decide +kernel⟩
theorem im_Mo_unfolds : Cond.instanceMethod y_Mo_unfolds ∈ lw_g := mg_t (List.mem_of_getElem? (i := 1003) (by decide +kernel)) rfl
theorem se_Mo_unfolds : Cond.selects RX11 y_Mo_unfolds y_Mo_unfolds ∈ lw_g := mg_s (List.mem_of_getElem? (i := 30) (by decide +kernel)) rfl
theorem sm_Mo_would : sM y_Mo_would c_Mo_would 2 (some .int) 1 := ⟨mg_t (List.mem_of_getElem? (i := 999) (by decide +kernel)) rfl, mg_t (List.mem_of_getElem? (i := 12) (by decide +kernel)) rfl, by decide, by decide, by decide +kernel⟩
theorem im_Mo_would : Cond.instanceMethod y_Mo_would ∈ lw_g := mg_t (List.mem_of_getElem? (i := 997) (by decide +kernel)) rfl
theorem se_Mo_would : Cond.selects RX11 y_Mo_would y_Mo_would ∈ lw_g := mg_t (List.mem_of_getElem? (i := 998) (by decide +kernel)) rfl
theorem sm_Mo_unfold : sM y_Mo_unfold c_Mo_unfold 4 (some .int) 1 := ⟨mg_t (List.mem_of_getElem? (i := 1096) (by decide +kernel)) rfl, mg_t (List.mem_of_getElem? (i := 12) (by decide +kernel)) rfl, by decide, by decide, by decide +kernel⟩
theorem im_Mo_unfold : Cond.instanceMethod y_Mo_unfold ∈ lw_g := mg_t (List.mem_of_getElem? (i := 1094) (by decide +kernel)) rfl
theorem se_Mo_unfold : Cond.selects RX11 y_Mo_unfold y_Mo_unfold ∈ lw_g := mg_t (List.mem_of_getElem? (i := 1095) (by decide +kernel)) rfl
theorem sm_Mo_armOf : sM y_Mo_armOf c_Mo_armOf 12 none 1 := ⟨mg_t (List.mem_of_getElem? (i := 1108) (by decide +kernel)) rfl, mg_t (List.mem_of_getElem? (i := 12) (by decide +kernel)) rfl, by decide, by decide, by decide +kernel⟩
theorem im_Mo_armOf : Cond.instanceMethod y_Mo_armOf ∈ lw_g := mg_t (List.mem_of_getElem? (i := 1107) (by decide +kernel)) rfl
theorem se_Mo_armOf : Cond.selects RX11 y_Mo_armOf y_Mo_armOf ∈ lw_g := mg_s (List.mem_of_getElem? (i := 50) (by decide +kernel)) rfl
theorem sm_Mo_turnsOver : sM y_Mo_turnsOver c_Mo_turnsOver 4 none 0 := ⟨mg_t (List.mem_of_getElem? (i := 1112) (by decide +kernel)) rfl, mg_t (List.mem_of_getElem? (i := 12) (by decide +kernel)) rfl, by decide, by decide, by decide +kernel⟩
theorem im_Mo_turnsOver : Cond.instanceMethod y_Mo_turnsOver ∈ lw_g := mg_t (List.mem_of_getElem? (i := 1111) (by decide +kernel)) rfl
theorem se_Mo_turnsOver : Cond.selects RX11 y_Mo_turnsOver y_Mo_turnsOver ∈ lw_g := mg_s (List.mem_of_getElem? (i := 51) (by decide +kernel)) rfl
theorem sm_Mo_asPair : sM y_Mo_asPair c_Mo_asPair 6 none 0 := ⟨mg_t (List.mem_of_getElem? (i := 1120) (by decide +kernel)) rfl, mg_t (List.mem_of_getElem? (i := 12) (by decide +kernel)) rfl, by decide, by decide, by decide +kernel⟩
theorem im_Mo_asPair : Cond.instanceMethod y_Mo_asPair ∈ lw_g := mg_t (List.mem_of_getElem? (i := 1119) (by decide +kernel)) rfl
theorem se_Mo_asPair : Cond.selects RX11 y_Mo_asPair y_Mo_asPair ∈ lw_g := mg_s (List.mem_of_getElem? (i := 53) (by decide +kernel)) rfl
theorem sm_Mo_adds : sM y_Mo_adds c_Mo_adds 7 none 0 := ⟨mg_t (List.mem_of_getElem? (i := 1116) (by decide +kernel)) rfl, mg_t (List.mem_of_getElem? (i := 12) (by decide +kernel)) rfl, by decide, by decide, by decide +kernel⟩
theorem im_Mo_adds : Cond.instanceMethod y_Mo_adds ∈ lw_g := mg_t (List.mem_of_getElem? (i := 1115) (by decide +kernel)) rfl
theorem se_Mo_adds : Cond.selects RX11 y_Mo_adds y_Mo_adds ∈ lw_g := mg_s (List.mem_of_getElem? (i := 52) (by decide +kernel)) rfl
theorem sm_Mo_folds : sM y_Mo_folds c_Mo_folds 3 none 0 := ⟨mg_t (List.mem_of_getElem? (i := 1104) (by decide +kernel)) rfl, mg_t (List.mem_of_getElem? (i := 12) (by decide +kernel)) rfl, by decide, by decide, by decide +kernel⟩
theorem im_Mo_folds : Cond.instanceMethod y_Mo_folds ∈ lw_g := mg_t (List.mem_of_getElem? (i := 1103) (by decide +kernel)) rfl
theorem se_Mo_folds : Cond.selects RX11 y_Mo_folds y_Mo_folds ∈ lw_g := mg_s (List.mem_of_getElem? (i := 49) (by decide +kernel)) rfl
theorem sm_Mo_foldBy : sM y_Mo_foldBy c_Mo_foldBy 3 (some .long) 2 := ⟨mg_t (List.mem_of_getElem? (i := 1124) (by decide +kernel)) rfl, mg_t (List.mem_of_getElem? (i := 12) (by decide +kernel)) rfl, by decide, by decide, by decide +kernel⟩
theorem im_Mo_foldBy : Cond.instanceMethod y_Mo_foldBy ∈ lw_g := mg_t (List.mem_of_getElem? (i := 1123) (by decide +kernel)) rfl
theorem se_Mo_foldBy : Cond.selects RX11 y_Mo_foldBy y_Mo_foldBy ∈ lw_g := mg_s (List.mem_of_getElem? (i := 54) (by decide +kernel)) rfl
theorem sm_Mo_fold : sM y_Mo_fold c_Mo_fold 3 (some .long) 2 := ⟨mg_t (List.mem_of_getElem? (i := 1100) (by decide +kernel)) rfl, mg_t (List.mem_of_getElem? (i := 12) (by decide +kernel)) rfl, by decide, by decide, by decide +kernel⟩
theorem im_Mo_fold : Cond.instanceMethod y_Mo_fold ∈ lw_g := mg_t (List.mem_of_getElem? (i := 1098) (by decide +kernel)) rfl
theorem se_Mo_fold : Cond.selects RX11 y_Mo_fold y_Mo_fold ∈ lw_g := mg_t (List.mem_of_getElem? (i := 1099) (by decide +kernel)) rfl
theorem sm_Mo_alikeNow : sM y_Mo_alikeNow c_Mo_alikeNow 8 (some .int) 0 := ⟨mg_t (List.mem_of_getElem? (i := 1132) (by decide +kernel)) rfl, mg_t (List.mem_of_getElem? (i := 12) (by decide +kernel)) rfl, by decide, by decide, by decide +kernel⟩
theorem im_Mo_alikeNow : Cond.instanceMethod y_Mo_alikeNow ∈ lw_g := mg_t (List.mem_of_getElem? (i := 1131) (by decide +kernel)) rfl
theorem se_Mo_alikeNow : Cond.selects RX11 y_Mo_alikeNow y_Mo_alikeNow ∈ lw_g := mg_s (List.mem_of_getElem? (i := 55) (by decide +kernel)) rfl
theorem sm_Mo_alike : sM y_Mo_alike c_Mo_alike 1 (some .int) 0 := ⟨mg_t (List.mem_of_getElem? (i := 1128) (by decide +kernel)) rfl, mg_t (List.mem_of_getElem? (i := 12) (by decide +kernel)) rfl, by decide, by decide, by decide +kernel⟩
theorem im_Mo_alike : Cond.instanceMethod y_Mo_alike ∈ lw_g := mg_t (List.mem_of_getElem? (i := 1126) (by decide +kernel)) rfl
theorem se_Mo_alike : Cond.selects RX11 y_Mo_alike y_Mo_alike ∈ lw_g := mg_t (List.mem_of_getElem? (i := 1127) (by decide +kernel)) rfl
theorem sm_Mo_take : sM y_Mo_take c_Mo_take 2 (some .int) 0 := ⟨mg_t (List.mem_of_getElem? (i := 1137) (by decide +kernel)) rfl, mg_t (List.mem_of_getElem? (i := 12) (by decide +kernel)) rfl, by decide, by decide, by decide +kernel⟩
theorem im_Mo_take : Cond.instanceMethod y_Mo_take ∈ lw_g := mg_t (List.mem_of_getElem? (i := 1135) (by decide +kernel)) rfl
theorem se_Mo_take : Cond.selects RX11 y_Mo_take y_Mo_take ∈ lw_g := mg_t (List.mem_of_getElem? (i := 1136) (by decide +kernel)) rfl
theorem sm_Mo_partUp : sM y_Mo_partUp c_Mo_partUp 2 (some .int) 1 := ⟨mg_t (List.mem_of_getElem? (i := 1153) (by decide +kernel)) rfl, mg_t (List.mem_of_getElem? (i := 12) (by decide +kernel)) rfl, by decide, by decide, by decide +kernel⟩
theorem im_Mo_partUp : Cond.instanceMethod y_Mo_partUp ∈ lw_g := mg_t (List.mem_of_getElem? (i := 1152) (by decide +kernel)) rfl
theorem se_Mo_partUp : Cond.selects RX11 y_Mo_partUp y_Mo_partUp ∈ lw_g := mg_s (List.mem_of_getElem? (i := 58) (by decide +kernel)) rfl
theorem sm_Mo_partDown : sM y_Mo_partDown c_Mo_partDown 2 (some .int) 1 := ⟨mg_t (List.mem_of_getElem? (i := 1161) (by decide +kernel)) rfl, mg_t (List.mem_of_getElem? (i := 12) (by decide +kernel)) rfl, by decide, by decide, by decide +kernel⟩
theorem im_Mo_partDown : Cond.instanceMethod y_Mo_partDown ∈ lw_g := mg_t (List.mem_of_getElem? (i := 1160) (by decide +kernel)) rfl
theorem se_Mo_partDown : Cond.selects RX11 y_Mo_partDown y_Mo_partDown ∈ lw_g := mg_s (List.mem_of_getElem? (i := 60) (by decide +kernel)) rfl
theorem sm_Mo_isLike : sM y_Mo_isLike c_Mo_isLike 4 (some .boolean) 3 := ⟨mg_t (List.mem_of_getElem? (i := 1157) (by decide +kernel)) rfl, mg_t (List.mem_of_getElem? (i := 12) (by decide +kernel)) rfl, by decide, by decide, by decide +kernel⟩
theorem im_Mo_isLike : Cond.instanceMethod y_Mo_isLike ∈ lw_g := mg_t (List.mem_of_getElem? (i := 1156) (by decide +kernel)) rfl
theorem se_Mo_isLike : Cond.selects RX11 y_Mo_isLike y_Mo_isLike ∈ lw_g := mg_s (List.mem_of_getElem? (i := 59) (by decide +kernel)) rfl
theorem sm_Mo_isFirst : sM y_Mo_isFirst c_Mo_isFirst 5 (some .boolean) 2 := ⟨mg_t (List.mem_of_getElem? (i := 1149) (by decide +kernel)) rfl, mg_t (List.mem_of_getElem? (i := 12) (by decide +kernel)) rfl, by decide, by decide, by decide +kernel⟩
theorem im_Mo_isFirst : Cond.instanceMethod y_Mo_isFirst ∈ lw_g := mg_t (List.mem_of_getElem? (i := 1148) (by decide +kernel)) rfl
theorem se_Mo_isFirst : Cond.selects RX11 y_Mo_isFirst y_Mo_isFirst ∈ lw_g := mg_s (List.mem_of_getElem? (i := 57) (by decide +kernel)) rfl
theorem sm_Mo_parts : sM y_Mo_parts c_Mo_parts 4 (some .int) 1 := ⟨mg_t (List.mem_of_getElem? (i := 1145) (by decide +kernel)) rfl, mg_t (List.mem_of_getElem? (i := 12) (by decide +kernel)) rfl, by decide, by decide, by decide +kernel⟩
theorem im_Mo_parts : Cond.instanceMethod y_Mo_parts ∈ lw_g := mg_t (List.mem_of_getElem? (i := 1144) (by decide +kernel)) rfl
theorem se_Mo_parts : Cond.selects RX11 y_Mo_parts y_Mo_parts ∈ lw_g := mg_s (List.mem_of_getElem? (i := 56) (by decide +kernel)) rfl
theorem sm_Mo_billBy : sM y_Mo_billBy c_Mo_billBy 5 (some .int) 2 := ⟨mg_t (List.mem_of_getElem? (i := 1169) (by decide +kernel)) rfl, mg_t (List.mem_of_getElem? (i := 12) (by decide +kernel)) rfl, by decide, by decide, by decide +kernel⟩
theorem im_Mo_billBy : Cond.instanceMethod y_Mo_billBy ∈ lw_g := mg_t (List.mem_of_getElem? (i := 1168) (by decide +kernel)) rfl
theorem se_Mo_billBy : Cond.selects RX11 y_Mo_billBy y_Mo_billBy ∈ lw_g := mg_s (List.mem_of_getElem? (i := 62) (by decide +kernel)) rfl
theorem sm_Mo_nthPart : sM y_Mo_nthPart c_Mo_nthPart 4 (some .int) 1 := ⟨mg_t (List.mem_of_getElem? (i := 1165) (by decide +kernel)) rfl, mg_t (List.mem_of_getElem? (i := 12) (by decide +kernel)) rfl, by decide, by decide, by decide +kernel⟩
theorem im_Mo_nthPart : Cond.instanceMethod y_Mo_nthPart ∈ lw_g := mg_t (List.mem_of_getElem? (i := 1164) (by decide +kernel)) rfl
theorem se_Mo_nthPart : Cond.selects RX11 y_Mo_nthPart y_Mo_nthPart ∈ lw_g := mg_s (List.mem_of_getElem? (i := 61) (by decide +kernel)) rfl
theorem sm_Mo_bill : sM y_Mo_bill c_Mo_bill 3 (some .int) 2 := ⟨mg_t (List.mem_of_getElem? (i := 1141) (by decide +kernel)) rfl, mg_t (List.mem_of_getElem? (i := 12) (by decide +kernel)) rfl, by decide, by decide, by decide +kernel⟩
theorem im_Mo_bill : Cond.instanceMethod y_Mo_bill ∈ lw_g := mg_t (List.mem_of_getElem? (i := 1139) (by decide +kernel)) rfl
theorem se_Mo_bill : Cond.selects RX11 y_Mo_bill y_Mo_bill ∈ lw_g := mg_t (List.mem_of_getElem? (i := 1140) (by decide +kernel)) rfl
theorem sm_Mo_values : sM y_Mo_values c_Mo_values 1 (some .int) 0 := ⟨mg_t (List.mem_of_getElem? (i := 1173) (by decide +kernel)) rfl, mg_t (List.mem_of_getElem? (i := 12) (by decide +kernel)) rfl, by decide, by decide, by decide +kernel⟩
theorem im_Mo_values : Cond.instanceMethod y_Mo_values ∈ lw_g := mg_t (List.mem_of_getElem? (i := 1171) (by decide +kernel)) rfl
theorem se_Mo_values : Cond.selects RX11 y_Mo_values y_Mo_values ∈ lw_g := mg_t (List.mem_of_getElem? (i := 1172) (by decide +kernel)) rfl
theorem sm_Mo_wishAsPair : sM y_Mo_wishAsPair c_Mo_wishAsPair 2 none 0 := ⟨mg_t (List.mem_of_getElem? (i := 1185) (by decide +kernel)) rfl, mg_t (List.mem_of_getElem? (i := 12) (by decide +kernel)) rfl, by decide, by decide, by decide +kernel⟩
theorem im_Mo_wishAsPair : Cond.instanceMethod y_Mo_wishAsPair ∈ lw_g := mg_t (List.mem_of_getElem? (i := 1184) (by decide +kernel)) rfl
theorem se_Mo_wishAsPair : Cond.selects RX11 y_Mo_wishAsPair y_Mo_wishAsPair ∈ lw_g := mg_s (List.mem_of_getElem? (i := 64) (by decide +kernel)) rfl
theorem sm_Mo_found : sM y_Mo_found c_Mo_found 4 (some .int) 0 := ⟨mg_t (List.mem_of_getElem? (i := 1181) (by decide +kernel)) rfl, mg_t (List.mem_of_getElem? (i := 12) (by decide +kernel)) rfl, by decide, by decide, by decide +kernel⟩
theorem im_Mo_found : Cond.instanceMethod y_Mo_found ∈ lw_g := mg_t (List.mem_of_getElem? (i := 1180) (by decide +kernel)) rfl
theorem se_Mo_found : Cond.selects RX11 y_Mo_found y_Mo_found ∈ lw_g := mg_s (List.mem_of_getElem? (i := 63) (by decide +kernel)) rfl
theorem sm_Mo_keep : sM y_Mo_keep c_Mo_keep 3 (some .int) 0 := ⟨mg_t (List.mem_of_getElem? (i := 1177) (by decide +kernel)) rfl, mg_t (List.mem_of_getElem? (i := 12) (by decide +kernel)) rfl, by decide, by decide, by decide +kernel⟩
theorem im_Mo_keep : Cond.instanceMethod y_Mo_keep ∈ lw_g := mg_t (List.mem_of_getElem? (i := 1175) (by decide +kernel)) rfl
theorem se_Mo_keep : Cond.selects RX11 y_Mo_keep y_Mo_keep ∈ lw_g := mg_t (List.mem_of_getElem? (i := 1176) (by decide +kernel)) rfl
theorem sm_Mo_find : sM y_Mo_find c_Mo_find 1 (some .int) 0 := ⟨mg_t (List.mem_of_getElem? (i := 1189) (by decide +kernel)) rfl, mg_t (List.mem_of_getElem? (i := 12) (by decide +kernel)) rfl, by decide, by decide, by decide +kernel⟩
theorem im_Mo_find : Cond.instanceMethod y_Mo_find ∈ lw_g := mg_t (List.mem_of_getElem? (i := 1187) (by decide +kernel)) rfl
theorem se_Mo_find : Cond.selects RX11 y_Mo_find y_Mo_find ∈ lw_g := mg_t (List.mem_of_getElem? (i := 1188) (by decide +kernel)) rfl
theorem sm_Mo_keptBy : sM y_Mo_keptBy c_Mo_keptBy 3 (some .int) 2 := ⟨mg_t (List.mem_of_getElem? (i := 1197) (by decide +kernel)) rfl, mg_t (List.mem_of_getElem? (i := 12) (by decide +kernel)) rfl, by decide, by decide, by decide +kernel⟩
theorem im_Mo_keptBy : Cond.instanceMethod y_Mo_keptBy ∈ lw_g := mg_t (List.mem_of_getElem? (i := 1196) (by decide +kernel)) rfl
theorem se_Mo_keptBy : Cond.selects RX11 y_Mo_keptBy y_Mo_keptBy ∈ lw_g := mg_s (List.mem_of_getElem? (i := 65) (by decide +kernel)) rfl
theorem sm_Mo_kept : sM y_Mo_kept c_Mo_kept 3 (some .int) 2 := ⟨mg_t (List.mem_of_getElem? (i := 1193) (by decide +kernel)) rfl, mg_t (List.mem_of_getElem? (i := 12) (by decide +kernel)) rfl, by decide, by decide, by decide +kernel⟩
theorem im_Mo_kept : Cond.instanceMethod y_Mo_kept ∈ lw_g := mg_t (List.mem_of_getElem? (i := 1191) (by decide +kernel)) rfl
theorem se_Mo_kept : Cond.selects RX11 y_Mo_kept y_Mo_kept ∈ lw_g := mg_t (List.mem_of_getElem? (i := 1192) (by decide +kernel)) rfl
theorem sm_Mo_recall : sM y_Mo_recall c_Mo_recall 3 (some .int) 1 := ⟨mg_t (List.mem_of_getElem? (i := 1201) (by decide +kernel)) rfl, mg_t (List.mem_of_getElem? (i := 12) (by decide +kernel)) rfl, by decide, by decide, by decide +kernel⟩
theorem im_Mo_recall : Cond.instanceMethod y_Mo_recall ∈ lw_g := mg_t (List.mem_of_getElem? (i := 1199) (by decide +kernel)) rfl
theorem se_Mo_recall : Cond.selects RX11 y_Mo_recall y_Mo_recall ∈ lw_g := mg_t (List.mem_of_getElem? (i := 1200) (by decide +kernel)) rfl
theorem sm_Mo_write : sM y_Mo_write c_Mo_write 4 (some .int) 1 := ⟨mg_t (List.mem_of_getElem? (i := 1205) (by decide +kernel)) rfl, mg_t (List.mem_of_getElem? (i := 12) (by decide +kernel)) rfl, by decide, by decide, by decide +kernel⟩
theorem im_Mo_write : Cond.instanceMethod y_Mo_write ∈ lw_g := mg_t (List.mem_of_getElem? (i := 1203) (by decide +kernel)) rfl
theorem se_Mo_write : Cond.selects RX11 y_Mo_write y_Mo_write ∈ lw_g := mg_t (List.mem_of_getElem? (i := 1204) (by decide +kernel)) rfl
theorem sm_Mo_keptAll : sM y_Mo_keptAll c_Mo_keptAll 3 (some .int) 0 := ⟨mg_t (List.mem_of_getElem? (i := 1216) (by decide +kernel)) rfl, mg_t (List.mem_of_getElem? (i := 12) (by decide +kernel)) rfl, by decide, by decide, by decide +kernel⟩
theorem im_Mo_keptAll : Cond.instanceMethod y_Mo_keptAll ∈ lw_g := mg_t (List.mem_of_getElem? (i := 1215) (by decide +kernel)) rfl
theorem se_Mo_keptAll : Cond.selects RX11 y_Mo_keptAll y_Mo_keptAll ∈ lw_g := mg_s (List.mem_of_getElem? (i := 66) (by decide +kernel)) rfl
theorem sm_Mo_sheets : sM y_Mo_sheets c_Mo_sheets 3 (some .int) 0 := ⟨mg_t (List.mem_of_getElem? (i := 1221) (by decide +kernel)) rfl, mg_t (List.mem_of_getElem? (i := 12) (by decide +kernel)) rfl, by decide, by decide, by decide +kernel⟩
theorem im_Mo_sheets : Cond.instanceMethod y_Mo_sheets ∈ lw_g := mg_t (List.mem_of_getElem? (i := 1220) (by decide +kernel)) rfl
theorem se_Mo_sheets : Cond.selects RX11 y_Mo_sheets y_Mo_sheets ∈ lw_g := mg_s (List.mem_of_getElem? (i := 67) (by decide +kernel)) rfl
theorem sm_Mo_count : sM y_Mo_count c_Mo_count 2 (some .int) 1 := ⟨mg_t (List.mem_of_getElem? (i := 1212) (by decide +kernel)) rfl, mg_t (List.mem_of_getElem? (i := 12) (by decide +kernel)) rfl, by decide, by decide, by decide +kernel⟩
theorem im_Mo_count : Cond.instanceMethod y_Mo_count ∈ lw_g := mg_t (List.mem_of_getElem? (i := 1210) (by decide +kernel)) rfl
theorem se_Mo_count : Cond.selects RX11 y_Mo_count y_Mo_count ∈ lw_g := mg_t (List.mem_of_getElem? (i := 1211) (by decide +kernel)) rfl
theorem sm_Mo_ladderTells : sM y_Mo_ladderTells c_Mo_ladderTells 8 (some .long) 1 := ⟨mg_t (List.mem_of_getElem? (i := 1232) (by decide +kernel)) rfl, mg_t (List.mem_of_getElem? (i := 12) (by decide +kernel)) rfl, by decide, by decide, by decide +kernel⟩
theorem im_Mo_ladderTells : Cond.instanceMethod y_Mo_ladderTells ∈ lw_g := mg_t (List.mem_of_getElem? (i := 1231) (by decide +kernel)) rfl
theorem se_Mo_ladderTells : Cond.selects RX11 y_Mo_ladderTells y_Mo_ladderTells ∈ lw_g := mg_s (List.mem_of_getElem? (i := 68) (by decide +kernel)) rfl
theorem sm_Mo_digest : sM y_Mo_digest c_Mo_digest 5 (some .long) 0 := ⟨mg_t (List.mem_of_getElem? (i := 1225) (by decide +kernel)) rfl, mg_t (List.mem_of_getElem? (i := 12) (by decide +kernel)) rfl, by decide, by decide, by decide +kernel⟩
theorem im_Mo_digest : Cond.instanceMethod y_Mo_digest ∈ lw_g := mg_t (List.mem_of_getElem? (i := 1223) (by decide +kernel)) rfl
theorem se_Mo_digest : Cond.selects RX11 y_Mo_digest y_Mo_digest ∈ lw_g := mg_t (List.mem_of_getElem? (i := 1224) (by decide +kernel)) rfl
theorem ml_Lw_9 : Cond.methodLink "LadderMakerLaw" 9 y_Lm_init ∈ lw_g := mg_t (List.mem_of_getElem? (i := 17) (by decide +kernel)) rfl
theorem ml_Lm_3 : Cond.methodLink RX10 3 Lib.objectInit ∈ lw_g := mg_t (List.mem_of_getElem? (i := 20) (by decide +kernel)) rfl
theorem ml_Lm_11 : Cond.methodLinkNest RX10 11 y_Pa_init "LadderMaker" ∈ lw_tbl := mg_n (List.mem_of_getElem? (i := 25) (by decide +kernel))
theorem ml_Pa_3 : Cond.methodLink RX5 3 Lib.objectInit ∈ lw_g := mg_t (List.mem_of_getElem? (i := 28) (by decide +kernel)) rfl
theorem ml_Pa_11 : Cond.methodLinkNest RX5 11 y_Po_init "LadderMaker" ∈ lw_tbl := mg_n (List.mem_of_getElem? (i := 31) (by decide +kernel))
theorem ml_Po_3 : Cond.methodLink RX6 3 Lib.objectInit ∈ lw_g := mg_t (List.mem_of_getElem? (i := 34) (by decide +kernel)) rfl
theorem fl_Po_9 : Cond.fieldLink RX6 9 (TX6 0).1 (TX6 0).2.1 (TX6 0).2.2.1 ∈ lw_g := mg_t (List.mem_of_getElem? (i := 35) (by decide +kernel)) rfl
theorem fl_Pa_12 : Cond.fieldLink RX5 12 (TX5 0).1 (TX5 0).2.1 (TX5 0).2.2.1 ∈ lw_g := mg_t (List.mem_of_getElem? (i := 40) (by decide +kernel)) rfl
theorem fl_Re_32 : Cond.fieldLinkNest RX7 32 (TX5 0).1 (TX5 0).2.1 (TX5 0).2.2.1 "LadderMaker" ∈ lw_tbl := mg_n (List.mem_of_getElem? (i := 41) (by decide +kernel))
theorem fl_Fo_34 : Cond.fieldLinkNest RX1 34 (TX5 0).1 (TX5 0).2.1 (TX5 0).2.2.1 "LadderMaker" ∈ lw_tbl := mg_n (List.mem_of_getElem? (i := 42) (by decide +kernel))
theorem fl_Un_63 : Cond.fieldLinkNest RX9 63 (TX5 0).1 (TX5 0).2.1 (TX5 0).2.2.1 "LadderMaker" ∈ lw_tbl := mg_n (List.mem_of_getElem? (i := 43) (by decide +kernel))
theorem fl_Pa_18 : Cond.fieldLink RX5 18 (TX5 1).1 (TX5 1).2.1 (TX5 1).2.2.1 ∈ lw_g := mg_t (List.mem_of_getElem? (i := 44) (by decide +kernel)) rfl
theorem fl_Re_23 : Cond.fieldLinkNest RX7 23 (TX5 1).1 (TX5 1).2.1 (TX5 1).2.2.1 "LadderMaker" ∈ lw_tbl := mg_n (List.mem_of_getElem? (i := 45) (by decide +kernel))
theorem fl_Fo_43 : Cond.fieldLinkNest RX1 43 (TX5 1).1 (TX5 1).2.1 (TX5 1).2.2.1 "LadderMaker" ∈ lw_tbl := mg_n (List.mem_of_getElem? (i := 46) (by decide +kernel))
theorem fl_Un_70 : Cond.fieldLinkNest RX9 70 (TX5 1).1 (TX5 1).2.1 (TX5 1).2.2.1 "LadderMaker" ∈ lw_tbl := mg_n (List.mem_of_getElem? (i := 47) (by decide +kernel))
theorem ml_Lm_18 : Cond.methodLinkNest RX10 18 y_La_init "LadderMaker" ∈ lw_tbl := mg_n (List.mem_of_getElem? (i := 55) (by decide +kernel))
theorem ml_La_3 : Cond.methodLink RX3 3 Lib.objectInit ∈ lw_g := mg_t (List.mem_of_getElem? (i := 58) (by decide +kernel)) rfl
theorem fl_La_11 : Cond.fieldLink RX3 11 (TX3 0).1 (TX3 0).2.1 (TX3 0).2.2.1 ∈ lw_g := mg_t (List.mem_of_getElem? (i := 61) (by decide +kernel)) rfl
theorem fl_La_16 : Cond.fieldLink RX3 16 (TX3 1).1 (TX3 1).2.1 (TX3 1).2.2.1 ∈ lw_g := mg_t (List.mem_of_getElem? (i := 62) (by decide +kernel)) rfl
theorem fl_Fo_24 : Cond.fieldLinkNest RX1 24 (TX3 1).1 (TX3 1).2.1 (TX3 1).2.2.1 "LadderMaker" ∈ lw_tbl := mg_n (List.mem_of_getElem? (i := 63) (by decide +kernel))
theorem fl_Bi_20 : Cond.fieldLinkNest RX0 20 (TX3 1).1 (TX3 1).2.1 (TX3 1).2.2.1 "LadderMaker" ∈ lw_tbl := mg_n (List.mem_of_getElem? (i := 64) (by decide +kernel))
theorem fl_Lm_161 : Cond.fieldLinkNest RX10 161 (TX3 1).1 (TX3 1).2.1 (TX3 1).2.2.1 "LadderMaker" ∈ lw_tbl := mg_n (List.mem_of_getElem? (i := 65) (by decide +kernel))
theorem ml_Lm_25 : Cond.methodLinkNest RX10 25 y_Fo_init "LadderMaker" ∈ lw_tbl := mg_n (List.mem_of_getElem? (i := 74) (by decide +kernel))
theorem ml_Fo_3 : Cond.methodLink RX1 3 Lib.objectInit ∈ lw_g := mg_t (List.mem_of_getElem? (i := 77) (by decide +kernel)) rfl
theorem ml_Fo_11 : Cond.methodLinkNest RX1 11 y_Pa_init "LadderMaker" ∈ lw_tbl := mg_n (List.mem_of_getElem? (i := 79) (by decide +kernel))
theorem fl_Fo_12 : Cond.fieldLink RX1 12 (TX1 0).1 (TX1 0).2.1 (TX1 0).2.2.1 ∈ lw_g := mg_t (List.mem_of_getElem? (i := 80) (by decide +kernel)) rfl
theorem fl_Lm_188 : Cond.fieldLinkNest RX10 188 (TX1 0).1 (TX1 0).2.1 (TX1 0).2.2.1 "LadderMaker" ∈ lw_tbl := mg_n (List.mem_of_getElem? (i := 81) (by decide +kernel))
theorem fl_Fo_18 : Cond.fieldLink RX1 18 (TX1 1).1 (TX1 1).2.1 (TX1 1).2.2.1 ∈ lw_g := mg_t (List.mem_of_getElem? (i := 82) (by decide +kernel)) rfl
theorem fl_Fo_21 : Cond.fieldLink RX1 21 (TX1 2).1 (TX1 2).2.1 (TX1 2).2.2.1 ∈ lw_g := mg_t (List.mem_of_getElem? (i := 83) (by decide +kernel)) rfl
theorem ml_Lm_32 : Cond.methodLinkNest RX10 32 y_Un_init "LadderMaker" ∈ lw_tbl := mg_n (List.mem_of_getElem? (i := 93) (by decide +kernel))
theorem ml_Un_3 : Cond.methodLink RX9 3 Lib.objectInit ∈ lw_g := mg_t (List.mem_of_getElem? (i := 96) (by decide +kernel)) rfl
theorem ml_Un_11 : Cond.methodLinkNest RX9 11 y_La_init "LadderMaker" ∈ lw_tbl := mg_n (List.mem_of_getElem? (i := 98) (by decide +kernel))
theorem ml_Un_20 : Cond.methodLinkNest RX9 20 y_Pa_init "LadderMaker" ∈ lw_tbl := mg_n (List.mem_of_getElem? (i := 100) (by decide +kernel))
theorem ml_Un_30 : Cond.methodLinkNest RX9 30 y_Po_init "LadderMaker" ∈ lw_tbl := mg_n (List.mem_of_getElem? (i := 102) (by decide +kernel))
theorem ml_Un_37 : Cond.methodLinkNest RX9 37 y_Fr_init "LadderMaker" ∈ lw_tbl := mg_n (List.mem_of_getElem? (i := 105) (by decide +kernel))
theorem ml_Fr_3 : Cond.methodLink RX2 3 Lib.objectInit ∈ lw_g := mg_t (List.mem_of_getElem? (i := 108) (by decide +kernel)) rfl
theorem fl_Fr_9 : Cond.fieldLink RX2 9 (TX2 0).1 (TX2 0).2.1 (TX2 0).2.2.1 ∈ lw_g := mg_t (List.mem_of_getElem? (i := 109) (by decide +kernel)) rfl
theorem fl_Un_88 : Cond.fieldLinkNest RX9 88 (TX2 0).1 (TX2 0).2.1 (TX2 0).2.2.1 "LadderMaker" ∈ lw_tbl := mg_n (List.mem_of_getElem? (i := 110) (by decide +kernel))
theorem fl_Lm_145 : Cond.fieldLinkNest RX10 145 (TX2 0).1 (TX2 0).2.1 (TX2 0).2.2.1 "LadderMaker" ∈ lw_tbl := mg_n (List.mem_of_getElem? (i := 111) (by decide +kernel))
theorem fl_Pa_66 : Cond.fieldLinkNest RX5 66 (TX2 0).1 (TX2 0).2.1 (TX2 0).2.2.1 "LadderMaker" ∈ lw_tbl := mg_n (List.mem_of_getElem? (i := 112) (by decide +kernel))
theorem fl_Fr_15 : Cond.fieldLink RX2 15 (TX2 1).1 (TX2 1).2.1 (TX2 1).2.2.1 ∈ lw_g := mg_t (List.mem_of_getElem? (i := 113) (by decide +kernel)) rfl
theorem fl_Lm_151 : Cond.fieldLinkNest RX10 151 (TX2 1).1 (TX2 1).2.1 (TX2 1).2.2.1 "LadderMaker" ∈ lw_tbl := mg_n (List.mem_of_getElem? (i := 114) (by decide +kernel))
theorem fl_Pa_58 : Cond.fieldLinkNest RX5 58 (TX2 1).1 (TX2 1).2.1 (TX2 1).2.2.1 "LadderMaker" ∈ lw_tbl := mg_n (List.mem_of_getElem? (i := 115) (by decide +kernel))
theorem fl_Un_174 : Cond.fieldLinkNest RX9 174 (TX2 1).1 (TX2 1).2.1 (TX2 1).2.2.1 "LadderMaker" ∈ lw_tbl := mg_n (List.mem_of_getElem? (i := 116) (by decide +kernel))
theorem fl_Un_12 : Cond.fieldLink RX9 12 (TX9 0).1 (TX9 0).2.1 (TX9 0).2.2.1 ∈ lw_g := mg_t (List.mem_of_getElem? (i := 122) (by decide +kernel)) rfl
theorem fl_Lm_170 : Cond.fieldLinkNest RX10 170 (TX9 0).1 (TX9 0).2.1 (TX9 0).2.2.1 "LadderMaker" ∈ lw_tbl := mg_n (List.mem_of_getElem? (i := 123) (by decide +kernel))
theorem fl_Un_21 : Cond.fieldLink RX9 21 (TX9 1).1 (TX9 1).2.1 (TX9 1).2.2.1 ∈ lw_g := mg_t (List.mem_of_getElem? (i := 124) (by decide +kernel)) rfl
theorem fl_Un_25 : Cond.fieldLink RX9 25 (TX9 2).1 (TX9 2).2.1 (TX9 2).2.2.1 ∈ lw_g := mg_t (List.mem_of_getElem? (i := 125) (by decide +kernel)) rfl
theorem fl_Un_31 : Cond.fieldLink RX9 31 (TX9 3).1 (TX9 3).2.1 (TX9 3).2.2.1 ∈ lw_g := mg_t (List.mem_of_getElem? (i := 126) (by decide +kernel)) rfl
theorem fl_Un_38 : Cond.fieldLink RX9 38 (TX9 4).1 (TX9 4).2.1 (TX9 4).2.2.1 ∈ lw_g := mg_t (List.mem_of_getElem? (i := 127) (by decide +kernel)) rfl
theorem fl_Un_42 : Cond.fieldLink RX9 42 (TX9 5).1 (TX9 5).2.1 (TX9 5).2.2.1 ∈ lw_g := mg_t (List.mem_of_getElem? (i := 128) (by decide +kernel)) rfl
theorem fl_Un_45 : Cond.fieldLink RX9 45 (TX9 6).1 (TX9 6).2.1 (TX9 6).2.2.1 ∈ lw_g := mg_t (List.mem_of_getElem? (i := 129) (by decide +kernel)) rfl
theorem fl_Un_49 : Cond.fieldLink RX9 49 (TX9 7).1 (TX9 7).2.1 (TX9 7).2.2.1 ∈ lw_g := mg_t (List.mem_of_getElem? (i := 130) (by decide +kernel)) rfl
theorem fl_Un_52 : Cond.fieldLink RX9 52 (TX9 8).1 (TX9 8).2.1 (TX9 8).2.2.1 ∈ lw_g := mg_t (List.mem_of_getElem? (i := 131) (by decide +kernel)) rfl
theorem fl_Un_55 : Cond.fieldLink RX9 55 (TX9 9).1 (TX9 9).2.1 (TX9 9).2.2.1 ∈ lw_g := mg_t (List.mem_of_getElem? (i := 132) (by decide +kernel)) rfl
theorem ml_Lm_39 : Cond.methodLinkNest RX10 39 y_Bi_init "LadderMaker" ∈ lw_tbl := mg_n (List.mem_of_getElem? (i := 156) (by decide +kernel))
theorem ml_Bi_3 : Cond.methodLink RX0 3 Lib.objectInit ∈ lw_g := mg_t (List.mem_of_getElem? (i := 159) (by decide +kernel)) rfl
theorem fl_Bi_11 : Cond.fieldLink RX0 11 (TX0 0).1 (TX0 0).2.1 (TX0 0).2.2.1 ∈ lw_g := mg_t (List.mem_of_getElem? (i := 161) (by decide +kernel)) rfl
theorem fl_Bi_16 : Cond.fieldLink RX0 16 (TX0 1).1 (TX0 1).2.1 (TX0 1).2.2.1 ∈ lw_g := mg_t (List.mem_of_getElem? (i := 162) (by decide +kernel)) rfl
theorem fl_Lm_201 : Cond.fieldLinkNest RX10 201 (TX0 1).1 (TX0 1).2.1 (TX0 1).2.2.1 "LadderMaker" ∈ lw_tbl := mg_n (List.mem_of_getElem? (i := 163) (by decide +kernel))
theorem ml_Lm_46 : Cond.methodLinkNest RX10 46 y_Me_init "LadderMaker" ∈ lw_tbl := mg_n (List.mem_of_getElem? (i := 171) (by decide +kernel))
theorem ml_Me_3 : Cond.methodLink RX4 3 Lib.objectInit ∈ lw_g := mg_t (List.mem_of_getElem? (i := 174) (by decide +kernel)) rfl
theorem ml_Me_18 : Cond.methodLinkNest RX4 18 y_Pa_init "LadderMaker" ∈ lw_tbl := mg_n (List.mem_of_getElem? (i := 177) (by decide +kernel))
theorem fl_Me_11 : Cond.fieldLink RX4 11 (TX4 0).1 (TX4 0).2.1 (TX4 0).2.2.1 ∈ lw_g := mg_t (List.mem_of_getElem? (i := 178) (by decide +kernel)) rfl
theorem fl_Me_19 : Cond.fieldLink RX4 19 (TX4 1).1 (TX4 1).2.1 (TX4 1).2.2.1 ∈ lw_g := mg_t (List.mem_of_getElem? (i := 179) (by decide +kernel)) rfl
theorem fl_Me_23 : Cond.fieldLink RX4 23 (TX4 2).1 (TX4 2).2.1 (TX4 2).2.2.1 ∈ lw_g := mg_t (List.mem_of_getElem? (i := 180) (by decide +kernel)) rfl
theorem fl_Lm_253 : Cond.fieldLinkNest RX10 253 (TX4 2).1 (TX4 2).2.1 (TX4 2).2.2.1 "LadderMaker" ∈ lw_tbl := mg_n (List.mem_of_getElem? (i := 181) (by decide +kernel))
theorem ml_Lm_53 : Cond.methodLink RX10 53 y_Sh_init ∈ lw_g := mg_t (List.mem_of_getElem? (i := 191) (by decide +kernel)) rfl
theorem ml_Sh_3 : Cond.methodLink RX8 3 Lib.objectInit ∈ lw_g := mg_t (List.mem_of_getElem? (i := 194) (by decide +kernel)) rfl
theorem fl_Sh_11 : Cond.fieldLink RX8 11 (TX8 0).1 (TX8 0).2.1 (TX8 0).2.2.1 ∈ lw_g := mg_t (List.mem_of_getElem? (i := 197) (by decide +kernel)) rfl
theorem fl_Sh_16 : Cond.fieldLink RX8 16 (TX8 1).1 (TX8 1).2.1 (TX8 1).2.2.1 ∈ lw_g := mg_t (List.mem_of_getElem? (i := 198) (by decide +kernel)) rfl
theorem ml_Lm_60 : Cond.methodLinkNest RX10 60 y_Re_init "LadderMaker" ∈ lw_tbl := mg_n (List.mem_of_getElem? (i := 206) (by decide +kernel))
theorem ml_Re_1 : Cond.methodLink RX7 1 Lib.objectInit ∈ lw_g := mg_t (List.mem_of_getElem? (i := 209) (by decide +kernel)) rfl
theorem ml_Re_9 : Cond.methodLinkNest RX7 9 y_Po_init "LadderMaker" ∈ lw_tbl := mg_n (List.mem_of_getElem? (i := 211) (by decide +kernel))
theorem ml_Re_18 : Cond.methodLinkNest RX7 18 y_Fr_init "LadderMaker" ∈ lw_tbl := mg_n (List.mem_of_getElem? (i := 213) (by decide +kernel))
theorem fl_Re_10 : Cond.fieldLink RX7 10 (TX7 0).1 (TX7 0).2.1 (TX7 0).2.2.1 ∈ lw_g := mg_t (List.mem_of_getElem? (i := 214) (by decide +kernel)) rfl
theorem fl_Re_19 : Cond.fieldLink RX7 19 (TX7 1).1 (TX7 1).2.1 (TX7 1).2.2.1 ∈ lw_g := mg_t (List.mem_of_getElem? (i := 215) (by decide +kernel)) rfl
theorem fl_Lm_141 : Cond.fieldLinkNest RX10 141 (TX7 1).1 (TX7 1).2.1 (TX7 1).2.2.1 "LadderMaker" ∈ lw_tbl := mg_n (List.mem_of_getElem? (i := 216) (by decide +kernel))
theorem fl_Lm_12 : Cond.fieldLink RX10 12 (TX10 0).1 (TX10 0).2.1 (TX10 0).2.2.1 ∈ lw_g := mg_t (List.mem_of_getElem? (i := 222) (by decide +kernel)) rfl
theorem fl_Lm_19 : Cond.fieldLink RX10 19 (TX10 1).1 (TX10 1).2.1 (TX10 1).2.2.1 ∈ lw_g := mg_t (List.mem_of_getElem? (i := 223) (by decide +kernel)) rfl
theorem fl_Lm_26 : Cond.fieldLink RX10 26 (TX10 2).1 (TX10 2).2.1 (TX10 2).2.2.1 ∈ lw_g := mg_t (List.mem_of_getElem? (i := 224) (by decide +kernel)) rfl
theorem fl_Lm_33 : Cond.fieldLink RX10 33 (TX10 3).1 (TX10 3).2.1 (TX10 3).2.2.1 ∈ lw_g := mg_t (List.mem_of_getElem? (i := 225) (by decide +kernel)) rfl
theorem fl_Lm_40 : Cond.fieldLink RX10 40 (TX10 4).1 (TX10 4).2.1 (TX10 4).2.2.1 ∈ lw_g := mg_t (List.mem_of_getElem? (i := 226) (by decide +kernel)) rfl
theorem fl_Lm_47 : Cond.fieldLink RX10 47 (TX10 5).1 (TX10 5).2.1 (TX10 5).2.2.1 ∈ lw_g := mg_t (List.mem_of_getElem? (i := 227) (by decide +kernel)) rfl
theorem fl_Lm_54 : Cond.fieldLink RX10 54 (TX10 6).1 (TX10 6).2.1 (TX10 6).2.2.1 ∈ lw_g := mg_t (List.mem_of_getElem? (i := 228) (by decide +kernel)) rfl
theorem fl_Lm_61 : Cond.fieldLink RX10 61 (TX10 7).1 (TX10 7).2.1 (TX10 7).2.2.1 ∈ lw_g := mg_t (List.mem_of_getElem? (i := 229) (by decide +kernel)) rfl
theorem fl_Lm_65 : Cond.fieldLink RX10 65 (TX10 8).1 (TX10 8).2.1 (TX10 8).2.2.1 ∈ lw_g := mg_t (List.mem_of_getElem? (i := 230) (by decide +kernel)) rfl
theorem ml_Lw_13 : Cond.methodLink "LadderMakerLaw" 13 y_Lm_tell ∈ lw_g := mg_t (List.mem_of_getElem? (i := 250) (by decide +kernel)) rfl
theorem ml_Lm_69 : Cond.methodLink RX10 69 y_Lm_isPlace ∈ lw_g := mg_t (List.mem_of_getElem? (i := 254) (by decide +kernel)) rfl
theorem ml_Lm_73 : Cond.methodLink RX10 73 y_Lm_isPower ∈ lw_g := mg_t (List.mem_of_getElem? (i := 257) (by decide +kernel)) rfl
theorem ml_Lm_76 : Cond.methodLink RX10 76 y_Lm_isWishNumber ∈ lw_g := mg_t (List.mem_of_getElem? (i := 260) (by decide +kernel)) rfl
theorem kc_Lm_312 : Cond.constantLong RX10 312 (-9 : Int64) ∈ lw_g := mg_t (List.mem_of_getElem? (i := 263) (by decide +kernel)) rfl
theorem kc_Lm_314 : Cond.constantLong RX10 314 (9 : Int64) ∈ lw_g := mg_t (List.mem_of_getElem? (i := 264) (by decide +kernel)) rfl
theorem kc_Lm_80 : Cond.constant RX10 80 (-2147483648 : Int32) ∈ lw_g := mg_t (List.mem_of_getElem? (i := 265) (by decide +kernel)) rfl
theorem ml_Lm_81 : Cond.methodLink RX10 81 y_Pa_side ∈ lw_g := mg_t (List.mem_of_getElem? (i := 266) (by decide +kernel)) rfl
theorem ml_Lm_85 : Cond.methodLink RX10 85 y_Po_at ∈ lw_g := mg_t (List.mem_of_getElem? (i := 270) (by decide +kernel)) rfl
theorem ml_Lm_91 : Cond.methodLink RX10 91 y_Po_put ∈ lw_g := mg_t (List.mem_of_getElem? (i := 274) (by decide +kernel)) rfl
theorem ml_Lw_18 : Cond.methodLink "LadderMakerLaw" 18 y_Lm_told ∈ lw_g := mg_t (List.mem_of_getElem? (i := 278) (by decide +kernel)) rfl
theorem ml_Lw_23 : Cond.methodLink "LadderMakerLaw" 23 y_Lm_turn ∈ lw_g := mg_t (List.mem_of_getElem? (i := 282) (by decide +kernel)) rfl
theorem ml_Lm_95 : Cond.methodLink RX10 95 y_Pa_swap ∈ lw_g := mg_t (List.mem_of_getElem? (i := 286) (by decide +kernel)) rfl
theorem ml_Lm_98 : Cond.methodLink RX10 98 y_Pa_isLawful ∈ lw_g := mg_t (List.mem_of_getElem? (i := 290) (by decide +kernel)) rfl
theorem ml_Pa_33 : Cond.methodLink RX5 33 y_Po_isOfParity ∈ lw_g := mg_t (List.mem_of_getElem? (i := 294) (by decide +kernel)) rfl
theorem ml_Lw_28 : Cond.methodLink "LadderMakerLaw" 28 y_Lm_reverse ∈ lw_g := mg_t (List.mem_of_getElem? (i := 298) (by decide +kernel)) rfl
theorem ml_Lm_102 : Cond.methodLink RX10 102 y_Pa_greaterDegree ∈ lw_g := mg_t (List.mem_of_getElem? (i := 302) (by decide +kernel)) rfl
theorem ml_Pa_37 : Cond.methodLink RX5 37 y_Po_degree ∈ lw_g := mg_t (List.mem_of_getElem? (i := 306) (by decide +kernel)) rfl
theorem ml_Pa_41 : Cond.methodLink RX5 41 Lib.Math.max.name ∈ lw_g := mg_t (List.mem_of_getElem? (i := 310) (by decide +kernel)) rfl
theorem ml_Lm_106 : Cond.methodLink RX10 106 y_Po_runBackwards ∈ lw_g := mg_t (List.mem_of_getElem? (i := 313) (by decide +kernel)) rfl
theorem ml_Po_15 : Cond.methodLink RX6 15 y_Po_at ∈ lw_g := mg_t (List.mem_of_getElem? (i := 317) (by decide +kernel)) rfl
theorem ml_Po_19 : Cond.methodLink RX6 19 y_Po_put ∈ lw_g := mg_t (List.mem_of_getElem? (i := 318) (by decide +kernel)) rfl
theorem ml_Lw_32 : Cond.methodLink "LadderMakerLaw" 32 y_Lm_read ∈ lw_g := mg_t (List.mem_of_getElem? (i := 319) (by decide +kernel)) rfl
theorem ml_Lm_110 : Cond.methodLink RX10 110 y_Lm_sheetRefusal ∈ lw_g := mg_t (List.mem_of_getElem? (i := 323) (by decide +kernel)) rfl
theorem ml_Lm_219 : Cond.methodLink RX10 219 y_Sh_isSheet ∈ lw_g := mg_t (List.mem_of_getElem? (i := 327) (by decide +kernel)) rfl
theorem ml_Lm_238 : Cond.methodLink RX10 238 y_Sh_isLost ∈ lw_g := mg_t (List.mem_of_getElem? (i := 331) (by decide +kernel)) rfl
theorem ml_Sh_24 : Cond.methodLink RX8 24 y_Sh_size ∈ lw_g := mg_t (List.mem_of_getElem? (i := 335) (by decide +kernel)) rfl
theorem ml_Sh_20 : Cond.methodLink RX8 20 y_Sh_isSheet ∈ lw_g := mg_t (List.mem_of_getElem? (i := 339) (by decide +kernel)) rfl
theorem ml_Lm_118 : Cond.methodLink RX10 118 y_Lm_finding ∈ lw_g := mg_t (List.mem_of_getElem? (i := 340) (by decide +kernel)) rfl
theorem ml_Lm_114 : Cond.methodLink RX10 114 y_Sh_hasRun ∈ lw_g := mg_t (List.mem_of_getElem? (i := 344) (by decide +kernel)) rfl
theorem ml_Lm_121 : Cond.methodLink RX10 121 y_Sh_item ∈ lw_g := mg_t (List.mem_of_getElem? (i := 348) (by decide +kernel)) rfl
theorem ml_Sh_31 : Cond.methodLink RX8 31 y_Sh_hasRun ∈ lw_g := mg_t (List.mem_of_getElem? (i := 352) (by decide +kernel)) rfl
theorem ml_Lm_125 : Cond.methodLink RX10 125 y_Pa_putNumber ∈ lw_g := mg_t (List.mem_of_getElem? (i := 353) (by decide +kernel)) rfl
theorem ml_Pa_25 : Cond.methodLink RX5 25 y_Po_put ∈ lw_g := mg_t (List.mem_of_getElem? (i := 357) (by decide +kernel)) rfl
theorem ml_Lw_36 : Cond.methodLink "LadderMakerLaw" 36 y_Lm_info ∈ lw_g := mg_t (List.mem_of_getElem? (i := 358) (by decide +kernel)) rfl
theorem ml_Lm_128 : Cond.methodLink RX10 128 y_Po_degree ∈ lw_g := mg_t (List.mem_of_getElem? (i := 362) (by decide +kernel)) rfl
theorem ml_Lm_131 : Cond.methodLink RX10 131 y_Po_leastPower ∈ lw_g := mg_t (List.mem_of_getElem? (i := 363) (by decide +kernel)) rfl
theorem ml_Lw_41 : Cond.methodLink "LadderMakerLaw" 41 y_Lm_reactance ∈ lw_g := mg_t (List.mem_of_getElem? (i := 367) (by decide +kernel)) rfl
theorem ml_Lm_134 : Cond.methodLink RX10 134 y_Lm_asLong ∈ lw_g := mg_t (List.mem_of_getElem? (i := 371) (by decide +kernel)) rfl
theorem kc_Lm_310 : Cond.constantLong RX10 310 (-9223372036854775808 : Int64) ∈ lw_g := mg_t (List.mem_of_getElem? (i := 374) (by decide +kernel)) rfl
theorem ml_Lm_137 : Cond.methodLink RX10 137 y_Re_workOut ∈ lw_g := mg_t (List.mem_of_getElem? (i := 375) (by decide +kernel)) rfl
theorem ml_Re_28 : Cond.methodLink RX7 28 y_Po_isOfParity ∈ lw_g := mg_t (List.mem_of_getElem? (i := 379) (by decide +kernel)) rfl
theorem ml_Re_35 : Cond.methodLink RX7 35 y_Re_halfValue ∈ lw_g := mg_t (List.mem_of_getElem? (i := 380) (by decide +kernel)) rfl
theorem ml_Re_43 : Cond.methodLink RX7 43 y_Po_loadEveryOther ∈ lw_g := mg_t (List.mem_of_getElem? (i := 384) (by decide +kernel)) rfl
theorem ml_Re_47 : Cond.methodLink RX7 47 y_Po_valueAtMinus ∈ lw_g := mg_t (List.mem_of_getElem? (i := 388) (by decide +kernel)) rfl
theorem ml_Re_39 : Cond.methodLink RX7 39 y_Fr_put ∈ lw_g := mg_t (List.mem_of_getElem? (i := 392) (by decide +kernel)) rfl
theorem ml_Fr_18 : Cond.methodLinkNest RX2 18 y_Lm_commonDivisor "LadderMaker" ∈ lw_tbl := mg_n (List.mem_of_getElem? (i := 396) (by decide +kernel))
theorem ml_Lm_316 : Cond.methodLink RX10 316 Lib.MathLoose.abs_long.x ∈ lw_g := mg_t (List.mem_of_getElem? (i := 399) (by decide +kernel)) rfl
theorem ml_Fr_22 : Cond.methodLink RX2 22 Lib.MathLoose.abs_long.x ∈ lw_g := mg_t (List.mem_of_getElem? (i := 402) (by decide +kernel)) rfl
theorem ml_Lw_46 : Cond.methodLink "LadderMakerLaw" 46 y_Lm_arm ∈ lw_g := mg_t (List.mem_of_getElem? (i := 403) (by decide +kernel)) rfl
theorem ml_Lm_154 : Cond.methodLink RX10 154 y_La_add ∈ lw_g := mg_t (List.mem_of_getElem? (i := 407) (by decide +kernel)) rfl
theorem ml_La_20 : Cond.methodLink RX3 20 y_La_valueCount ∈ lw_g := mg_t (List.mem_of_getElem? (i := 411) (by decide +kernel)) rfl
theorem ml_Lm_158 : Cond.methodLink RX10 158 y_Lm_ladderChanged ∈ lw_g := mg_t (List.mem_of_getElem? (i := 415) (by decide +kernel)) rfl
theorem ml_Lm_304 : Cond.methodLink RX10 304 y_Fo_foldUp ∈ lw_g := mg_t (List.mem_of_getElem? (i := 419) (by decide +kernel)) rfl
theorem ml_Fo_30 : Cond.methodLink RX1 30 y_La_item ∈ lw_g := mg_t (List.mem_of_getElem? (i := 423) (by decide +kernel)) rfl
theorem ml_Fo_38 : Cond.methodLink RX1 38 y_Po_clear ∈ lw_g := mg_t (List.mem_of_getElem? (i := 427) (by decide +kernel)) rfl
theorem ml_Fo_46 : Cond.methodLink RX1 46 y_Pa_side ∈ lw_g := mg_t (List.mem_of_getElem? (i := 431) (by decide +kernel)) rfl
theorem ml_Fo_50 : Cond.methodLink RX1 50 y_Po_put ∈ lw_g := mg_t (List.mem_of_getElem? (i := 432) (by decide +kernel)) rfl
theorem ml_Fo_54 : Cond.methodLink RX1 54 y_Fo_loadArm ∈ lw_g := mg_t (List.mem_of_getElem? (i := 433) (by decide +kernel)) rfl
theorem ml_Fo_58 : Cond.methodLink RX1 58 y_Pa_swap ∈ lw_g := mg_t (List.mem_of_getElem? (i := 437) (by decide +kernel)) rfl
theorem ml_Fo_61 : Cond.methodLink RX1 61 y_Fo_addArm ∈ lw_g := mg_t (List.mem_of_getElem? (i := 438) (by decide +kernel)) rfl
theorem ml_Fo_67 : Cond.methodLink RX1 67 y_Po_addProduct ∈ lw_g := mg_t (List.mem_of_getElem? (i := 442) (by decide +kernel)) rfl
theorem ml_Fo_71 : Cond.methodLink RX1 71 y_Pa_load ∈ lw_g := mg_t (List.mem_of_getElem? (i := 446) (by decide +kernel)) rfl
theorem ml_Pa_29 : Cond.methodLink RX5 29 y_Po_load ∈ lw_g := mg_t (List.mem_of_getElem? (i := 450) (by decide +kernel)) rfl
theorem ml_Fo_64 : Cond.methodLink RX1 64 y_Pa_becomeAsPair ∈ lw_g := mg_t (List.mem_of_getElem? (i := 454) (by decide +kernel)) rfl
theorem ml_Pa_47 : Cond.methodLink RX5 47 y_Pa_number ∈ lw_g := mg_t (List.mem_of_getElem? (i := 458) (by decide +kernel)) rfl
theorem ml_Pa_21 : Cond.methodLink RX5 21 y_Po_at ∈ lw_g := mg_t (List.mem_of_getElem? (i := 462) (by decide +kernel)) rfl
theorem ml_Pa_50 : Cond.methodLinkNest RX5 50 y_Lm_commonDivisor "LadderMaker" ∈ lw_tbl := mg_n (List.mem_of_getElem? (i := 463) (by decide +kernel))
theorem ml_Pa_54 : Cond.methodLink RX5 54 y_Po_divideBy ∈ lw_g := mg_t (List.mem_of_getElem? (i := 464) (by decide +kernel)) rfl
theorem ml_Lm_307 : Cond.methodLink RX10 307 y_Bi_countUp ∈ lw_g := mg_t (List.mem_of_getElem? (i := 468) (by decide +kernel)) rfl
theorem ml_Bi_25 : Cond.methodLink RX0 25 y_La_item ∈ lw_g := mg_t (List.mem_of_getElem? (i := 472) (by decide +kernel)) rfl
theorem ml_Bi_29 : Cond.methodLink RX0 29 y_Bi_addPart ∈ lw_g := mg_t (List.mem_of_getElem? (i := 473) (by decide +kernel)) rfl
theorem ml_Lw_50 : Cond.methodLink "LadderMakerLaw" 50 y_Lm_back ∈ lw_g := mg_t (List.mem_of_getElem? (i := 477) (by decide +kernel)) rfl
theorem ml_Lm_164 : Cond.methodLink RX10 164 y_La_dropLast ∈ lw_g := mg_t (List.mem_of_getElem? (i := 481) (by decide +kernel)) rfl
theorem ml_Lw_54 : Cond.methodLink "LadderMakerLaw" 54 y_Lm_unfold ∈ lw_g := mg_t (List.mem_of_getElem? (i := 485) (by decide +kernel)) rfl
theorem ml_Lm_167 : Cond.methodLink RX10 167 y_Lm_would ∈ lw_g := mg_t (List.mem_of_getElem? (i := 489) (by decide +kernel)) rfl
theorem ml_Lm_177 : Cond.methodLink RX10 177 y_Un_divideOn ∈ lw_g := mg_t (List.mem_of_getElem? (i := 493) (by decide +kernel)) rfl
theorem ml_Un_59 : Cond.methodLink RX9 59 y_Un_begin ∈ lw_g := mg_t (List.mem_of_getElem? (i := 497) (by decide +kernel)) rfl
theorem ml_Un_116 : Cond.methodLink RX9 116 y_La_clear ∈ lw_g := mg_t (List.mem_of_getElem? (i := 501) (by decide +kernel)) rfl
theorem ml_Un_119 : Cond.methodLink RX9 119 y_Pa_load ∈ lw_g := mg_t (List.mem_of_getElem? (i := 505) (by decide +kernel)) rfl
theorem ml_Un_66 : Cond.methodLink RX9 66 y_Un_endOf ∈ lw_g := mg_t (List.mem_of_getElem? (i := 506) (by decide +kernel)) rfl
theorem ml_Un_76 : Cond.methodLink RX9 76 y_Po_degree ∈ lw_g := mg_t (List.mem_of_getElem? (i := 509) (by decide +kernel)) rfl
theorem ml_Un_122 : Cond.methodLink RX9 122 y_Po_leastPower ∈ lw_g := mg_t (List.mem_of_getElem? (i := 510) (by decide +kernel)) rfl
theorem ml_Un_73 : Cond.methodLink RX9 73 y_Pa_swap ∈ lw_g := mg_t (List.mem_of_getElem? (i := 511) (by decide +kernel)) rfl
theorem ml_Un_80 : Cond.methodLink RX9 80 y_Po_at ∈ lw_g := mg_t (List.mem_of_getElem? (i := 512) (by decide +kernel)) rfl
theorem ml_Un_84 : Cond.methodLink RX9 84 y_Fr_put ∈ lw_g := mg_t (List.mem_of_getElem? (i := 513) (by decide +kernel)) rfl
theorem ml_Un_91 : Cond.methodLink RX9 91 y_Un_unlawful ∈ lw_g := mg_t (List.mem_of_getElem? (i := 514) (by decide +kernel)) rfl
theorem ml_Un_95 : Cond.methodLink RX9 95 y_Fr_isHandy ∈ lw_g := mg_t (List.mem_of_getElem? (i := 517) (by decide +kernel)) rfl
theorem kc_Fr_28 : Cond.constantLong RX2 28 (99 : Int64) ∈ lw_g := mg_t (List.mem_of_getElem? (i := 521) (by decide +kernel)) rfl
theorem ml_Un_99 : Cond.methodLink RX9 99 y_Un_addRising ∈ lw_g := mg_t (List.mem_of_getElem? (i := 522) (by decide +kernel)) rfl
theorem ml_Un_179 : Cond.methodLink RX9 179 y_La_add ∈ lw_g := mg_t (List.mem_of_getElem? (i := 526) (by decide +kernel)) rfl
theorem ml_Un_103 : Cond.methodLink RX9 103 y_Un_addFalling ∈ lw_g := mg_t (List.mem_of_getElem? (i := 527) (by decide +kernel)) rfl
theorem ml_Un_106 : Cond.methodLink RX9 106 y_Pa_goOn ∈ lw_g := mg_t (List.mem_of_getElem? (i := 531) (by decide +kernel)) rfl
theorem ml_Pa_63 : Cond.methodLink RX5 63 y_Po_multiplyBy ∈ lw_g := mg_t (List.mem_of_getElem? (i := 535) (by decide +kernel)) rfl
theorem ml_Pa_68 : Cond.methodLink RX5 68 y_Pa_swap ∈ lw_g := mg_t (List.mem_of_getElem? (i := 539) (by decide +kernel)) rfl
theorem ml_Un_110 : Cond.methodLink RX9 110 y_Pa_becomeAsPair ∈ lw_g := mg_t (List.mem_of_getElem? (i := 540) (by decide +kernel)) rfl
theorem ml_Un_113 : Cond.methodLink RX9 113 y_La_valueCount ∈ lw_g := mg_t (List.mem_of_getElem? (i := 541) (by decide +kernel)) rfl
theorem ml_Lm_181 : Cond.methodLink RX10 181 y_Un_divideByPoles ∈ lw_g := mg_t (List.mem_of_getElem? (i := 542) (by decide +kernel)) rfl
theorem ml_Un_125 : Cond.methodLink RX9 125 y_Un_loadInX ∈ lw_g := mg_t (List.mem_of_getElem? (i := 546) (by decide +kernel)) rfl
theorem ml_Un_141 : Cond.methodLink RX9 141 y_Po_isOfParity ∈ lw_g := mg_t (List.mem_of_getElem? (i := 550) (by decide +kernel)) rfl
theorem ml_Un_145 : Cond.methodLink RX9 145 y_Po_loadEveryOther ∈ lw_g := mg_t (List.mem_of_getElem? (i := 551) (by decide +kernel)) rfl
theorem ml_Un_149 : Cond.methodLink RX9 149 Lib.Math.min.name ∈ lw_g := mg_t (List.mem_of_getElem? (i := 552) (by decide +kernel)) rfl
theorem ml_Un_128 : Cond.methodLink RX9 128 y_Un_findRoots ∈ lw_g := mg_t (List.mem_of_getElem? (i := 555) (by decide +kernel)) rfl
theorem ml_Un_154 : Cond.methodLink RX9 154 y_Po_load ∈ lw_g := mg_t (List.mem_of_getElem? (i := 559) (by decide +kernel)) rfl
theorem ml_Un_157 : Cond.methodLink RX9 157 y_Po_valueAtMinus ∈ lw_g := mg_t (List.mem_of_getElem? (i := 560) (by decide +kernel)) rfl
theorem ml_Un_161 : Cond.methodLinkNest RX9 161 y_Lm_commonDivisor "LadderMaker" ∈ lw_tbl := mg_n (List.mem_of_getElem? (i := 561) (by decide +kernel))
theorem ml_Un_164 : Cond.methodLink RX9 164 y_Un_timesInRest ∈ lw_g := mg_t (List.mem_of_getElem? (i := 562) (by decide +kernel)) rfl
theorem ml_Un_171 : Cond.methodLink RX9 171 y_Po_divideByRoot ∈ lw_g := mg_t (List.mem_of_getElem? (i := 566) (by decide +kernel)) rfl
theorem ml_Un_167 : Cond.methodLink RX9 167 y_Un_addRoot ∈ lw_g := mg_t (List.mem_of_getElem? (i := 570) (by decide +kernel)) rfl
theorem ml_Un_131 : Cond.methodLink RX9 131 y_Un_poleAtGreatest ∈ lw_g := mg_t (List.mem_of_getElem? (i := 574) (by decide +kernel)) rfl
theorem ml_Un_134 : Cond.methodLink RX9 134 y_Un_poleAtZero ∈ lw_g := mg_t (List.mem_of_getElem? (i := 578) (by decide +kernel)) rfl
theorem ml_Un_137 : Cond.methodLink RX9 137 y_Un_poleAtRoot ∈ lw_g := mg_t (List.mem_of_getElem? (i := 582) (by decide +kernel)) rfl
theorem ml_Un_176 : Cond.methodLink RX9 176 y_Un_addBoth ∈ lw_g := mg_t (List.mem_of_getElem? (i := 586) (by decide +kernel)) rfl
theorem ml_Lm_173 : Cond.methodLink RX10 173 y_La_load ∈ lw_g := mg_t (List.mem_of_getElem? (i := 590) (by decide +kernel)) rfl
theorem ml_La_24 : Cond.methodLink RX3 24 y_La_item ∈ lw_g := mg_t (List.mem_of_getElem? (i := 594) (by decide +kernel)) rfl
theorem ml_Lw_58 : Cond.methodLink "LadderMakerLaw" 58 y_Lm_would ∈ lw_g := mg_t (List.mem_of_getElem? (i := 595) (by decide +kernel)) rfl
theorem ml_Lw_62 : Cond.methodLink "LadderMakerLaw" 62 y_Lm_element ∈ lw_g := mg_t (List.mem_of_getElem? (i := 596) (by decide +kernel)) rfl
theorem ml_Lm_185 : Cond.methodLink RX10 185 y_La_item ∈ lw_g := mg_t (List.mem_of_getElem? (i := 600) (by decide +kernel)) rfl
theorem ml_Lw_66 : Cond.methodLink "LadderMakerLaw" 66 y_Lm_fold ∈ lw_g := mg_t (List.mem_of_getElem? (i := 601) (by decide +kernel)) rfl
theorem ml_Lw_71 : Cond.methodLink "LadderMakerLaw" 71 y_Lm_alike ∈ lw_g := mg_t (List.mem_of_getElem? (i := 605) (by decide +kernel)) rfl
theorem ml_Lm_191 : Cond.methodLink RX10 191 y_Pa_isFractionOf ∈ lw_g := mg_t (List.mem_of_getElem? (i := 609) (by decide +kernel)) rfl
theorem ml_Lw_75 : Cond.methodLink "LadderMakerLaw" 75 y_Lm_take ∈ lw_g := mg_t (List.mem_of_getElem? (i := 613) (by decide +kernel)) rfl
theorem ml_Lm_195 : Cond.methodLink RX10 195 y_Pa_number ∈ lw_g := mg_t (List.mem_of_getElem? (i := 617) (by decide +kernel)) rfl
theorem ml_Lm_198 : Cond.methodLink RX10 198 y_Pa_load ∈ lw_g := mg_t (List.mem_of_getElem? (i := 618) (by decide +kernel)) rfl
theorem ml_Lw_79 : Cond.methodLink "LadderMakerLaw" 79 y_Lm_bill ∈ lw_g := mg_t (List.mem_of_getElem? (i := 619) (by decide +kernel)) rfl
theorem ml_Lm_204 : Cond.methodLink RX10 204 y_Bi_item ∈ lw_g := mg_t (List.mem_of_getElem? (i := 623) (by decide +kernel)) rfl
theorem ml_Lw_83 : Cond.methodLink "LadderMakerLaw" 83 y_Lm_values ∈ lw_g := mg_t (List.mem_of_getElem? (i := 627) (by decide +kernel)) rfl
theorem ml_Lm_205 : Cond.methodLink RX10 205 y_Bi_differentValues ∈ lw_g := mg_t (List.mem_of_getElem? (i := 631) (by decide +kernel)) rfl
theorem ml_Bi_33 : Cond.methodLink RX0 33 y_Bi_item ∈ lw_g := mg_t (List.mem_of_getElem? (i := 635) (by decide +kernel)) rfl
theorem ml_Lw_87 : Cond.methodLink "LadderMakerLaw" 87 y_Lm_keep ∈ lw_g := mg_t (List.mem_of_getElem? (i := 636) (by decide +kernel)) rfl
theorem ml_Lm_208 : Cond.methodLink RX10 208 y_Me_keepOnce ∈ lw_g := mg_t (List.mem_of_getElem? (i := 640) (by decide +kernel)) rfl
theorem ml_Me_49 : Cond.methodLink RX4 49 y_Me_numberOf ∈ lw_g := mg_t (List.mem_of_getElem? (i := 644) (by decide +kernel)) rfl
theorem ml_Me_31 : Cond.methodLink RX4 31 y_Pa_load ∈ lw_g := mg_t (List.mem_of_getElem? (i := 648) (by decide +kernel)) rfl
theorem ml_Me_35 : Cond.methodLink RX4 35 y_Pa_becomeAsPair ∈ lw_g := mg_t (List.mem_of_getElem? (i := 649) (by decide +kernel)) rfl
theorem ml_Me_38 : Cond.methodLink RX4 38 y_Me_isSought ∈ lw_g := mg_t (List.mem_of_getElem? (i := 650) (by decide +kernel)) rfl
theorem ml_Me_41 : Cond.methodLink RX4 41 y_Me_item ∈ lw_g := mg_t (List.mem_of_getElem? (i := 654) (by decide +kernel)) rfl
theorem ml_Me_27 : Cond.methodLink RX4 27 y_Me_holds ∈ lw_g := mg_t (List.mem_of_getElem? (i := 658) (by decide +kernel)) rfl
theorem ml_Me_45 : Cond.methodLink RX4 45 y_Pa_number ∈ lw_g := mg_t (List.mem_of_getElem? (i := 662) (by decide +kernel)) rfl
theorem ml_Lw_91 : Cond.methodLink "LadderMakerLaw" 91 y_Lm_find ∈ lw_g := mg_t (List.mem_of_getElem? (i := 663) (by decide +kernel)) rfl
theorem ml_Lm_212 : Cond.methodLink RX10 212 y_Me_numberOf ∈ lw_g := mg_t (List.mem_of_getElem? (i := 667) (by decide +kernel)) rfl
theorem ml_Lw_95 : Cond.methodLink "LadderMakerLaw" 95 y_Lm_kept ∈ lw_g := mg_t (List.mem_of_getElem? (i := 668) (by decide +kernel)) rfl
theorem ml_Lm_215 : Cond.methodLink RX10 215 y_Me_holds ∈ lw_g := mg_t (List.mem_of_getElem? (i := 672) (by decide +kernel)) rfl
theorem ml_Lm_218 : Cond.methodLink RX10 218 y_Me_item ∈ lw_g := mg_t (List.mem_of_getElem? (i := 673) (by decide +kernel)) rfl
theorem ml_Lw_99 : Cond.methodLink "LadderMakerLaw" 99 y_Lm_recall ∈ lw_g := mg_t (List.mem_of_getElem? (i := 674) (by decide +kernel)) rfl
theorem ml_Lw_103 : Cond.methodLink "LadderMakerLaw" 103 y_Lm_sheet ∈ lw_g := mg_t (List.mem_of_getElem? (i := 678) (by decide +kernel)) rfl
theorem ml_Lm_222 : Cond.methodLink RX10 222 y_Sh_renew ∈ lw_g := mg_t (List.mem_of_getElem? (i := 682) (by decide +kernel)) rfl
theorem ml_Lw_107 : Cond.methodLink "LadderMakerLaw" 107 y_Lm_lose ∈ lw_g := mg_t (List.mem_of_getElem? (i := 686) (by decide +kernel)) rfl
theorem ml_Lm_226 : Cond.methodLink RX10 226 y_Sh_size ∈ lw_g := mg_t (List.mem_of_getElem? (i := 690) (by decide +kernel)) rfl
theorem ml_Lm_229 : Cond.methodLink RX10 229 y_Sh_forget ∈ lw_g := mg_t (List.mem_of_getElem? (i := 691) (by decide +kernel)) rfl
theorem ml_Lw_111 : Cond.methodLink "LadderMakerLaw" 111 y_Lm_lay ∈ lw_g := mg_t (List.mem_of_getElem? (i := 695) (by decide +kernel)) rfl
theorem ml_Lm_232 : Cond.methodLink RX10 232 y_Lm_itemRefusal ∈ lw_g := mg_t (List.mem_of_getElem? (i := 699) (by decide +kernel)) rfl
theorem ml_Lm_235 : Cond.methodLink RX10 235 y_Sh_put ∈ lw_g := mg_t (List.mem_of_getElem? (i := 703) (by decide +kernel)) rfl
theorem ml_Lw_115 : Cond.methodLink "LadderMakerLaw" 115 y_Lm_get ∈ lw_g := mg_t (List.mem_of_getElem? (i := 707) (by decide +kernel)) rfl
theorem ml_Lw_119 : Cond.methodLink "LadderMakerLaw" 119 y_Lm_copy ∈ lw_g := mg_t (List.mem_of_getElem? (i := 711) (by decide +kernel)) rfl
theorem ml_Lm_241 : Cond.methodLink RX10 241 y_Sh_move ∈ lw_g := mg_t (List.mem_of_getElem? (i := 715) (by decide +kernel)) rfl
theorem ml_Sh_35 : Cond.methodLink RX8 35 arraycopyName ∈ lw_g := mg_t (List.mem_of_getElem? (i := 719) (by decide +kernel)) rfl
theorem ml_Lw_124 : Cond.methodLink "LadderMakerLaw" 124 y_Lm_write ∈ lw_g := mg_t (List.mem_of_getElem? (i := 722) (by decide +kernel)) rfl
theorem ml_Lm_245 : Cond.methodLink RX10 245 Lib.Math.min.name ∈ lw_g := mg_t (List.mem_of_getElem? (i := 726) (by decide +kernel)) rfl
theorem ml_Lw_128 : Cond.methodLink "LadderMakerLaw" 128 y_Lm_count ∈ lw_g := mg_t (List.mem_of_getElem? (i := 727) (by decide +kernel)) rfl
theorem ml_Lm_250 : Cond.methodLink RX10 250 y_La_valueCount ∈ lw_g := mg_t (List.mem_of_getElem? (i := 731) (by decide +kernel)) rfl
theorem ml_Lm_256 : Cond.methodLink RX10 256 y_Me_timesOfAll ∈ lw_g := mg_t (List.mem_of_getElem? (i := 732) (by decide +kernel)) rfl
theorem ml_Lm_259 : Cond.methodLink RX10 259 y_Lm_alike ∈ lw_g := mg_t (List.mem_of_getElem? (i := 736) (by decide +kernel)) rfl
theorem ml_Lm_262 : Cond.methodLink RX10 262 y_Sh_notLost ∈ lw_g := mg_t (List.mem_of_getElem? (i := 737) (by decide +kernel)) rfl
theorem ml_Sh_28 : Cond.methodLink RX8 28 y_Sh_isLost ∈ lw_g := mg_t (List.mem_of_getElem? (i := 741) (by decide +kernel)) rfl
theorem ml_Lw_132 : Cond.methodLink "LadderMakerLaw" 132 y_Lm_digest ∈ lw_g := mg_t (List.mem_of_getElem? (i := 742) (by decide +kernel)) rfl
theorem kc_Lm_265 : Cond.constantLong RX10 265 (17 : Int64) ∈ lw_g := mg_t (List.mem_of_getElem? (i := 746) (by decide +kernel)) rfl
theorem kc_Lm_267 : Cond.constantLong RX10 267 (31 : Int64) ∈ lw_g := mg_t (List.mem_of_getElem? (i := 747) (by decide +kernel)) rfl
theorem ml_Lm_269 : Cond.methodLink RX10 269 y_Lm_count ∈ lw_g := mg_t (List.mem_of_getElem? (i := 748) (by decide +kernel)) rfl
theorem ml_Lm_272 : Cond.methodLink RX10 272 y_Lm_told ∈ lw_g := mg_t (List.mem_of_getElem? (i := 749) (by decide +kernel)) rfl
theorem ml_Lm_275 : Cond.methodLink RX10 275 y_Lm_fold ∈ lw_g := mg_t (List.mem_of_getElem? (i := 750) (by decide +kernel)) rfl
theorem ml_Lm_278 : Cond.methodLink RX10 278 y_Lm_info ∈ lw_g := mg_t (List.mem_of_getElem? (i := 751) (by decide +kernel)) rfl
theorem ml_Lm_281 : Cond.methodLink RX10 281 y_Lm_reactance ∈ lw_g := mg_t (List.mem_of_getElem? (i := 752) (by decide +kernel)) rfl
theorem ml_Lm_285 : Cond.methodLink RX10 285 y_Lm_digestOfRows ∈ lw_g := mg_t (List.mem_of_getElem? (i := 753) (by decide +kernel)) rfl
theorem ml_Lm_289 : Cond.methodLink RX10 289 y_Lm_element ∈ lw_g := mg_t (List.mem_of_getElem? (i := 757) (by decide +kernel)) rfl
theorem ml_Lm_292 : Cond.methodLink RX10 292 y_Lm_bill ∈ lw_g := mg_t (List.mem_of_getElem? (i := 758) (by decide +kernel)) rfl
theorem ml_Lm_295 : Cond.methodLink RX10 295 y_Lm_values ∈ lw_g := mg_t (List.mem_of_getElem? (i := 759) (by decide +kernel)) rfl
theorem ml_Lm_298 : Cond.methodLink RX10 298 y_Lm_find ∈ lw_g := mg_t (List.mem_of_getElem? (i := 760) (by decide +kernel)) rfl
theorem ml_Lm_301 : Cond.methodLink RX10 301 y_Lm_kept ∈ lw_g := mg_t (List.mem_of_getElem? (i := 761) (by decide +kernel)) rfl
theorem ml_Lw_12 : Cond.methodLink "LadderMakerLaw" 12 y_Mo_init ∈ lw_g := mg_t (List.mem_of_getElem? (i := 764) (by decide +kernel)) rfl
theorem ml_Mo_1 : Cond.methodLink RX11 1 Lib.objectInit ∈ lw_g := mg_t (List.mem_of_getElem? (i := 767) (by decide +kernel)) rfl
theorem fl_Mo_89 : Cond.fieldLink RX11 89 (TX11 0).1 (TX11 0).2.1 (TX11 0).2.2.1 ∈ lw_g := mg_t (List.mem_of_getElem? (i := 768) (by decide +kernel)) rfl
theorem fl_Mo_7 : Cond.fieldLink RX11 7 (TX11 1).1 (TX11 1).2.1 (TX11 1).2.2.1 ∈ lw_g := mg_t (List.mem_of_getElem? (i := 769) (by decide +kernel)) rfl
theorem fl_Mo_13 : Cond.fieldLink RX11 13 (TX11 2).1 (TX11 2).2.1 (TX11 2).2.2.1 ∈ lw_g := mg_t (List.mem_of_getElem? (i := 770) (by decide +kernel)) rfl
theorem fl_Mo_17 : Cond.fieldLink RX11 17 (TX11 3).1 (TX11 3).2.1 (TX11 3).2.2.1 ∈ lw_g := mg_t (List.mem_of_getElem? (i := 771) (by decide +kernel)) rfl
theorem fl_Mo_20 : Cond.fieldLink RX11 20 (TX11 4).1 (TX11 4).2.1 (TX11 4).2.2.1 ∈ lw_g := mg_t (List.mem_of_getElem? (i := 772) (by decide +kernel)) rfl
theorem fl_Mo_23 : Cond.fieldLink RX11 23 (TX11 5).1 (TX11 5).2.1 (TX11 5).2.2.1 ∈ lw_g := mg_t (List.mem_of_getElem? (i := 773) (by decide +kernel)) rfl
theorem fl_Mo_159 : Cond.fieldLink RX11 159 (TX11 6).1 (TX11 6).2.1 (TX11 6).2.2.1 ∈ lw_g := mg_t (List.mem_of_getElem? (i := 774) (by decide +kernel)) rfl
theorem fl_Mo_26 : Cond.fieldLink RX11 26 (TX11 7).1 (TX11 7).2.1 (TX11 7).2.2.1 ∈ lw_g := mg_t (List.mem_of_getElem? (i := 775) (by decide +kernel)) rfl
theorem fl_Mo_175 : Cond.fieldLink RX11 175 (TX11 8).1 (TX11 8).2.1 (TX11 8).2.2.1 ∈ lw_g := mg_t (List.mem_of_getElem? (i := 776) (by decide +kernel)) rfl
theorem fl_Mo_166 : Cond.fieldLink RX11 166 (TX11 9).1 (TX11 9).2.1 (TX11 9).2.2.1 ∈ lw_g := mg_t (List.mem_of_getElem? (i := 777) (by decide +kernel)) rfl
theorem fl_Mo_170 : Cond.fieldLink RX11 170 (TX11 10).1 (TX11 10).2.1 (TX11 10).2.2.1 ∈ lw_g := mg_t (List.mem_of_getElem? (i := 778) (by decide +kernel)) rfl
theorem fl_Mo_29 : Cond.fieldLink RX11 29 (TX11 11).1 (TX11 11).2.1 (TX11 11).2.2.1 ∈ lw_g := mg_t (List.mem_of_getElem? (i := 779) (by decide +kernel)) rfl
theorem fl_Mo_32 : Cond.fieldLink RX11 32 (TX11 12).1 (TX11 12).2.1 (TX11 12).2.2.1 ∈ lw_g := mg_t (List.mem_of_getElem? (i := 780) (by decide +kernel)) rfl
theorem fl_Mo_178 : Cond.fieldLink RX11 178 (TX11 13).1 (TX11 13).2.1 (TX11 13).2.2.1 ∈ lw_g := mg_t (List.mem_of_getElem? (i := 781) (by decide +kernel)) rfl
theorem fl_Mo_181 : Cond.fieldLink RX11 181 (TX11 14).1 (TX11 14).2.1 (TX11 14).2.2.1 ∈ lw_g := mg_t (List.mem_of_getElem? (i := 782) (by decide +kernel)) rfl
theorem fl_Mo_35 : Cond.fieldLink RX11 35 (TX11 15).1 (TX11 15).2.1 (TX11 15).2.2.1 ∈ lw_g := mg_t (List.mem_of_getElem? (i := 783) (by decide +kernel)) rfl
theorem fl_Mo_38 : Cond.fieldLink RX11 38 (TX11 16).1 (TX11 16).2.1 (TX11 16).2.2.1 ∈ lw_g := mg_t (List.mem_of_getElem? (i := 784) (by decide +kernel)) rfl
theorem fl_Mo_41 : Cond.fieldLink RX11 41 (TX11 17).1 (TX11 17).2.1 (TX11 17).2.2.1 ∈ lw_g := mg_t (List.mem_of_getElem? (i := 785) (by decide +kernel)) rfl
theorem fl_Mo_44 : Cond.fieldLink RX11 44 (TX11 18).1 (TX11 18).2.1 (TX11 18).2.2.1 ∈ lw_g := mg_t (List.mem_of_getElem? (i := 786) (by decide +kernel)) rfl
theorem fl_Mo_47 : Cond.fieldLink RX11 47 (TX11 19).1 (TX11 19).2.1 (TX11 19).2.2.1 ∈ lw_g := mg_t (List.mem_of_getElem? (i := 787) (by decide +kernel)) rfl
theorem fl_Mo_50 : Cond.fieldLink RX11 50 (TX11 20).1 (TX11 20).2.1 (TX11 20).2.2.1 ∈ lw_g := mg_t (List.mem_of_getElem? (i := 788) (by decide +kernel)) rfl
theorem fl_Mo_221 : Cond.fieldLink RX11 221 (TX11 21).1 (TX11 21).2.1 (TX11 21).2.2.1 ∈ lw_g := mg_t (List.mem_of_getElem? (i := 789) (by decide +kernel)) rfl
theorem fl_Mo_53 : Cond.fieldLink RX11 53 (TX11 22).1 (TX11 22).2.1 (TX11 22).2.2.1 ∈ lw_g := mg_t (List.mem_of_getElem? (i := 790) (by decide +kernel)) rfl
theorem fl_Mo_56 : Cond.fieldLink RX11 56 (TX11 23).1 (TX11 23).2.1 (TX11 23).2.2.1 ∈ lw_g := mg_t (List.mem_of_getElem? (i := 791) (by decide +kernel)) rfl
theorem fl_Mo_59 : Cond.fieldLink RX11 59 (TX11 24).1 (TX11 24).2.1 (TX11 24).2.2.1 ∈ lw_g := mg_t (List.mem_of_getElem? (i := 792) (by decide +kernel)) rfl
theorem fl_Mo_62 : Cond.fieldLink RX11 62 (TX11 25).1 (TX11 25).2.1 (TX11 25).2.2.1 ∈ lw_g := mg_t (List.mem_of_getElem? (i := 793) (by decide +kernel)) rfl
theorem fl_Mo_65 : Cond.fieldLink RX11 65 (TX11 26).1 (TX11 26).2.1 (TX11 26).2.2.1 ∈ lw_g := mg_t (List.mem_of_getElem? (i := 794) (by decide +kernel)) rfl
theorem fl_Mo_68 : Cond.fieldLink RX11 68 (TX11 27).1 (TX11 27).2.1 (TX11 27).2.2.1 ∈ lw_g := mg_t (List.mem_of_getElem? (i := 795) (by decide +kernel)) rfl
theorem fl_Mo_71 : Cond.fieldLink RX11 71 (TX11 28).1 (TX11 28).2.1 (TX11 28).2.2.1 ∈ lw_g := mg_t (List.mem_of_getElem? (i := 796) (by decide +kernel)) rfl
theorem fl_Mo_74 : Cond.fieldLink RX11 74 (TX11 29).1 (TX11 29).2.1 (TX11 29).2.2.1 ∈ lw_g := mg_t (List.mem_of_getElem? (i := 797) (by decide +kernel)) rfl
theorem fl_Mo_77 : Cond.fieldLink RX11 77 (TX11 30).1 (TX11 30).2.1 (TX11 30).2.2.1 ∈ lw_g := mg_t (List.mem_of_getElem? (i := 798) (by decide +kernel)) rfl
theorem fl_Mo_325 : Cond.fieldLink RX11 325 (TX11 31).1 (TX11 31).2.1 (TX11 31).2.2.1 ∈ lw_g := mg_t (List.mem_of_getElem? (i := 799) (by decide +kernel)) rfl
theorem fl_Mo_80 : Cond.fieldLink RX11 80 (TX11 32).1 (TX11 32).2.1 (TX11 32).2.2.1 ∈ lw_g := mg_t (List.mem_of_getElem? (i := 800) (by decide +kernel)) rfl
theorem ml_Lw_106 : Cond.methodLink "LadderMakerLaw" 106 y_Mo_sheet ∈ lw_g := mg_t (List.mem_of_getElem? (i := 868) (by decide +kernel)) rfl
theorem ml_Mo_95 : Cond.methodLink RX11 95 y_Mo_isSheet ∈ lw_g := mg_t (List.mem_of_getElem? (i := 872) (by decide +kernel)) rfl
theorem kc_Mo_93 : Cond.constantLong RX11 93 (2 : Int64) ∈ lw_g := mg_t (List.mem_of_getElem? (i := 875) (by decide +kernel)) rfl
theorem ml_Mo_83 : Cond.methodLink RX11 83 y_Mo_in ∈ lw_g := mg_t (List.mem_of_getElem? (i := 876) (by decide +kernel)) rfl
theorem ml_Mo_99 : Cond.methodLink RX11 99 y_Mo_finds ∈ lw_g := mg_t (List.mem_of_getElem? (i := 879) (by decide +kernel)) rfl
theorem ml_Lw_110 : Cond.methodLink "LadderMakerLaw" 110 y_Mo_lose ∈ lw_g := mg_t (List.mem_of_getElem? (i := 883) (by decide +kernel)) rfl
theorem ml_Lw_114 : Cond.methodLink "LadderMakerLaw" 114 y_Mo_lay ∈ lw_g := mg_t (List.mem_of_getElem? (i := 887) (by decide +kernel)) rfl
theorem ml_Mo_103 : Cond.methodLink RX11 103 y_Mo_lacks ∈ lw_g := mg_t (List.mem_of_getElem? (i := 891) (by decide +kernel)) rfl
theorem ml_Lw_118 : Cond.methodLink "LadderMakerLaw" 118 y_Mo_get ∈ lw_g := mg_t (List.mem_of_getElem? (i := 895) (by decide +kernel)) rfl
theorem ml_Mo_107 : Cond.methodLink RX11 107 y_Mo_no ∈ lw_g := mg_t (List.mem_of_getElem? (i := 899) (by decide +kernel)) rfl
theorem kc_Mo_87 : Cond.constantLong RX11 87 (-9223372036854775808 : Int64) ∈ lw_g := mg_t (List.mem_of_getElem? (i := 902) (by decide +kernel)) rfl
theorem ml_Lw_123 : Cond.methodLink "LadderMakerLaw" 123 y_Mo_copy ∈ lw_g := mg_t (List.mem_of_getElem? (i := 903) (by decide +kernel)) rfl
theorem ml_Lw_17 : Cond.methodLink "LadderMakerLaw" 17 y_Mo_tell ∈ lw_g := mg_t (List.mem_of_getElem? (i := 907) (by decide +kernel)) rfl
theorem ml_Mo_111 : Cond.methodLink RX11 111 y_Mo_isTwo ∈ lw_g := mg_t (List.mem_of_getElem? (i := 911) (by decide +kernel)) rfl
theorem kc_Mo_114 : Cond.constantLong RX11 114 (6 : Int64) ∈ lw_g := mg_t (List.mem_of_getElem? (i := 914) (by decide +kernel)) rfl
theorem kc_Mo_116 : Cond.constantLong RX11 116 (-9 : Int64) ∈ lw_g := mg_t (List.mem_of_getElem? (i := 915) (by decide +kernel)) rfl
theorem kc_Mo_118 : Cond.constantLong RX11 118 (9 : Int64) ∈ lw_g := mg_t (List.mem_of_getElem? (i := 916) (by decide +kernel)) rfl
theorem kc_Mo_120 : Cond.constant RX11 120 (-2147483648 : Int32) ∈ lw_g := mg_t (List.mem_of_getElem? (i := 917) (by decide +kernel)) rfl
theorem ml_Lw_22 : Cond.methodLink "LadderMakerLaw" 22 y_Mo_told ∈ lw_g := mg_t (List.mem_of_getElem? (i := 918) (by decide +kernel)) rfl
theorem ml_Lw_27 : Cond.methodLink "LadderMakerLaw" 27 y_Mo_turn ∈ lw_g := mg_t (List.mem_of_getElem? (i := 922) (by decide +kernel)) rfl
theorem ml_Mo_124 : Cond.methodLink RX11 124 y_Mo_isLawful ∈ lw_g := mg_t (List.mem_of_getElem? (i := 926) (by decide +kernel)) rfl
theorem ml_Mo_121 : Cond.methodLink RX11 121 y_Mo_sort ∈ lw_g := mg_t (List.mem_of_getElem? (i := 930) (by decide +kernel)) rfl
theorem ml_Lw_31 : Cond.methodLink "LadderMakerLaw" 31 y_Mo_reverse ∈ lw_g := mg_t (List.mem_of_getElem? (i := 934) (by decide +kernel)) rfl
theorem ml_Mo_128 : Cond.methodLink RX11 128 y_Mo_degree ∈ lw_g := mg_t (List.mem_of_getElem? (i := 938) (by decide +kernel)) rfl
theorem ml_Mo_131 : Cond.methodLink RX11 131 y_Mo_greater ∈ lw_g := mg_t (List.mem_of_getElem? (i := 942) (by decide +kernel)) rfl
theorem ml_Lw_35 : Cond.methodLink "LadderMakerLaw" 35 y_Mo_read ∈ lw_g := mg_t (List.mem_of_getElem? (i := 945) (by decide +kernel)) rfl
theorem kc_Mo_134 : Cond.constantLong RX11 134 (14 : Int64) ∈ lw_g := mg_t (List.mem_of_getElem? (i := 949) (by decide +kernel)) rfl
theorem ml_Lw_40 : Cond.methodLink "LadderMakerLaw" 40 y_Mo_info ∈ lw_g := mg_t (List.mem_of_getElem? (i := 950) (by decide +kernel)) rfl
theorem kc_Mo_139 : Cond.constantLong RX11 139 (4 : Int64) ∈ lw_g := mg_t (List.mem_of_getElem? (i := 954) (by decide +kernel)) rfl
theorem ml_Mo_141 : Cond.methodLink RX11 141 y_Mo_infoBy ∈ lw_g := mg_t (List.mem_of_getElem? (i := 955) (by decide +kernel)) rfl
theorem ml_Mo_136 : Cond.methodLink RX11 136 y_Mo_lowest ∈ lw_g := mg_t (List.mem_of_getElem? (i := 959) (by decide +kernel)) rfl
theorem ml_Lw_45 : Cond.methodLink "LadderMakerLaw" 45 y_Mo_reactance ∈ lw_g := mg_t (List.mem_of_getElem? (i := 963) (by decide +kernel)) rfl
theorem ml_Mo_156 : Cond.methodLink RX11 156 y_Mo_reactanceBy ∈ lw_g := mg_t (List.mem_of_getElem? (i := 967) (by decide +kernel)) rfl
theorem ml_Mo_148 : Cond.methodLink RX11 148 y_Mo_turnedValue ∈ lw_g := mg_t (List.mem_of_getElem? (i := 971) (by decide +kernel)) rfl
theorem ml_Mo_144 : Cond.methodLink RX11 144 y_Mo_power ∈ lw_g := mg_t (List.mem_of_getElem? (i := 975) (by decide +kernel)) rfl
theorem ml_Mo_152 : Cond.methodLink RX11 152 y_Mo_divisor ∈ lw_g := mg_t (List.mem_of_getElem? (i := 978) (by decide +kernel)) rfl
theorem ml_Lw_49 : Cond.methodLink "LadderMakerLaw" 49 y_Mo_arm ∈ lw_g := mg_t (List.mem_of_getElem? (i := 981) (by decide +kernel)) rfl
theorem ml_Mo_162 : Cond.methodLink RX11 162 y_Mo_valuesIn ∈ lw_g := mg_t (List.mem_of_getElem? (i := 985) (by decide +kernel)) rfl
theorem ml_Lw_53 : Cond.methodLink "LadderMakerLaw" 53 y_Mo_back ∈ lw_g := mg_t (List.mem_of_getElem? (i := 988) (by decide +kernel)) rfl
theorem ml_Lw_65 : Cond.methodLink "LadderMakerLaw" 65 y_Mo_element ∈ lw_g := mg_t (List.mem_of_getElem? (i := 992) (by decide +kernel)) rfl
theorem ml_Lw_61 : Cond.methodLink "LadderMakerLaw" 61 y_Mo_would ∈ lw_g := mg_t (List.mem_of_getElem? (i := 996) (by decide +kernel)) rfl
theorem kc_Mo_268 : Cond.constantLong RX11 268 (3 : Int64) ∈ lw_g := mg_t (List.mem_of_getElem? (i := 1000) (by decide +kernel)) rfl
theorem ml_Mo_270 : Cond.methodLink RX11 270 y_Mo_unfolds ∈ lw_g := mg_t (List.mem_of_getElem? (i := 1001) (by decide +kernel)) rfl
theorem ml_Mo_262 : Cond.methodLink RX11 262 y_Mo_divides ∈ lw_g := mg_t (List.mem_of_getElem? (i := 1005) (by decide +kernel)) rfl
theorem ml_Mo_184 : Cond.methodLink RX11 184 y_Mo_top ∈ lw_g := mg_t (List.mem_of_getElem? (i := 1009) (by decide +kernel)) rfl
theorem ml_Mo_188 : Cond.methodLink RX11 188 y_Mo_swaps ∈ lw_g := mg_t (List.mem_of_getElem? (i := 1012) (by decide +kernel)) rfl
theorem ml_Mo_191 : Cond.methodLink RX11 191 y_Mo_content ∈ lw_g := mg_t (List.mem_of_getElem? (i := 1016) (by decide +kernel)) rfl
theorem ml_Mo_195 : Cond.methodLink RX11 195 y_Mo_scales ∈ lw_g := mg_t (List.mem_of_getElem? (i := 1019) (by decide +kernel)) rfl
theorem ml_Mo_199 : Cond.methodLink RX11 199 y_Mo_dividesOnce ∈ lw_g := mg_t (List.mem_of_getElem? (i := 1023) (by decide +kernel)) rfl
theorem ml_Mo_203 : Cond.methodLink RX11 203 y_Mo_takes ∈ lw_g := mg_t (List.mem_of_getElem? (i := 1027) (by decide +kernel)) rfl
theorem ml_Mo_207 : Cond.methodLink RX11 207 y_Mo_isHandy ∈ lw_g := mg_t (List.mem_of_getElem? (i := 1031) (by decide +kernel)) rfl
theorem kc_Mo_173 : Cond.constantLong RX11 173 (99 : Int64) ∈ lw_g := mg_t (List.mem_of_getElem? (i := 1035) (by decide +kernel)) rfl
theorem ml_Mo_210 : Cond.methodLink RX11 210 y_Mo_makes ∈ lw_g := mg_t (List.mem_of_getElem? (i := 1036) (by decide +kernel)) rfl
theorem ml_Mo_214 : Cond.methodLink RX11 214 y_Mo_lays ∈ lw_g := mg_t (List.mem_of_getElem? (i := 1040) (by decide +kernel)) rfl
theorem ml_Mo_265 : Cond.methodLink RX11 265 y_Mo_byRoots ∈ lw_g := mg_t (List.mem_of_getElem? (i := 1044) (by decide +kernel)) rfl
theorem ml_Mo_235 : Cond.methodLink RX11 235 y_Mo_candidates ∈ lw_g := mg_t (List.mem_of_getElem? (i := 1048) (by decide +kernel)) rfl
theorem ml_Mo_224 : Cond.methodLink RX11 224 y_Mo_candidate ∈ lw_g := mg_t (List.mem_of_getElem? (i := 1052) (by decide +kernel)) rfl
theorem ml_Mo_238 : Cond.methodLink RX11 238 y_Mo_squares ∈ lw_g := mg_t (List.mem_of_getElem? (i := 1055) (by decide +kernel)) rfl
theorem ml_Mo_227 : Cond.methodLink RX11 227 y_Mo_downs ∈ lw_g := mg_t (List.mem_of_getElem? (i := 1059) (by decide +kernel)) rfl
theorem ml_Mo_242 : Cond.methodLink RX11 242 y_Mo_isDark ∈ lw_g := mg_t (List.mem_of_getElem? (i := 1062) (by decide +kernel)) rfl
theorem ml_Mo_231 : Cond.methodLink RX11 231 y_Mo_takesOut ∈ lw_g := mg_t (List.mem_of_getElem? (i := 1066) (by decide +kernel)) rfl
theorem ml_Mo_217 : Cond.methodLink RX11 217 y_Mo_valueAt ∈ lw_g := mg_t (List.mem_of_getElem? (i := 1070) (by decide +kernel)) rfl
theorem ml_Mo_245 : Cond.methodLink RX11 245 y_Mo_ends ∈ lw_g := mg_t (List.mem_of_getElem? (i := 1073) (by decide +kernel)) rfl
theorem ml_Mo_258 : Cond.methodLink RX11 258 y_Mo_alone ∈ lw_g := mg_t (List.mem_of_getElem? (i := 1077) (by decide +kernel)) rfl
theorem ml_Mo_248 : Cond.methodLink RX11 248 y_Mo_slopes ∈ lw_g := mg_t (List.mem_of_getElem? (i := 1081) (by decide +kernel)) rfl
theorem ml_Mo_251 : Cond.methodLink RX11 251 y_Mo_isRoot ∈ lw_g := mg_t (List.mem_of_getElem? (i := 1085) (by decide +kernel)) rfl
theorem ml_Mo_254 : Cond.methodLink RX11 254 y_Mo_rootOnce ∈ lw_g := mg_t (List.mem_of_getElem? (i := 1089) (by decide +kernel)) rfl
theorem ml_Lw_57 : Cond.methodLink "LadderMakerLaw" 57 y_Mo_unfold ∈ lw_g := mg_t (List.mem_of_getElem? (i := 1093) (by decide +kernel)) rfl
theorem ml_Lw_70 : Cond.methodLink "LadderMakerLaw" 70 y_Mo_fold ∈ lw_g := mg_t (List.mem_of_getElem? (i := 1097) (by decide +kernel)) rfl
theorem ml_Mo_285 : Cond.methodLink RX11 285 y_Mo_folds ∈ lw_g := mg_t (List.mem_of_getElem? (i := 1101) (by decide +kernel)) rfl
theorem ml_Mo_273 : Cond.methodLink RX11 273 y_Mo_armOf ∈ lw_g := mg_t (List.mem_of_getElem? (i := 1105) (by decide +kernel)) rfl
theorem ml_Mo_276 : Cond.methodLink RX11 276 y_Mo_turnsOver ∈ lw_g := mg_t (List.mem_of_getElem? (i := 1109) (by decide +kernel)) rfl
theorem ml_Mo_279 : Cond.methodLink RX11 279 y_Mo_adds ∈ lw_g := mg_t (List.mem_of_getElem? (i := 1113) (by decide +kernel)) rfl
theorem ml_Mo_282 : Cond.methodLink RX11 282 y_Mo_asPair ∈ lw_g := mg_t (List.mem_of_getElem? (i := 1117) (by decide +kernel)) rfl
theorem ml_Mo_288 : Cond.methodLink RX11 288 y_Mo_foldBy ∈ lw_g := mg_t (List.mem_of_getElem? (i := 1121) (by decide +kernel)) rfl
theorem ml_Lw_74 : Cond.methodLink "LadderMakerLaw" 74 y_Mo_alike ∈ lw_g := mg_t (List.mem_of_getElem? (i := 1125) (by decide +kernel)) rfl
theorem ml_Mo_294 : Cond.methodLink RX11 294 y_Mo_alikeNow ∈ lw_g := mg_t (List.mem_of_getElem? (i := 1129) (by decide +kernel)) rfl
theorem kc_Mo_292 : Cond.constantLong RX11 292 (13 : Int64) ∈ lw_g := mg_t (List.mem_of_getElem? (i := 1133) (by decide +kernel)) rfl
theorem ml_Lw_78 : Cond.methodLink "LadderMakerLaw" 78 y_Mo_take ∈ lw_g := mg_t (List.mem_of_getElem? (i := 1134) (by decide +kernel)) rfl
theorem ml_Lw_82 : Cond.methodLink "LadderMakerLaw" 82 y_Mo_bill ∈ lw_g := mg_t (List.mem_of_getElem? (i := 1138) (by decide +kernel)) rfl
theorem ml_Mo_312 : Cond.methodLink RX11 312 y_Mo_parts ∈ lw_g := mg_t (List.mem_of_getElem? (i := 1142) (by decide +kernel)) rfl
theorem ml_Mo_308 : Cond.methodLink RX11 308 y_Mo_isFirst ∈ lw_g := mg_t (List.mem_of_getElem? (i := 1146) (by decide +kernel)) rfl
theorem ml_Mo_298 : Cond.methodLink RX11 298 y_Mo_partUp ∈ lw_g := mg_t (List.mem_of_getElem? (i := 1150) (by decide +kernel)) rfl
theorem ml_Mo_304 : Cond.methodLink RX11 304 y_Mo_isLike ∈ lw_g := mg_t (List.mem_of_getElem? (i := 1154) (by decide +kernel)) rfl
theorem ml_Mo_301 : Cond.methodLink RX11 301 y_Mo_partDown ∈ lw_g := mg_t (List.mem_of_getElem? (i := 1158) (by decide +kernel)) rfl
theorem ml_Mo_316 : Cond.methodLink RX11 316 y_Mo_nthPart ∈ lw_g := mg_t (List.mem_of_getElem? (i := 1162) (by decide +kernel)) rfl
theorem ml_Mo_319 : Cond.methodLink RX11 319 y_Mo_billBy ∈ lw_g := mg_t (List.mem_of_getElem? (i := 1166) (by decide +kernel)) rfl
theorem ml_Lw_86 : Cond.methodLink "LadderMakerLaw" 86 y_Mo_values ∈ lw_g := mg_t (List.mem_of_getElem? (i := 1170) (by decide +kernel)) rfl
theorem ml_Lw_90 : Cond.methodLink "LadderMakerLaw" 90 y_Mo_keep ∈ lw_g := mg_t (List.mem_of_getElem? (i := 1174) (by decide +kernel)) rfl
theorem ml_Mo_328 : Cond.methodLink RX11 328 y_Mo_found ∈ lw_g := mg_t (List.mem_of_getElem? (i := 1178) (by decide +kernel)) rfl
theorem ml_Mo_322 : Cond.methodLink RX11 322 y_Mo_wishAsPair ∈ lw_g := mg_t (List.mem_of_getElem? (i := 1182) (by decide +kernel)) rfl
theorem ml_Lw_94 : Cond.methodLink "LadderMakerLaw" 94 y_Mo_find ∈ lw_g := mg_t (List.mem_of_getElem? (i := 1186) (by decide +kernel)) rfl
theorem ml_Lw_98 : Cond.methodLink "LadderMakerLaw" 98 y_Mo_kept ∈ lw_g := mg_t (List.mem_of_getElem? (i := 1190) (by decide +kernel)) rfl
theorem ml_Mo_331 : Cond.methodLink RX11 331 y_Mo_keptBy ∈ lw_g := mg_t (List.mem_of_getElem? (i := 1194) (by decide +kernel)) rfl
theorem ml_Lw_102 : Cond.methodLink "LadderMakerLaw" 102 y_Mo_recall ∈ lw_g := mg_t (List.mem_of_getElem? (i := 1198) (by decide +kernel)) rfl
theorem ml_Lw_127 : Cond.methodLink "LadderMakerLaw" 127 y_Mo_write ∈ lw_g := mg_t (List.mem_of_getElem? (i := 1202) (by decide +kernel)) rfl
theorem ml_Mo_334 : Cond.methodLink RX11 334 y_Mo_lesser ∈ lw_g := mg_t (List.mem_of_getElem? (i := 1206) (by decide +kernel)) rfl
theorem ml_Lw_131 : Cond.methodLink "LadderMakerLaw" 131 y_Mo_count ∈ lw_g := mg_t (List.mem_of_getElem? (i := 1209) (by decide +kernel)) rfl
theorem ml_Mo_337 : Cond.methodLink RX11 337 y_Mo_keptAll ∈ lw_g := mg_t (List.mem_of_getElem? (i := 1213) (by decide +kernel)) rfl
theorem ml_Mo_340 : Cond.methodLink RX11 340 y_Mo_alike ∈ lw_g := mg_t (List.mem_of_getElem? (i := 1217) (by decide +kernel)) rfl
theorem ml_Mo_343 : Cond.methodLink RX11 343 y_Mo_sheets ∈ lw_g := mg_t (List.mem_of_getElem? (i := 1218) (by decide +kernel)) rfl
theorem ml_Lw_136 : Cond.methodLink "LadderMakerLaw" 136 y_Mo_digest ∈ lw_g := mg_t (List.mem_of_getElem? (i := 1222) (by decide +kernel)) rfl
theorem kc_Mo_351 : Cond.constantLong RX11 351 (17 : Int64) ∈ lw_g := mg_t (List.mem_of_getElem? (i := 1226) (by decide +kernel)) rfl
theorem kc_Mo_346 : Cond.constantLong RX11 346 (31 : Int64) ∈ lw_g := mg_t (List.mem_of_getElem? (i := 1227) (by decide +kernel)) rfl
theorem ml_Mo_353 : Cond.methodLink RX11 353 y_Mo_count ∈ lw_g := mg_t (List.mem_of_getElem? (i := 1228) (by decide +kernel)) rfl
theorem ml_Mo_356 : Cond.methodLink RX11 356 y_Mo_ladderTells ∈ lw_g := mg_t (List.mem_of_getElem? (i := 1229) (by decide +kernel)) rfl
theorem ml_Mo_348 : Cond.methodLink RX11 348 y_Mo_values ∈ lw_g := mg_t (List.mem_of_getElem? (i := 1233) (by decide +kernel)) rfl
theorem jd_max_s : Cond.static Lib.Math.max.name ∈ lw_g := mg_t (List.mem_of_getElem? (i := 311) (by decide +kernel)) rfl
theorem jd_max_c : Cond.code Lib.Math.max.name Lib.Math.max.code 2 (some .int) ∈ lw_g := mg_t (List.mem_of_getElem? (i := 312) (by decide +kernel)) rfl
theorem jd_min_s : Cond.static Lib.Math.min.name ∈ lw_g := mg_t (List.mem_of_getElem? (i := 553) (by decide +kernel)) rfl
theorem jd_min_c : Cond.code Lib.Math.min.name Lib.Math.min.code 2 (some .int) ∈ lw_g := mg_t (List.mem_of_getElem? (i := 554) (by decide +kernel)) rfl
theorem jd_abs_s : Cond.static Lib.MathLoose.abs_long.x ∈ lw_g := mg_t (List.mem_of_getElem? (i := 400) (by decide +kernel)) rfl
theorem jd_abs_c : Cond.code Lib.MathLoose.abs_long.x Lib.MathLoose.abs_long.code 2 (some .long) ∈ lw_g := mg_t (List.mem_of_getElem? (i := 401) (by decide +kernel)) rfl
theorem jd_copy_s : Cond.static arraycopyName ∈ lw_g := mg_t (List.mem_of_getElem? (i := 720) (by decide +kernel)) rfl
theorem jd_copy_n : Cond.native arraycopyName ∈ lw_g := mg_t (List.mem_of_getElem? (i := 721) (by decide +kernel)) rfl
theorem jd_Math_i : Cond.initialized "java/lang/Math" ∈ lw_g := mg_t (List.mem_of_getElem? (i := 13) (by decide +kernel)) rfl
theorem jd_System_i : Cond.initialized "java/lang/System" ∈ lw_g := mg_t (List.mem_of_getElem? (i := 14) (by decide +kernel)) rfl
