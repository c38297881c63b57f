theorem cl_Lm_9 : Cond.classLink RX10 9 RX5 ∈ lw_g := mg_t (List.mem_of_getElem? (i := 23) (by decide +kernel)) rfl
theorem cl_Pa_9 : Cond.classLink RX5 9 RX6 ∈ lw_g := mg_t (List.mem_of_getElem? (i := 29) (by decide +kernel)) rfl
theorem cl_Lm_16 : Cond.classLink RX10 16 RX3 ∈ lw_g := mg_t (List.mem_of_getElem? (i := 53) (by decide +kernel)) rfl
theorem cl_La_9 : Cond.classLink RX3 9 "[[I" ∈ lw_g := mg_t (List.mem_of_getElem? (i := 59) (by decide +kernel)) rfl
theorem cl_Lm_23 : Cond.classLink RX10 23 RX1 ∈ lw_g := mg_t (List.mem_of_getElem? (i := 72) (by decide +kernel)) rfl
theorem cl_Fo_9 : Cond.classLink RX1 9 RX5 ∈ lw_g := mg_t (List.mem_of_getElem? (i := 78) (by decide +kernel)) rfl
theorem cl_Lm_30 : Cond.classLink RX10 30 RX9 ∈ lw_g := mg_t (List.mem_of_getElem? (i := 91) (by decide +kernel)) rfl
theorem cl_Un_9 : Cond.classLink RX9 9 RX3 ∈ lw_g := mg_t (List.mem_of_getElem? (i := 97) (by decide +kernel)) rfl
theorem cl_Un_18 : Cond.classLink RX9 18 RX5 ∈ lw_g := mg_t (List.mem_of_getElem? (i := 99) (by decide +kernel)) rfl
theorem cl_Un_28 : Cond.classLink RX9 28 RX6 ∈ lw_g := mg_t (List.mem_of_getElem? (i := 101) (by decide +kernel)) rfl
theorem cl_Un_35 : Cond.classLink RX9 35 RX2 ∈ lw_g := mg_t (List.mem_of_getElem? (i := 103) (by decide +kernel)) rfl
theorem cl_Lm_37 : Cond.classLink RX10 37 RX0 ∈ lw_g := mg_t (List.mem_of_getElem? (i := 154) (by decide +kernel)) rfl
theorem cl_Bi_9 : Cond.classLink RX0 9 "[[I" ∈ lw_g := mg_t (List.mem_of_getElem? (i := 160) (by decide +kernel)) rfl
theorem cl_Lm_44 : Cond.classLink RX10 44 RX4 ∈ lw_g := mg_t (List.mem_of_getElem? (i := 169) (by decide +kernel)) rfl
theorem cl_Me_9 : Cond.classLink RX4 9 "[[I" ∈ lw_g := mg_t (List.mem_of_getElem? (i := 175) (by decide +kernel)) rfl
theorem cl_Me_16 : Cond.classLink RX4 16 RX5 ∈ lw_g := mg_t (List.mem_of_getElem? (i := 176) (by decide +kernel)) rfl
theorem cl_Lm_51 : Cond.classLink RX10 51 RX8 ∈ lw_g := mg_t (List.mem_of_getElem? (i := 189) (by decide +kernel)) rfl
theorem cl_Sh_9 : Cond.classLink RX8 9 "[[J" ∈ lw_g := mg_t (List.mem_of_getElem? (i := 195) (by decide +kernel)) rfl
theorem cl_Lm_58 : Cond.classLink RX10 58 RX7 ∈ lw_g := mg_t (List.mem_of_getElem? (i := 204) (by decide +kernel)) rfl
theorem cl_Re_7 : Cond.classLink RX7 7 RX6 ∈ lw_g := mg_t (List.mem_of_getElem? (i := 210) (by decide +kernel)) rfl
theorem cl_Re_16 : Cond.classLink RX7 16 RX2 ∈ lw_g := mg_t (List.mem_of_getElem? (i := 212) (by decide +kernel)) rfl
theorem in_0 : Cond.instantiable RX0 2 ∈ lw_g := mg_t (List.mem_of_getElem? (i := 155) (by decide +kernel)) rfl
theorem it_0 : Cond.initialized RX0 ∈ lw_g := mg_t (List.mem_of_getElem? (i := 8) (by decide +kernel)) rfl
theorem in_1 : Cond.instantiable RX1 3 ∈ lw_g := mg_t (List.mem_of_getElem? (i := 73) (by decide +kernel)) rfl
theorem it_1 : Cond.initialized RX1 ∈ lw_g := mg_t (List.mem_of_getElem? (i := 5) (by decide +kernel)) rfl
theorem in_2 : Cond.instantiable RX2 2 ∈ lw_g := mg_t (List.mem_of_getElem? (i := 104) (by decide +kernel)) rfl
theorem it_2 : Cond.initialized RX2 ∈ lw_g := mg_t (List.mem_of_getElem? (i := 7) (by decide +kernel)) rfl
theorem in_3 : Cond.instantiable RX3 2 ∈ lw_g := mg_t (List.mem_of_getElem? (i := 54) (by decide +kernel)) rfl
theorem it_3 : Cond.initialized RX3 ∈ lw_g := mg_t (List.mem_of_getElem? (i := 4) (by decide +kernel)) rfl
theorem in_4 : Cond.instantiable RX4 3 ∈ lw_g := mg_t (List.mem_of_getElem? (i := 170) (by decide +kernel)) rfl
theorem it_4 : Cond.initialized RX4 ∈ lw_g := mg_t (List.mem_of_getElem? (i := 9) (by decide +kernel)) rfl
theorem in_5 : Cond.instantiable RX5 2 ∈ lw_g := mg_t (List.mem_of_getElem? (i := 24) (by decide +kernel)) rfl
theorem it_5 : Cond.initialized RX5 ∈ lw_g := mg_t (List.mem_of_getElem? (i := 2) (by decide +kernel)) rfl
theorem in_6 : Cond.instantiable RX6 1 ∈ lw_g := mg_t (List.mem_of_getElem? (i := 30) (by decide +kernel)) rfl
theorem it_6 : Cond.initialized RX6 ∈ lw_g := mg_t (List.mem_of_getElem? (i := 3) (by decide +kernel)) rfl
theorem in_7 : Cond.instantiable RX7 2 ∈ lw_g := mg_t (List.mem_of_getElem? (i := 205) (by decide +kernel)) rfl
theorem it_7 : Cond.initialized RX7 ∈ lw_g := mg_t (List.mem_of_getElem? (i := 11) (by decide +kernel)) rfl
theorem in_8 : Cond.instantiable RX8 2 ∈ lw_g := mg_t (List.mem_of_getElem? (i := 190) (by decide +kernel)) rfl
theorem it_8 : Cond.initialized RX8 ∈ lw_g := mg_t (List.mem_of_getElem? (i := 10) (by decide +kernel)) rfl
theorem in_9 : Cond.instantiable RX9 10 ∈ lw_g := mg_t (List.mem_of_getElem? (i := 92) (by decide +kernel)) rfl
theorem it_9 : Cond.initialized RX9 ∈ lw_g := mg_t (List.mem_of_getElem? (i := 6) (by decide +kernel)) rfl
theorem in_10 : Cond.instantiable RX10 9 ∈ lw_g := mg_t (List.mem_of_getElem? (i := 16) (by decide +kernel)) rfl
theorem it_10 : Cond.initialized RX10 ∈ lw_g := mg_t (List.mem_of_getElem? (i := 1) (by decide +kernel)) rfl
theorem in_11 : Cond.instantiable RX11 33 ∈ lw_g := mg_t (List.mem_of_getElem? (i := 763) (by decide +kernel)) rfl
theorem it_11 : Cond.initialized RX11 ∈ lw_g := mg_t (List.mem_of_getElem? (i := 12) (by decide +kernel)) rfl
theorem ac_1 : Cond.arrayClass .int ∈ lw_g := mg_t (List.mem_of_getElem? (i := 71) (by decide +kernel)) rfl
theorem ac_2 : Cond.arrayClass .long ∈ lw_g := mg_t (List.mem_of_getElem? (i := 39) (by decide +kernel)) rfl
theorem ao_3 : Cond.arrayOver (.array .int) ∈ lw_tbl := mg_n (List.mem_of_getElem? (i := 60) (by decide +kernel))
theorem ao_4 : Cond.arrayOver (.array .long) ∈ lw_tbl := mg_n (List.mem_of_getElem? (i := 196) (by decide +kernel))
theorem ob_i : Cond.instanceMethod Lib.objectInit ∈ lw_g := mg_t (List.mem_of_getElem? (i := 21) (by decide +kernel)) rfl
theorem ob_c : Cond.code Lib.objectInit ⟨#[0xb1]⟩ 1 none ∈ lw_g := mg_t (List.mem_of_getElem? (i := 22) (by decide +kernel)) rfl
theorem d_Po_init_0 : decode c_Po_init 0 = .ok (.aload_n 0, 1) := by decide +kernel
theorem d_Po_init_1 : decode c_Po_init 1 = .ok (.invokespecial 3, 3) := by decide +kernel
theorem d_Po_init_4 : decode c_Po_init 4 = .ok (.aload_n 0, 1) := by decide +kernel
theorem d_Po_init_5 : decode c_Po_init 5 = .ok (.bipush 7, 2) := by decide +kernel
theorem d_Po_init_7 : decode c_Po_init 7 = .ok (.newarray .long, 2) := by decide +kernel
theorem d_Po_init_9 : decode c_Po_init 9 = .ok (.putfield 9, 3) := by decide +kernel
theorem d_Po_init_12 : decode c_Po_init 12 = .ok (.return_, 1) := by decide +kernel
def rm_Po_init : Room := { frames := 1, cells := 1, slots := 7, locals := 24 }
def Po_nI (n a : Nat) (I : HI) : HI := (va_up I n (fun _ => 0))
def Po_nJ (n a : Nat) (J : HJ) : HJ := (va_up J n (fun _ => 0))
def Po_nN (n a : Nat) (N : HN) : HN := (up2 (va_up N n (fun _ => none)) a 0 (some n))
theorem nk_Po {n a : Nat} {N : HN} (ha : a < n) (hno : nok n N) : nok (n + 1) (Po_nN n a N) := by
  unfold Po_nN
  exact (nok_up (nok_new hno) (by omega))
set_option maxRecDepth 20000 in
theorem kn_Po_init (l : Launch) {T : HT} {n a : Nat} {I : HI} {J : HJ} {N : HN} (ha : gk T n a (0, 6)) (hT0 : T n = (2, 7)) (hno : nok n N) : gMn l y_Po_init c_Po_init 1 rm_Po_init T n I J N (fun ad => [.ref (ad a)]) (n + 1) (Po_nI n a I) (Po_nJ n a J) (Po_nN n a N) 1 7 := by
  refine g_methn (lv := fun ad => [(0, .ref (ad a))]) (by decide) (fun _ => Nat.le_of_ble_eq_true rfl) (fun _ => rfl) (by omega) ?hno ?body
  case hno => exact nk_Po ha.1 hno
  case body =>
    intro X ad C hin
    have hA0 : ∀ i, i < n → ad i = ad i := fun _ _ => rfl
    have ha1 : a < n := ha.1
    refine g_aload_n (pc := 0) C d_Po_init_0 rfl 0 rfl ?_
    refine g_objInit (pc := 1) C ml_Po_3 ob_i ob_c ⟨Nat.le_of_ble_eq_true rfl, Nat.le_of_ble_eq_true rfl⟩ d_Po_init_1 ?_
    refine g_aload_n (pc := 4) C d_Po_init_4 rfl 0 rfl ?_
    refine g_bipush (pc := 5) C (7 : Int32) d_Po_init_5 (by decide) ?_
    refine g_newa (n := n) (mc := 0) (ms := 0) (κ := 2) (pc := 7) (lvf := fun ad => [(0, .ref (ad a))]) (stf := fun ad => [.ref (ad a)]) C (Or.inr ⟨rfl, rfl, rfl⟩) ac_2 hT0 hno (by decide) (by decide) (by decide) ⟨Nat.le_of_ble_eq_true rfl, Nat.le_of_ble_eq_true rfl⟩ d_Po_init_7 (fun ad9 e9 => by simp only [e9 a (by omega)]) (fun ad9 e9 => by simp only [e9 a (by omega)]) ?_
    intro ad1 e1
    have hA1 : ∀ i, i < n → ad1 i = ad i := fun i hi => (e1 i (by omega)).trans (hA0 i hi)
    have hno1 := nok_new hno
    refine g_putF (pc := 9) (I' := (va_up I n (fun _ => 0))) (J' := (va_up J n (fun _ => 0))) (N' := (up2 (va_up N n (fun _ => none)) a 0 (some n))) (k := 0) C hin gcX6 inX6 tyX6_ok nmX6 (by decide) fl_Po_9 rfl rfl ⟨(by omega), ha.2⟩ (tyX6_ok 0 (by decide)) rfl rfl (Nat.le_of_ble_eq_true rfl) gs_6_0 (fun _ _ => rfl) (fun _ _ => rfl) (fun b hb => up2_of hb) d_Po_init_9 ?_
    have hno2 := nok_up (a := a) (k := 0) (b := n) hno1 (by omega)
    exact g_vretn (pc := 12) C hA1 d_Po_init_12
theorem d_Pa_init_0 : decode c_Pa_init 0 = .ok (.aload_n 0, 1) := by decide +kernel
theorem d_Pa_init_1 : decode c_Pa_init 1 = .ok (.invokespecial 3, 3) := by decide +kernel
theorem d_Pa_init_4 : decode c_Pa_init 4 = .ok (.aload_n 0, 1) := by decide +kernel
theorem d_Pa_init_5 : decode c_Pa_init 5 = .ok (.new 9, 3) := by decide +kernel
theorem d_Pa_init_8 : decode c_Pa_init 8 = .ok (.dup, 1) := by decide +kernel
theorem d_Pa_init_9 : decode c_Pa_init 9 = .ok (.invokespecial 11, 3) := by decide +kernel
theorem d_Pa_init_12 : decode c_Pa_init 12 = .ok (.putfield 12, 3) := by decide +kernel
theorem d_Pa_init_15 : decode c_Pa_init 15 = .ok (.aload_n 0, 1) := by decide +kernel
theorem d_Pa_init_16 : decode c_Pa_init 16 = .ok (.new 9, 3) := by decide +kernel
theorem d_Pa_init_19 : decode c_Pa_init 19 = .ok (.dup, 1) := by decide +kernel
theorem d_Pa_init_20 : decode c_Pa_init 20 = .ok (.invokespecial 11, 3) := by decide +kernel
theorem d_Pa_init_23 : decode c_Pa_init 23 = .ok (.putfield 18, 3) := by decide +kernel
theorem d_Pa_init_26 : decode c_Pa_init 26 = .ok (.return_, 1) := by decide +kernel
def rm_Pa_init : Room := { frames := 2, cells := 4, slots := 16, locals := 44 }
def Pa_nI (n a : Nat) (I : HI) : HI := (Po_nI (n + 3) (n + 2) (va_up (Po_nI (n + 1) n (va_up I n (fun _ => 0))) (n + 2) (fun _ => 0)))
def Pa_nJ (n a : Nat) (J : HJ) : HJ := (Po_nJ (n + 3) (n + 2) (va_up (Po_nJ (n + 1) n (va_up J n (fun _ => 0))) (n + 2) (fun _ => 0)))
def Pa_nN (n a : Nat) (N : HN) : HN := (up2 (Po_nN (n + 3) (n + 2) (va_up (up2 (Po_nN (n + 1) n (va_up N n (fun _ => none))) a 0 (some n)) (n + 2) (fun _ => none))) a 1 (some (n + 2)))
theorem nk_Pa {n a : Nat} {N : HN} (ha : a < n) (hno : nok n N) : nok (n + 4) (Pa_nN n a N) := by
  unfold Pa_nN
  exact (nok_up (nk_Po (by omega) (nok_new (nok_up (nk_Po (by omega) (nok_new hno)) (by omega)))) (by omega))
set_option maxRecDepth 20000 in
theorem kn_Pa_init (l : Launch) {T : HT} {n a : Nat} {I : HI} {J : HJ} {N : HN} (ha : gk T n a (0, 5)) (hT0 : T n = (0, 6)) (hT1 : T (n + 1) = (2, 7)) (hT2 : T (n + 2) = (0, 6)) (hT3 : T (n + 3) = (2, 7)) (hno : nok n N) : gMn l y_Pa_init c_Pa_init 1 rm_Pa_init T n I J N (fun ad => [.ref (ad a)]) (n + 4) (Pa_nI n a I) (Pa_nJ n a J) (Pa_nN n a N) 4 16 := by
  refine g_methn (lv := fun ad => [(0, .ref (ad a))]) (by decide) (fun _ => Nat.le_of_ble_eq_true rfl) (fun _ => rfl) (by omega) ?hno ?body
  case hno => exact nk_Pa ha.1 hno
  case body =>
    intro X ad C hin
    have hA0 : ∀ i, i < n → ad i = ad i := fun _ _ => rfl
    have ha1 : a < n := ha.1
    refine g_aload_n (pc := 0) C d_Pa_init_0 rfl 0 rfl ?_
    refine g_objInit (pc := 1) C ml_Pa_3 ob_i ob_c ⟨Nat.le_of_ble_eq_true rfl, Nat.le_of_ble_eq_true rfl⟩ d_Pa_init_1 ?_
    refine g_aload_n (pc := 4) C d_Pa_init_4 rfl 0 rfl ?_
    refine g_new (n := n) (mc := 0) (ms := 0) (pc := 5) (lvf := fun ad => [(0, .ref (ad a))]) (stf := fun ad => [.ref (ad a)]) C gcX6 inX6 tyX6_ok cl_Pa_9 in_6 it_6 hT0 hno gz_6 ⟨Nat.le_of_ble_eq_true rfl, Nat.le_of_ble_eq_true rfl⟩ d_Pa_init_5 (fun ad9 e9 => by simp only [e9 a (by omega)]) (fun ad9 e9 => by simp only [e9 a (by omega)]) ?_
    intro ad1 e1
    have hA1 : ∀ i, i < n → ad1 i = ad i := fun i hi => (e1 i (by omega)).trans (hA0 i hi)
    have hno1 := nok_new hno
    refine g_dup (pc := 8) C d_Pa_init_8 rfl ?_
    have con2 := (kn_Po_init (xl X) (T := T) (n := (n + 1)) (a := n) (I := (va_up I n (fun _ => 0))) (J := (va_up J n (fun _ => 0))) (N := (va_up N n (fun _ => none))) ⟨(by omega), hT0⟩ hT1 hno1)
    refine g_Init (n := (n + 1)) (mc := 1) (ms := 1) (pc := 9) (lvf := fun ad => [(0, .ref (ad a))]) (stf := fun ad => [.ref (ad n), .ref (ad a)]) true C con2 sm_Po_init ml_Pa_11 im_Po_init rfl ⟨rfl, rfl, Nat.le_of_ble_eq_true rfl, Nat.le_of_ble_eq_true rfl⟩ ⟨Nat.le_of_ble_eq_true rfl, Nat.le_of_ble_eq_true rfl⟩ (Nat.le_of_ble_eq_true rfl) d_Pa_init_9 (fun ad9 e9 => by simp only [e9 a (by omega)]) (fun ad9 e9 => by simp only [e9 a (by omega), e9 n (by omega)]) ?_
    intro ad3 e3
    have hA3 : ∀ i, i < n → ad3 i = ad i := fun i hi => (e3 i (by omega)).trans (hA1 i hi)
    have hno3 := con2.2.1
    refine g_put (pc := 12) (I' := (Po_nI (n + 1) n (va_up I n (fun _ => 0)))) (J' := (Po_nJ (n + 1) n (va_up J n (fun _ => 0)))) (N' := (up2 (Po_nN (n + 1) n (va_up N n (fun _ => none))) a 0 (some n))) (k := 0) C gcX5 inX5 tyX5_ok nmX5 (by decide) fl_Pa_12 rfl ⟨(by omega), ha.2⟩ (tyX5_ok 0 (by decide)) rfl rfl (Nat.le_of_ble_eq_true rfl) gs_5_0 (fun _ _ => rfl) (fun _ _ => rfl) (fun b hb => up2_of hb) d_Pa_init_12 ?_
    have hno4 := nok_up (a := a) (k := 0) (b := n) hno3 (by omega)
    refine g_aload_n (pc := 15) C d_Pa_init_15 rfl 0 rfl ?_
    refine g_new (n := (n + 2)) (mc := 2) (ms := 8) (pc := 16) (lvf := fun ad => [(0, .ref (ad a))]) (stf := fun ad => [.ref (ad a)]) C gcX6 inX6 tyX6_ok cl_Pa_9 in_6 it_6 hT2 hno4 gz_6 ⟨Nat.le_of_ble_eq_true rfl, Nat.le_of_ble_eq_true rfl⟩ d_Pa_init_16 (fun ad9 e9 => by simp only [e9 a (by omega)]) (fun ad9 e9 => by simp only [e9 a (by omega)]) ?_
    intro ad5 e5
    have hA5 : ∀ i, i < n → ad5 i = ad i := fun i hi => (e5 i (by omega)).trans (hA3 i hi)
    have hno5 := nok_new hno4
    refine g_dup (pc := 19) C d_Pa_init_19 rfl ?_
    have con6 := (kn_Po_init (xl X) (T := T) (n := (n + 3)) (a := (n + 2)) (I := (va_up (Po_nI (n + 1) n (va_up I n (fun _ => 0))) (n + 2) (fun _ => 0))) (J := (va_up (Po_nJ (n + 1) n (va_up J n (fun _ => 0))) (n + 2) (fun _ => 0))) (N := (va_up (up2 (Po_nN (n + 1) n (va_up N n (fun _ => none))) a 0 (some n)) (n + 2) (fun _ => none))) ⟨(by omega), hT2⟩ hT3 hno5)
    refine g_Init (n := (n + 3)) (mc := 3) (ms := 9) (pc := 20) (lvf := fun ad => [(0, .ref (ad a))]) (stf := fun ad => [.ref (ad (n + 2)), .ref (ad a)]) true C con6 sm_Po_init ml_Pa_11 im_Po_init rfl ⟨rfl, rfl, Nat.le_of_ble_eq_true rfl, Nat.le_of_ble_eq_true rfl⟩ ⟨Nat.le_of_ble_eq_true rfl, Nat.le_of_ble_eq_true rfl⟩ (Nat.le_of_ble_eq_true rfl) d_Pa_init_20 (fun ad9 e9 => by simp only [e9 a (by omega)]) (fun ad9 e9 => by simp only [e9 (n + 2) (by omega), e9 a (by omega)]) ?_
    intro ad7 e7
    have hA7 : ∀ i, i < n → ad7 i = ad i := fun i hi => (e7 i (by omega)).trans (hA5 i hi)
    have hno7 := con6.2.1
    refine g_put (pc := 23) (I' := (Po_nI (n + 3) (n + 2) (va_up (Po_nI (n + 1) n (va_up I n (fun _ => 0))) (n + 2) (fun _ => 0)))) (J' := (Po_nJ (n + 3) (n + 2) (va_up (Po_nJ (n + 1) n (va_up J n (fun _ => 0))) (n + 2) (fun _ => 0)))) (N' := (up2 (Po_nN (n + 3) (n + 2) (va_up (up2 (Po_nN (n + 1) n (va_up N n (fun _ => none))) a 0 (some n)) (n + 2) (fun _ => none))) a 1 (some (n + 2)))) (k := 1) C gcX5 inX5 tyX5_ok nmX5 (by decide) fl_Pa_18 rfl ⟨(by omega), ha.2⟩ (tyX5_ok 1 (by decide)) rfl rfl (Nat.le_of_ble_eq_true rfl) gs_5_1 (fun _ _ => rfl) (fun _ _ => rfl) (fun b hb => up2_of hb) d_Pa_init_23 ?_
    have hno8 := nok_up (a := a) (k := 1) (b := (n + 2)) hno7 (by omega)
    exact g_vretn (pc := 26) C hA7 d_Pa_init_26
theorem d_La_init_0 : decode c_La_init 0 = .ok (.aload_n 0, 1) := by decide +kernel
theorem d_La_init_1 : decode c_La_init 1 = .ok (.invokespecial 3, 3) := by decide +kernel
theorem d_La_init_4 : decode c_La_init 4 = .ok (.aload_n 0, 1) := by decide +kernel
theorem d_La_init_5 : decode c_La_init 5 = .ok (.bipush 6, 2) := by decide +kernel
theorem d_La_init_7 : decode c_La_init 7 = .ok (.iconst 5, 1) := by decide +kernel
theorem d_La_init_8 : decode c_La_init 8 = .ok (.multianewarray 9 2, 4) := by decide +kernel
theorem d_La_init_12 : decode c_La_init 12 = .ok (.putfield 11, 3) := by decide +kernel
theorem d_La_init_15 : decode c_La_init 15 = .ok (.aload_n 0, 1) := by decide +kernel
theorem d_La_init_16 : decode c_La_init 16 = .ok (.iconst 0, 1) := by decide +kernel
theorem d_La_init_17 : decode c_La_init 17 = .ok (.putfield 16, 3) := by decide +kernel
theorem d_La_init_20 : decode c_La_init 20 = .ok (.return_, 1) := by decide +kernel
def rm_La_init : Room := { frames := 1, cells := 7, slots := 36, locals := 24 }
def La_nI (n a : Nat) (I : HI) : HI := (up2 (mzI I n 6) a 1 (0 : Int32))
def La_nJ (n a : Nat) (J : HJ) : HJ := (mzJ J n 6)
def La_nN (n a : Nat) (N : HN) : HN := (up2 (mzN N n 6) a 0 (some n))
theorem nk_La {n a : Nat} {N : HN} (ha : a < n) (hno : nok n N) : nok (n + 7) (La_nN n a N) := by
  unfold La_nN
  exact (nok_up (nok_mz (m := 6) hno) (by omega))
set_option maxRecDepth 20000 in
theorem kn_La_init (l : Launch) {T : HT} {n a : Nat} {I : HI} {J : HJ} {N : HN} (ha : gk T n a (0, 3)) (hT0 : T n = (3, 6)) (hTr : ∀ i, i < 6 → T (n + 1 + i) = (1, 5)) (hno : nok n N) : gMn l y_La_init c_La_init 1 rm_La_init T n I J N (fun ad => [.ref (ad a)]) (n + 7) (La_nI n a I) (La_nJ n a J) (La_nN n a N) 7 36 := by
  refine g_methn (lv := fun ad => [(0, .ref (ad a))]) (by decide) (fun _ => Nat.le_of_ble_eq_true rfl) (fun _ => rfl) (by omega) ?hno ?body
  case hno => exact nk_La ha.1 hno
  case body =>
    intro X ad C hin
    have hA0 : ∀ i, i < n → ad i = ad i := fun _ _ => rfl
    have ha1 : a < n := ha.1
    refine g_aload_n (pc := 0) C d_La_init_0 rfl 0 rfl ?_
    refine g_objInit (pc := 1) C ml_La_3 ob_i ob_c ⟨Nat.le_of_ble_eq_true rfl, Nat.le_of_ble_eq_true rfl⟩ d_La_init_1 ?_
    refine g_aload_n (pc := 4) C d_La_init_4 rfl 0 rfl ?_
    refine g_bipush (pc := 5) C (6 : Int32) d_La_init_5 (by decide) ?_
    refine g_iconst (pc := 7) C (5 : Int32) d_La_init_7 (by decide) ?_
    refine g_mna (n := n) (m := 6) (len := 5) (mc := 0) (ms := 0) (κ := 3) (pc := 8) (lvf := fun ad => [(0, .ref (ad a))]) (stf := fun ad => [.ref (ad a)]) C (Or.inl ⟨rfl, rfl, rfl⟩) ac_1 cl_La_9 ao_3 hT0 hTr hno (by decide) (by decide) (by decide) (by decide) ⟨by decide, by decide⟩ ⟨Nat.le_of_ble_eq_true rfl, Nat.le_of_ble_eq_true rfl⟩ d_La_init_8 (fun ad9 e9 => by simp only [e9 a (by omega)]) (fun ad9 e9 => by simp only [e9 a (by omega)]) ?_
    intro ad1 e1
    have hA1 : ∀ i, i < n → ad1 i = ad i := fun i hi => (e1 i (by omega)).trans (hA0 i hi)
    have hno1 := nok_mz (m := 6) hno
    refine g_putF (pc := 12) (I' := (mzI I n 6)) (J' := (mzJ J n 6)) (N' := (up2 (mzN N n 6) a 0 (some n))) (k := 0) C hin gcX3 inX3 tyX3_ok nmX3 (by decide) fl_La_11 rfl rfl ⟨(by omega), ha.2⟩ (tyX3_ok 0 (by decide)) rfl rfl (Nat.le_of_ble_eq_true rfl) gs_3_0 (fun _ _ => rfl) (fun _ _ => rfl) (fun b hb => up2_of hb) d_La_init_12 ?_
    have hno2 := nok_up (a := a) (k := 0) (b := n) hno1 (by omega)
    refine g_aload_n (pc := 15) C d_La_init_15 rfl 0 rfl ?_
    refine g_iconst (pc := 16) C (0 : Int32) d_La_init_16 (by decide) ?_
    refine g_put (pc := 17) (I' := (up2 (mzI I n 6) a 1 (0 : Int32))) (J' := (mzJ J n 6)) (N' := (up2 (mzN N n 6) a 0 (some n))) (k := 1) C gcX3 inX3 tyX3_ok nmX3 (by decide) fl_La_16 rfl ⟨(by omega), ha.2⟩ (tyX3_ok 1 (by decide)) rfl rfl (Nat.le_of_ble_eq_true rfl) gs_3_1 (fun b hb => up2_of hb) (fun _ _ => rfl) (fun _ _ => rfl) d_La_init_17 ?_
    exact g_vretn (pc := 20) C hA1 d_La_init_20
theorem d_Fo_init_0 : decode c_Fo_init 0 = .ok (.aload_n 0, 1) := by decide +kernel
theorem d_Fo_init_1 : decode c_Fo_init 1 = .ok (.invokespecial 3, 3) := by decide +kernel
theorem d_Fo_init_4 : decode c_Fo_init 4 = .ok (.aload_n 0, 1) := by decide +kernel
theorem d_Fo_init_5 : decode c_Fo_init 5 = .ok (.new 9, 3) := by decide +kernel
theorem d_Fo_init_8 : decode c_Fo_init 8 = .ok (.dup, 1) := by decide +kernel
theorem d_Fo_init_9 : decode c_Fo_init 9 = .ok (.invokespecial 11, 3) := by decide +kernel
theorem d_Fo_init_12 : decode c_Fo_init 12 = .ok (.putfield 12, 3) := by decide +kernel
theorem d_Fo_init_15 : decode c_Fo_init 15 = .ok (.aload_n 0, 1) := by decide +kernel
theorem d_Fo_init_16 : decode c_Fo_init 16 = .ok (.new 9, 3) := by decide +kernel
theorem d_Fo_init_19 : decode c_Fo_init 19 = .ok (.dup, 1) := by decide +kernel
theorem d_Fo_init_20 : decode c_Fo_init 20 = .ok (.invokespecial 11, 3) := by decide +kernel
theorem d_Fo_init_23 : decode c_Fo_init 23 = .ok (.putfield 18, 3) := by decide +kernel
theorem d_Fo_init_26 : decode c_Fo_init 26 = .ok (.aload_n 0, 1) := by decide +kernel
theorem d_Fo_init_27 : decode c_Fo_init 27 = .ok (.new 9, 3) := by decide +kernel
theorem d_Fo_init_30 : decode c_Fo_init 30 = .ok (.dup, 1) := by decide +kernel
theorem d_Fo_init_31 : decode c_Fo_init 31 = .ok (.invokespecial 11, 3) := by decide +kernel
theorem d_Fo_init_34 : decode c_Fo_init 34 = .ok (.putfield 21, 3) := by decide +kernel
theorem d_Fo_init_37 : decode c_Fo_init 37 = .ok (.return_, 1) := by decide +kernel
def rm_Fo_init : Room := { frames := 3, cells := 15, slots := 54, locals := 64 }
def Fo_nI (I : HI) : HI := (Pa_nI 26 25 (va_up (Pa_nI 21 20 (va_up (Pa_nI 16 15 (va_up I 15 (fun _ => 0))) 20 (fun _ => 0))) 25 (fun _ => 0)))
def Fo_nJ (J : HJ) : HJ := (Pa_nJ 26 25 (va_up (Pa_nJ 21 20 (va_up (Pa_nJ 16 15 (va_up J 15 (fun _ => 0))) 20 (fun _ => 0))) 25 (fun _ => 0)))
def Fo_nN (N : HN) : HN := (up2 (Pa_nN 26 25 (va_up (up2 (Pa_nN 21 20 (va_up (up2 (Pa_nN 16 15 (va_up N 15 (fun _ => none))) 14 0 (some 15)) 20 (fun _ => none))) 14 1 (some 20)) 25 (fun _ => none))) 14 2 (some 25))
theorem nk_Fo {N : HN} (hno : nok 15 N) : nok 30 (Fo_nN N) := by
  unfold Fo_nN
  exact (nok_up (nk_Pa (by decide) (nok_new (nok_up (nk_Pa (by decide) (nok_new (nok_up (nk_Pa (by decide) (nok_new hno)) (by decide)))) (by decide)))) (by decide))
set_option maxRecDepth 20000 in
theorem kn_Fo_init (l : Launch) {I : HI} {J : HJ} {N : HN} (hno : nok 15 N) : gMn l y_Fo_init c_Fo_init 1 rm_Fo_init Tc 15 I J N (fun ad => [.ref (ad 14)]) 30 (Fo_nI I) (Fo_nJ J) (Fo_nN N) 15 54 := by
  refine g_methn (lv := fun ad => [(0, .ref (ad 14))]) (by decide) (fun _ => Nat.le_of_ble_eq_true rfl) (fun _ => rfl) (by decide) ?hno ?body
  case hno => exact nk_Fo  hno
  case body =>
    intro X ad C hin
    have hA0 : ∀ i, i < 15 → ad i = ad i := fun _ _ => rfl
    refine g_aload_n (pc := 0) C d_Fo_init_0 rfl 0 rfl ?_
    refine g_objInit (pc := 1) C ml_Fo_3 ob_i ob_c ⟨Nat.le_of_ble_eq_true rfl, Nat.le_of_ble_eq_true rfl⟩ d_Fo_init_1 ?_
    refine g_aload_n (pc := 4) C d_Fo_init_4 rfl 0 rfl ?_
    refine g_new (n := 15) (mc := 0) (ms := 0) (pc := 5) (lvf := fun ad => [(0, .ref (ad 14))]) (stf := fun ad => [.ref (ad 14)]) C gcX5 inX5 tyX5_ok cl_Fo_9 in_5 it_5 rfl hno gz_5 ⟨Nat.le_of_ble_eq_true rfl, Nat.le_of_ble_eq_true rfl⟩ d_Fo_init_5 (fun ad9 e9 => by simp only [e9 14 (by decide)]) (fun ad9 e9 => by simp only [e9 14 (by decide)]) ?_
    intro ad1 e1
    have hA1 : ∀ i, i < 15 → ad1 i = ad i := fun i hi => (e1 i (by omega)).trans (hA0 i hi)
    have hno1 := nok_new hno
    refine g_dup (pc := 8) C d_Fo_init_8 rfl ?_
    have con2 := (kn_Pa_init (xl X) (T := Tc) (n := 16) (a := 15) (I := (va_up I 15 (fun _ => 0))) (J := (va_up J 15 (fun _ => 0))) (N := (va_up N 15 (fun _ => none))) ⟨(by decide), rfl⟩ rfl rfl rfl rfl hno1)
    refine g_Init (n := 16) (mc := 1) (ms := 2) (pc := 9) (lvf := fun ad => [(0, .ref (ad 14))]) (stf := fun ad => [.ref (ad 15), .ref (ad 14)]) true C con2 sm_Pa_init ml_Fo_11 im_Pa_init rfl ⟨rfl, rfl, Nat.le_of_ble_eq_true rfl, Nat.le_of_ble_eq_true rfl⟩ ⟨Nat.le_of_ble_eq_true rfl, Nat.le_of_ble_eq_true rfl⟩ (Nat.le_of_ble_eq_true rfl) d_Fo_init_9 (fun ad9 e9 => by simp only [e9 14 (by decide)]) (fun ad9 e9 => by simp only [e9 14 (by decide), e9 15 (by decide)]) ?_
    intro ad3 e3
    have hA3 : ∀ i, i < 15 → ad3 i = ad i := fun i hi => (e3 i (by omega)).trans (hA1 i hi)
    have hno3 := con2.2.1
    refine g_putF (pc := 12) (I' := (Pa_nI 16 15 (va_up I 15 (fun _ => 0)))) (J' := (Pa_nJ 16 15 (va_up J 15 (fun _ => 0)))) (N' := (up2 (Pa_nN 16 15 (va_up N 15 (fun _ => none))) 14 0 (some 15))) (k := 0) C hin gcX1 inX1 tyX1_ok nmX1 (by decide) fl_Fo_12 rfl rfl ⟨(by decide), rfl⟩ (tyX1_ok 0 (by decide)) rfl rfl (Nat.le_of_ble_eq_true rfl) gs_1_0 (fun _ _ => rfl) (fun _ _ => rfl) (fun b hb => up2_of hb) d_Fo_init_12 ?_
    have hno4 := nok_up (a := 14) (k := 0) (b := 15) hno3 (by decide)
    refine g_aload_n (pc := 15) C d_Fo_init_15 rfl 0 rfl ?_
    refine g_new (n := 20) (mc := 5) (ms := 18) (pc := 16) (lvf := fun ad => [(0, .ref (ad 14))]) (stf := fun ad => [.ref (ad 14)]) C gcX5 inX5 tyX5_ok cl_Fo_9 in_5 it_5 rfl hno4 gz_5 ⟨Nat.le_of_ble_eq_true rfl, Nat.le_of_ble_eq_true rfl⟩ d_Fo_init_16 (fun ad9 e9 => by simp only [e9 14 (by decide)]) (fun ad9 e9 => by simp only [e9 14 (by decide)]) ?_
    intro ad5 e5
    have hA5 : ∀ i, i < 15 → ad5 i = ad i := fun i hi => (e5 i (by omega)).trans (hA3 i hi)
    have hno5 := nok_new hno4
    refine g_dup (pc := 19) C d_Fo_init_19 rfl ?_
    have con6 := (kn_Pa_init (xl X) (T := Tc) (n := 21) (a := 20) (I := (va_up (Pa_nI 16 15 (va_up I 15 (fun _ => 0))) 20 (fun _ => 0))) (J := (va_up (Pa_nJ 16 15 (va_up J 15 (fun _ => 0))) 20 (fun _ => 0))) (N := (va_up (up2 (Pa_nN 16 15 (va_up N 15 (fun _ => none))) 14 0 (some 15)) 20 (fun _ => none))) ⟨(by decide), rfl⟩ rfl rfl rfl rfl hno5)
    refine g_Init (n := 21) (mc := 6) (ms := 20) (pc := 20) (lvf := fun ad => [(0, .ref (ad 14))]) (stf := fun ad => [.ref (ad 20), .ref (ad 14)]) true C con6 sm_Pa_init ml_Fo_11 im_Pa_init rfl ⟨rfl, rfl, Nat.le_of_ble_eq_true rfl, Nat.le_of_ble_eq_true rfl⟩ ⟨Nat.le_of_ble_eq_true rfl, Nat.le_of_ble_eq_true rfl⟩ (Nat.le_of_ble_eq_true rfl) d_Fo_init_20 (fun ad9 e9 => by simp only [e9 14 (by decide)]) (fun ad9 e9 => by simp only [e9 14 (by decide), e9 20 (by decide)]) ?_
    intro ad7 e7
    have hA7 : ∀ i, i < 15 → ad7 i = ad i := fun i hi => (e7 i (by omega)).trans (hA5 i hi)
    have hno7 := con6.2.1
    refine g_putF (pc := 23) (I' := (Pa_nI 21 20 (va_up (Pa_nI 16 15 (va_up I 15 (fun _ => 0))) 20 (fun _ => 0)))) (J' := (Pa_nJ 21 20 (va_up (Pa_nJ 16 15 (va_up J 15 (fun _ => 0))) 20 (fun _ => 0)))) (N' := (up2 (Pa_nN 21 20 (va_up (up2 (Pa_nN 16 15 (va_up N 15 (fun _ => none))) 14 0 (some 15)) 20 (fun _ => none))) 14 1 (some 20))) (k := 1) C hin gcX1 inX1 tyX1_ok nmX1 (by decide) fl_Fo_18 rfl rfl ⟨(by decide), rfl⟩ (tyX1_ok 1 (by decide)) rfl rfl (Nat.le_of_ble_eq_true rfl) gs_1_1 (fun _ _ => rfl) (fun _ _ => rfl) (fun b hb => up2_of hb) d_Fo_init_23 ?_
    have hno8 := nok_up (a := 14) (k := 1) (b := 20) hno7 (by decide)
    refine g_aload_n (pc := 26) C d_Fo_init_26 rfl 0 rfl ?_
    refine g_new (n := 25) (mc := 10) (ms := 36) (pc := 27) (lvf := fun ad => [(0, .ref (ad 14))]) (stf := fun ad => [.ref (ad 14)]) C gcX5 inX5 tyX5_ok cl_Fo_9 in_5 it_5 rfl hno8 gz_5 ⟨Nat.le_of_ble_eq_true rfl, Nat.le_of_ble_eq_true rfl⟩ d_Fo_init_27 (fun ad9 e9 => by simp only [e9 14 (by decide)]) (fun ad9 e9 => by simp only [e9 14 (by decide)]) ?_
    intro ad9 e9
    have hA9 : ∀ i, i < 15 → ad9 i = ad i := fun i hi => (e9 i (by omega)).trans (hA7 i hi)
    have hno9 := nok_new hno8
    refine g_dup (pc := 30) C d_Fo_init_30 rfl ?_
    have con10 := (kn_Pa_init (xl X) (T := Tc) (n := 26) (a := 25) (I := (va_up (Pa_nI 21 20 (va_up (Pa_nI 16 15 (va_up I 15 (fun _ => 0))) 20 (fun _ => 0))) 25 (fun _ => 0))) (J := (va_up (Pa_nJ 21 20 (va_up (Pa_nJ 16 15 (va_up J 15 (fun _ => 0))) 20 (fun _ => 0))) 25 (fun _ => 0))) (N := (va_up (up2 (Pa_nN 21 20 (va_up (up2 (Pa_nN 16 15 (va_up N 15 (fun _ => none))) 14 0 (some 15)) 20 (fun _ => none))) 14 1 (some 20)) 25 (fun _ => none))) ⟨(by decide), rfl⟩ rfl rfl rfl rfl hno9)
    refine g_Init (n := 26) (mc := 11) (ms := 38) (pc := 31) (lvf := fun ad => [(0, .ref (ad 14))]) (stf := fun ad => [.ref (ad 25), .ref (ad 14)]) true C con10 sm_Pa_init ml_Fo_11 im_Pa_init rfl ⟨rfl, rfl, Nat.le_of_ble_eq_true rfl, Nat.le_of_ble_eq_true rfl⟩ ⟨Nat.le_of_ble_eq_true rfl, Nat.le_of_ble_eq_true rfl⟩ (Nat.le_of_ble_eq_true rfl) d_Fo_init_31 (fun ad9 e9 => by simp only [e9 14 (by decide)]) (fun ad9 e9 => by simp only [e9 14 (by decide), e9 25 (by decide)]) ?_
    intro ad11 e11
    have hA11 : ∀ i, i < 15 → ad11 i = ad i := fun i hi => (e11 i (by omega)).trans (hA9 i hi)
    have hno11 := con10.2.1
    refine g_putF (pc := 34) (I' := (Pa_nI 26 25 (va_up (Pa_nI 21 20 (va_up (Pa_nI 16 15 (va_up I 15 (fun _ => 0))) 20 (fun _ => 0))) 25 (fun _ => 0)))) (J' := (Pa_nJ 26 25 (va_up (Pa_nJ 21 20 (va_up (Pa_nJ 16 15 (va_up J 15 (fun _ => 0))) 20 (fun _ => 0))) 25 (fun _ => 0)))) (N' := (up2 (Pa_nN 26 25 (va_up (up2 (Pa_nN 21 20 (va_up (up2 (Pa_nN 16 15 (va_up N 15 (fun _ => none))) 14 0 (some 15)) 20 (fun _ => none))) 14 1 (some 20)) 25 (fun _ => none))) 14 2 (some 25))) (k := 2) C hin gcX1 inX1 tyX1_ok nmX1 (by decide) fl_Fo_21 rfl rfl ⟨(by decide), rfl⟩ (tyX1_ok 2 (by decide)) rfl rfl (Nat.le_of_ble_eq_true rfl) gs_1_2 (fun _ _ => rfl) (fun _ _ => rfl) (fun b hb => up2_of hb) d_Fo_init_34 ?_
    have hno12 := nok_up (a := 14) (k := 2) (b := 25) hno11 (by decide)
    exact g_vretn (pc := 37) C hA11 d_Fo_init_37
theorem d_Fr_init_0 : decode c_Fr_init 0 = .ok (.aload_n 0, 1) := by decide +kernel
theorem d_Fr_init_1 : decode c_Fr_init 1 = .ok (.invokespecial 3, 3) := by decide +kernel
theorem d_Fr_init_4 : decode c_Fr_init 4 = .ok (.aload_n 0, 1) := by decide +kernel
theorem d_Fr_init_5 : decode c_Fr_init 5 = .ok (.lconst 0, 1) := by decide +kernel
theorem d_Fr_init_6 : decode c_Fr_init 6 = .ok (.putfield 9, 3) := by decide +kernel
theorem d_Fr_init_9 : decode c_Fr_init 9 = .ok (.aload_n 0, 1) := by decide +kernel
theorem d_Fr_init_10 : decode c_Fr_init 10 = .ok (.lconst 1, 1) := by decide +kernel
theorem d_Fr_init_11 : decode c_Fr_init 11 = .ok (.putfield 15, 3) := by decide +kernel
theorem d_Fr_init_14 : decode c_Fr_init 14 = .ok (.return_, 1) := by decide +kernel
def rm_Fr_init : Room := { frames := 1, cells := 0, slots := 0, locals := 24 }
def Fr_nI (n a : Nat) (I : HI) : HI := I
def Fr_nJ (n a : Nat) (J : HJ) : HJ := (up2 (up2 J a 0 (0 : Int64)) a 1 (1 : Int64))
def Fr_nN (n a : Nat) (N : HN) : HN := N
theorem nk_Fr {n a : Nat} {N : HN} (ha : a < n) (hno : nok n N) : nok n (Fr_nN n a N) := by
  unfold Fr_nN
  exact hno
set_option maxRecDepth 20000 in
theorem kn_Fr_init (l : Launch) {T : HT} {n a : Nat} {I : HI} {J : HJ} {N : HN} (ha : gk T n a (0, 2)) (hno : nok n N) : gMn l y_Fr_init c_Fr_init 1 rm_Fr_init T n I J N (fun ad => [.ref (ad a)]) n (Fr_nI n a I) (Fr_nJ n a J) (Fr_nN n a N) 0 0 := by
  refine g_methn (lv := fun ad => [(0, .ref (ad a))]) (by decide) (fun _ => Nat.le_of_ble_eq_true rfl) (fun _ => rfl) (by omega) ?hno ?body
  case hno => exact nk_Fr ha.1 hno
  case body =>
    intro X ad C hin
    have hA0 : ∀ i, i < n → ad i = ad i := fun _ _ => rfl
    have ha1 : a < n := ha.1
    refine g_aload_n (pc := 0) C d_Fr_init_0 rfl 0 rfl ?_
    refine g_objInit (pc := 1) C ml_Fr_3 ob_i ob_c ⟨Nat.le_of_ble_eq_true rfl, Nat.le_of_ble_eq_true rfl⟩ d_Fr_init_1 ?_
    refine g_aload_n (pc := 4) C d_Fr_init_4 rfl 0 rfl ?_
    refine g_lconst (pc := 5) C (0 : Int64) d_Fr_init_5 (by decide) ?_
    refine g_put (pc := 6) (I' := I) (J' := (up2 J a 0 (0 : Int64))) (N' := N) (k := 0) C gcX2 inX2 tyX2_ok nmX2 (by decide) fl_Fr_9 rfl ⟨(by omega), ha.2⟩ (tyX2_ok 0 (by decide)) rfl rfl (Nat.le_of_ble_eq_true rfl) gs_2_0 (fun _ _ => rfl) (fun b hb => up2_of hb) (fun _ _ => rfl) d_Fr_init_6 ?_
    refine g_aload_n (pc := 9) C d_Fr_init_9 rfl 0 rfl ?_
    refine g_lconst (pc := 10) C (1 : Int64) d_Fr_init_10 (by decide) ?_
    refine g_put (pc := 11) (I' := I) (J' := (up2 (up2 J a 0 (0 : Int64)) a 1 (1 : Int64))) (N' := N) (k := 1) C gcX2 inX2 tyX2_ok nmX2 (by decide) fl_Fr_15 rfl ⟨(by omega), ha.2⟩ (tyX2_ok 1 (by decide)) rfl rfl (Nat.le_of_ble_eq_true rfl) gs_2_1 (fun _ _ => rfl) (fun b hb => up2_of hb) (fun _ _ => rfl) d_Fr_init_11 ?_
    exact g_vretn (pc := 14) C hA0 d_Fr_init_14
theorem d_Un_init_0 : decode c_Un_init 0 = .ok (.aload_n 0, 1) := by decide +kernel
theorem d_Un_init_1 : decode c_Un_init 1 = .ok (.invokespecial 3, 3) := by decide +kernel
theorem d_Un_init_4 : decode c_Un_init 4 = .ok (.aload_n 0, 1) := by decide +kernel
theorem d_Un_init_5 : decode c_Un_init 5 = .ok (.new 9, 3) := by decide +kernel
theorem d_Un_init_8 : decode c_Un_init 8 = .ok (.dup, 1) := by decide +kernel
theorem d_Un_init_9 : decode c_Un_init 9 = .ok (.invokespecial 11, 3) := by decide +kernel
theorem d_Un_init_12 : decode c_Un_init 12 = .ok (.putfield 12, 3) := by decide +kernel
theorem d_Un_init_15 : decode c_Un_init 15 = .ok (.aload_n 0, 1) := by decide +kernel
theorem d_Un_init_16 : decode c_Un_init 16 = .ok (.new 18, 3) := by decide +kernel
theorem d_Un_init_19 : decode c_Un_init 19 = .ok (.dup, 1) := by decide +kernel
theorem d_Un_init_20 : decode c_Un_init 20 = .ok (.invokespecial 20, 3) := by decide +kernel
theorem d_Un_init_23 : decode c_Un_init 23 = .ok (.putfield 21, 3) := by decide +kernel
theorem d_Un_init_26 : decode c_Un_init 26 = .ok (.aload_n 0, 1) := by decide +kernel
theorem d_Un_init_27 : decode c_Un_init 27 = .ok (.new 18, 3) := by decide +kernel
theorem d_Un_init_30 : decode c_Un_init 30 = .ok (.dup, 1) := by decide +kernel
theorem d_Un_init_31 : decode c_Un_init 31 = .ok (.invokespecial 20, 3) := by decide +kernel
theorem d_Un_init_34 : decode c_Un_init 34 = .ok (.putfield 25, 3) := by decide +kernel
theorem d_Un_init_37 : decode c_Un_init 37 = .ok (.aload_n 0, 1) := by decide +kernel
theorem d_Un_init_38 : decode c_Un_init 38 = .ok (.new 28, 3) := by decide +kernel
theorem d_Un_init_41 : decode c_Un_init 41 = .ok (.dup, 1) := by decide +kernel
theorem d_Un_init_42 : decode c_Un_init 42 = .ok (.invokespecial 30, 3) := by decide +kernel
theorem d_Un_init_45 : decode c_Un_init 45 = .ok (.putfield 31, 3) := by decide +kernel
theorem d_Un_init_48 : decode c_Un_init 48 = .ok (.aload_n 0, 1) := by decide +kernel
theorem d_Un_init_49 : decode c_Un_init 49 = .ok (.new 35, 3) := by decide +kernel
theorem d_Un_init_52 : decode c_Un_init 52 = .ok (.dup, 1) := by decide +kernel
theorem d_Un_init_53 : decode c_Un_init 53 = .ok (.invokespecial 37, 3) := by decide +kernel
theorem d_Un_init_56 : decode c_Un_init 56 = .ok (.putfield 38, 3) := by decide +kernel
theorem d_Un_init_59 : decode c_Un_init 59 = .ok (.aload_n 0, 1) := by decide +kernel
theorem d_Un_init_60 : decode c_Un_init 60 = .ok (.new 35, 3) := by decide +kernel
theorem d_Un_init_63 : decode c_Un_init 63 = .ok (.dup, 1) := by decide +kernel
theorem d_Un_init_64 : decode c_Un_init 64 = .ok (.invokespecial 37, 3) := by decide +kernel
theorem d_Un_init_67 : decode c_Un_init 67 = .ok (.putfield 42, 3) := by decide +kernel
theorem d_Un_init_70 : decode c_Un_init 70 = .ok (.aload_n 0, 1) := by decide +kernel
theorem d_Un_init_71 : decode c_Un_init 71 = .ok (.iconst 3, 1) := by decide +kernel
theorem d_Un_init_72 : decode c_Un_init 72 = .ok (.newarray .int, 2) := by decide +kernel
theorem d_Un_init_74 : decode c_Un_init 74 = .ok (.putfield 45, 3) := by decide +kernel
theorem d_Un_init_77 : decode c_Un_init 77 = .ok (.aload_n 0, 1) := by decide +kernel
theorem d_Un_init_78 : decode c_Un_init 78 = .ok (.iconst 3, 1) := by decide +kernel
theorem d_Un_init_79 : decode c_Un_init 79 = .ok (.newarray .int, 2) := by decide +kernel
theorem d_Un_init_81 : decode c_Un_init 81 = .ok (.putfield 49, 3) := by decide +kernel
theorem d_Un_init_84 : decode c_Un_init 84 = .ok (.aload_n 0, 1) := by decide +kernel
theorem d_Un_init_85 : decode c_Un_init 85 = .ok (.iconst 3, 1) := by decide +kernel
theorem d_Un_init_86 : decode c_Un_init 86 = .ok (.newarray .int, 2) := by decide +kernel
theorem d_Un_init_88 : decode c_Un_init 88 = .ok (.putfield 52, 3) := by decide +kernel
theorem d_Un_init_91 : decode c_Un_init 91 = .ok (.aload_n 0, 1) := by decide +kernel
theorem d_Un_init_92 : decode c_Un_init 92 = .ok (.iconst 0, 1) := by decide +kernel
theorem d_Un_init_93 : decode c_Un_init 93 = .ok (.putfield 55, 3) := by decide +kernel
theorem d_Un_init_96 : decode c_Un_init 96 = .ok (.return_, 1) := by decide +kernel
def rm_Un_init : Room := { frames := 3, cells := 25, slots := 95, locals := 64 }
def Un_nI (I : HI) : HI := (up2 (va_up (va_up (va_up (Fr_nI 53 52 (va_up (Fr_nI 52 51 (va_up (Po_nI 50 49 (va_up (Pa_nI 45 44 (va_up (Pa_nI 40 39 (va_up (La_nI 32 31 (va_up I 31 (fun _ => 0))) 39 (fun _ => 0))) 44 (fun _ => 0))) 49 (fun _ => 0))) 51 (fun _ => 0))) 52 (fun _ => 0))) 53 (fun _ => 0)) 54 (fun _ => 0)) 55 (fun _ => 0)) 30 9 (0 : Int32))
def Un_nJ (J : HJ) : HJ := (va_up (va_up (va_up (Fr_nJ 53 52 (va_up (Fr_nJ 52 51 (va_up (Po_nJ 50 49 (va_up (Pa_nJ 45 44 (va_up (Pa_nJ 40 39 (va_up (La_nJ 32 31 (va_up J 31 (fun _ => 0))) 39 (fun _ => 0))) 44 (fun _ => 0))) 49 (fun _ => 0))) 51 (fun _ => 0))) 52 (fun _ => 0))) 53 (fun _ => 0)) 54 (fun _ => 0)) 55 (fun _ => 0))
def Un_nN (N : HN) : HN := (up2 (va_up (up2 (va_up (up2 (va_up (up2 (Fr_nN 53 52 (va_up (up2 (Fr_nN 52 51 (va_up (up2 (Po_nN 50 49 (va_up (up2 (Pa_nN 45 44 (va_up (up2 (Pa_nN 40 39 (va_up (up2 (La_nN 32 31 (va_up N 31 (fun _ => none))) 30 0 (some 31)) 39 (fun _ => none))) 30 1 (some 39)) 44 (fun _ => none))) 30 2 (some 44)) 49 (fun _ => none))) 30 3 (some 49)) 51 (fun _ => none))) 30 4 (some 51)) 52 (fun _ => none))) 30 5 (some 52)) 53 (fun _ => none)) 30 6 (some 53)) 54 (fun _ => none)) 30 7 (some 54)) 55 (fun _ => none)) 30 8 (some 55))
theorem nk_Un {N : HN} (hno : nok 31 N) : nok 56 (Un_nN N) := by
  unfold Un_nN
  exact (nok_up (nok_new (nok_up (nok_new (nok_up (nok_new (nok_up (nk_Fr (by decide) (nok_new (nok_up (nk_Fr (by decide) (nok_new (nok_up (nk_Po (by decide) (nok_new (nok_up (nk_Pa (by decide) (nok_new (nok_up (nk_Pa (by decide) (nok_new (nok_up (nk_La (by decide) (nok_new hno)) (by decide)))) (by decide)))) (by decide)))) (by decide)))) (by decide)))) (by decide))) (by decide))) (by decide))) (by decide))
set_option maxRecDepth 20000 in
theorem kn_Un_init (l : Launch) {I : HI} {J : HJ} {N : HN} (hno : nok 31 N) : gMn l y_Un_init c_Un_init 1 rm_Un_init Tc 31 I J N (fun ad => [.ref (ad 30)]) 56 (Un_nI I) (Un_nJ J) (Un_nN N) 25 95 := by
  refine g_methn (lv := fun ad => [(0, .ref (ad 30))]) (by decide) (fun _ => Nat.le_of_ble_eq_true rfl) (fun _ => rfl) (by decide) ?hno ?body
  case hno => exact nk_Un  hno
  case body =>
    intro X ad C hin
    have hA0 : ∀ i, i < 31 → ad i = ad i := fun _ _ => rfl
    refine g_aload_n (pc := 0) C d_Un_init_0 rfl 0 rfl ?_
    refine g_objInit (pc := 1) C ml_Un_3 ob_i ob_c ⟨Nat.le_of_ble_eq_true rfl, Nat.le_of_ble_eq_true rfl⟩ d_Un_init_1 ?_
    refine g_aload_n (pc := 4) C d_Un_init_4 rfl 0 rfl ?_
    refine g_new (n := 31) (mc := 0) (ms := 0) (pc := 5) (lvf := fun ad => [(0, .ref (ad 30))]) (stf := fun ad => [.ref (ad 30)]) C gcX3 inX3 tyX3_ok cl_Un_9 in_3 it_3 rfl hno gz_3 ⟨Nat.le_of_ble_eq_true rfl, Nat.le_of_ble_eq_true rfl⟩ d_Un_init_5 (fun ad9 e9 => by simp only [e9 30 (by decide)]) (fun ad9 e9 => by simp only [e9 30 (by decide)]) ?_
    intro ad1 e1
    have hA1 : ∀ i, i < 31 → ad1 i = ad i := fun i hi => (e1 i (by omega)).trans (hA0 i hi)
    have hno1 := nok_new hno
    refine g_dup (pc := 8) C d_Un_init_8 rfl ?_
    have con2 := (kn_La_init (xl X) (T := Tc) (n := 32) (a := 31) (I := (va_up I 31 (fun _ => 0))) (J := (va_up J 31 (fun _ => 0))) (N := (va_up N 31 (fun _ => none))) ⟨(by decide), rfl⟩ rfl (by decide) hno1)
    refine g_Init (n := 32) (mc := 1) (ms := 2) (pc := 9) (lvf := fun ad => [(0, .ref (ad 30))]) (stf := fun ad => [.ref (ad 31), .ref (ad 30)]) true C con2 sm_La_init ml_Un_11 im_La_init rfl ⟨rfl, rfl, Nat.le_of_ble_eq_true rfl, Nat.le_of_ble_eq_true rfl⟩ ⟨Nat.le_of_ble_eq_true rfl, Nat.le_of_ble_eq_true rfl⟩ (Nat.le_of_ble_eq_true rfl) d_Un_init_9 (fun ad9 e9 => by simp only [e9 30 (by decide)]) (fun ad9 e9 => by simp only [e9 30 (by decide), e9 31 (by decide)]) ?_
    intro ad3 e3
    have hA3 : ∀ i, i < 31 → ad3 i = ad i := fun i hi => (e3 i (by omega)).trans (hA1 i hi)
    have hno3 := con2.2.1
    refine g_putF (pc := 12) (I' := (La_nI 32 31 (va_up I 31 (fun _ => 0)))) (J' := (La_nJ 32 31 (va_up J 31 (fun _ => 0)))) (N' := (up2 (La_nN 32 31 (va_up N 31 (fun _ => none))) 30 0 (some 31))) (k := 0) C hin gcX9 inX9 tyX9_ok nmX9 (by decide) fl_Un_12 rfl rfl ⟨(by decide), rfl⟩ (tyX9_ok 0 (by decide)) rfl rfl (Nat.le_of_ble_eq_true rfl) gs_9_0 (fun _ _ => rfl) (fun _ _ => rfl) (fun b hb => up2_of hb) d_Un_init_12 ?_
    have hno4 := nok_up (a := 30) (k := 0) (b := 31) hno3 (by decide)
    refine g_aload_n (pc := 15) C d_Un_init_15 rfl 0 rfl ?_
    refine g_new (n := 39) (mc := 8) (ms := 38) (pc := 16) (lvf := fun ad => [(0, .ref (ad 30))]) (stf := fun ad => [.ref (ad 30)]) C gcX5 inX5 tyX5_ok cl_Un_18 in_5 it_5 rfl hno4 gz_5 ⟨Nat.le_of_ble_eq_true rfl, Nat.le_of_ble_eq_true rfl⟩ d_Un_init_16 (fun ad9 e9 => by simp only [e9 30 (by decide)]) (fun ad9 e9 => by simp only [e9 30 (by decide)]) ?_
    intro ad5 e5
    have hA5 : ∀ i, i < 31 → ad5 i = ad i := fun i hi => (e5 i (by omega)).trans (hA3 i hi)
    have hno5 := nok_new hno4
    refine g_dup (pc := 19) C d_Un_init_19 rfl ?_
    have con6 := (kn_Pa_init (xl X) (T := Tc) (n := 40) (a := 39) (I := (va_up (La_nI 32 31 (va_up I 31 (fun _ => 0))) 39 (fun _ => 0))) (J := (va_up (La_nJ 32 31 (va_up J 31 (fun _ => 0))) 39 (fun _ => 0))) (N := (va_up (up2 (La_nN 32 31 (va_up N 31 (fun _ => none))) 30 0 (some 31)) 39 (fun _ => none))) ⟨(by decide), rfl⟩ rfl rfl rfl rfl hno5)
    refine g_Init (n := 40) (mc := 9) (ms := 40) (pc := 20) (lvf := fun ad => [(0, .ref (ad 30))]) (stf := fun ad => [.ref (ad 39), .ref (ad 30)]) true C con6 sm_Pa_init ml_Un_20 im_Pa_init rfl ⟨rfl, rfl, Nat.le_of_ble_eq_true rfl, Nat.le_of_ble_eq_true rfl⟩ ⟨Nat.le_of_ble_eq_true rfl, Nat.le_of_ble_eq_true rfl⟩ (Nat.le_of_ble_eq_true rfl) d_Un_init_20 (fun ad9 e9 => by simp only [e9 30 (by decide)]) (fun ad9 e9 => by simp only [e9 30 (by decide), e9 39 (by decide)]) ?_
    intro ad7 e7
    have hA7 : ∀ i, i < 31 → ad7 i = ad i := fun i hi => (e7 i (by omega)).trans (hA5 i hi)
    have hno7 := con6.2.1
    refine g_putF (pc := 23) (I' := (Pa_nI 40 39 (va_up (La_nI 32 31 (va_up I 31 (fun _ => 0))) 39 (fun _ => 0)))) (J' := (Pa_nJ 40 39 (va_up (La_nJ 32 31 (va_up J 31 (fun _ => 0))) 39 (fun _ => 0)))) (N' := (up2 (Pa_nN 40 39 (va_up (up2 (La_nN 32 31 (va_up N 31 (fun _ => none))) 30 0 (some 31)) 39 (fun _ => none))) 30 1 (some 39))) (k := 1) C hin gcX9 inX9 tyX9_ok nmX9 (by decide) fl_Un_21 rfl rfl ⟨(by decide), rfl⟩ (tyX9_ok 1 (by decide)) rfl rfl (Nat.le_of_ble_eq_true rfl) gs_9_1 (fun _ _ => rfl) (fun _ _ => rfl) (fun b hb => up2_of hb) d_Un_init_23 ?_
    have hno8 := nok_up (a := 30) (k := 1) (b := 39) hno7 (by decide)
    refine g_aload_n (pc := 26) C d_Un_init_26 rfl 0 rfl ?_
    refine g_new (n := 44) (mc := 13) (ms := 56) (pc := 27) (lvf := fun ad => [(0, .ref (ad 30))]) (stf := fun ad => [.ref (ad 30)]) C gcX5 inX5 tyX5_ok cl_Un_18 in_5 it_5 rfl hno8 gz_5 ⟨Nat.le_of_ble_eq_true rfl, Nat.le_of_ble_eq_true rfl⟩ d_Un_init_27 (fun ad9 e9 => by simp only [e9 30 (by decide)]) (fun ad9 e9 => by simp only [e9 30 (by decide)]) ?_
    intro ad9 e9
    have hA9 : ∀ i, i < 31 → ad9 i = ad i := fun i hi => (e9 i (by omega)).trans (hA7 i hi)
    have hno9 := nok_new hno8
    refine g_dup (pc := 30) C d_Un_init_30 rfl ?_
    have con10 := (kn_Pa_init (xl X) (T := Tc) (n := 45) (a := 44) (I := (va_up (Pa_nI 40 39 (va_up (La_nI 32 31 (va_up I 31 (fun _ => 0))) 39 (fun _ => 0))) 44 (fun _ => 0))) (J := (va_up (Pa_nJ 40 39 (va_up (La_nJ 32 31 (va_up J 31 (fun _ => 0))) 39 (fun _ => 0))) 44 (fun _ => 0))) (N := (va_up (up2 (Pa_nN 40 39 (va_up (up2 (La_nN 32 31 (va_up N 31 (fun _ => none))) 30 0 (some 31)) 39 (fun _ => none))) 30 1 (some 39)) 44 (fun _ => none))) ⟨(by decide), rfl⟩ rfl rfl rfl rfl hno9)
    refine g_Init (n := 45) (mc := 14) (ms := 58) (pc := 31) (lvf := fun ad => [(0, .ref (ad 30))]) (stf := fun ad => [.ref (ad 44), .ref (ad 30)]) true C con10 sm_Pa_init ml_Un_20 im_Pa_init rfl ⟨rfl, rfl, Nat.le_of_ble_eq_true rfl, Nat.le_of_ble_eq_true rfl⟩ ⟨Nat.le_of_ble_eq_true rfl, Nat.le_of_ble_eq_true rfl⟩ (Nat.le_of_ble_eq_true rfl) d_Un_init_31 (fun ad9 e9 => by simp only [e9 30 (by decide)]) (fun ad9 e9 => by simp only [e9 30 (by decide), e9 44 (by decide)]) ?_
    intro ad11 e11
    have hA11 : ∀ i, i < 31 → ad11 i = ad i := fun i hi => (e11 i (by omega)).trans (hA9 i hi)
    have hno11 := con10.2.1
    refine g_putF (pc := 34) (I' := (Pa_nI 45 44 (va_up (Pa_nI 40 39 (va_up (La_nI 32 31 (va_up I 31 (fun _ => 0))) 39 (fun _ => 0))) 44 (fun _ => 0)))) (J' := (Pa_nJ 45 44 (va_up (Pa_nJ 40 39 (va_up (La_nJ 32 31 (va_up J 31 (fun _ => 0))) 39 (fun _ => 0))) 44 (fun _ => 0)))) (N' := (up2 (Pa_nN 45 44 (va_up (up2 (Pa_nN 40 39 (va_up (up2 (La_nN 32 31 (va_up N 31 (fun _ => none))) 30 0 (some 31)) 39 (fun _ => none))) 30 1 (some 39)) 44 (fun _ => none))) 30 2 (some 44))) (k := 2) C hin gcX9 inX9 tyX9_ok nmX9 (by decide) fl_Un_25 rfl rfl ⟨(by decide), rfl⟩ (tyX9_ok 2 (by decide)) rfl rfl (Nat.le_of_ble_eq_true rfl) gs_9_2 (fun _ _ => rfl) (fun _ _ => rfl) (fun b hb => up2_of hb) d_Un_init_34 ?_
    have hno12 := nok_up (a := 30) (k := 2) (b := 44) hno11 (by decide)
    refine g_aload_n (pc := 37) C d_Un_init_37 rfl 0 rfl ?_
    refine g_new (n := 49) (mc := 18) (ms := 74) (pc := 38) (lvf := fun ad => [(0, .ref (ad 30))]) (stf := fun ad => [.ref (ad 30)]) C gcX6 inX6 tyX6_ok cl_Un_28 in_6 it_6 rfl hno12 gz_6 ⟨Nat.le_of_ble_eq_true rfl, Nat.le_of_ble_eq_true rfl⟩ d_Un_init_38 (fun ad9 e9 => by simp only [e9 30 (by decide)]) (fun ad9 e9 => by simp only [e9 30 (by decide)]) ?_
    intro ad13 e13
    have hA13 : ∀ i, i < 31 → ad13 i = ad i := fun i hi => (e13 i (by omega)).trans (hA11 i hi)
    have hno13 := nok_new hno12
    refine g_dup (pc := 41) C d_Un_init_41 rfl ?_
    have con14 := (kn_Po_init (xl X) (T := Tc) (n := 50) (a := 49) (I := (va_up (Pa_nI 45 44 (va_up (Pa_nI 40 39 (va_up (La_nI 32 31 (va_up I 31 (fun _ => 0))) 39 (fun _ => 0))) 44 (fun _ => 0))) 49 (fun _ => 0))) (J := (va_up (Pa_nJ 45 44 (va_up (Pa_nJ 40 39 (va_up (La_nJ 32 31 (va_up J 31 (fun _ => 0))) 39 (fun _ => 0))) 44 (fun _ => 0))) 49 (fun _ => 0))) (N := (va_up (up2 (Pa_nN 45 44 (va_up (up2 (Pa_nN 40 39 (va_up (up2 (La_nN 32 31 (va_up N 31 (fun _ => none))) 30 0 (some 31)) 39 (fun _ => none))) 30 1 (some 39)) 44 (fun _ => none))) 30 2 (some 44)) 49 (fun _ => none))) ⟨(by decide), rfl⟩ rfl hno13)
    refine g_Init (n := 50) (mc := 19) (ms := 75) (pc := 42) (lvf := fun ad => [(0, .ref (ad 30))]) (stf := fun ad => [.ref (ad 49), .ref (ad 30)]) true C con14 sm_Po_init ml_Un_30 im_Po_init rfl ⟨rfl, rfl, Nat.le_of_ble_eq_true rfl, Nat.le_of_ble_eq_true rfl⟩ ⟨Nat.le_of_ble_eq_true rfl, Nat.le_of_ble_eq_true rfl⟩ (Nat.le_of_ble_eq_true rfl) d_Un_init_42 (fun ad9 e9 => by simp only [e9 30 (by decide)]) (fun ad9 e9 => by simp only [e9 30 (by decide), e9 49 (by decide)]) ?_
    intro ad15 e15
    have hA15 : ∀ i, i < 31 → ad15 i = ad i := fun i hi => (e15 i (by omega)).trans (hA13 i hi)
    have hno15 := con14.2.1
    refine g_putF (pc := 45) (I' := (Po_nI 50 49 (va_up (Pa_nI 45 44 (va_up (Pa_nI 40 39 (va_up (La_nI 32 31 (va_up I 31 (fun _ => 0))) 39 (fun _ => 0))) 44 (fun _ => 0))) 49 (fun _ => 0)))) (J' := (Po_nJ 50 49 (va_up (Pa_nJ 45 44 (va_up (Pa_nJ 40 39 (va_up (La_nJ 32 31 (va_up J 31 (fun _ => 0))) 39 (fun _ => 0))) 44 (fun _ => 0))) 49 (fun _ => 0)))) (N' := (up2 (Po_nN 50 49 (va_up (up2 (Pa_nN 45 44 (va_up (up2 (Pa_nN 40 39 (va_up (up2 (La_nN 32 31 (va_up N 31 (fun _ => none))) 30 0 (some 31)) 39 (fun _ => none))) 30 1 (some 39)) 44 (fun _ => none))) 30 2 (some 44)) 49 (fun _ => none))) 30 3 (some 49))) (k := 3) C hin gcX9 inX9 tyX9_ok nmX9 (by decide) fl_Un_31 rfl rfl ⟨(by decide), rfl⟩ (tyX9_ok 3 (by decide)) rfl rfl (Nat.le_of_ble_eq_true rfl) gs_9_3 (fun _ _ => rfl) (fun _ _ => rfl) (fun b hb => up2_of hb) d_Un_init_45 ?_
    have hno16 := nok_up (a := 30) (k := 3) (b := 49) hno15 (by decide)
    refine g_aload_n (pc := 48) C d_Un_init_48 rfl 0 rfl ?_
    refine g_new (n := 51) (mc := 20) (ms := 82) (pc := 49) (lvf := fun ad => [(0, .ref (ad 30))]) (stf := fun ad => [.ref (ad 30)]) C gcX2 inX2 tyX2_ok cl_Un_35 in_2 it_2 rfl hno16 gz_2 ⟨Nat.le_of_ble_eq_true rfl, Nat.le_of_ble_eq_true rfl⟩ d_Un_init_49 (fun ad9 e9 => by simp only [e9 30 (by decide)]) (fun ad9 e9 => by simp only [e9 30 (by decide)]) ?_
    intro ad17 e17
    have hA17 : ∀ i, i < 31 → ad17 i = ad i := fun i hi => (e17 i (by omega)).trans (hA15 i hi)
    have hno17 := nok_new hno16
    refine g_dup (pc := 52) C d_Un_init_52 rfl ?_
    have con18 := (kn_Fr_init (xl X) (T := Tc) (n := 52) (a := 51) (I := (va_up (Po_nI 50 49 (va_up (Pa_nI 45 44 (va_up (Pa_nI 40 39 (va_up (La_nI 32 31 (va_up I 31 (fun _ => 0))) 39 (fun _ => 0))) 44 (fun _ => 0))) 49 (fun _ => 0))) 51 (fun _ => 0))) (J := (va_up (Po_nJ 50 49 (va_up (Pa_nJ 45 44 (va_up (Pa_nJ 40 39 (va_up (La_nJ 32 31 (va_up J 31 (fun _ => 0))) 39 (fun _ => 0))) 44 (fun _ => 0))) 49 (fun _ => 0))) 51 (fun _ => 0))) (N := (va_up (up2 (Po_nN 50 49 (va_up (up2 (Pa_nN 45 44 (va_up (up2 (Pa_nN 40 39 (va_up (up2 (La_nN 32 31 (va_up N 31 (fun _ => none))) 30 0 (some 31)) 39 (fun _ => none))) 30 1 (some 39)) 44 (fun _ => none))) 30 2 (some 44)) 49 (fun _ => none))) 30 3 (some 49)) 51 (fun _ => none))) ⟨(by decide), rfl⟩  hno17)
    refine g_Init (n := 52) (mc := 21) (ms := 84) (pc := 53) (lvf := fun ad => [(0, .ref (ad 30))]) (stf := fun ad => [.ref (ad 51), .ref (ad 30)]) true C con18 sm_Fr_init ml_Un_37 im_Fr_init rfl ⟨rfl, rfl, Nat.le_of_ble_eq_true rfl, Nat.le_of_ble_eq_true rfl⟩ ⟨Nat.le_of_ble_eq_true rfl, Nat.le_of_ble_eq_true rfl⟩ (Nat.le_of_ble_eq_true rfl) d_Un_init_53 (fun ad9 e9 => by simp only [e9 30 (by decide)]) (fun ad9 e9 => by simp only [e9 30 (by decide), e9 51 (by decide)]) ?_
    intro ad19 e19
    have hA19 : ∀ i, i < 31 → ad19 i = ad i := fun i hi => (e19 i (by omega)).trans (hA17 i hi)
    have hno19 := con18.2.1
    refine g_putF (pc := 56) (I' := (Fr_nI 52 51 (va_up (Po_nI 50 49 (va_up (Pa_nI 45 44 (va_up (Pa_nI 40 39 (va_up (La_nI 32 31 (va_up I 31 (fun _ => 0))) 39 (fun _ => 0))) 44 (fun _ => 0))) 49 (fun _ => 0))) 51 (fun _ => 0)))) (J' := (Fr_nJ 52 51 (va_up (Po_nJ 50 49 (va_up (Pa_nJ 45 44 (va_up (Pa_nJ 40 39 (va_up (La_nJ 32 31 (va_up J 31 (fun _ => 0))) 39 (fun _ => 0))) 44 (fun _ => 0))) 49 (fun _ => 0))) 51 (fun _ => 0)))) (N' := (up2 (Fr_nN 52 51 (va_up (up2 (Po_nN 50 49 (va_up (up2 (Pa_nN 45 44 (va_up (up2 (Pa_nN 40 39 (va_up (up2 (La_nN 32 31 (va_up N 31 (fun _ => none))) 30 0 (some 31)) 39 (fun _ => none))) 30 1 (some 39)) 44 (fun _ => none))) 30 2 (some 44)) 49 (fun _ => none))) 30 3 (some 49)) 51 (fun _ => none))) 30 4 (some 51))) (k := 4) C hin gcX9 inX9 tyX9_ok nmX9 (by decide) fl_Un_38 rfl rfl ⟨(by decide), rfl⟩ (tyX9_ok 4 (by decide)) rfl rfl (Nat.le_of_ble_eq_true rfl) gs_9_4 (fun _ _ => rfl) (fun _ _ => rfl) (fun b hb => up2_of hb) d_Un_init_56 ?_
    have hno20 := nok_up (a := 30) (k := 4) (b := 51) hno19 (by decide)
    refine g_aload_n (pc := 59) C d_Un_init_59 rfl 0 rfl ?_
    refine g_new (n := 52) (mc := 21) (ms := 84) (pc := 60) (lvf := fun ad => [(0, .ref (ad 30))]) (stf := fun ad => [.ref (ad 30)]) C gcX2 inX2 tyX2_ok cl_Un_35 in_2 it_2 rfl hno20 gz_2 ⟨Nat.le_of_ble_eq_true rfl, Nat.le_of_ble_eq_true rfl⟩ d_Un_init_60 (fun ad9 e9 => by simp only [e9 30 (by decide)]) (fun ad9 e9 => by simp only [e9 30 (by decide)]) ?_
    intro ad21 e21
    have hA21 : ∀ i, i < 31 → ad21 i = ad i := fun i hi => (e21 i (by omega)).trans (hA19 i hi)
    have hno21 := nok_new hno20
    refine g_dup (pc := 63) C d_Un_init_63 rfl ?_
    have con22 := (kn_Fr_init (xl X) (T := Tc) (n := 53) (a := 52) (I := (va_up (Fr_nI 52 51 (va_up (Po_nI 50 49 (va_up (Pa_nI 45 44 (va_up (Pa_nI 40 39 (va_up (La_nI 32 31 (va_up I 31 (fun _ => 0))) 39 (fun _ => 0))) 44 (fun _ => 0))) 49 (fun _ => 0))) 51 (fun _ => 0))) 52 (fun _ => 0))) (J := (va_up (Fr_nJ 52 51 (va_up (Po_nJ 50 49 (va_up (Pa_nJ 45 44 (va_up (Pa_nJ 40 39 (va_up (La_nJ 32 31 (va_up J 31 (fun _ => 0))) 39 (fun _ => 0))) 44 (fun _ => 0))) 49 (fun _ => 0))) 51 (fun _ => 0))) 52 (fun _ => 0))) (N := (va_up (up2 (Fr_nN 52 51 (va_up (up2 (Po_nN 50 49 (va_up (up2 (Pa_nN 45 44 (va_up (up2 (Pa_nN 40 39 (va_up (up2 (La_nN 32 31 (va_up N 31 (fun _ => none))) 30 0 (some 31)) 39 (fun _ => none))) 30 1 (some 39)) 44 (fun _ => none))) 30 2 (some 44)) 49 (fun _ => none))) 30 3 (some 49)) 51 (fun _ => none))) 30 4 (some 51)) 52 (fun _ => none))) ⟨(by decide), rfl⟩  hno21)
    refine g_Init (n := 53) (mc := 22) (ms := 86) (pc := 64) (lvf := fun ad => [(0, .ref (ad 30))]) (stf := fun ad => [.ref (ad 52), .ref (ad 30)]) true C con22 sm_Fr_init ml_Un_37 im_Fr_init rfl ⟨rfl, rfl, Nat.le_of_ble_eq_true rfl, Nat.le_of_ble_eq_true rfl⟩ ⟨Nat.le_of_ble_eq_true rfl, Nat.le_of_ble_eq_true rfl⟩ (Nat.le_of_ble_eq_true rfl) d_Un_init_64 (fun ad9 e9 => by simp only [e9 30 (by decide)]) (fun ad9 e9 => by simp only [e9 30 (by decide), e9 52 (by decide)]) ?_
    intro ad23 e23
    have hA23 : ∀ i, i < 31 → ad23 i = ad i := fun i hi => (e23 i (by omega)).trans (hA21 i hi)
    have hno23 := con22.2.1
    refine g_putF (pc := 67) (I' := (Fr_nI 53 52 (va_up (Fr_nI 52 51 (va_up (Po_nI 50 49 (va_up (Pa_nI 45 44 (va_up (Pa_nI 40 39 (va_up (La_nI 32 31 (va_up I 31 (fun _ => 0))) 39 (fun _ => 0))) 44 (fun _ => 0))) 49 (fun _ => 0))) 51 (fun _ => 0))) 52 (fun _ => 0)))) (J' := (Fr_nJ 53 52 (va_up (Fr_nJ 52 51 (va_up (Po_nJ 50 49 (va_up (Pa_nJ 45 44 (va_up (Pa_nJ 40 39 (va_up (La_nJ 32 31 (va_up J 31 (fun _ => 0))) 39 (fun _ => 0))) 44 (fun _ => 0))) 49 (fun _ => 0))) 51 (fun _ => 0))) 52 (fun _ => 0)))) (N' := (up2 (Fr_nN 53 52 (va_up (up2 (Fr_nN 52 51 (va_up (up2 (Po_nN 50 49 (va_up (up2 (Pa_nN 45 44 (va_up (up2 (Pa_nN 40 39 (va_up (up2 (La_nN 32 31 (va_up N 31 (fun _ => none))) 30 0 (some 31)) 39 (fun _ => none))) 30 1 (some 39)) 44 (fun _ => none))) 30 2 (some 44)) 49 (fun _ => none))) 30 3 (some 49)) 51 (fun _ => none))) 30 4 (some 51)) 52 (fun _ => none))) 30 5 (some 52))) (k := 5) C hin gcX9 inX9 tyX9_ok nmX9 (by decide) fl_Un_42 rfl rfl ⟨(by decide), rfl⟩ (tyX9_ok 5 (by decide)) rfl rfl (Nat.le_of_ble_eq_true rfl) gs_9_5 (fun _ _ => rfl) (fun _ _ => rfl) (fun b hb => up2_of hb) d_Un_init_67 ?_
    have hno24 := nok_up (a := 30) (k := 5) (b := 52) hno23 (by decide)
    refine g_aload_n (pc := 70) C d_Un_init_70 rfl 0 rfl ?_
    refine g_iconst (pc := 71) C (3 : Int32) d_Un_init_71 (by decide) ?_
    refine g_newa (n := 53) (mc := 22) (ms := 86) (κ := 1) (pc := 72) (lvf := fun ad => [(0, .ref (ad 30))]) (stf := fun ad => [.ref (ad 30)]) C (Or.inl ⟨rfl, rfl, rfl⟩) ac_1 rfl hno24 (by decide) (by decide) (by decide) ⟨Nat.le_of_ble_eq_true rfl, Nat.le_of_ble_eq_true rfl⟩ d_Un_init_72 (fun ad9 e9 => by simp only [e9 30 (by decide)]) (fun ad9 e9 => by simp only [e9 30 (by decide)]) ?_
    intro ad25 e25
    have hA25 : ∀ i, i < 31 → ad25 i = ad i := fun i hi => (e25 i (by omega)).trans (hA23 i hi)
    have hno25 := nok_new hno24
    refine g_putF (pc := 74) (I' := (va_up (Fr_nI 53 52 (va_up (Fr_nI 52 51 (va_up (Po_nI 50 49 (va_up (Pa_nI 45 44 (va_up (Pa_nI 40 39 (va_up (La_nI 32 31 (va_up I 31 (fun _ => 0))) 39 (fun _ => 0))) 44 (fun _ => 0))) 49 (fun _ => 0))) 51 (fun _ => 0))) 52 (fun _ => 0))) 53 (fun _ => 0))) (J' := (va_up (Fr_nJ 53 52 (va_up (Fr_nJ 52 51 (va_up (Po_nJ 50 49 (va_up (Pa_nJ 45 44 (va_up (Pa_nJ 40 39 (va_up (La_nJ 32 31 (va_up J 31 (fun _ => 0))) 39 (fun _ => 0))) 44 (fun _ => 0))) 49 (fun _ => 0))) 51 (fun _ => 0))) 52 (fun _ => 0))) 53 (fun _ => 0))) (N' := (up2 (va_up (up2 (Fr_nN 53 52 (va_up (up2 (Fr_nN 52 51 (va_up (up2 (Po_nN 50 49 (va_up (up2 (Pa_nN 45 44 (va_up (up2 (Pa_nN 40 39 (va_up (up2 (La_nN 32 31 (va_up N 31 (fun _ => none))) 30 0 (some 31)) 39 (fun _ => none))) 30 1 (some 39)) 44 (fun _ => none))) 30 2 (some 44)) 49 (fun _ => none))) 30 3 (some 49)) 51 (fun _ => none))) 30 4 (some 51)) 52 (fun _ => none))) 30 5 (some 52)) 53 (fun _ => none)) 30 6 (some 53))) (k := 6) C hin gcX9 inX9 tyX9_ok nmX9 (by decide) fl_Un_45 rfl rfl ⟨(by decide), rfl⟩ (tyX9_ok 6 (by decide)) rfl rfl (Nat.le_of_ble_eq_true rfl) gs_9_6 (fun _ _ => rfl) (fun _ _ => rfl) (fun b hb => up2_of hb) d_Un_init_74 ?_
    have hno26 := nok_up (a := 30) (k := 6) (b := 53) hno25 (by decide)
    refine g_aload_n (pc := 77) C d_Un_init_77 rfl 0 rfl ?_
    refine g_iconst (pc := 78) C (3 : Int32) d_Un_init_78 (by decide) ?_
    refine g_newa (n := 54) (mc := 23) (ms := 89) (κ := 1) (pc := 79) (lvf := fun ad => [(0, .ref (ad 30))]) (stf := fun ad => [.ref (ad 30)]) C (Or.inl ⟨rfl, rfl, rfl⟩) ac_1 rfl hno26 (by decide) (by decide) (by decide) ⟨Nat.le_of_ble_eq_true rfl, Nat.le_of_ble_eq_true rfl⟩ d_Un_init_79 (fun ad9 e9 => by simp only [e9 30 (by decide)]) (fun ad9 e9 => by simp only [e9 30 (by decide)]) ?_
    intro ad27 e27
    have hA27 : ∀ i, i < 31 → ad27 i = ad i := fun i hi => (e27 i (by omega)).trans (hA25 i hi)
    have hno27 := nok_new hno26
    refine g_putF (pc := 81) (I' := (va_up (va_up (Fr_nI 53 52 (va_up (Fr_nI 52 51 (va_up (Po_nI 50 49 (va_up (Pa_nI 45 44 (va_up (Pa_nI 40 39 (va_up (La_nI 32 31 (va_up I 31 (fun _ => 0))) 39 (fun _ => 0))) 44 (fun _ => 0))) 49 (fun _ => 0))) 51 (fun _ => 0))) 52 (fun _ => 0))) 53 (fun _ => 0)) 54 (fun _ => 0))) (J' := (va_up (va_up (Fr_nJ 53 52 (va_up (Fr_nJ 52 51 (va_up (Po_nJ 50 49 (va_up (Pa_nJ 45 44 (va_up (Pa_nJ 40 39 (va_up (La_nJ 32 31 (va_up J 31 (fun _ => 0))) 39 (fun _ => 0))) 44 (fun _ => 0))) 49 (fun _ => 0))) 51 (fun _ => 0))) 52 (fun _ => 0))) 53 (fun _ => 0)) 54 (fun _ => 0))) (N' := (up2 (va_up (up2 (va_up (up2 (Fr_nN 53 52 (va_up (up2 (Fr_nN 52 51 (va_up (up2 (Po_nN 50 49 (va_up (up2 (Pa_nN 45 44 (va_up (up2 (Pa_nN 40 39 (va_up (up2 (La_nN 32 31 (va_up N 31 (fun _ => none))) 30 0 (some 31)) 39 (fun _ => none))) 30 1 (some 39)) 44 (fun _ => none))) 30 2 (some 44)) 49 (fun _ => none))) 30 3 (some 49)) 51 (fun _ => none))) 30 4 (some 51)) 52 (fun _ => none))) 30 5 (some 52)) 53 (fun _ => none)) 30 6 (some 53)) 54 (fun _ => none)) 30 7 (some 54))) (k := 7) C hin gcX9 inX9 tyX9_ok nmX9 (by decide) fl_Un_49 rfl rfl ⟨(by decide), rfl⟩ (tyX9_ok 7 (by decide)) rfl rfl (Nat.le_of_ble_eq_true rfl) gs_9_7 (fun _ _ => rfl) (fun _ _ => rfl) (fun b hb => up2_of hb) d_Un_init_81 ?_
    have hno28 := nok_up (a := 30) (k := 7) (b := 54) hno27 (by decide)
    refine g_aload_n (pc := 84) C d_Un_init_84 rfl 0 rfl ?_
    refine g_iconst (pc := 85) C (3 : Int32) d_Un_init_85 (by decide) ?_
    refine g_newa (n := 55) (mc := 24) (ms := 92) (κ := 1) (pc := 86) (lvf := fun ad => [(0, .ref (ad 30))]) (stf := fun ad => [.ref (ad 30)]) C (Or.inl ⟨rfl, rfl, rfl⟩) ac_1 rfl hno28 (by decide) (by decide) (by decide) ⟨Nat.le_of_ble_eq_true rfl, Nat.le_of_ble_eq_true rfl⟩ d_Un_init_86 (fun ad9 e9 => by simp only [e9 30 (by decide)]) (fun ad9 e9 => by simp only [e9 30 (by decide)]) ?_
    intro ad29 e29
    have hA29 : ∀ i, i < 31 → ad29 i = ad i := fun i hi => (e29 i (by omega)).trans (hA27 i hi)
    have hno29 := nok_new hno28
    refine g_putF (pc := 88) (I' := (va_up (va_up (va_up (Fr_nI 53 52 (va_up (Fr_nI 52 51 (va_up (Po_nI 50 49 (va_up (Pa_nI 45 44 (va_up (Pa_nI 40 39 (va_up (La_nI 32 31 (va_up I 31 (fun _ => 0))) 39 (fun _ => 0))) 44 (fun _ => 0))) 49 (fun _ => 0))) 51 (fun _ => 0))) 52 (fun _ => 0))) 53 (fun _ => 0)) 54 (fun _ => 0)) 55 (fun _ => 0))) (J' := (va_up (va_up (va_up (Fr_nJ 53 52 (va_up (Fr_nJ 52 51 (va_up (Po_nJ 50 49 (va_up (Pa_nJ 45 44 (va_up (Pa_nJ 40 39 (va_up (La_nJ 32 31 (va_up J 31 (fun _ => 0))) 39 (fun _ => 0))) 44 (fun _ => 0))) 49 (fun _ => 0))) 51 (fun _ => 0))) 52 (fun _ => 0))) 53 (fun _ => 0)) 54 (fun _ => 0)) 55 (fun _ => 0))) (N' := (up2 (va_up (up2 (va_up (up2 (va_up (up2 (Fr_nN 53 52 (va_up (up2 (Fr_nN 52 51 (va_up (up2 (Po_nN 50 49 (va_up (up2 (Pa_nN 45 44 (va_up (up2 (Pa_nN 40 39 (va_up (up2 (La_nN 32 31 (va_up N 31 (fun _ => none))) 30 0 (some 31)) 39 (fun _ => none))) 30 1 (some 39)) 44 (fun _ => none))) 30 2 (some 44)) 49 (fun _ => none))) 30 3 (some 49)) 51 (fun _ => none))) 30 4 (some 51)) 52 (fun _ => none))) 30 5 (some 52)) 53 (fun _ => none)) 30 6 (some 53)) 54 (fun _ => none)) 30 7 (some 54)) 55 (fun _ => none)) 30 8 (some 55))) (k := 8) C hin gcX9 inX9 tyX9_ok nmX9 (by decide) fl_Un_52 rfl rfl ⟨(by decide), rfl⟩ (tyX9_ok 8 (by decide)) rfl rfl (Nat.le_of_ble_eq_true rfl) gs_9_8 (fun _ _ => rfl) (fun _ _ => rfl) (fun b hb => up2_of hb) d_Un_init_88 ?_
    have hno30 := nok_up (a := 30) (k := 8) (b := 55) hno29 (by decide)
    refine g_aload_n (pc := 91) C d_Un_init_91 rfl 0 rfl ?_
    refine g_iconst (pc := 92) C (0 : Int32) d_Un_init_92 (by decide) ?_
    refine g_put (pc := 93) (I' := (up2 (va_up (va_up (va_up (Fr_nI 53 52 (va_up (Fr_nI 52 51 (va_up (Po_nI 50 49 (va_up (Pa_nI 45 44 (va_up (Pa_nI 40 39 (va_up (La_nI 32 31 (va_up I 31 (fun _ => 0))) 39 (fun _ => 0))) 44 (fun _ => 0))) 49 (fun _ => 0))) 51 (fun _ => 0))) 52 (fun _ => 0))) 53 (fun _ => 0)) 54 (fun _ => 0)) 55 (fun _ => 0)) 30 9 (0 : Int32))) (J' := (va_up (va_up (va_up (Fr_nJ 53 52 (va_up (Fr_nJ 52 51 (va_up (Po_nJ 50 49 (va_up (Pa_nJ 45 44 (va_up (Pa_nJ 40 39 (va_up (La_nJ 32 31 (va_up J 31 (fun _ => 0))) 39 (fun _ => 0))) 44 (fun _ => 0))) 49 (fun _ => 0))) 51 (fun _ => 0))) 52 (fun _ => 0))) 53 (fun _ => 0)) 54 (fun _ => 0)) 55 (fun _ => 0))) (N' := (up2 (va_up (up2 (va_up (up2 (va_up (up2 (Fr_nN 53 52 (va_up (up2 (Fr_nN 52 51 (va_up (up2 (Po_nN 50 49 (va_up (up2 (Pa_nN 45 44 (va_up (up2 (Pa_nN 40 39 (va_up (up2 (La_nN 32 31 (va_up N 31 (fun _ => none))) 30 0 (some 31)) 39 (fun _ => none))) 30 1 (some 39)) 44 (fun _ => none))) 30 2 (some 44)) 49 (fun _ => none))) 30 3 (some 49)) 51 (fun _ => none))) 30 4 (some 51)) 52 (fun _ => none))) 30 5 (some 52)) 53 (fun _ => none)) 30 6 (some 53)) 54 (fun _ => none)) 30 7 (some 54)) 55 (fun _ => none)) 30 8 (some 55))) (k := 9) C gcX9 inX9 tyX9_ok nmX9 (by decide) fl_Un_55 rfl ⟨(by decide), rfl⟩ (tyX9_ok 9 (by decide)) rfl rfl (Nat.le_of_ble_eq_true rfl) gs_9_9 (fun b hb => up2_of hb) (fun _ _ => rfl) (fun _ _ => rfl) d_Un_init_93 ?_
    exact g_vretn (pc := 96) C hA29 d_Un_init_96
theorem d_Bi_init_0 : decode c_Bi_init 0 = .ok (.aload_n 0, 1) := by decide +kernel
theorem d_Bi_init_1 : decode c_Bi_init 1 = .ok (.invokespecial 3, 3) := by decide +kernel
theorem d_Bi_init_4 : decode c_Bi_init 4 = .ok (.aload_n 0, 1) := by decide +kernel
theorem d_Bi_init_5 : decode c_Bi_init 5 = .ok (.bipush 6, 2) := by decide +kernel
theorem d_Bi_init_7 : decode c_Bi_init 7 = .ok (.iconst 4, 1) := by decide +kernel
theorem d_Bi_init_8 : decode c_Bi_init 8 = .ok (.multianewarray 9 2, 4) := by decide +kernel
theorem d_Bi_init_12 : decode c_Bi_init 12 = .ok (.putfield 11, 3) := by decide +kernel
theorem d_Bi_init_15 : decode c_Bi_init 15 = .ok (.aload_n 0, 1) := by decide +kernel
theorem d_Bi_init_16 : decode c_Bi_init 16 = .ok (.iconst 0, 1) := by decide +kernel
theorem d_Bi_init_17 : decode c_Bi_init 17 = .ok (.putfield 16, 3) := by decide +kernel
theorem d_Bi_init_20 : decode c_Bi_init 20 = .ok (.return_, 1) := by decide +kernel
def rm_Bi_init : Room := { frames := 1, cells := 7, slots := 30, locals := 24 }
def Bi_nI (I : HI) : HI := (up2 (mzI I 57 6) 56 1 (0 : Int32))
def Bi_nJ (J : HJ) : HJ := (mzJ J 57 6)
def Bi_nN (N : HN) : HN := (up2 (mzN N 57 6) 56 0 (some 57))
theorem nk_Bi {N : HN} (hno : nok 57 N) : nok 64 (Bi_nN N) := by
  unfold Bi_nN
  exact (nok_up (nok_mz (m := 6) hno) (by decide))
set_option maxRecDepth 20000 in
theorem kn_Bi_init (l : Launch) {I : HI} {J : HJ} {N : HN} (hno : nok 57 N) : gMn l y_Bi_init c_Bi_init 1 rm_Bi_init Tc 57 I J N (fun ad => [.ref (ad 56)]) 64 (Bi_nI I) (Bi_nJ J) (Bi_nN N) 7 30 := by
  refine g_methn (lv := fun ad => [(0, .ref (ad 56))]) (by decide) (fun _ => Nat.le_of_ble_eq_true rfl) (fun _ => rfl) (by decide) ?hno ?body
  case hno => exact nk_Bi  hno
  case body =>
    intro X ad C hin
    have hA0 : ∀ i, i < 57 → ad i = ad i := fun _ _ => rfl
    refine g_aload_n (pc := 0) C d_Bi_init_0 rfl 0 rfl ?_
    refine g_objInit (pc := 1) C ml_Bi_3 ob_i ob_c ⟨Nat.le_of_ble_eq_true rfl, Nat.le_of_ble_eq_true rfl⟩ d_Bi_init_1 ?_
    refine g_aload_n (pc := 4) C d_Bi_init_4 rfl 0 rfl ?_
    refine g_bipush (pc := 5) C (6 : Int32) d_Bi_init_5 (by decide) ?_
    refine g_iconst (pc := 7) C (4 : Int32) d_Bi_init_7 (by decide) ?_
    refine g_mna (n := 57) (m := 6) (len := 4) (mc := 0) (ms := 0) (κ := 3) (pc := 8) (lvf := fun ad => [(0, .ref (ad 56))]) (stf := fun ad => [.ref (ad 56)]) C (Or.inl ⟨rfl, rfl, rfl⟩) ac_1 cl_Bi_9 ao_3 rfl (by decide) hno (by decide) (by decide) (by decide) (by decide) ⟨by decide, by decide⟩ ⟨Nat.le_of_ble_eq_true rfl, Nat.le_of_ble_eq_true rfl⟩ d_Bi_init_8 (fun ad9 e9 => by simp only [e9 56 (by decide)]) (fun ad9 e9 => by simp only [e9 56 (by decide)]) ?_
    intro ad1 e1
    have hA1 : ∀ i, i < 57 → ad1 i = ad i := fun i hi => (e1 i (by omega)).trans (hA0 i hi)
    have hno1 := nok_mz (m := 6) hno
    refine g_putF (pc := 12) (I' := (mzI I 57 6)) (J' := (mzJ J 57 6)) (N' := (up2 (mzN N 57 6) 56 0 (some 57))) (k := 0) C hin gcX0 inX0 tyX0_ok nmX0 (by decide) fl_Bi_11 rfl rfl ⟨(by decide), rfl⟩ (tyX0_ok 0 (by decide)) rfl rfl (Nat.le_of_ble_eq_true rfl) gs_0_0 (fun _ _ => rfl) (fun _ _ => rfl) (fun b hb => up2_of hb) d_Bi_init_12 ?_
    have hno2 := nok_up (a := 56) (k := 0) (b := 57) hno1 (by decide)
    refine g_aload_n (pc := 15) C d_Bi_init_15 rfl 0 rfl ?_
    refine g_iconst (pc := 16) C (0 : Int32) d_Bi_init_16 (by decide) ?_
    refine g_put (pc := 17) (I' := (up2 (mzI I 57 6) 56 1 (0 : Int32))) (J' := (mzJ J 57 6)) (N' := (up2 (mzN N 57 6) 56 0 (some 57))) (k := 1) C gcX0 inX0 tyX0_ok nmX0 (by decide) fl_Bi_16 rfl ⟨(by decide), rfl⟩ (tyX0_ok 1 (by decide)) rfl rfl (Nat.le_of_ble_eq_true rfl) gs_0_1 (fun b hb => up2_of hb) (fun _ _ => rfl) (fun _ _ => rfl) d_Bi_init_17 ?_
    exact g_vretn (pc := 20) C hA1 d_Bi_init_20
theorem d_Me_init_0 : decode c_Me_init 0 = .ok (.aload_n 0, 1) := by decide +kernel
theorem d_Me_init_1 : decode c_Me_init 1 = .ok (.invokespecial 3, 3) := by decide +kernel
theorem d_Me_init_4 : decode c_Me_init 4 = .ok (.aload_n 0, 1) := by decide +kernel
theorem d_Me_init_5 : decode c_Me_init 5 = .ok (.bipush 12, 2) := by decide +kernel
theorem d_Me_init_7 : decode c_Me_init 7 = .ok (.bipush 15, 2) := by decide +kernel
theorem d_Me_init_9 : decode c_Me_init 9 = .ok (.multianewarray 9 2, 4) := by decide +kernel
theorem d_Me_init_13 : decode c_Me_init 13 = .ok (.putfield 11, 3) := by decide +kernel
theorem d_Me_init_16 : decode c_Me_init 16 = .ok (.aload_n 0, 1) := by decide +kernel
theorem d_Me_init_17 : decode c_Me_init 17 = .ok (.new 16, 3) := by decide +kernel
theorem d_Me_init_20 : decode c_Me_init 20 = .ok (.dup, 1) := by decide +kernel
theorem d_Me_init_21 : decode c_Me_init 21 = .ok (.invokespecial 18, 3) := by decide +kernel
theorem d_Me_init_24 : decode c_Me_init 24 = .ok (.putfield 19, 3) := by decide +kernel
theorem d_Me_init_27 : decode c_Me_init 27 = .ok (.aload_n 0, 1) := by decide +kernel
theorem d_Me_init_28 : decode c_Me_init 28 = .ok (.iconst 0, 1) := by decide +kernel
theorem d_Me_init_29 : decode c_Me_init 29 = .ok (.putfield 23, 3) := by decide +kernel
theorem d_Me_init_32 : decode c_Me_init 32 = .ok (.return_, 1) := by decide +kernel
def rm_Me_init : Room := { frames := 3, cells := 18, slots := 210, locals := 64 }
def Me_nI (I : HI) : HI := (up2 (Pa_nI 79 78 (va_up (mzI I 65 12) 78 (fun _ => 0))) 64 2 (0 : Int32))
def Me_nJ (J : HJ) : HJ := (Pa_nJ 79 78 (va_up (mzJ J 65 12) 78 (fun _ => 0)))
def Me_nN (N : HN) : HN := (up2 (Pa_nN 79 78 (va_up (up2 (mzN N 65 12) 64 0 (some 65)) 78 (fun _ => none))) 64 1 (some 78))
theorem nk_Me {N : HN} (hno : nok 65 N) : nok 83 (Me_nN N) := by
  unfold Me_nN
  exact (nok_up (nk_Pa (by decide) (nok_new (nok_up (nok_mz (m := 12) hno) (by decide)))) (by decide))
set_option maxRecDepth 20000 in
theorem kn_Me_init (l : Launch) {I : HI} {J : HJ} {N : HN} (hno : nok 65 N) : gMn l y_Me_init c_Me_init 1 rm_Me_init Tc 65 I J N (fun ad => [.ref (ad 64)]) 83 (Me_nI I) (Me_nJ J) (Me_nN N) 18 210 := by
  refine g_methn (lv := fun ad => [(0, .ref (ad 64))]) (by decide) (fun _ => Nat.le_of_ble_eq_true rfl) (fun _ => rfl) (by decide) ?hno ?body
  case hno => exact nk_Me  hno
  case body =>
    intro X ad C hin
    have hA0 : ∀ i, i < 65 → ad i = ad i := fun _ _ => rfl
    refine g_aload_n (pc := 0) C d_Me_init_0 rfl 0 rfl ?_
    refine g_objInit (pc := 1) C ml_Me_3 ob_i ob_c ⟨Nat.le_of_ble_eq_true rfl, Nat.le_of_ble_eq_true rfl⟩ d_Me_init_1 ?_
    refine g_aload_n (pc := 4) C d_Me_init_4 rfl 0 rfl ?_
    refine g_bipush (pc := 5) C (12 : Int32) d_Me_init_5 (by decide) ?_
    refine g_bipush (pc := 7) C (15 : Int32) d_Me_init_7 (by decide) ?_
    refine g_mna (n := 65) (m := 12) (len := 15) (mc := 0) (ms := 0) (κ := 3) (pc := 9) (lvf := fun ad => [(0, .ref (ad 64))]) (stf := fun ad => [.ref (ad 64)]) C (Or.inl ⟨rfl, rfl, rfl⟩) ac_1 cl_Me_9 ao_3 rfl (by decide) hno (by decide) (by decide) (by decide) (by decide) ⟨by decide, by decide⟩ ⟨Nat.le_of_ble_eq_true rfl, Nat.le_of_ble_eq_true rfl⟩ d_Me_init_9 (fun ad9 e9 => by simp only [e9 64 (by decide)]) (fun ad9 e9 => by simp only [e9 64 (by decide)]) ?_
    intro ad1 e1
    have hA1 : ∀ i, i < 65 → ad1 i = ad i := fun i hi => (e1 i (by omega)).trans (hA0 i hi)
    have hno1 := nok_mz (m := 12) hno
    refine g_putF (pc := 13) (I' := (mzI I 65 12)) (J' := (mzJ J 65 12)) (N' := (up2 (mzN N 65 12) 64 0 (some 65))) (k := 0) C hin gcX4 inX4 tyX4_ok nmX4 (by decide) fl_Me_11 rfl rfl ⟨(by decide), rfl⟩ (tyX4_ok 0 (by decide)) rfl rfl (Nat.le_of_ble_eq_true rfl) gs_4_0 (fun _ _ => rfl) (fun _ _ => rfl) (fun b hb => up2_of hb) d_Me_init_13 ?_
    have hno2 := nok_up (a := 64) (k := 0) (b := 65) hno1 (by decide)
    refine g_aload_n (pc := 16) C d_Me_init_16 rfl 0 rfl ?_
    refine g_new (n := 78) (mc := 13) (ms := 192) (pc := 17) (lvf := fun ad => [(0, .ref (ad 64))]) (stf := fun ad => [.ref (ad 64)]) C gcX5 inX5 tyX5_ok cl_Me_16 in_5 it_5 rfl hno2 gz_5 ⟨Nat.le_of_ble_eq_true rfl, Nat.le_of_ble_eq_true rfl⟩ d_Me_init_17 (fun ad9 e9 => by simp only [e9 64 (by decide)]) (fun ad9 e9 => by simp only [e9 64 (by decide)]) ?_
    intro ad3 e3
    have hA3 : ∀ i, i < 65 → ad3 i = ad i := fun i hi => (e3 i (by omega)).trans (hA1 i hi)
    have hno3 := nok_new hno2
    refine g_dup (pc := 20) C d_Me_init_20 rfl ?_
    have con4 := (kn_Pa_init (xl X) (T := Tc) (n := 79) (a := 78) (I := (va_up (mzI I 65 12) 78 (fun _ => 0))) (J := (va_up (mzJ J 65 12) 78 (fun _ => 0))) (N := (va_up (up2 (mzN N 65 12) 64 0 (some 65)) 78 (fun _ => none))) ⟨(by decide), rfl⟩ rfl rfl rfl rfl hno3)
    refine g_Init (n := 79) (mc := 14) (ms := 194) (pc := 21) (lvf := fun ad => [(0, .ref (ad 64))]) (stf := fun ad => [.ref (ad 78), .ref (ad 64)]) true C con4 sm_Pa_init ml_Me_18 im_Pa_init rfl ⟨rfl, rfl, Nat.le_of_ble_eq_true rfl, Nat.le_of_ble_eq_true rfl⟩ ⟨Nat.le_of_ble_eq_true rfl, Nat.le_of_ble_eq_true rfl⟩ (Nat.le_of_ble_eq_true rfl) d_Me_init_21 (fun ad9 e9 => by simp only [e9 64 (by decide)]) (fun ad9 e9 => by simp only [e9 64 (by decide), e9 78 (by decide)]) ?_
    intro ad5 e5
    have hA5 : ∀ i, i < 65 → ad5 i = ad i := fun i hi => (e5 i (by omega)).trans (hA3 i hi)
    have hno5 := con4.2.1
    refine g_putF (pc := 24) (I' := (Pa_nI 79 78 (va_up (mzI I 65 12) 78 (fun _ => 0)))) (J' := (Pa_nJ 79 78 (va_up (mzJ J 65 12) 78 (fun _ => 0)))) (N' := (up2 (Pa_nN 79 78 (va_up (up2 (mzN N 65 12) 64 0 (some 65)) 78 (fun _ => none))) 64 1 (some 78))) (k := 1) C hin gcX4 inX4 tyX4_ok nmX4 (by decide) fl_Me_19 rfl rfl ⟨(by decide), rfl⟩ (tyX4_ok 1 (by decide)) rfl rfl (Nat.le_of_ble_eq_true rfl) gs_4_1 (fun _ _ => rfl) (fun _ _ => rfl) (fun b hb => up2_of hb) d_Me_init_24 ?_
    have hno6 := nok_up (a := 64) (k := 1) (b := 78) hno5 (by decide)
    refine g_aload_n (pc := 27) C d_Me_init_27 rfl 0 rfl ?_
    refine g_iconst (pc := 28) C (0 : Int32) d_Me_init_28 (by decide) ?_
    refine g_put (pc := 29) (I' := (up2 (Pa_nI 79 78 (va_up (mzI I 65 12) 78 (fun _ => 0))) 64 2 (0 : Int32))) (J' := (Pa_nJ 79 78 (va_up (mzJ J 65 12) 78 (fun _ => 0)))) (N' := (up2 (Pa_nN 79 78 (va_up (up2 (mzN N 65 12) 64 0 (some 65)) 78 (fun _ => none))) 64 1 (some 78))) (k := 2) C gcX4 inX4 tyX4_ok nmX4 (by decide) fl_Me_23 rfl ⟨(by decide), rfl⟩ (tyX4_ok 2 (by decide)) rfl rfl (Nat.le_of_ble_eq_true rfl) gs_4_2 (fun b hb => up2_of hb) (fun _ _ => rfl) (fun _ _ => rfl) d_Me_init_29 ?_
    exact g_vretn (pc := 32) C hA5 d_Me_init_32
theorem d_Sh_init_0 : decode c_Sh_init 0 = .ok (.aload_n 0, 1) := by decide +kernel
theorem d_Sh_init_1 : decode c_Sh_init 1 = .ok (.invokespecial 3, 3) := by decide +kernel
theorem d_Sh_init_4 : decode c_Sh_init 4 = .ok (.aload_n 0, 1) := by decide +kernel
theorem d_Sh_init_5 : decode c_Sh_init 5 = .ok (.iconst 3, 1) := by decide +kernel
theorem d_Sh_init_6 : decode c_Sh_init 6 = .ok (.bipush 40, 2) := by decide +kernel
theorem d_Sh_init_8 : decode c_Sh_init 8 = .ok (.multianewarray 9 2, 4) := by decide +kernel
theorem d_Sh_init_12 : decode c_Sh_init 12 = .ok (.putfield 11, 3) := by decide +kernel
theorem d_Sh_init_15 : decode c_Sh_init 15 = .ok (.aload_n 0, 1) := by decide +kernel
theorem d_Sh_init_16 : decode c_Sh_init 16 = .ok (.iconst 3, 1) := by decide +kernel
theorem d_Sh_init_17 : decode c_Sh_init 17 = .ok (.newarray .int, 2) := by decide +kernel
theorem d_Sh_init_19 : decode c_Sh_init 19 = .ok (.putfield 16, 3) := by decide +kernel
theorem d_Sh_init_22 : decode c_Sh_init 22 = .ok (.iconst 0, 1) := by decide +kernel
theorem d_Sh_init_23 : decode c_Sh_init 23 = .ok (.istore_n 1, 1) := by decide +kernel
theorem d_Sh_init_24 : decode c_Sh_init 24 = .ok (.iload_n 1, 1) := by decide +kernel
theorem d_Sh_init_25 : decode c_Sh_init 25 = .ok (.iconst 3, 1) := by decide +kernel
theorem d_Sh_init_26 : decode c_Sh_init 26 = .ok (.if_icmp .ge 16, 3) := by decide +kernel
theorem d_Sh_init_29 : decode c_Sh_init 29 = .ok (.aload_n 0, 1) := by decide +kernel
theorem d_Sh_init_30 : decode c_Sh_init 30 = .ok (.getfield 16, 3) := by decide +kernel
theorem d_Sh_init_33 : decode c_Sh_init 33 = .ok (.iload_n 1, 1) := by decide +kernel
theorem d_Sh_init_34 : decode c_Sh_init 34 = .ok (.iconst (-1), 1) := by decide +kernel
theorem d_Sh_init_35 : decode c_Sh_init 35 = .ok (.iastore, 1) := by decide +kernel
theorem d_Sh_init_36 : decode c_Sh_init 36 = .ok (.iinc 1 1, 3) := by decide +kernel
theorem d_Sh_init_39 : decode c_Sh_init 39 = .ok (.goto (-15), 3) := by decide +kernel
theorem d_Sh_init_42 : decode c_Sh_init 42 = .ok (.return_, 1) := by decide +kernel
def rm_Sh_init : Room := { frames := 1, cells := 5, slots := 126, locals := 24 }
def Sh_nI (I : HI) : HI := (up2 (up2 (up2 (va_up (mzI I 84 3) 88 (fun _ => 0)) 88 (0 : Int32).toNatClampNeg (-1 : Int32)) 88 (1 : Int32).toNatClampNeg (-1 : Int32)) 88 (2 : Int32).toNatClampNeg (-1 : Int32))
def Sh_nJ (J : HJ) : HJ := (va_up (mzJ J 84 3) 88 (fun _ => 0))
def Sh_nN (N : HN) : HN := (up2 (va_up (up2 (mzN N 84 3) 83 0 (some 84)) 88 (fun _ => none)) 83 1 (some 88))
theorem nk_Sh {N : HN} (hno : nok 84 N) : nok 89 (Sh_nN N) := by
  unfold Sh_nN
  exact (nok_up (nok_new (nok_up (nok_mz (m := 3) hno) (by decide))) (by decide))
set_option maxRecDepth 20000 in
theorem kn_Sh_init (l : Launch) {I : HI} {J : HJ} {N : HN} (hno : nok 84 N) : gMn l y_Sh_init c_Sh_init 2 rm_Sh_init Tc 84 I J N (fun ad => [.ref (ad 83)]) 89 (Sh_nI I) (Sh_nJ J) (Sh_nN N) 5 126 := by
  refine g_methn (lv := fun ad => [(0, .ref (ad 83))]) (by decide) (fun _ => Nat.le_of_ble_eq_true rfl) (fun _ => rfl) (by decide) ?hno ?body
  case hno => exact nk_Sh  hno
  case body =>
    intro X ad C hin
    have hA0 : ∀ i, i < 84 → ad i = ad i := fun _ _ => rfl
    refine g_aload_n (pc := 0) C d_Sh_init_0 rfl 0 rfl ?_
    refine g_objInit (pc := 1) C ml_Sh_3 ob_i ob_c ⟨Nat.le_of_ble_eq_true rfl, Nat.le_of_ble_eq_true rfl⟩ d_Sh_init_1 ?_
    refine g_aload_n (pc := 4) C d_Sh_init_4 rfl 0 rfl ?_
    refine g_iconst (pc := 5) C (3 : Int32) d_Sh_init_5 (by decide) ?_
    refine g_bipush (pc := 6) C (40 : Int32) d_Sh_init_6 (by decide) ?_
    refine g_mna (n := 84) (m := 3) (len := 40) (mc := 0) (ms := 0) (κ := 4) (pc := 8) (lvf := fun ad => [(0, .ref (ad 83))]) (stf := fun ad => [.ref (ad 83)]) C (Or.inr ⟨rfl, rfl, rfl⟩) ac_2 cl_Sh_9 ao_4 rfl (by decide) hno (by decide) (by decide) (by decide) (by decide) ⟨by decide, by decide⟩ ⟨Nat.le_of_ble_eq_true rfl, Nat.le_of_ble_eq_true rfl⟩ d_Sh_init_8 (fun ad9 e9 => by simp only [e9 83 (by decide)]) (fun ad9 e9 => by simp only [e9 83 (by decide)]) ?_
    intro ad1 e1
    have hA1 : ∀ i, i < 84 → ad1 i = ad i := fun i hi => (e1 i (by omega)).trans (hA0 i hi)
    have hno1 := nok_mz (m := 3) hno
    refine g_putF (pc := 12) (I' := (mzI I 84 3)) (J' := (mzJ J 84 3)) (N' := (up2 (mzN N 84 3) 83 0 (some 84))) (k := 0) C hin gcX8 inX8 tyX8_ok nmX8 (by decide) fl_Sh_11 rfl rfl ⟨(by decide), rfl⟩ (tyX8_ok 0 (by decide)) rfl rfl (Nat.le_of_ble_eq_true rfl) gs_8_0 (fun _ _ => rfl) (fun _ _ => rfl) (fun b hb => up2_of hb) d_Sh_init_12 ?_
    have hno2 := nok_up (a := 83) (k := 0) (b := 84) hno1 (by decide)
    refine g_aload_n (pc := 15) C d_Sh_init_15 rfl 0 rfl ?_
    refine g_iconst (pc := 16) C (3 : Int32) d_Sh_init_16 (by decide) ?_
    refine g_newa (n := 88) (mc := 4) (ms := 123) (κ := 1) (pc := 17) (lvf := fun ad => [(0, .ref (ad 83))]) (stf := fun ad => [.ref (ad 83)]) C (Or.inl ⟨rfl, rfl, rfl⟩) ac_1 rfl hno2 (by decide) (by decide) (by decide) ⟨Nat.le_of_ble_eq_true rfl, Nat.le_of_ble_eq_true rfl⟩ d_Sh_init_17 (fun ad9 e9 => by simp only [e9 83 (by decide)]) (fun ad9 e9 => by simp only [e9 83 (by decide)]) ?_
    intro ad3 e3
    have hA3 : ∀ i, i < 84 → ad3 i = ad i := fun i hi => (e3 i (by omega)).trans (hA1 i hi)
    have hno3 := nok_new hno2
    refine g_putF (pc := 19) (I' := (va_up (mzI I 84 3) 88 (fun _ => 0))) (J' := (va_up (mzJ J 84 3) 88 (fun _ => 0))) (N' := (up2 (va_up (up2 (mzN N 84 3) 83 0 (some 84)) 88 (fun _ => none)) 83 1 (some 88))) (k := 1) C hin gcX8 inX8 tyX8_ok nmX8 (by decide) fl_Sh_16 rfl rfl ⟨(by decide), rfl⟩ (tyX8_ok 1 (by decide)) rfl rfl (Nat.le_of_ble_eq_true rfl) gs_8_1 (fun _ _ => rfl) (fun _ _ => rfl) (fun b hb => up2_of hb) d_Sh_init_19 ?_
    have hno4 := nok_up (a := 83) (k := 1) (b := 88) hno3 (by decide)
    refine g_iconst (pc := 22) C (0 : Int32) d_Sh_init_22 (by decide) ?_
    refine g_istore_n (pc := 23) (lv' := [(1, .int (0 : Int32)), (0, .ref (ad3 83))]) C d_Sh_init_23 rfl (by decide) rfl ?_
    refine g_iload_n (pc := 24) C d_Sh_init_24 rfl 0 rfl ?_
    refine g_iconst (pc := 25) C (3 : Int32) d_Sh_init_25 (by decide) ?_
    refine g_icmp_ge (pc := 26) C 42 d_Sh_init_26 rfl (fun e => absurd e (by decide)) (fun _ => ?_)
    refine g_aload_n (pc := 29) C d_Sh_init_29 rfl 1 rfl ?_
    refine g_get (pc := 30) (k := 1) (v := va_rf (((up2 (va_up (up2 (mzN N 84 3) 83 0 (some 84)) 88 (fun _ => none)) 83 1 (some 88)) 83 1).map ad3)) C gcX8 inX8 (by decide) fl_Sh_16 ⟨(by decide), rfl⟩ rfl d_Sh_init_30 ?_
    refine g_top (g_rf (b := 88) rfl) ?_
    refine g_iload_n (pc := 33) C d_Sh_init_33 rfl 0 rfl ?_
    refine g_iconst (pc := 34) C (-1 : Int32) d_Sh_init_34 (by decide) ?_
    refine g_iast (pc := 35) C ⟨by decide, rfl⟩ (by decide) d_Sh_init_35 ?_
    refine g_iinc (pc := 36) (q := 0) (lv' := [(1, .int (1 : Int32)), (0, .ref (ad3 83))]) C d_Sh_init_36 rfl (by decide) (by decide) rfl ?_
    refine g_goto (pc := 39) C 24 d_Sh_init_39 rfl ?_
    refine g_iload_n (pc := 24) C d_Sh_init_24 rfl 0 rfl ?_
    refine g_iconst (pc := 25) C (3 : Int32) d_Sh_init_25 (by decide) ?_
    refine g_icmp_ge (pc := 26) C 42 d_Sh_init_26 rfl (fun e => absurd e (by decide)) (fun _ => ?_)
    refine g_aload_n (pc := 29) C d_Sh_init_29 rfl 1 rfl ?_
    refine g_get (pc := 30) (k := 1) (v := va_rf (((up2 (va_up (up2 (mzN N 84 3) 83 0 (some 84)) 88 (fun _ => none)) 83 1 (some 88)) 83 1).map ad3)) C gcX8 inX8 (by decide) fl_Sh_16 ⟨(by decide), rfl⟩ rfl d_Sh_init_30 ?_
    refine g_top (g_rf (b := 88) rfl) ?_
    refine g_iload_n (pc := 33) C d_Sh_init_33 rfl 0 rfl ?_
    refine g_iconst (pc := 34) C (-1 : Int32) d_Sh_init_34 (by decide) ?_
    refine g_iast (pc := 35) C ⟨by decide, rfl⟩ (by decide) d_Sh_init_35 ?_
    refine g_iinc (pc := 36) (q := 0) (lv' := [(1, .int (2 : Int32)), (0, .ref (ad3 83))]) C d_Sh_init_36 rfl (by decide) (by decide) rfl ?_
    refine g_goto (pc := 39) C 24 d_Sh_init_39 rfl ?_
    refine g_iload_n (pc := 24) C d_Sh_init_24 rfl 0 rfl ?_
    refine g_iconst (pc := 25) C (3 : Int32) d_Sh_init_25 (by decide) ?_
    refine g_icmp_ge (pc := 26) C 42 d_Sh_init_26 rfl (fun e => absurd e (by decide)) (fun _ => ?_)
    refine g_aload_n (pc := 29) C d_Sh_init_29 rfl 1 rfl ?_
    refine g_get (pc := 30) (k := 1) (v := va_rf (((up2 (va_up (up2 (mzN N 84 3) 83 0 (some 84)) 88 (fun _ => none)) 83 1 (some 88)) 83 1).map ad3)) C gcX8 inX8 (by decide) fl_Sh_16 ⟨(by decide), rfl⟩ rfl d_Sh_init_30 ?_
    refine g_top (g_rf (b := 88) rfl) ?_
    refine g_iload_n (pc := 33) C d_Sh_init_33 rfl 0 rfl ?_
    refine g_iconst (pc := 34) C (-1 : Int32) d_Sh_init_34 (by decide) ?_
    refine g_iast (pc := 35) C ⟨by decide, rfl⟩ (by decide) d_Sh_init_35 ?_
    refine g_iinc (pc := 36) (q := 0) (lv' := [(1, .int (3 : Int32)), (0, .ref (ad3 83))]) C d_Sh_init_36 rfl (by decide) (by decide) rfl ?_
    refine g_goto (pc := 39) C 24 d_Sh_init_39 rfl ?_
    refine g_iload_n (pc := 24) C d_Sh_init_24 rfl 0 rfl ?_
    refine g_iconst (pc := 25) C (3 : Int32) d_Sh_init_25 (by decide) ?_
    refine g_icmp_ge (pc := 26) C 42 d_Sh_init_26 rfl (fun _ => ?_) (fun e => absurd (by decide) e)
    exact g_vretn (pc := 42) C hA3 d_Sh_init_42
theorem d_Re_init_0 : decode c_Re_init 0 = .ok (.aload_n 0, 1) := by decide +kernel
theorem d_Re_init_1 : decode c_Re_init 1 = .ok (.invokespecial 1, 3) := by decide +kernel
theorem d_Re_init_4 : decode c_Re_init 4 = .ok (.aload_n 0, 1) := by decide +kernel
theorem d_Re_init_5 : decode c_Re_init 5 = .ok (.new 7, 3) := by decide +kernel
theorem d_Re_init_8 : decode c_Re_init 8 = .ok (.dup, 1) := by decide +kernel
theorem d_Re_init_9 : decode c_Re_init 9 = .ok (.invokespecial 9, 3) := by decide +kernel
theorem d_Re_init_12 : decode c_Re_init 12 = .ok (.putfield 10, 3) := by decide +kernel
theorem d_Re_init_15 : decode c_Re_init 15 = .ok (.aload_n 0, 1) := by decide +kernel
theorem d_Re_init_16 : decode c_Re_init 16 = .ok (.new 16, 3) := by decide +kernel
theorem d_Re_init_19 : decode c_Re_init 19 = .ok (.dup, 1) := by decide +kernel
theorem d_Re_init_20 : decode c_Re_init 20 = .ok (.invokespecial 18, 3) := by decide +kernel
theorem d_Re_init_23 : decode c_Re_init 23 = .ok (.putfield 19, 3) := by decide +kernel
theorem d_Re_init_26 : decode c_Re_init 26 = .ok (.return_, 1) := by decide +kernel
def rm_Re_init : Room := { frames := 2, cells := 3, slots := 10, locals := 44 }
def Re_nI (I : HI) : HI := (Fr_nI 93 92 (va_up (Po_nI 91 90 (va_up I 90 (fun _ => 0))) 92 (fun _ => 0)))
def Re_nJ (J : HJ) : HJ := (Fr_nJ 93 92 (va_up (Po_nJ 91 90 (va_up J 90 (fun _ => 0))) 92 (fun _ => 0)))
def Re_nN (N : HN) : HN := (up2 (Fr_nN 93 92 (va_up (up2 (Po_nN 91 90 (va_up N 90 (fun _ => none))) 89 0 (some 90)) 92 (fun _ => none))) 89 1 (some 92))
theorem nk_Re {N : HN} (hno : nok 90 N) : nok 93 (Re_nN N) := by
  unfold Re_nN
  exact (nok_up (nk_Fr (by decide) (nok_new (nok_up (nk_Po (by decide) (nok_new hno)) (by decide)))) (by decide))
set_option maxRecDepth 20000 in
theorem kn_Re_init (l : Launch) {I : HI} {J : HJ} {N : HN} (hno : nok 90 N) : gMn l y_Re_init c_Re_init 1 rm_Re_init Tc 90 I J N (fun ad => [.ref (ad 89)]) 93 (Re_nI I) (Re_nJ J) (Re_nN N) 3 10 := by
  refine g_methn (lv := fun ad => [(0, .ref (ad 89))]) (by decide) (fun _ => Nat.le_of_ble_eq_true rfl) (fun _ => rfl) (by decide) ?hno ?body
  case hno => exact nk_Re  hno
  case body =>
    intro X ad C hin
    have hA0 : ∀ i, i < 90 → ad i = ad i := fun _ _ => rfl
    refine g_aload_n (pc := 0) C d_Re_init_0 rfl 0 rfl ?_
    refine g_objInit (pc := 1) C ml_Re_1 ob_i ob_c ⟨Nat.le_of_ble_eq_true rfl, Nat.le_of_ble_eq_true rfl⟩ d_Re_init_1 ?_
    refine g_aload_n (pc := 4) C d_Re_init_4 rfl 0 rfl ?_
    refine g_new (n := 90) (mc := 0) (ms := 0) (pc := 5) (lvf := fun ad => [(0, .ref (ad 89))]) (stf := fun ad => [.ref (ad 89)]) C gcX6 inX6 tyX6_ok cl_Re_7 in_6 it_6 rfl hno gz_6 ⟨Nat.le_of_ble_eq_true rfl, Nat.le_of_ble_eq_true rfl⟩ d_Re_init_5 (fun ad9 e9 => by simp only [e9 89 (by decide)]) (fun ad9 e9 => by simp only [e9 89 (by decide)]) ?_
    intro ad1 e1
    have hA1 : ∀ i, i < 90 → ad1 i = ad i := fun i hi => (e1 i (by omega)).trans (hA0 i hi)
    have hno1 := nok_new hno
    refine g_dup (pc := 8) C d_Re_init_8 rfl ?_
    have con2 := (kn_Po_init (xl X) (T := Tc) (n := 91) (a := 90) (I := (va_up I 90 (fun _ => 0))) (J := (va_up J 90 (fun _ => 0))) (N := (va_up N 90 (fun _ => none))) ⟨(by decide), rfl⟩ rfl hno1)
    refine g_Init (n := 91) (mc := 1) (ms := 1) (pc := 9) (lvf := fun ad => [(0, .ref (ad 89))]) (stf := fun ad => [.ref (ad 90), .ref (ad 89)]) true C con2 sm_Po_init ml_Re_9 im_Po_init rfl ⟨rfl, rfl, Nat.le_of_ble_eq_true rfl, Nat.le_of_ble_eq_true rfl⟩ ⟨Nat.le_of_ble_eq_true rfl, Nat.le_of_ble_eq_true rfl⟩ (Nat.le_of_ble_eq_true rfl) d_Re_init_9 (fun ad9 e9 => by simp only [e9 89 (by decide)]) (fun ad9 e9 => by simp only [e9 89 (by decide), e9 90 (by decide)]) ?_
    intro ad3 e3
    have hA3 : ∀ i, i < 90 → ad3 i = ad i := fun i hi => (e3 i (by omega)).trans (hA1 i hi)
    have hno3 := con2.2.1
    refine g_putF (pc := 12) (I' := (Po_nI 91 90 (va_up I 90 (fun _ => 0)))) (J' := (Po_nJ 91 90 (va_up J 90 (fun _ => 0)))) (N' := (up2 (Po_nN 91 90 (va_up N 90 (fun _ => none))) 89 0 (some 90))) (k := 0) C hin gcX7 inX7 tyX7_ok nmX7 (by decide) fl_Re_10 rfl rfl ⟨(by decide), rfl⟩ (tyX7_ok 0 (by decide)) rfl rfl (Nat.le_of_ble_eq_true rfl) gs_7_0 (fun _ _ => rfl) (fun _ _ => rfl) (fun b hb => up2_of hb) d_Re_init_12 ?_
    have hno4 := nok_up (a := 89) (k := 0) (b := 90) hno3 (by decide)
    refine g_aload_n (pc := 15) C d_Re_init_15 rfl 0 rfl ?_
    refine g_new (n := 92) (mc := 2) (ms := 8) (pc := 16) (lvf := fun ad => [(0, .ref (ad 89))]) (stf := fun ad => [.ref (ad 89)]) C gcX2 inX2 tyX2_ok cl_Re_16 in_2 it_2 rfl hno4 gz_2 ⟨Nat.le_of_ble_eq_true rfl, Nat.le_of_ble_eq_true rfl⟩ d_Re_init_16 (fun ad9 e9 => by simp only [e9 89 (by decide)]) (fun ad9 e9 => by simp only [e9 89 (by decide)]) ?_
    intro ad5 e5
    have hA5 : ∀ i, i < 90 → ad5 i = ad i := fun i hi => (e5 i (by omega)).trans (hA3 i hi)
    have hno5 := nok_new hno4
    refine g_dup (pc := 19) C d_Re_init_19 rfl ?_
    have con6 := (kn_Fr_init (xl X) (T := Tc) (n := 93) (a := 92) (I := (va_up (Po_nI 91 90 (va_up I 90 (fun _ => 0))) 92 (fun _ => 0))) (J := (va_up (Po_nJ 91 90 (va_up J 90 (fun _ => 0))) 92 (fun _ => 0))) (N := (va_up (up2 (Po_nN 91 90 (va_up N 90 (fun _ => none))) 89 0 (some 90)) 92 (fun _ => none))) ⟨(by decide), rfl⟩  hno5)
    refine g_Init (n := 93) (mc := 3) (ms := 10) (pc := 20) (lvf := fun ad => [(0, .ref (ad 89))]) (stf := fun ad => [.ref (ad 92), .ref (ad 89)]) true C con6 sm_Fr_init ml_Re_18 im_Fr_init rfl ⟨rfl, rfl, Nat.le_of_ble_eq_true rfl, Nat.le_of_ble_eq_true rfl⟩ ⟨Nat.le_of_ble_eq_true rfl, Nat.le_of_ble_eq_true rfl⟩ (Nat.le_of_ble_eq_true rfl) d_Re_init_20 (fun ad9 e9 => by simp only [e9 89 (by decide)]) (fun ad9 e9 => by simp only [e9 89 (by decide), e9 92 (by decide)]) ?_
    intro ad7 e7
    have hA7 : ∀ i, i < 90 → ad7 i = ad i := fun i hi => (e7 i (by omega)).trans (hA5 i hi)
    have hno7 := con6.2.1
    refine g_putF (pc := 23) (I' := (Fr_nI 93 92 (va_up (Po_nI 91 90 (va_up I 90 (fun _ => 0))) 92 (fun _ => 0)))) (J' := (Fr_nJ 93 92 (va_up (Po_nJ 91 90 (va_up J 90 (fun _ => 0))) 92 (fun _ => 0)))) (N' := (up2 (Fr_nN 93 92 (va_up (up2 (Po_nN 91 90 (va_up N 90 (fun _ => none))) 89 0 (some 90)) 92 (fun _ => none))) 89 1 (some 92))) (k := 1) C hin gcX7 inX7 tyX7_ok nmX7 (by decide) fl_Re_19 rfl rfl ⟨(by decide), rfl⟩ (tyX7_ok 1 (by decide)) rfl rfl (Nat.le_of_ble_eq_true rfl) gs_7_1 (fun _ _ => rfl) (fun _ _ => rfl) (fun b hb => up2_of hb) d_Re_init_23 ?_
    have hno8 := nok_up (a := 89) (k := 1) (b := 92) hno7 (by decide)
    exact g_vretn (pc := 26) C hA7 d_Re_init_26
theorem d_Lm_init_0 : decode c_Lm_init 0 = .ok (.aload_n 0, 1) := by decide +kernel
theorem d_Lm_init_1 : decode c_Lm_init 1 = .ok (.invokespecial 3, 3) := by decide +kernel
theorem d_Lm_init_4 : decode c_Lm_init 4 = .ok (.aload_n 0, 1) := by decide +kernel
theorem d_Lm_init_5 : decode c_Lm_init 5 = .ok (.new 9, 3) := by decide +kernel
theorem d_Lm_init_8 : decode c_Lm_init 8 = .ok (.dup, 1) := by decide +kernel
theorem d_Lm_init_9 : decode c_Lm_init 9 = .ok (.invokespecial 11, 3) := by decide +kernel
theorem d_Lm_init_12 : decode c_Lm_init 12 = .ok (.putfield 12, 3) := by decide +kernel
theorem d_Lm_init_15 : decode c_Lm_init 15 = .ok (.aload_n 0, 1) := by decide +kernel
theorem d_Lm_init_16 : decode c_Lm_init 16 = .ok (.new 16, 3) := by decide +kernel
theorem d_Lm_init_19 : decode c_Lm_init 19 = .ok (.dup, 1) := by decide +kernel
theorem d_Lm_init_20 : decode c_Lm_init 20 = .ok (.invokespecial 18, 3) := by decide +kernel
theorem d_Lm_init_23 : decode c_Lm_init 23 = .ok (.putfield 19, 3) := by decide +kernel
theorem d_Lm_init_26 : decode c_Lm_init 26 = .ok (.aload_n 0, 1) := by decide +kernel
theorem d_Lm_init_27 : decode c_Lm_init 27 = .ok (.new 23, 3) := by decide +kernel
theorem d_Lm_init_30 : decode c_Lm_init 30 = .ok (.dup, 1) := by decide +kernel
theorem d_Lm_init_31 : decode c_Lm_init 31 = .ok (.invokespecial 25, 3) := by decide +kernel
theorem d_Lm_init_34 : decode c_Lm_init 34 = .ok (.putfield 26, 3) := by decide +kernel
theorem d_Lm_init_37 : decode c_Lm_init 37 = .ok (.aload_n 0, 1) := by decide +kernel
theorem d_Lm_init_38 : decode c_Lm_init 38 = .ok (.new 30, 3) := by decide +kernel
theorem d_Lm_init_41 : decode c_Lm_init 41 = .ok (.dup, 1) := by decide +kernel
theorem d_Lm_init_42 : decode c_Lm_init 42 = .ok (.invokespecial 32, 3) := by decide +kernel
theorem d_Lm_init_45 : decode c_Lm_init 45 = .ok (.putfield 33, 3) := by decide +kernel
theorem d_Lm_init_48 : decode c_Lm_init 48 = .ok (.aload_n 0, 1) := by decide +kernel
theorem d_Lm_init_49 : decode c_Lm_init 49 = .ok (.new 37, 3) := by decide +kernel
theorem d_Lm_init_52 : decode c_Lm_init 52 = .ok (.dup, 1) := by decide +kernel
theorem d_Lm_init_53 : decode c_Lm_init 53 = .ok (.invokespecial 39, 3) := by decide +kernel
theorem d_Lm_init_56 : decode c_Lm_init 56 = .ok (.putfield 40, 3) := by decide +kernel
theorem d_Lm_init_59 : decode c_Lm_init 59 = .ok (.aload_n 0, 1) := by decide +kernel
theorem d_Lm_init_60 : decode c_Lm_init 60 = .ok (.new 44, 3) := by decide +kernel
theorem d_Lm_init_63 : decode c_Lm_init 63 = .ok (.dup, 1) := by decide +kernel
theorem d_Lm_init_64 : decode c_Lm_init 64 = .ok (.invokespecial 46, 3) := by decide +kernel
theorem d_Lm_init_67 : decode c_Lm_init 67 = .ok (.putfield 47, 3) := by decide +kernel
theorem d_Lm_init_70 : decode c_Lm_init 70 = .ok (.aload_n 0, 1) := by decide +kernel
theorem d_Lm_init_71 : decode c_Lm_init 71 = .ok (.new 51, 3) := by decide +kernel
theorem d_Lm_init_74 : decode c_Lm_init 74 = .ok (.dup, 1) := by decide +kernel
theorem d_Lm_init_75 : decode c_Lm_init 75 = .ok (.invokespecial 53, 3) := by decide +kernel
theorem d_Lm_init_78 : decode c_Lm_init 78 = .ok (.putfield 54, 3) := by decide +kernel
theorem d_Lm_init_81 : decode c_Lm_init 81 = .ok (.aload_n 0, 1) := by decide +kernel
theorem d_Lm_init_82 : decode c_Lm_init 82 = .ok (.new 58, 3) := by decide +kernel
theorem d_Lm_init_85 : decode c_Lm_init 85 = .ok (.dup, 1) := by decide +kernel
theorem d_Lm_init_86 : decode c_Lm_init 86 = .ok (.invokespecial 60, 3) := by decide +kernel
theorem d_Lm_init_89 : decode c_Lm_init 89 = .ok (.putfield 61, 3) := by decide +kernel
theorem d_Lm_init_92 : decode c_Lm_init 92 = .ok (.aload_n 0, 1) := by decide +kernel
theorem d_Lm_init_93 : decode c_Lm_init 93 = .ok (.iconst 0, 1) := by decide +kernel
theorem d_Lm_init_94 : decode c_Lm_init 94 = .ok (.putfield 65, 3) := by decide +kernel
theorem d_Lm_init_97 : decode c_Lm_init 97 = .ok (.return_, 1) := by decide +kernel
def rm_Lm_init : Room := { frames := 4, cells := 92, slots := 603, locals := 84 }
def Lm_nI (I : HI) : HI := (up2 (Re_nI (va_up (Sh_nI (va_up (Me_nI (va_up (Bi_nI (va_up (Un_nI (va_up (Fo_nI (va_up (La_nI 7 6 (va_up (Pa_nI 2 1 (va_up I 1 (fun _ => 0))) 6 (fun _ => 0))) 14 (fun _ => 0))) 30 (fun _ => 0))) 56 (fun _ => 0))) 64 (fun _ => 0))) 83 (fun _ => 0))) 89 (fun _ => 0))) 0 8 (0 : Int32))
def Lm_nJ (J : HJ) : HJ := (Re_nJ (va_up (Sh_nJ (va_up (Me_nJ (va_up (Bi_nJ (va_up (Un_nJ (va_up (Fo_nJ (va_up (La_nJ 7 6 (va_up (Pa_nJ 2 1 (va_up J 1 (fun _ => 0))) 6 (fun _ => 0))) 14 (fun _ => 0))) 30 (fun _ => 0))) 56 (fun _ => 0))) 64 (fun _ => 0))) 83 (fun _ => 0))) 89 (fun _ => 0)))
def Lm_nN (N : HN) : HN := (up2 (Re_nN (va_up (up2 (Sh_nN (va_up (up2 (Me_nN (va_up (up2 (Bi_nN (va_up (up2 (Un_nN (va_up (up2 (Fo_nN (va_up (up2 (La_nN 7 6 (va_up (up2 (Pa_nN 2 1 (va_up N 1 (fun _ => none))) 0 0 (some 1)) 6 (fun _ => none))) 0 1 (some 6)) 14 (fun _ => none))) 0 2 (some 14)) 30 (fun _ => none))) 0 3 (some 30)) 56 (fun _ => none))) 0 4 (some 56)) 64 (fun _ => none))) 0 5 (some 64)) 83 (fun _ => none))) 0 6 (some 83)) 89 (fun _ => none))) 0 7 (some 89))
theorem nk_Lm {N : HN} (hno : nok 1 N) : nok 93 (Lm_nN N) := by
  unfold Lm_nN
  exact (nok_up (nk_Re (nok_new (nok_up (nk_Sh (nok_new (nok_up (nk_Me (nok_new (nok_up (nk_Bi (nok_new (nok_up (nk_Un (nok_new (nok_up (nk_Fo (nok_new (nok_up (nk_La (by decide) (nok_new (nok_up (nk_Pa (by decide) (nok_new hno)) (by decide)))) (by decide)))) (by decide)))) (by decide)))) (by decide)))) (by decide)))) (by decide)))) (by decide))
set_option maxRecDepth 20000 in
theorem kn_Lm_init (l : Launch) {I : HI} {J : HJ} {N : HN} (hno : nok 1 N) : gMn l y_Lm_init c_Lm_init 1 rm_Lm_init Tc 1 I J N (fun ad => [.ref (ad 0)]) 93 (Lm_nI I) (Lm_nJ J) (Lm_nN N) 92 603 := by
  refine g_methn (lv := fun ad => [(0, .ref (ad 0))]) (by decide) (fun _ => Nat.le_of_ble_eq_true rfl) (fun _ => rfl) (by decide) ?hno ?body
  case hno => exact nk_Lm  hno
  case body =>
    intro X ad C hin
    have hA0 : ∀ i, i < 1 → ad i = ad i := fun _ _ => rfl
    refine g_aload_n (pc := 0) C d_Lm_init_0 rfl 0 rfl ?_
    refine g_objInit (pc := 1) C ml_Lm_3 ob_i ob_c ⟨Nat.le_of_ble_eq_true rfl, Nat.le_of_ble_eq_true rfl⟩ d_Lm_init_1 ?_
    refine g_aload_n (pc := 4) C d_Lm_init_4 rfl 0 rfl ?_
    refine g_new (n := 1) (mc := 0) (ms := 0) (pc := 5) (lvf := fun ad => [(0, .ref (ad 0))]) (stf := fun ad => [.ref (ad 0)]) C gcX5 inX5 tyX5_ok cl_Lm_9 in_5 it_5 rfl hno gz_5 ⟨Nat.le_of_ble_eq_true rfl, Nat.le_of_ble_eq_true rfl⟩ d_Lm_init_5 (fun ad9 e9 => by simp only [e9 0 (by decide)]) (fun ad9 e9 => by simp only [e9 0 (by decide)]) ?_
    intro ad1 e1
    have hA1 : ∀ i, i < 1 → ad1 i = ad i := fun i hi => (e1 i (by omega)).trans (hA0 i hi)
    have hno1 := nok_new hno
    refine g_dup (pc := 8) C d_Lm_init_8 rfl ?_
    have con2 := (kn_Pa_init (xl X) (T := Tc) (n := 2) (a := 1) (I := (va_up I 1 (fun _ => 0))) (J := (va_up J 1 (fun _ => 0))) (N := (va_up N 1 (fun _ => none))) ⟨(by decide), rfl⟩ rfl rfl rfl rfl hno1)
    refine g_Init (n := 2) (mc := 1) (ms := 2) (pc := 9) (lvf := fun ad => [(0, .ref (ad 0))]) (stf := fun ad => [.ref (ad 1), .ref (ad 0)]) true C con2 sm_Pa_init ml_Lm_11 im_Pa_init rfl ⟨rfl, rfl, Nat.le_of_ble_eq_true rfl, Nat.le_of_ble_eq_true rfl⟩ ⟨Nat.le_of_ble_eq_true rfl, Nat.le_of_ble_eq_true rfl⟩ (Nat.le_of_ble_eq_true rfl) d_Lm_init_9 (fun ad9 e9 => by simp only [e9 0 (by decide)]) (fun ad9 e9 => by simp only [e9 0 (by decide), e9 1 (by decide)]) ?_
    intro ad3 e3
    have hA3 : ∀ i, i < 1 → ad3 i = ad i := fun i hi => (e3 i (by omega)).trans (hA1 i hi)
    have hno3 := con2.2.1
    refine g_putF (pc := 12) (I' := (Pa_nI 2 1 (va_up I 1 (fun _ => 0)))) (J' := (Pa_nJ 2 1 (va_up J 1 (fun _ => 0)))) (N' := (up2 (Pa_nN 2 1 (va_up N 1 (fun _ => none))) 0 0 (some 1))) (k := 0) C hin gcX10 inX10 tyX10_ok nmX10 (by decide) fl_Lm_12 rfl rfl ⟨(by decide), rfl⟩ (tyX10_ok 0 (by decide)) rfl rfl (Nat.le_of_ble_eq_true rfl) gs_10_0 (fun _ _ => rfl) (fun _ _ => rfl) (fun b hb => up2_of hb) d_Lm_init_12 ?_
    have hno4 := nok_up (a := 0) (k := 0) (b := 1) hno3 (by decide)
    refine g_aload_n (pc := 15) C d_Lm_init_15 rfl 0 rfl ?_
    refine g_new (n := 6) (mc := 5) (ms := 18) (pc := 16) (lvf := fun ad => [(0, .ref (ad 0))]) (stf := fun ad => [.ref (ad 0)]) C gcX3 inX3 tyX3_ok cl_Lm_16 in_3 it_3 rfl hno4 gz_3 ⟨Nat.le_of_ble_eq_true rfl, Nat.le_of_ble_eq_true rfl⟩ d_Lm_init_16 (fun ad9 e9 => by simp only [e9 0 (by decide)]) (fun ad9 e9 => by simp only [e9 0 (by decide)]) ?_
    intro ad5 e5
    have hA5 : ∀ i, i < 1 → ad5 i = ad i := fun i hi => (e5 i (by omega)).trans (hA3 i hi)
    have hno5 := nok_new hno4
    refine g_dup (pc := 19) C d_Lm_init_19 rfl ?_
    have con6 := (kn_La_init (xl X) (T := Tc) (n := 7) (a := 6) (I := (va_up (Pa_nI 2 1 (va_up I 1 (fun _ => 0))) 6 (fun _ => 0))) (J := (va_up (Pa_nJ 2 1 (va_up J 1 (fun _ => 0))) 6 (fun _ => 0))) (N := (va_up (up2 (Pa_nN 2 1 (va_up N 1 (fun _ => none))) 0 0 (some 1)) 6 (fun _ => none))) ⟨(by decide), rfl⟩ rfl (by decide) hno5)
    refine g_Init (n := 7) (mc := 6) (ms := 20) (pc := 20) (lvf := fun ad => [(0, .ref (ad 0))]) (stf := fun ad => [.ref (ad 6), .ref (ad 0)]) true C con6 sm_La_init ml_Lm_18 im_La_init rfl ⟨rfl, rfl, Nat.le_of_ble_eq_true rfl, Nat.le_of_ble_eq_true rfl⟩ ⟨Nat.le_of_ble_eq_true rfl, Nat.le_of_ble_eq_true rfl⟩ (Nat.le_of_ble_eq_true rfl) d_Lm_init_20 (fun ad9 e9 => by simp only [e9 0 (by decide)]) (fun ad9 e9 => by simp only [e9 0 (by decide), e9 6 (by decide)]) ?_
    intro ad7 e7
    have hA7 : ∀ i, i < 1 → ad7 i = ad i := fun i hi => (e7 i (by omega)).trans (hA5 i hi)
    have hno7 := con6.2.1
    refine g_putF (pc := 23) (I' := (La_nI 7 6 (va_up (Pa_nI 2 1 (va_up I 1 (fun _ => 0))) 6 (fun _ => 0)))) (J' := (La_nJ 7 6 (va_up (Pa_nJ 2 1 (va_up J 1 (fun _ => 0))) 6 (fun _ => 0)))) (N' := (up2 (La_nN 7 6 (va_up (up2 (Pa_nN 2 1 (va_up N 1 (fun _ => none))) 0 0 (some 1)) 6 (fun _ => none))) 0 1 (some 6))) (k := 1) C hin gcX10 inX10 tyX10_ok nmX10 (by decide) fl_Lm_19 rfl rfl ⟨(by decide), rfl⟩ (tyX10_ok 1 (by decide)) rfl rfl (Nat.le_of_ble_eq_true rfl) gs_10_1 (fun _ _ => rfl) (fun _ _ => rfl) (fun b hb => up2_of hb) d_Lm_init_23 ?_
    have hno8 := nok_up (a := 0) (k := 1) (b := 6) hno7 (by decide)
    refine g_aload_n (pc := 26) C d_Lm_init_26 rfl 0 rfl ?_
    refine g_new (n := 14) (mc := 13) (ms := 56) (pc := 27) (lvf := fun ad => [(0, .ref (ad 0))]) (stf := fun ad => [.ref (ad 0)]) C gcX1 inX1 tyX1_ok cl_Lm_23 in_1 it_1 rfl hno8 gz_1 ⟨Nat.le_of_ble_eq_true rfl, Nat.le_of_ble_eq_true rfl⟩ d_Lm_init_27 (fun ad9 e9 => by simp only [e9 0 (by decide)]) (fun ad9 e9 => by simp only [e9 0 (by decide)]) ?_
    intro ad9 e9
    have hA9 : ∀ i, i < 1 → ad9 i = ad i := fun i hi => (e9 i (by omega)).trans (hA7 i hi)
    have hno9 := nok_new hno8
    refine g_dup (pc := 30) C d_Lm_init_30 rfl ?_
    have con10 := (kn_Fo_init (xl X) (I := (va_up (La_nI 7 6 (va_up (Pa_nI 2 1 (va_up I 1 (fun _ => 0))) 6 (fun _ => 0))) 14 (fun _ => 0))) (J := (va_up (La_nJ 7 6 (va_up (Pa_nJ 2 1 (va_up J 1 (fun _ => 0))) 6 (fun _ => 0))) 14 (fun _ => 0))) (N := (va_up (up2 (La_nN 7 6 (va_up (up2 (Pa_nN 2 1 (va_up N 1 (fun _ => none))) 0 0 (some 1)) 6 (fun _ => none))) 0 1 (some 6)) 14 (fun _ => none))) hno9)
    refine g_Init (n := 15) (mc := 14) (ms := 59) (pc := 31) (lvf := fun ad => [(0, .ref (ad 0))]) (stf := fun ad => [.ref (ad 14), .ref (ad 0)]) true C con10 sm_Fo_init ml_Lm_25 im_Fo_init rfl ⟨rfl, rfl, Nat.le_of_ble_eq_true rfl, Nat.le_of_ble_eq_true rfl⟩ ⟨Nat.le_of_ble_eq_true rfl, Nat.le_of_ble_eq_true rfl⟩ (Nat.le_of_ble_eq_true rfl) d_Lm_init_31 (fun ad9 e9 => by simp only [e9 0 (by decide)]) (fun ad9 e9 => by simp only [e9 0 (by decide), e9 14 (by decide)]) ?_
    intro ad11 e11
    have hA11 : ∀ i, i < 1 → ad11 i = ad i := fun i hi => (e11 i (by omega)).trans (hA9 i hi)
    have hno11 := con10.2.1
    refine g_putF (pc := 34) (I' := (Fo_nI (va_up (La_nI 7 6 (va_up (Pa_nI 2 1 (va_up I 1 (fun _ => 0))) 6 (fun _ => 0))) 14 (fun _ => 0)))) (J' := (Fo_nJ (va_up (La_nJ 7 6 (va_up (Pa_nJ 2 1 (va_up J 1 (fun _ => 0))) 6 (fun _ => 0))) 14 (fun _ => 0)))) (N' := (up2 (Fo_nN (va_up (up2 (La_nN 7 6 (va_up (up2 (Pa_nN 2 1 (va_up N 1 (fun _ => none))) 0 0 (some 1)) 6 (fun _ => none))) 0 1 (some 6)) 14 (fun _ => none))) 0 2 (some 14))) (k := 2) C hin gcX10 inX10 tyX10_ok nmX10 (by decide) fl_Lm_26 rfl rfl ⟨(by decide), rfl⟩ (tyX10_ok 2 (by decide)) rfl rfl (Nat.le_of_ble_eq_true rfl) gs_10_2 (fun _ _ => rfl) (fun _ _ => rfl) (fun b hb => up2_of hb) d_Lm_init_34 ?_
    have hno12 := nok_up (a := 0) (k := 2) (b := 14) hno11 (by decide)
    refine g_aload_n (pc := 37) C d_Lm_init_37 rfl 0 rfl ?_
    refine g_new (n := 30) (mc := 29) (ms := 113) (pc := 38) (lvf := fun ad => [(0, .ref (ad 0))]) (stf := fun ad => [.ref (ad 0)]) C gcX9 inX9 tyX9_ok cl_Lm_30 in_9 it_9 rfl hno12 gz_9 ⟨Nat.le_of_ble_eq_true rfl, Nat.le_of_ble_eq_true rfl⟩ d_Lm_init_38 (fun ad9 e9 => by simp only [e9 0 (by decide)]) (fun ad9 e9 => by simp only [e9 0 (by decide)]) ?_
    intro ad13 e13
    have hA13 : ∀ i, i < 1 → ad13 i = ad i := fun i hi => (e13 i (by omega)).trans (hA11 i hi)
    have hno13 := nok_new hno12
    refine g_dup (pc := 41) C d_Lm_init_41 rfl ?_
    have con14 := (kn_Un_init (xl X) (I := (va_up (Fo_nI (va_up (La_nI 7 6 (va_up (Pa_nI 2 1 (va_up I 1 (fun _ => 0))) 6 (fun _ => 0))) 14 (fun _ => 0))) 30 (fun _ => 0))) (J := (va_up (Fo_nJ (va_up (La_nJ 7 6 (va_up (Pa_nJ 2 1 (va_up J 1 (fun _ => 0))) 6 (fun _ => 0))) 14 (fun _ => 0))) 30 (fun _ => 0))) (N := (va_up (up2 (Fo_nN (va_up (up2 (La_nN 7 6 (va_up (up2 (Pa_nN 2 1 (va_up N 1 (fun _ => none))) 0 0 (some 1)) 6 (fun _ => none))) 0 1 (some 6)) 14 (fun _ => none))) 0 2 (some 14)) 30 (fun _ => none))) hno13)
    refine g_Init (n := 31) (mc := 30) (ms := 123) (pc := 42) (lvf := fun ad => [(0, .ref (ad 0))]) (stf := fun ad => [.ref (ad 30), .ref (ad 0)]) true C con14 sm_Un_init ml_Lm_32 im_Un_init rfl ⟨rfl, rfl, Nat.le_of_ble_eq_true rfl, Nat.le_of_ble_eq_true rfl⟩ ⟨Nat.le_of_ble_eq_true rfl, Nat.le_of_ble_eq_true rfl⟩ (Nat.le_of_ble_eq_true rfl) d_Lm_init_42 (fun ad9 e9 => by simp only [e9 0 (by decide)]) (fun ad9 e9 => by simp only [e9 0 (by decide), e9 30 (by decide)]) ?_
    intro ad15 e15
    have hA15 : ∀ i, i < 1 → ad15 i = ad i := fun i hi => (e15 i (by omega)).trans (hA13 i hi)
    have hno15 := con14.2.1
    refine g_putF (pc := 45) (I' := (Un_nI (va_up (Fo_nI (va_up (La_nI 7 6 (va_up (Pa_nI 2 1 (va_up I 1 (fun _ => 0))) 6 (fun _ => 0))) 14 (fun _ => 0))) 30 (fun _ => 0)))) (J' := (Un_nJ (va_up (Fo_nJ (va_up (La_nJ 7 6 (va_up (Pa_nJ 2 1 (va_up J 1 (fun _ => 0))) 6 (fun _ => 0))) 14 (fun _ => 0))) 30 (fun _ => 0)))) (N' := (up2 (Un_nN (va_up (up2 (Fo_nN (va_up (up2 (La_nN 7 6 (va_up (up2 (Pa_nN 2 1 (va_up N 1 (fun _ => none))) 0 0 (some 1)) 6 (fun _ => none))) 0 1 (some 6)) 14 (fun _ => none))) 0 2 (some 14)) 30 (fun _ => none))) 0 3 (some 30))) (k := 3) C hin gcX10 inX10 tyX10_ok nmX10 (by decide) fl_Lm_33 rfl rfl ⟨(by decide), rfl⟩ (tyX10_ok 3 (by decide)) rfl rfl (Nat.le_of_ble_eq_true rfl) gs_10_3 (fun _ _ => rfl) (fun _ _ => rfl) (fun b hb => up2_of hb) d_Lm_init_45 ?_
    have hno16 := nok_up (a := 0) (k := 3) (b := 30) hno15 (by decide)
    refine g_aload_n (pc := 48) C d_Lm_init_48 rfl 0 rfl ?_
    refine g_new (n := 56) (mc := 55) (ms := 218) (pc := 49) (lvf := fun ad => [(0, .ref (ad 0))]) (stf := fun ad => [.ref (ad 0)]) C gcX0 inX0 tyX0_ok cl_Lm_37 in_0 it_0 rfl hno16 gz_0 ⟨Nat.le_of_ble_eq_true rfl, Nat.le_of_ble_eq_true rfl⟩ d_Lm_init_49 (fun ad9 e9 => by simp only [e9 0 (by decide)]) (fun ad9 e9 => by simp only [e9 0 (by decide)]) ?_
    intro ad17 e17
    have hA17 : ∀ i, i < 1 → ad17 i = ad i := fun i hi => (e17 i (by omega)).trans (hA15 i hi)
    have hno17 := nok_new hno16
    refine g_dup (pc := 52) C d_Lm_init_52 rfl ?_
    have con18 := (kn_Bi_init (xl X) (I := (va_up (Un_nI (va_up (Fo_nI (va_up (La_nI 7 6 (va_up (Pa_nI 2 1 (va_up I 1 (fun _ => 0))) 6 (fun _ => 0))) 14 (fun _ => 0))) 30 (fun _ => 0))) 56 (fun _ => 0))) (J := (va_up (Un_nJ (va_up (Fo_nJ (va_up (La_nJ 7 6 (va_up (Pa_nJ 2 1 (va_up J 1 (fun _ => 0))) 6 (fun _ => 0))) 14 (fun _ => 0))) 30 (fun _ => 0))) 56 (fun _ => 0))) (N := (va_up (up2 (Un_nN (va_up (up2 (Fo_nN (va_up (up2 (La_nN 7 6 (va_up (up2 (Pa_nN 2 1 (va_up N 1 (fun _ => none))) 0 0 (some 1)) 6 (fun _ => none))) 0 1 (some 6)) 14 (fun _ => none))) 0 2 (some 14)) 30 (fun _ => none))) 0 3 (some 30)) 56 (fun _ => none))) hno17)
    refine g_Init (n := 57) (mc := 56) (ms := 220) (pc := 53) (lvf := fun ad => [(0, .ref (ad 0))]) (stf := fun ad => [.ref (ad 56), .ref (ad 0)]) true C con18 sm_Bi_init ml_Lm_39 im_Bi_init rfl ⟨rfl, rfl, Nat.le_of_ble_eq_true rfl, Nat.le_of_ble_eq_true rfl⟩ ⟨Nat.le_of_ble_eq_true rfl, Nat.le_of_ble_eq_true rfl⟩ (Nat.le_of_ble_eq_true rfl) d_Lm_init_53 (fun ad9 e9 => by simp only [e9 0 (by decide)]) (fun ad9 e9 => by simp only [e9 0 (by decide), e9 56 (by decide)]) ?_
    intro ad19 e19
    have hA19 : ∀ i, i < 1 → ad19 i = ad i := fun i hi => (e19 i (by omega)).trans (hA17 i hi)
    have hno19 := con18.2.1
    refine g_putF (pc := 56) (I' := (Bi_nI (va_up (Un_nI (va_up (Fo_nI (va_up (La_nI 7 6 (va_up (Pa_nI 2 1 (va_up I 1 (fun _ => 0))) 6 (fun _ => 0))) 14 (fun _ => 0))) 30 (fun _ => 0))) 56 (fun _ => 0)))) (J' := (Bi_nJ (va_up (Un_nJ (va_up (Fo_nJ (va_up (La_nJ 7 6 (va_up (Pa_nJ 2 1 (va_up J 1 (fun _ => 0))) 6 (fun _ => 0))) 14 (fun _ => 0))) 30 (fun _ => 0))) 56 (fun _ => 0)))) (N' := (up2 (Bi_nN (va_up (up2 (Un_nN (va_up (up2 (Fo_nN (va_up (up2 (La_nN 7 6 (va_up (up2 (Pa_nN 2 1 (va_up N 1 (fun _ => none))) 0 0 (some 1)) 6 (fun _ => none))) 0 1 (some 6)) 14 (fun _ => none))) 0 2 (some 14)) 30 (fun _ => none))) 0 3 (some 30)) 56 (fun _ => none))) 0 4 (some 56))) (k := 4) C hin gcX10 inX10 tyX10_ok nmX10 (by decide) fl_Lm_40 rfl rfl ⟨(by decide), rfl⟩ (tyX10_ok 4 (by decide)) rfl rfl (Nat.le_of_ble_eq_true rfl) gs_10_4 (fun _ _ => rfl) (fun _ _ => rfl) (fun b hb => up2_of hb) d_Lm_init_56 ?_
    have hno20 := nok_up (a := 0) (k := 4) (b := 56) hno19 (by decide)
    refine g_aload_n (pc := 59) C d_Lm_init_59 rfl 0 rfl ?_
    refine g_new (n := 64) (mc := 63) (ms := 250) (pc := 60) (lvf := fun ad => [(0, .ref (ad 0))]) (stf := fun ad => [.ref (ad 0)]) C gcX4 inX4 tyX4_ok cl_Lm_44 in_4 it_4 rfl hno20 gz_4 ⟨Nat.le_of_ble_eq_true rfl, Nat.le_of_ble_eq_true rfl⟩ d_Lm_init_60 (fun ad9 e9 => by simp only [e9 0 (by decide)]) (fun ad9 e9 => by simp only [e9 0 (by decide)]) ?_
    intro ad21 e21
    have hA21 : ∀ i, i < 1 → ad21 i = ad i := fun i hi => (e21 i (by omega)).trans (hA19 i hi)
    have hno21 := nok_new hno20
    refine g_dup (pc := 63) C d_Lm_init_63 rfl ?_
    have con22 := (kn_Me_init (xl X) (I := (va_up (Bi_nI (va_up (Un_nI (va_up (Fo_nI (va_up (La_nI 7 6 (va_up (Pa_nI 2 1 (va_up I 1 (fun _ => 0))) 6 (fun _ => 0))) 14 (fun _ => 0))) 30 (fun _ => 0))) 56 (fun _ => 0))) 64 (fun _ => 0))) (J := (va_up (Bi_nJ (va_up (Un_nJ (va_up (Fo_nJ (va_up (La_nJ 7 6 (va_up (Pa_nJ 2 1 (va_up J 1 (fun _ => 0))) 6 (fun _ => 0))) 14 (fun _ => 0))) 30 (fun _ => 0))) 56 (fun _ => 0))) 64 (fun _ => 0))) (N := (va_up (up2 (Bi_nN (va_up (up2 (Un_nN (va_up (up2 (Fo_nN (va_up (up2 (La_nN 7 6 (va_up (up2 (Pa_nN 2 1 (va_up N 1 (fun _ => none))) 0 0 (some 1)) 6 (fun _ => none))) 0 1 (some 6)) 14 (fun _ => none))) 0 2 (some 14)) 30 (fun _ => none))) 0 3 (some 30)) 56 (fun _ => none))) 0 4 (some 56)) 64 (fun _ => none))) hno21)
    refine g_Init (n := 65) (mc := 64) (ms := 253) (pc := 64) (lvf := fun ad => [(0, .ref (ad 0))]) (stf := fun ad => [.ref (ad 64), .ref (ad 0)]) true C con22 sm_Me_init ml_Lm_46 im_Me_init rfl ⟨rfl, rfl, Nat.le_of_ble_eq_true rfl, Nat.le_of_ble_eq_true rfl⟩ ⟨Nat.le_of_ble_eq_true rfl, Nat.le_of_ble_eq_true rfl⟩ (Nat.le_of_ble_eq_true rfl) d_Lm_init_64 (fun ad9 e9 => by simp only [e9 0 (by decide)]) (fun ad9 e9 => by simp only [e9 0 (by decide), e9 64 (by decide)]) ?_
    intro ad23 e23
    have hA23 : ∀ i, i < 1 → ad23 i = ad i := fun i hi => (e23 i (by omega)).trans (hA21 i hi)
    have hno23 := con22.2.1
    refine g_putF (pc := 67) (I' := (Me_nI (va_up (Bi_nI (va_up (Un_nI (va_up (Fo_nI (va_up (La_nI 7 6 (va_up (Pa_nI 2 1 (va_up I 1 (fun _ => 0))) 6 (fun _ => 0))) 14 (fun _ => 0))) 30 (fun _ => 0))) 56 (fun _ => 0))) 64 (fun _ => 0)))) (J' := (Me_nJ (va_up (Bi_nJ (va_up (Un_nJ (va_up (Fo_nJ (va_up (La_nJ 7 6 (va_up (Pa_nJ 2 1 (va_up J 1 (fun _ => 0))) 6 (fun _ => 0))) 14 (fun _ => 0))) 30 (fun _ => 0))) 56 (fun _ => 0))) 64 (fun _ => 0)))) (N' := (up2 (Me_nN (va_up (up2 (Bi_nN (va_up (up2 (Un_nN (va_up (up2 (Fo_nN (va_up (up2 (La_nN 7 6 (va_up (up2 (Pa_nN 2 1 (va_up N 1 (fun _ => none))) 0 0 (some 1)) 6 (fun _ => none))) 0 1 (some 6)) 14 (fun _ => none))) 0 2 (some 14)) 30 (fun _ => none))) 0 3 (some 30)) 56 (fun _ => none))) 0 4 (some 56)) 64 (fun _ => none))) 0 5 (some 64))) (k := 5) C hin gcX10 inX10 tyX10_ok nmX10 (by decide) fl_Lm_47 rfl rfl ⟨(by decide), rfl⟩ (tyX10_ok 5 (by decide)) rfl rfl (Nat.le_of_ble_eq_true rfl) gs_10_5 (fun _ _ => rfl) (fun _ _ => rfl) (fun b hb => up2_of hb) d_Lm_init_67 ?_
    have hno24 := nok_up (a := 0) (k := 5) (b := 64) hno23 (by decide)
    refine g_aload_n (pc := 70) C d_Lm_init_70 rfl 0 rfl ?_
    refine g_new (n := 83) (mc := 82) (ms := 463) (pc := 71) (lvf := fun ad => [(0, .ref (ad 0))]) (stf := fun ad => [.ref (ad 0)]) C gcX8 inX8 tyX8_ok cl_Lm_51 in_8 it_8 rfl hno24 gz_8 ⟨Nat.le_of_ble_eq_true rfl, Nat.le_of_ble_eq_true rfl⟩ d_Lm_init_71 (fun ad9 e9 => by simp only [e9 0 (by decide)]) (fun ad9 e9 => by simp only [e9 0 (by decide)]) ?_
    intro ad25 e25
    have hA25 : ∀ i, i < 1 → ad25 i = ad i := fun i hi => (e25 i (by omega)).trans (hA23 i hi)
    have hno25 := nok_new hno24
    refine g_dup (pc := 74) C d_Lm_init_74 rfl ?_
    have con26 := (kn_Sh_init (xl X) (I := (va_up (Me_nI (va_up (Bi_nI (va_up (Un_nI (va_up (Fo_nI (va_up (La_nI 7 6 (va_up (Pa_nI 2 1 (va_up I 1 (fun _ => 0))) 6 (fun _ => 0))) 14 (fun _ => 0))) 30 (fun _ => 0))) 56 (fun _ => 0))) 64 (fun _ => 0))) 83 (fun _ => 0))) (J := (va_up (Me_nJ (va_up (Bi_nJ (va_up (Un_nJ (va_up (Fo_nJ (va_up (La_nJ 7 6 (va_up (Pa_nJ 2 1 (va_up J 1 (fun _ => 0))) 6 (fun _ => 0))) 14 (fun _ => 0))) 30 (fun _ => 0))) 56 (fun _ => 0))) 64 (fun _ => 0))) 83 (fun _ => 0))) (N := (va_up (up2 (Me_nN (va_up (up2 (Bi_nN (va_up (up2 (Un_nN (va_up (up2 (Fo_nN (va_up (up2 (La_nN 7 6 (va_up (up2 (Pa_nN 2 1 (va_up N 1 (fun _ => none))) 0 0 (some 1)) 6 (fun _ => none))) 0 1 (some 6)) 14 (fun _ => none))) 0 2 (some 14)) 30 (fun _ => none))) 0 3 (some 30)) 56 (fun _ => none))) 0 4 (some 56)) 64 (fun _ => none))) 0 5 (some 64)) 83 (fun _ => none))) hno25)
    refine g_Init (n := 84) (mc := 83) (ms := 465) (pc := 75) (lvf := fun ad => [(0, .ref (ad 0))]) (stf := fun ad => [.ref (ad 83), .ref (ad 0)]) (host := "") false C con26 sm_Sh_init ml_Lm_53 im_Sh_init rfl ⟨rfl, rfl, Nat.le_of_ble_eq_true rfl, Nat.le_of_ble_eq_true rfl⟩ ⟨Nat.le_of_ble_eq_true rfl, Nat.le_of_ble_eq_true rfl⟩ (Nat.le_of_ble_eq_true rfl) d_Lm_init_75 (fun ad9 e9 => by simp only [e9 0 (by decide)]) (fun ad9 e9 => by simp only [e9 0 (by decide), e9 83 (by decide)]) ?_
    intro ad27 e27
    have hA27 : ∀ i, i < 1 → ad27 i = ad i := fun i hi => (e27 i (by omega)).trans (hA25 i hi)
    have hno27 := con26.2.1
    refine g_putF (pc := 78) (I' := (Sh_nI (va_up (Me_nI (va_up (Bi_nI (va_up (Un_nI (va_up (Fo_nI (va_up (La_nI 7 6 (va_up (Pa_nI 2 1 (va_up I 1 (fun _ => 0))) 6 (fun _ => 0))) 14 (fun _ => 0))) 30 (fun _ => 0))) 56 (fun _ => 0))) 64 (fun _ => 0))) 83 (fun _ => 0)))) (J' := (Sh_nJ (va_up (Me_nJ (va_up (Bi_nJ (va_up (Un_nJ (va_up (Fo_nJ (va_up (La_nJ 7 6 (va_up (Pa_nJ 2 1 (va_up J 1 (fun _ => 0))) 6 (fun _ => 0))) 14 (fun _ => 0))) 30 (fun _ => 0))) 56 (fun _ => 0))) 64 (fun _ => 0))) 83 (fun _ => 0)))) (N' := (up2 (Sh_nN (va_up (up2 (Me_nN (va_up (up2 (Bi_nN (va_up (up2 (Un_nN (va_up (up2 (Fo_nN (va_up (up2 (La_nN 7 6 (va_up (up2 (Pa_nN 2 1 (va_up N 1 (fun _ => none))) 0 0 (some 1)) 6 (fun _ => none))) 0 1 (some 6)) 14 (fun _ => none))) 0 2 (some 14)) 30 (fun _ => none))) 0 3 (some 30)) 56 (fun _ => none))) 0 4 (some 56)) 64 (fun _ => none))) 0 5 (some 64)) 83 (fun _ => none))) 0 6 (some 83))) (k := 6) C hin gcX10 inX10 tyX10_ok nmX10 (by decide) fl_Lm_54 rfl rfl ⟨(by decide), rfl⟩ (tyX10_ok 6 (by decide)) rfl rfl (Nat.le_of_ble_eq_true rfl) gs_10_6 (fun _ _ => rfl) (fun _ _ => rfl) (fun b hb => up2_of hb) d_Lm_init_78 ?_
    have hno28 := nok_up (a := 0) (k := 6) (b := 83) hno27 (by decide)
    refine g_aload_n (pc := 81) C d_Lm_init_81 rfl 0 rfl ?_
    refine g_new (n := 89) (mc := 88) (ms := 591) (pc := 82) (lvf := fun ad => [(0, .ref (ad 0))]) (stf := fun ad => [.ref (ad 0)]) C gcX7 inX7 tyX7_ok cl_Lm_58 in_7 it_7 rfl hno28 gz_7 ⟨Nat.le_of_ble_eq_true rfl, Nat.le_of_ble_eq_true rfl⟩ d_Lm_init_82 (fun ad9 e9 => by simp only [e9 0 (by decide)]) (fun ad9 e9 => by simp only [e9 0 (by decide)]) ?_
    intro ad29 e29
    have hA29 : ∀ i, i < 1 → ad29 i = ad i := fun i hi => (e29 i (by omega)).trans (hA27 i hi)
    have hno29 := nok_new hno28
    refine g_dup (pc := 85) C d_Lm_init_85 rfl ?_
    have con30 := (kn_Re_init (xl X) (I := (va_up (Sh_nI (va_up (Me_nI (va_up (Bi_nI (va_up (Un_nI (va_up (Fo_nI (va_up (La_nI 7 6 (va_up (Pa_nI 2 1 (va_up I 1 (fun _ => 0))) 6 (fun _ => 0))) 14 (fun _ => 0))) 30 (fun _ => 0))) 56 (fun _ => 0))) 64 (fun _ => 0))) 83 (fun _ => 0))) 89 (fun _ => 0))) (J := (va_up (Sh_nJ (va_up (Me_nJ (va_up (Bi_nJ (va_up (Un_nJ (va_up (Fo_nJ (va_up (La_nJ 7 6 (va_up (Pa_nJ 2 1 (va_up J 1 (fun _ => 0))) 6 (fun _ => 0))) 14 (fun _ => 0))) 30 (fun _ => 0))) 56 (fun _ => 0))) 64 (fun _ => 0))) 83 (fun _ => 0))) 89 (fun _ => 0))) (N := (va_up (up2 (Sh_nN (va_up (up2 (Me_nN (va_up (up2 (Bi_nN (va_up (up2 (Un_nN (va_up (up2 (Fo_nN (va_up (up2 (La_nN 7 6 (va_up (up2 (Pa_nN 2 1 (va_up N 1 (fun _ => none))) 0 0 (some 1)) 6 (fun _ => none))) 0 1 (some 6)) 14 (fun _ => none))) 0 2 (some 14)) 30 (fun _ => none))) 0 3 (some 30)) 56 (fun _ => none))) 0 4 (some 56)) 64 (fun _ => none))) 0 5 (some 64)) 83 (fun _ => none))) 0 6 (some 83)) 89 (fun _ => none))) hno29)
    refine g_Init (n := 90) (mc := 89) (ms := 593) (pc := 86) (lvf := fun ad => [(0, .ref (ad 0))]) (stf := fun ad => [.ref (ad 89), .ref (ad 0)]) true C con30 sm_Re_init ml_Lm_60 im_Re_init rfl ⟨rfl, rfl, Nat.le_of_ble_eq_true rfl, Nat.le_of_ble_eq_true rfl⟩ ⟨Nat.le_of_ble_eq_true rfl, Nat.le_of_ble_eq_true rfl⟩ (Nat.le_of_ble_eq_true rfl) d_Lm_init_86 (fun ad9 e9 => by simp only [e9 0 (by decide)]) (fun ad9 e9 => by simp only [e9 0 (by decide), e9 89 (by decide)]) ?_
    intro ad31 e31
    have hA31 : ∀ i, i < 1 → ad31 i = ad i := fun i hi => (e31 i (by omega)).trans (hA29 i hi)
    have hno31 := con30.2.1
    refine g_putF (pc := 89) (I' := (Re_nI (va_up (Sh_nI (va_up (Me_nI (va_up (Bi_nI (va_up (Un_nI (va_up (Fo_nI (va_up (La_nI 7 6 (va_up (Pa_nI 2 1 (va_up I 1 (fun _ => 0))) 6 (fun _ => 0))) 14 (fun _ => 0))) 30 (fun _ => 0))) 56 (fun _ => 0))) 64 (fun _ => 0))) 83 (fun _ => 0))) 89 (fun _ => 0)))) (J' := (Re_nJ (va_up (Sh_nJ (va_up (Me_nJ (va_up (Bi_nJ (va_up (Un_nJ (va_up (Fo_nJ (va_up (La_nJ 7 6 (va_up (Pa_nJ 2 1 (va_up J 1 (fun _ => 0))) 6 (fun _ => 0))) 14 (fun _ => 0))) 30 (fun _ => 0))) 56 (fun _ => 0))) 64 (fun _ => 0))) 83 (fun _ => 0))) 89 (fun _ => 0)))) (N' := (up2 (Re_nN (va_up (up2 (Sh_nN (va_up (up2 (Me_nN (va_up (up2 (Bi_nN (va_up (up2 (Un_nN (va_up (up2 (Fo_nN (va_up (up2 (La_nN 7 6 (va_up (up2 (Pa_nN 2 1 (va_up N 1 (fun _ => none))) 0 0 (some 1)) 6 (fun _ => none))) 0 1 (some 6)) 14 (fun _ => none))) 0 2 (some 14)) 30 (fun _ => none))) 0 3 (some 30)) 56 (fun _ => none))) 0 4 (some 56)) 64 (fun _ => none))) 0 5 (some 64)) 83 (fun _ => none))) 0 6 (some 83)) 89 (fun _ => none))) 0 7 (some 89))) (k := 7) C hin gcX10 inX10 tyX10_ok nmX10 (by decide) fl_Lm_61 rfl rfl ⟨(by decide), rfl⟩ (tyX10_ok 7 (by decide)) rfl rfl (Nat.le_of_ble_eq_true rfl) gs_10_7 (fun _ _ => rfl) (fun _ _ => rfl) (fun b hb => up2_of hb) d_Lm_init_89 ?_
    have hno32 := nok_up (a := 0) (k := 7) (b := 89) hno31 (by decide)
    refine g_aload_n (pc := 92) C d_Lm_init_92 rfl 0 rfl ?_
    refine g_iconst (pc := 93) C (0 : Int32) d_Lm_init_93 (by decide) ?_
    refine g_put (pc := 94) (I' := (up2 (Re_nI (va_up (Sh_nI (va_up (Me_nI (va_up (Bi_nI (va_up (Un_nI (va_up (Fo_nI (va_up (La_nI 7 6 (va_up (Pa_nI 2 1 (va_up I 1 (fun _ => 0))) 6 (fun _ => 0))) 14 (fun _ => 0))) 30 (fun _ => 0))) 56 (fun _ => 0))) 64 (fun _ => 0))) 83 (fun _ => 0))) 89 (fun _ => 0))) 0 8 (0 : Int32))) (J' := (Re_nJ (va_up (Sh_nJ (va_up (Me_nJ (va_up (Bi_nJ (va_up (Un_nJ (va_up (Fo_nJ (va_up (La_nJ 7 6 (va_up (Pa_nJ 2 1 (va_up J 1 (fun _ => 0))) 6 (fun _ => 0))) 14 (fun _ => 0))) 30 (fun _ => 0))) 56 (fun _ => 0))) 64 (fun _ => 0))) 83 (fun _ => 0))) 89 (fun _ => 0)))) (N' := (up2 (Re_nN (va_up (up2 (Sh_nN (va_up (up2 (Me_nN (va_up (up2 (Bi_nN (va_up (up2 (Un_nN (va_up (up2 (Fo_nN (va_up (up2 (La_nN 7 6 (va_up (up2 (Pa_nN 2 1 (va_up N 1 (fun _ => none))) 0 0 (some 1)) 6 (fun _ => none))) 0 1 (some 6)) 14 (fun _ => none))) 0 2 (some 14)) 30 (fun _ => none))) 0 3 (some 30)) 56 (fun _ => none))) 0 4 (some 56)) 64 (fun _ => none))) 0 5 (some 64)) 83 (fun _ => none))) 0 6 (some 83)) 89 (fun _ => none))) 0 7 (some 89))) (k := 8) C gcX10 inX10 tyX10_ok nmX10 (by decide) fl_Lm_65 rfl ⟨(by decide), rfl⟩ (tyX10_ok 8 (by decide)) rfl rfl (Nat.le_of_ble_eq_true rfl) gs_10_8 (fun b hb => up2_of hb) (fun _ _ => rfl) (fun _ _ => rfl) d_Lm_init_94 ?_
    exact g_vretn (pc := 97) C hA31 d_Lm_init_97
theorem d_Mo_init_0 : decode c_Mo_init 0 = .ok (.aload_n 0, 1) := by decide +kernel
theorem d_Mo_init_1 : decode c_Mo_init 1 = .ok (.invokespecial 1, 3) := by decide +kernel
theorem d_Mo_init_4 : decode c_Mo_init 4 = .ok (.aload_n 0, 1) := by decide +kernel
theorem d_Mo_init_5 : decode c_Mo_init 5 = .ok (.iconst 3, 1) := by decide +kernel
theorem d_Mo_init_6 : decode c_Mo_init 6 = .ok (.newarray .int, 2) := by decide +kernel
theorem d_Mo_init_8 : decode c_Mo_init 8 = .ok (.putfield 7, 3) := by decide +kernel
theorem d_Mo_init_11 : decode c_Mo_init 11 = .ok (.aload_n 0, 1) := by decide +kernel
theorem d_Mo_init_12 : decode c_Mo_init 12 = .ok (.bipush 120, 2) := by decide +kernel
theorem d_Mo_init_14 : decode c_Mo_init 14 = .ok (.newarray .long, 2) := by decide +kernel
theorem d_Mo_init_16 : decode c_Mo_init 16 = .ok (.putfield 13, 3) := by decide +kernel
theorem d_Mo_init_19 : decode c_Mo_init 19 = .ok (.aload_n 0, 1) := by decide +kernel
theorem d_Mo_init_20 : decode c_Mo_init 20 = .ok (.bipush 40, 2) := by decide +kernel
theorem d_Mo_init_22 : decode c_Mo_init 22 = .ok (.newarray .long, 2) := by decide +kernel
theorem d_Mo_init_24 : decode c_Mo_init 24 = .ok (.putfield 17, 3) := by decide +kernel
theorem d_Mo_init_27 : decode c_Mo_init 27 = .ok (.aload_n 0, 1) := by decide +kernel
theorem d_Mo_init_28 : decode c_Mo_init 28 = .ok (.bipush 14, 2) := by decide +kernel
theorem d_Mo_init_30 : decode c_Mo_init 30 = .ok (.newarray .int, 2) := by decide +kernel
theorem d_Mo_init_32 : decode c_Mo_init 32 = .ok (.putfield 20, 3) := by decide +kernel
theorem d_Mo_init_35 : decode c_Mo_init 35 = .ok (.aload_n 0, 1) := by decide +kernel
theorem d_Mo_init_36 : decode c_Mo_init 36 = .ok (.bipush 30, 2) := by decide +kernel
theorem d_Mo_init_38 : decode c_Mo_init 38 = .ok (.newarray .int, 2) := by decide +kernel
theorem d_Mo_init_40 : decode c_Mo_init 40 = .ok (.putfield 23, 3) := by decide +kernel
theorem d_Mo_init_43 : decode c_Mo_init 43 = .ok (.aload_n 0, 1) := by decide +kernel
theorem d_Mo_init_44 : decode c_Mo_init 44 = .ok (.bipush 40, 2) := by decide +kernel
theorem d_Mo_init_46 : decode c_Mo_init 46 = .ok (.newarray .int, 2) := by decide +kernel
theorem d_Mo_init_48 : decode c_Mo_init 48 = .ok (.putfield 26, 3) := by decide +kernel
theorem d_Mo_init_51 : decode c_Mo_init 51 = .ok (.aload_n 0, 1) := by decide +kernel
theorem d_Mo_init_52 : decode c_Mo_init 52 = .ok (.bipush 7, 2) := by decide +kernel
theorem d_Mo_init_54 : decode c_Mo_init 54 = .ok (.newarray .long, 2) := by decide +kernel
theorem d_Mo_init_56 : decode c_Mo_init 56 = .ok (.putfield 29, 3) := by decide +kernel
theorem d_Mo_init_59 : decode c_Mo_init 59 = .ok (.aload_n 0, 1) := by decide +kernel
theorem d_Mo_init_60 : decode c_Mo_init 60 = .ok (.bipush 7, 2) := by decide +kernel
theorem d_Mo_init_62 : decode c_Mo_init 62 = .ok (.newarray .long, 2) := by decide +kernel
theorem d_Mo_init_64 : decode c_Mo_init 64 = .ok (.putfield 32, 3) := by decide +kernel
theorem d_Mo_init_67 : decode c_Mo_init 67 = .ok (.aload_n 0, 1) := by decide +kernel
theorem d_Mo_init_68 : decode c_Mo_init 68 = .ok (.bipush 7, 2) := by decide +kernel
theorem d_Mo_init_70 : decode c_Mo_init 70 = .ok (.newarray .long, 2) := by decide +kernel
theorem d_Mo_init_72 : decode c_Mo_init 72 = .ok (.putfield 35, 3) := by decide +kernel
theorem d_Mo_init_75 : decode c_Mo_init 75 = .ok (.aload_n 0, 1) := by decide +kernel
theorem d_Mo_init_76 : decode c_Mo_init 76 = .ok (.bipush 7, 2) := by decide +kernel
theorem d_Mo_init_78 : decode c_Mo_init 78 = .ok (.newarray .long, 2) := by decide +kernel
theorem d_Mo_init_80 : decode c_Mo_init 80 = .ok (.putfield 38, 3) := by decide +kernel
theorem d_Mo_init_83 : decode c_Mo_init 83 = .ok (.aload_n 0, 1) := by decide +kernel
theorem d_Mo_init_84 : decode c_Mo_init 84 = .ok (.bipush 7, 2) := by decide +kernel
theorem d_Mo_init_86 : decode c_Mo_init 86 = .ok (.newarray .long, 2) := by decide +kernel
theorem d_Mo_init_88 : decode c_Mo_init 88 = .ok (.putfield 41, 3) := by decide +kernel
theorem d_Mo_init_91 : decode c_Mo_init 91 = .ok (.aload_n 0, 1) := by decide +kernel
theorem d_Mo_init_92 : decode c_Mo_init 92 = .ok (.bipush 7, 2) := by decide +kernel
theorem d_Mo_init_94 : decode c_Mo_init 94 = .ok (.newarray .long, 2) := by decide +kernel
theorem d_Mo_init_96 : decode c_Mo_init 96 = .ok (.putfield 44, 3) := by decide +kernel
theorem d_Mo_init_99 : decode c_Mo_init 99 = .ok (.aload_n 0, 1) := by decide +kernel
theorem d_Mo_init_100 : decode c_Mo_init 100 = .ok (.bipush 120, 2) := by decide +kernel
theorem d_Mo_init_102 : decode c_Mo_init 102 = .ok (.newarray .int, 2) := by decide +kernel
theorem d_Mo_init_104 : decode c_Mo_init 104 = .ok (.putfield 47, 3) := by decide +kernel
theorem d_Mo_init_107 : decode c_Mo_init 107 = .ok (.aload_n 0, 1) := by decide +kernel
theorem d_Mo_init_108 : decode c_Mo_init 108 = .ok (.bipush 120, 2) := by decide +kernel
theorem d_Mo_init_110 : decode c_Mo_init 110 = .ok (.newarray .int, 2) := by decide +kernel
theorem d_Mo_init_112 : decode c_Mo_init 112 = .ok (.putfield 50, 3) := by decide +kernel
theorem d_Mo_init_115 : decode c_Mo_init 115 = .ok (.aload_n 0, 1) := by decide +kernel
theorem d_Mo_init_116 : decode c_Mo_init 116 = .ok (.bipush 7, 2) := by decide +kernel
theorem d_Mo_init_118 : decode c_Mo_init 118 = .ok (.newarray .long, 2) := by decide +kernel
theorem d_Mo_init_120 : decode c_Mo_init 120 = .ok (.putfield 53, 3) := by decide +kernel
theorem d_Mo_init_123 : decode c_Mo_init 123 = .ok (.aload_n 0, 1) := by decide +kernel
theorem d_Mo_init_124 : decode c_Mo_init 124 = .ok (.bipush 14, 2) := by decide +kernel
theorem d_Mo_init_126 : decode c_Mo_init 126 = .ok (.newarray .long, 2) := by decide +kernel
theorem d_Mo_init_128 : decode c_Mo_init 128 = .ok (.putfield 56, 3) := by decide +kernel
theorem d_Mo_init_131 : decode c_Mo_init 131 = .ok (.aload_n 0, 1) := by decide +kernel
theorem d_Mo_init_132 : decode c_Mo_init 132 = .ok (.bipush 14, 2) := by decide +kernel
theorem d_Mo_init_134 : decode c_Mo_init 134 = .ok (.newarray .long, 2) := by decide +kernel
theorem d_Mo_init_136 : decode c_Mo_init 136 = .ok (.putfield 59, 3) := by decide +kernel
theorem d_Mo_init_139 : decode c_Mo_init 139 = .ok (.aload_n 0, 1) := by decide +kernel
theorem d_Mo_init_140 : decode c_Mo_init 140 = .ok (.iconst 3, 1) := by decide +kernel
theorem d_Mo_init_141 : decode c_Mo_init 141 = .ok (.newarray .long, 2) := by decide +kernel
theorem d_Mo_init_143 : decode c_Mo_init 143 = .ok (.putfield 62, 3) := by decide +kernel
theorem d_Mo_init_146 : decode c_Mo_init 146 = .ok (.aload_n 0, 1) := by decide +kernel
theorem d_Mo_init_147 : decode c_Mo_init 147 = .ok (.iconst 3, 1) := by decide +kernel
theorem d_Mo_init_148 : decode c_Mo_init 148 = .ok (.newarray .long, 2) := by decide +kernel
theorem d_Mo_init_150 : decode c_Mo_init 150 = .ok (.putfield 65, 3) := by decide +kernel
theorem d_Mo_init_153 : decode c_Mo_init 153 = .ok (.aload_n 0, 1) := by decide +kernel
theorem d_Mo_init_154 : decode c_Mo_init 154 = .ok (.bipush 14, 2) := by decide +kernel
theorem d_Mo_init_156 : decode c_Mo_init 156 = .ok (.newarray .long, 2) := by decide +kernel
theorem d_Mo_init_158 : decode c_Mo_init 158 = .ok (.putfield 68, 3) := by decide +kernel
theorem d_Mo_init_161 : decode c_Mo_init 161 = .ok (.aload_n 0, 1) := by decide +kernel
theorem d_Mo_init_162 : decode c_Mo_init 162 = .ok (.bipush 14, 2) := by decide +kernel
theorem d_Mo_init_164 : decode c_Mo_init 164 = .ok (.newarray .long, 2) := by decide +kernel
theorem d_Mo_init_166 : decode c_Mo_init 166 = .ok (.putfield 71, 3) := by decide +kernel
theorem d_Mo_init_169 : decode c_Mo_init 169 = .ok (.aload_n 0, 1) := by decide +kernel
theorem d_Mo_init_170 : decode c_Mo_init 170 = .ok (.sipush 168, 3) := by decide +kernel
theorem d_Mo_init_173 : decode c_Mo_init 173 = .ok (.newarray .int, 2) := by decide +kernel
theorem d_Mo_init_175 : decode c_Mo_init 175 = .ok (.putfield 74, 3) := by decide +kernel
theorem d_Mo_init_178 : decode c_Mo_init 178 = .ok (.aload_n 0, 1) := by decide +kernel
theorem d_Mo_init_179 : decode c_Mo_init 179 = .ok (.bipush 12, 2) := by decide +kernel
theorem d_Mo_init_181 : decode c_Mo_init 181 = .ok (.newarray .int, 2) := by decide +kernel
theorem d_Mo_init_183 : decode c_Mo_init 183 = .ok (.putfield 77, 3) := by decide +kernel
theorem d_Mo_init_186 : decode c_Mo_init 186 = .ok (.aload_n 0, 1) := by decide +kernel
theorem d_Mo_init_187 : decode c_Mo_init 187 = .ok (.bipush 14, 2) := by decide +kernel
theorem d_Mo_init_189 : decode c_Mo_init 189 = .ok (.newarray .int, 2) := by decide +kernel
theorem d_Mo_init_191 : decode c_Mo_init 191 = .ok (.putfield 80, 3) := by decide +kernel
theorem d_Mo_init_194 : decode c_Mo_init 194 = .ok (.iconst 0, 1) := by decide +kernel
theorem d_Mo_init_195 : decode c_Mo_init 195 = .ok (.istore_n 1, 1) := by decide +kernel
theorem d_Mo_init_196 : decode c_Mo_init 196 = .ok (.iload_n 1, 1) := by decide +kernel
theorem d_Mo_init_197 : decode c_Mo_init 197 = .ok (.iconst 3, 1) := by decide +kernel
theorem d_Mo_init_198 : decode c_Mo_init 198 = .ok (.if_icmp .ge 16, 3) := by decide +kernel
theorem d_Mo_init_201 : decode c_Mo_init 201 = .ok (.aload_n 0, 1) := by decide +kernel
theorem d_Mo_init_202 : decode c_Mo_init 202 = .ok (.getfield 7, 3) := by decide +kernel
theorem d_Mo_init_205 : decode c_Mo_init 205 = .ok (.iload_n 1, 1) := by decide +kernel
theorem d_Mo_init_206 : decode c_Mo_init 206 = .ok (.iconst (-1), 1) := by decide +kernel
theorem d_Mo_init_207 : decode c_Mo_init 207 = .ok (.iastore, 1) := by decide +kernel
theorem d_Mo_init_208 : decode c_Mo_init 208 = .ok (.iinc 1 1, 3) := by decide +kernel
theorem d_Mo_init_211 : decode c_Mo_init 211 = .ok (.goto (-15), 3) := by decide +kernel
theorem d_Mo_init_214 : decode c_Mo_init 214 = .ok (.return_, 1) := by decide +kernel
def rm_Mo_init : Room := { frames := 1, cells := 24, slots := 792, locals := 24 }
def Mo_nI (I : HI) : HI := (up2 (up2 (up2 (va_up (va_up (va_up (va_up (va_up (va_up (va_up (va_up (va_up (va_up (va_up (va_up (va_up (va_up (va_up (va_up (va_up (va_up (va_up (va_up (va_up (va_up (va_up (va_up I 1 (fun _ => 0)) 2 (fun _ => 0)) 3 (fun _ => 0)) 4 (fun _ => 0)) 5 (fun _ => 0)) 6 (fun _ => 0)) 7 (fun _ => 0)) 8 (fun _ => 0)) 9 (fun _ => 0)) 10 (fun _ => 0)) 11 (fun _ => 0)) 12 (fun _ => 0)) 13 (fun _ => 0)) 14 (fun _ => 0)) 15 (fun _ => 0)) 16 (fun _ => 0)) 17 (fun _ => 0)) 18 (fun _ => 0)) 19 (fun _ => 0)) 20 (fun _ => 0)) 21 (fun _ => 0)) 22 (fun _ => 0)) 23 (fun _ => 0)) 24 (fun _ => 0)) 1 (0 : Int32).toNatClampNeg (-1 : Int32)) 1 (1 : Int32).toNatClampNeg (-1 : Int32)) 1 (2 : Int32).toNatClampNeg (-1 : Int32))
def Mo_nJ (J : HJ) : HJ := (va_up (va_up (va_up (va_up (va_up (va_up (va_up (va_up (va_up (va_up (va_up (va_up (va_up (va_up (va_up (va_up (va_up (va_up (va_up (va_up (va_up (va_up (va_up (va_up J 1 (fun _ => 0)) 2 (fun _ => 0)) 3 (fun _ => 0)) 4 (fun _ => 0)) 5 (fun _ => 0)) 6 (fun _ => 0)) 7 (fun _ => 0)) 8 (fun _ => 0)) 9 (fun _ => 0)) 10 (fun _ => 0)) 11 (fun _ => 0)) 12 (fun _ => 0)) 13 (fun _ => 0)) 14 (fun _ => 0)) 15 (fun _ => 0)) 16 (fun _ => 0)) 17 (fun _ => 0)) 18 (fun _ => 0)) 19 (fun _ => 0)) 20 (fun _ => 0)) 21 (fun _ => 0)) 22 (fun _ => 0)) 23 (fun _ => 0)) 24 (fun _ => 0))
def Mo_nN (N : HN) : HN := (up2 (va_up (up2 (va_up (up2 (va_up (up2 (va_up (up2 (va_up (up2 (va_up (up2 (va_up (up2 (va_up (up2 (va_up (up2 (va_up (up2 (va_up (up2 (va_up (up2 (va_up (up2 (va_up (up2 (va_up (up2 (va_up (up2 (va_up (up2 (va_up (up2 (va_up (up2 (va_up (up2 (va_up (up2 (va_up (up2 (va_up (up2 (va_up N 1 (fun _ => none)) 0 1 (some 1)) 2 (fun _ => none)) 0 2 (some 2)) 3 (fun _ => none)) 0 3 (some 3)) 4 (fun _ => none)) 0 4 (some 4)) 5 (fun _ => none)) 0 5 (some 5)) 6 (fun _ => none)) 0 7 (some 6)) 7 (fun _ => none)) 0 11 (some 7)) 8 (fun _ => none)) 0 12 (some 8)) 9 (fun _ => none)) 0 15 (some 9)) 10 (fun _ => none)) 0 16 (some 10)) 11 (fun _ => none)) 0 17 (some 11)) 12 (fun _ => none)) 0 18 (some 12)) 13 (fun _ => none)) 0 19 (some 13)) 14 (fun _ => none)) 0 20 (some 14)) 15 (fun _ => none)) 0 22 (some 15)) 16 (fun _ => none)) 0 23 (some 16)) 17 (fun _ => none)) 0 24 (some 17)) 18 (fun _ => none)) 0 25 (some 18)) 19 (fun _ => none)) 0 26 (some 19)) 20 (fun _ => none)) 0 27 (some 20)) 21 (fun _ => none)) 0 28 (some 21)) 22 (fun _ => none)) 0 29 (some 22)) 23 (fun _ => none)) 0 30 (some 23)) 24 (fun _ => none)) 0 32 (some 24))
theorem nk_Mo {N : HN} (hno : nok 1 N) : nok 25 (Mo_nN N) := by
  unfold Mo_nN
  exact (nok_up (nok_new (nok_up (nok_new (nok_up (nok_new (nok_up (nok_new (nok_up (nok_new (nok_up (nok_new (nok_up (nok_new (nok_up (nok_new (nok_up (nok_new (nok_up (nok_new (nok_up (nok_new (nok_up (nok_new (nok_up (nok_new (nok_up (nok_new (nok_up (nok_new (nok_up (nok_new (nok_up (nok_new (nok_up (nok_new (nok_up (nok_new (nok_up (nok_new (nok_up (nok_new (nok_up (nok_new (nok_up (nok_new (nok_up (nok_new hno) (by decide))) (by decide))) (by decide))) (by decide))) (by decide))) (by decide))) (by decide))) (by decide))) (by decide))) (by decide))) (by decide))) (by decide))) (by decide))) (by decide))) (by decide))) (by decide))) (by decide))) (by decide))) (by decide))) (by decide))) (by decide))) (by decide))) (by decide))) (by decide))
set_option maxRecDepth 20000 in
theorem kn_Mo_init (l : Launch) {I : HI} {J : HJ} {N : HN} (hno : nok 1 N) : gMn l y_Mo_init c_Mo_init 2 rm_Mo_init Tm 1 I J N (fun ad => [.ref (ad 0)]) 25 (Mo_nI I) (Mo_nJ J) (Mo_nN N) 24 792 := by
  refine g_methn (lv := fun ad => [(0, .ref (ad 0))]) (by decide) (fun _ => Nat.le_of_ble_eq_true rfl) (fun _ => rfl) (by decide) ?hno ?body
  case hno => exact nk_Mo  hno
  case body =>
    intro X ad C hin
    have hA0 : ∀ i, i < 1 → ad i = ad i := fun _ _ => rfl
    refine g_aload_n (pc := 0) C d_Mo_init_0 rfl 0 rfl ?_
    refine g_objInit (pc := 1) C ml_Mo_1 ob_i ob_c ⟨Nat.le_of_ble_eq_true rfl, Nat.le_of_ble_eq_true rfl⟩ d_Mo_init_1 ?_
    refine g_aload_n (pc := 4) C d_Mo_init_4 rfl 0 rfl ?_
    refine g_iconst (pc := 5) C (3 : Int32) d_Mo_init_5 (by decide) ?_
    refine g_newa (n := 1) (mc := 0) (ms := 0) (κ := 1) (pc := 6) (lvf := fun ad => [(0, .ref (ad 0))]) (stf := fun ad => [.ref (ad 0)]) C (Or.inl ⟨rfl, rfl, rfl⟩) ac_1 rfl hno (by decide) (by decide) (by decide) ⟨Nat.le_of_ble_eq_true rfl, Nat.le_of_ble_eq_true rfl⟩ d_Mo_init_6 (fun ad9 e9 => by simp only [e9 0 (by decide)]) (fun ad9 e9 => by simp only [e9 0 (by decide)]) ?_
    intro ad1 e1
    have hA1 : ∀ i, i < 1 → ad1 i = ad i := fun i hi => (e1 i (by omega)).trans (hA0 i hi)
    have hno1 := nok_new hno
    refine g_putF (pc := 8) (I' := (va_up I 1 (fun _ => 0))) (J' := (va_up J 1 (fun _ => 0))) (N' := (up2 (va_up N 1 (fun _ => none)) 0 1 (some 1))) (k := 1) C hin gcX11 inX11 tyX11_ok nmX11 (by decide) fl_Mo_7 rfl rfl ⟨(by decide), rfl⟩ (tyX11_ok 1 (by decide)) rfl rfl (Nat.le_of_ble_eq_true rfl) gs_11_1 (fun _ _ => rfl) (fun _ _ => rfl) (fun b hb => up2_of hb) d_Mo_init_8 ?_
    have hno2 := nok_up (a := 0) (k := 1) (b := 1) hno1 (by decide)
    refine g_aload_n (pc := 11) C d_Mo_init_11 rfl 0 rfl ?_
    refine g_bipush (pc := 12) C (120 : Int32) d_Mo_init_12 (by decide) ?_
    refine g_newa (n := 2) (mc := 1) (ms := 3) (κ := 2) (pc := 14) (lvf := fun ad => [(0, .ref (ad 0))]) (stf := fun ad => [.ref (ad 0)]) C (Or.inr ⟨rfl, rfl, rfl⟩) ac_2 rfl hno2 (by decide) (by decide) (by decide) ⟨Nat.le_of_ble_eq_true rfl, Nat.le_of_ble_eq_true rfl⟩ d_Mo_init_14 (fun ad9 e9 => by simp only [e9 0 (by decide)]) (fun ad9 e9 => by simp only [e9 0 (by decide)]) ?_
    intro ad3 e3
    have hA3 : ∀ i, i < 1 → ad3 i = ad i := fun i hi => (e3 i (by omega)).trans (hA1 i hi)
    have hno3 := nok_new hno2
    refine g_putF (pc := 16) (I' := (va_up (va_up I 1 (fun _ => 0)) 2 (fun _ => 0))) (J' := (va_up (va_up J 1 (fun _ => 0)) 2 (fun _ => 0))) (N' := (up2 (va_up (up2 (va_up N 1 (fun _ => none)) 0 1 (some 1)) 2 (fun _ => none)) 0 2 (some 2))) (k := 2) C hin gcX11 inX11 tyX11_ok nmX11 (by decide) fl_Mo_13 rfl rfl ⟨(by decide), rfl⟩ (tyX11_ok 2 (by decide)) rfl rfl (Nat.le_of_ble_eq_true rfl) gs_11_2 (fun _ _ => rfl) (fun _ _ => rfl) (fun b hb => up2_of hb) d_Mo_init_16 ?_
    have hno4 := nok_up (a := 0) (k := 2) (b := 2) hno3 (by decide)
    refine g_aload_n (pc := 19) C d_Mo_init_19 rfl 0 rfl ?_
    refine g_bipush (pc := 20) C (40 : Int32) d_Mo_init_20 (by decide) ?_
    refine g_newa (n := 3) (mc := 2) (ms := 123) (κ := 2) (pc := 22) (lvf := fun ad => [(0, .ref (ad 0))]) (stf := fun ad => [.ref (ad 0)]) C (Or.inr ⟨rfl, rfl, rfl⟩) ac_2 rfl hno4 (by decide) (by decide) (by decide) ⟨Nat.le_of_ble_eq_true rfl, Nat.le_of_ble_eq_true rfl⟩ d_Mo_init_22 (fun ad9 e9 => by simp only [e9 0 (by decide)]) (fun ad9 e9 => by simp only [e9 0 (by decide)]) ?_
    intro ad5 e5
    have hA5 : ∀ i, i < 1 → ad5 i = ad i := fun i hi => (e5 i (by omega)).trans (hA3 i hi)
    have hno5 := nok_new hno4
    refine g_putF (pc := 24) (I' := (va_up (va_up (va_up I 1 (fun _ => 0)) 2 (fun _ => 0)) 3 (fun _ => 0))) (J' := (va_up (va_up (va_up J 1 (fun _ => 0)) 2 (fun _ => 0)) 3 (fun _ => 0))) (N' := (up2 (va_up (up2 (va_up (up2 (va_up N 1 (fun _ => none)) 0 1 (some 1)) 2 (fun _ => none)) 0 2 (some 2)) 3 (fun _ => none)) 0 3 (some 3))) (k := 3) C hin gcX11 inX11 tyX11_ok nmX11 (by decide) fl_Mo_17 rfl rfl ⟨(by decide), rfl⟩ (tyX11_ok 3 (by decide)) rfl rfl (Nat.le_of_ble_eq_true rfl) gs_11_3 (fun _ _ => rfl) (fun _ _ => rfl) (fun b hb => up2_of hb) d_Mo_init_24 ?_
    have hno6 := nok_up (a := 0) (k := 3) (b := 3) hno5 (by decide)
    refine g_aload_n (pc := 27) C d_Mo_init_27 rfl 0 rfl ?_
    refine g_bipush (pc := 28) C (14 : Int32) d_Mo_init_28 (by decide) ?_
    refine g_newa (n := 4) (mc := 3) (ms := 163) (κ := 1) (pc := 30) (lvf := fun ad => [(0, .ref (ad 0))]) (stf := fun ad => [.ref (ad 0)]) C (Or.inl ⟨rfl, rfl, rfl⟩) ac_1 rfl hno6 (by decide) (by decide) (by decide) ⟨Nat.le_of_ble_eq_true rfl, Nat.le_of_ble_eq_true rfl⟩ d_Mo_init_30 (fun ad9 e9 => by simp only [e9 0 (by decide)]) (fun ad9 e9 => by simp only [e9 0 (by decide)]) ?_
    intro ad7 e7
    have hA7 : ∀ i, i < 1 → ad7 i = ad i := fun i hi => (e7 i (by omega)).trans (hA5 i hi)
    have hno7 := nok_new hno6
    refine g_putF (pc := 32) (I' := (va_up (va_up (va_up (va_up I 1 (fun _ => 0)) 2 (fun _ => 0)) 3 (fun _ => 0)) 4 (fun _ => 0))) (J' := (va_up (va_up (va_up (va_up J 1 (fun _ => 0)) 2 (fun _ => 0)) 3 (fun _ => 0)) 4 (fun _ => 0))) (N' := (up2 (va_up (up2 (va_up (up2 (va_up (up2 (va_up N 1 (fun _ => none)) 0 1 (some 1)) 2 (fun _ => none)) 0 2 (some 2)) 3 (fun _ => none)) 0 3 (some 3)) 4 (fun _ => none)) 0 4 (some 4))) (k := 4) C hin gcX11 inX11 tyX11_ok nmX11 (by decide) fl_Mo_20 rfl rfl ⟨(by decide), rfl⟩ (tyX11_ok 4 (by decide)) rfl rfl (Nat.le_of_ble_eq_true rfl) gs_11_4 (fun _ _ => rfl) (fun _ _ => rfl) (fun b hb => up2_of hb) d_Mo_init_32 ?_
    have hno8 := nok_up (a := 0) (k := 4) (b := 4) hno7 (by decide)
    refine g_aload_n (pc := 35) C d_Mo_init_35 rfl 0 rfl ?_
    refine g_bipush (pc := 36) C (30 : Int32) d_Mo_init_36 (by decide) ?_
    refine g_newa (n := 5) (mc := 4) (ms := 177) (κ := 1) (pc := 38) (lvf := fun ad => [(0, .ref (ad 0))]) (stf := fun ad => [.ref (ad 0)]) C (Or.inl ⟨rfl, rfl, rfl⟩) ac_1 rfl hno8 (by decide) (by decide) (by decide) ⟨Nat.le_of_ble_eq_true rfl, Nat.le_of_ble_eq_true rfl⟩ d_Mo_init_38 (fun ad9 e9 => by simp only [e9 0 (by decide)]) (fun ad9 e9 => by simp only [e9 0 (by decide)]) ?_
    intro ad9 e9
    have hA9 : ∀ i, i < 1 → ad9 i = ad i := fun i hi => (e9 i (by omega)).trans (hA7 i hi)
    have hno9 := nok_new hno8
    refine g_putF (pc := 40) (I' := (va_up (va_up (va_up (va_up (va_up I 1 (fun _ => 0)) 2 (fun _ => 0)) 3 (fun _ => 0)) 4 (fun _ => 0)) 5 (fun _ => 0))) (J' := (va_up (va_up (va_up (va_up (va_up J 1 (fun _ => 0)) 2 (fun _ => 0)) 3 (fun _ => 0)) 4 (fun _ => 0)) 5 (fun _ => 0))) (N' := (up2 (va_up (up2 (va_up (up2 (va_up (up2 (va_up (up2 (va_up N 1 (fun _ => none)) 0 1 (some 1)) 2 (fun _ => none)) 0 2 (some 2)) 3 (fun _ => none)) 0 3 (some 3)) 4 (fun _ => none)) 0 4 (some 4)) 5 (fun _ => none)) 0 5 (some 5))) (k := 5) C hin gcX11 inX11 tyX11_ok nmX11 (by decide) fl_Mo_23 rfl rfl ⟨(by decide), rfl⟩ (tyX11_ok 5 (by decide)) rfl rfl (Nat.le_of_ble_eq_true rfl) gs_11_5 (fun _ _ => rfl) (fun _ _ => rfl) (fun b hb => up2_of hb) d_Mo_init_40 ?_
    have hno10 := nok_up (a := 0) (k := 5) (b := 5) hno9 (by decide)
    refine g_aload_n (pc := 43) C d_Mo_init_43 rfl 0 rfl ?_
    refine g_bipush (pc := 44) C (40 : Int32) d_Mo_init_44 (by decide) ?_
    refine g_newa (n := 6) (mc := 5) (ms := 207) (κ := 1) (pc := 46) (lvf := fun ad => [(0, .ref (ad 0))]) (stf := fun ad => [.ref (ad 0)]) C (Or.inl ⟨rfl, rfl, rfl⟩) ac_1 rfl hno10 (by decide) (by decide) (by decide) ⟨Nat.le_of_ble_eq_true rfl, Nat.le_of_ble_eq_true rfl⟩ d_Mo_init_46 (fun ad9 e9 => by simp only [e9 0 (by decide)]) (fun ad9 e9 => by simp only [e9 0 (by decide)]) ?_
    intro ad11 e11
    have hA11 : ∀ i, i < 1 → ad11 i = ad i := fun i hi => (e11 i (by omega)).trans (hA9 i hi)
    have hno11 := nok_new hno10
    refine g_putF (pc := 48) (I' := (va_up (va_up (va_up (va_up (va_up (va_up I 1 (fun _ => 0)) 2 (fun _ => 0)) 3 (fun _ => 0)) 4 (fun _ => 0)) 5 (fun _ => 0)) 6 (fun _ => 0))) (J' := (va_up (va_up (va_up (va_up (va_up (va_up J 1 (fun _ => 0)) 2 (fun _ => 0)) 3 (fun _ => 0)) 4 (fun _ => 0)) 5 (fun _ => 0)) 6 (fun _ => 0))) (N' := (up2 (va_up (up2 (va_up (up2 (va_up (up2 (va_up (up2 (va_up (up2 (va_up N 1 (fun _ => none)) 0 1 (some 1)) 2 (fun _ => none)) 0 2 (some 2)) 3 (fun _ => none)) 0 3 (some 3)) 4 (fun _ => none)) 0 4 (some 4)) 5 (fun _ => none)) 0 5 (some 5)) 6 (fun _ => none)) 0 7 (some 6))) (k := 7) C hin gcX11 inX11 tyX11_ok nmX11 (by decide) fl_Mo_26 rfl rfl ⟨(by decide), rfl⟩ (tyX11_ok 7 (by decide)) rfl rfl (Nat.le_of_ble_eq_true rfl) gs_11_7 (fun _ _ => rfl) (fun _ _ => rfl) (fun b hb => up2_of hb) d_Mo_init_48 ?_
    have hno12 := nok_up (a := 0) (k := 7) (b := 6) hno11 (by decide)
    refine g_aload_n (pc := 51) C d_Mo_init_51 rfl 0 rfl ?_
    refine g_bipush (pc := 52) C (7 : Int32) d_Mo_init_52 (by decide) ?_
    refine g_newa (n := 7) (mc := 6) (ms := 247) (κ := 2) (pc := 54) (lvf := fun ad => [(0, .ref (ad 0))]) (stf := fun ad => [.ref (ad 0)]) C (Or.inr ⟨rfl, rfl, rfl⟩) ac_2 rfl hno12 (by decide) (by decide) (by decide) ⟨Nat.le_of_ble_eq_true rfl, Nat.le_of_ble_eq_true rfl⟩ d_Mo_init_54 (fun ad9 e9 => by simp only [e9 0 (by decide)]) (fun ad9 e9 => by simp only [e9 0 (by decide)]) ?_
    intro ad13 e13
    have hA13 : ∀ i, i < 1 → ad13 i = ad i := fun i hi => (e13 i (by omega)).trans (hA11 i hi)
    have hno13 := nok_new hno12
    refine g_putF (pc := 56) (I' := (va_up (va_up (va_up (va_up (va_up (va_up (va_up I 1 (fun _ => 0)) 2 (fun _ => 0)) 3 (fun _ => 0)) 4 (fun _ => 0)) 5 (fun _ => 0)) 6 (fun _ => 0)) 7 (fun _ => 0))) (J' := (va_up (va_up (va_up (va_up (va_up (va_up (va_up J 1 (fun _ => 0)) 2 (fun _ => 0)) 3 (fun _ => 0)) 4 (fun _ => 0)) 5 (fun _ => 0)) 6 (fun _ => 0)) 7 (fun _ => 0))) (N' := (up2 (va_up (up2 (va_up (up2 (va_up (up2 (va_up (up2 (va_up (up2 (va_up (up2 (va_up N 1 (fun _ => none)) 0 1 (some 1)) 2 (fun _ => none)) 0 2 (some 2)) 3 (fun _ => none)) 0 3 (some 3)) 4 (fun _ => none)) 0 4 (some 4)) 5 (fun _ => none)) 0 5 (some 5)) 6 (fun _ => none)) 0 7 (some 6)) 7 (fun _ => none)) 0 11 (some 7))) (k := 11) C hin gcX11 inX11 tyX11_ok nmX11 (by decide) fl_Mo_29 rfl rfl ⟨(by decide), rfl⟩ (tyX11_ok 11 (by decide)) rfl rfl (Nat.le_of_ble_eq_true rfl) gs_11_11 (fun _ _ => rfl) (fun _ _ => rfl) (fun b hb => up2_of hb) d_Mo_init_56 ?_
    have hno14 := nok_up (a := 0) (k := 11) (b := 7) hno13 (by decide)
    refine g_aload_n (pc := 59) C d_Mo_init_59 rfl 0 rfl ?_
    refine g_bipush (pc := 60) C (7 : Int32) d_Mo_init_60 (by decide) ?_
    refine g_newa (n := 8) (mc := 7) (ms := 254) (κ := 2) (pc := 62) (lvf := fun ad => [(0, .ref (ad 0))]) (stf := fun ad => [.ref (ad 0)]) C (Or.inr ⟨rfl, rfl, rfl⟩) ac_2 rfl hno14 (by decide) (by decide) (by decide) ⟨Nat.le_of_ble_eq_true rfl, Nat.le_of_ble_eq_true rfl⟩ d_Mo_init_62 (fun ad9 e9 => by simp only [e9 0 (by decide)]) (fun ad9 e9 => by simp only [e9 0 (by decide)]) ?_
    intro ad15 e15
    have hA15 : ∀ i, i < 1 → ad15 i = ad i := fun i hi => (e15 i (by omega)).trans (hA13 i hi)
    have hno15 := nok_new hno14
    refine g_putF (pc := 64) (I' := (va_up (va_up (va_up (va_up (va_up (va_up (va_up (va_up I 1 (fun _ => 0)) 2 (fun _ => 0)) 3 (fun _ => 0)) 4 (fun _ => 0)) 5 (fun _ => 0)) 6 (fun _ => 0)) 7 (fun _ => 0)) 8 (fun _ => 0))) (J' := (va_up (va_up (va_up (va_up (va_up (va_up (va_up (va_up J 1 (fun _ => 0)) 2 (fun _ => 0)) 3 (fun _ => 0)) 4 (fun _ => 0)) 5 (fun _ => 0)) 6 (fun _ => 0)) 7 (fun _ => 0)) 8 (fun _ => 0))) (N' := (up2 (va_up (up2 (va_up (up2 (va_up (up2 (va_up (up2 (va_up (up2 (va_up (up2 (va_up (up2 (va_up N 1 (fun _ => none)) 0 1 (some 1)) 2 (fun _ => none)) 0 2 (some 2)) 3 (fun _ => none)) 0 3 (some 3)) 4 (fun _ => none)) 0 4 (some 4)) 5 (fun _ => none)) 0 5 (some 5)) 6 (fun _ => none)) 0 7 (some 6)) 7 (fun _ => none)) 0 11 (some 7)) 8 (fun _ => none)) 0 12 (some 8))) (k := 12) C hin gcX11 inX11 tyX11_ok nmX11 (by decide) fl_Mo_32 rfl rfl ⟨(by decide), rfl⟩ (tyX11_ok 12 (by decide)) rfl rfl (Nat.le_of_ble_eq_true rfl) gs_11_12 (fun _ _ => rfl) (fun _ _ => rfl) (fun b hb => up2_of hb) d_Mo_init_64 ?_
    have hno16 := nok_up (a := 0) (k := 12) (b := 8) hno15 (by decide)
    refine g_aload_n (pc := 67) C d_Mo_init_67 rfl 0 rfl ?_
    refine g_bipush (pc := 68) C (7 : Int32) d_Mo_init_68 (by decide) ?_
    refine g_newa (n := 9) (mc := 8) (ms := 261) (κ := 2) (pc := 70) (lvf := fun ad => [(0, .ref (ad 0))]) (stf := fun ad => [.ref (ad 0)]) C (Or.inr ⟨rfl, rfl, rfl⟩) ac_2 rfl hno16 (by decide) (by decide) (by decide) ⟨Nat.le_of_ble_eq_true rfl, Nat.le_of_ble_eq_true rfl⟩ d_Mo_init_70 (fun ad9 e9 => by simp only [e9 0 (by decide)]) (fun ad9 e9 => by simp only [e9 0 (by decide)]) ?_
    intro ad17 e17
    have hA17 : ∀ i, i < 1 → ad17 i = ad i := fun i hi => (e17 i (by omega)).trans (hA15 i hi)
    have hno17 := nok_new hno16
    refine g_putF (pc := 72) (I' := (va_up (va_up (va_up (va_up (va_up (va_up (va_up (va_up (va_up I 1 (fun _ => 0)) 2 (fun _ => 0)) 3 (fun _ => 0)) 4 (fun _ => 0)) 5 (fun _ => 0)) 6 (fun _ => 0)) 7 (fun _ => 0)) 8 (fun _ => 0)) 9 (fun _ => 0))) (J' := (va_up (va_up (va_up (va_up (va_up (va_up (va_up (va_up (va_up J 1 (fun _ => 0)) 2 (fun _ => 0)) 3 (fun _ => 0)) 4 (fun _ => 0)) 5 (fun _ => 0)) 6 (fun _ => 0)) 7 (fun _ => 0)) 8 (fun _ => 0)) 9 (fun _ => 0))) (N' := (up2 (va_up (up2 (va_up (up2 (va_up (up2 (va_up (up2 (va_up (up2 (va_up (up2 (va_up (up2 (va_up (up2 (va_up N 1 (fun _ => none)) 0 1 (some 1)) 2 (fun _ => none)) 0 2 (some 2)) 3 (fun _ => none)) 0 3 (some 3)) 4 (fun _ => none)) 0 4 (some 4)) 5 (fun _ => none)) 0 5 (some 5)) 6 (fun _ => none)) 0 7 (some 6)) 7 (fun _ => none)) 0 11 (some 7)) 8 (fun _ => none)) 0 12 (some 8)) 9 (fun _ => none)) 0 15 (some 9))) (k := 15) C hin gcX11 inX11 tyX11_ok nmX11 (by decide) fl_Mo_35 rfl rfl ⟨(by decide), rfl⟩ (tyX11_ok 15 (by decide)) rfl rfl (Nat.le_of_ble_eq_true rfl) gs_11_15 (fun _ _ => rfl) (fun _ _ => rfl) (fun b hb => up2_of hb) d_Mo_init_72 ?_
    have hno18 := nok_up (a := 0) (k := 15) (b := 9) hno17 (by decide)
    refine g_aload_n (pc := 75) C d_Mo_init_75 rfl 0 rfl ?_
    refine g_bipush (pc := 76) C (7 : Int32) d_Mo_init_76 (by decide) ?_
    refine g_newa (n := 10) (mc := 9) (ms := 268) (κ := 2) (pc := 78) (lvf := fun ad => [(0, .ref (ad 0))]) (stf := fun ad => [.ref (ad 0)]) C (Or.inr ⟨rfl, rfl, rfl⟩) ac_2 rfl hno18 (by decide) (by decide) (by decide) ⟨Nat.le_of_ble_eq_true rfl, Nat.le_of_ble_eq_true rfl⟩ d_Mo_init_78 (fun ad9 e9 => by simp only [e9 0 (by decide)]) (fun ad9 e9 => by simp only [e9 0 (by decide)]) ?_
    intro ad19 e19
    have hA19 : ∀ i, i < 1 → ad19 i = ad i := fun i hi => (e19 i (by omega)).trans (hA17 i hi)
    have hno19 := nok_new hno18
    refine g_putF (pc := 80) (I' := (va_up (va_up (va_up (va_up (va_up (va_up (va_up (va_up (va_up (va_up I 1 (fun _ => 0)) 2 (fun _ => 0)) 3 (fun _ => 0)) 4 (fun _ => 0)) 5 (fun _ => 0)) 6 (fun _ => 0)) 7 (fun _ => 0)) 8 (fun _ => 0)) 9 (fun _ => 0)) 10 (fun _ => 0))) (J' := (va_up (va_up (va_up (va_up (va_up (va_up (va_up (va_up (va_up (va_up J 1 (fun _ => 0)) 2 (fun _ => 0)) 3 (fun _ => 0)) 4 (fun _ => 0)) 5 (fun _ => 0)) 6 (fun _ => 0)) 7 (fun _ => 0)) 8 (fun _ => 0)) 9 (fun _ => 0)) 10 (fun _ => 0))) (N' := (up2 (va_up (up2 (va_up (up2 (va_up (up2 (va_up (up2 (va_up (up2 (va_up (up2 (va_up (up2 (va_up (up2 (va_up (up2 (va_up N 1 (fun _ => none)) 0 1 (some 1)) 2 (fun _ => none)) 0 2 (some 2)) 3 (fun _ => none)) 0 3 (some 3)) 4 (fun _ => none)) 0 4 (some 4)) 5 (fun _ => none)) 0 5 (some 5)) 6 (fun _ => none)) 0 7 (some 6)) 7 (fun _ => none)) 0 11 (some 7)) 8 (fun _ => none)) 0 12 (some 8)) 9 (fun _ => none)) 0 15 (some 9)) 10 (fun _ => none)) 0 16 (some 10))) (k := 16) C hin gcX11 inX11 tyX11_ok nmX11 (by decide) fl_Mo_38 rfl rfl ⟨(by decide), rfl⟩ (tyX11_ok 16 (by decide)) rfl rfl (Nat.le_of_ble_eq_true rfl) gs_11_16 (fun _ _ => rfl) (fun _ _ => rfl) (fun b hb => up2_of hb) d_Mo_init_80 ?_
    have hno20 := nok_up (a := 0) (k := 16) (b := 10) hno19 (by decide)
    refine g_aload_n (pc := 83) C d_Mo_init_83 rfl 0 rfl ?_
    refine g_bipush (pc := 84) C (7 : Int32) d_Mo_init_84 (by decide) ?_
    refine g_newa (n := 11) (mc := 10) (ms := 275) (κ := 2) (pc := 86) (lvf := fun ad => [(0, .ref (ad 0))]) (stf := fun ad => [.ref (ad 0)]) C (Or.inr ⟨rfl, rfl, rfl⟩) ac_2 rfl hno20 (by decide) (by decide) (by decide) ⟨Nat.le_of_ble_eq_true rfl, Nat.le_of_ble_eq_true rfl⟩ d_Mo_init_86 (fun ad9 e9 => by simp only [e9 0 (by decide)]) (fun ad9 e9 => by simp only [e9 0 (by decide)]) ?_
    intro ad21 e21
    have hA21 : ∀ i, i < 1 → ad21 i = ad i := fun i hi => (e21 i (by omega)).trans (hA19 i hi)
    have hno21 := nok_new hno20
    refine g_putF (pc := 88) (I' := (va_up (va_up (va_up (va_up (va_up (va_up (va_up (va_up (va_up (va_up (va_up I 1 (fun _ => 0)) 2 (fun _ => 0)) 3 (fun _ => 0)) 4 (fun _ => 0)) 5 (fun _ => 0)) 6 (fun _ => 0)) 7 (fun _ => 0)) 8 (fun _ => 0)) 9 (fun _ => 0)) 10 (fun _ => 0)) 11 (fun _ => 0))) (J' := (va_up (va_up (va_up (va_up (va_up (va_up (va_up (va_up (va_up (va_up (va_up J 1 (fun _ => 0)) 2 (fun _ => 0)) 3 (fun _ => 0)) 4 (fun _ => 0)) 5 (fun _ => 0)) 6 (fun _ => 0)) 7 (fun _ => 0)) 8 (fun _ => 0)) 9 (fun _ => 0)) 10 (fun _ => 0)) 11 (fun _ => 0))) (N' := (up2 (va_up (up2 (va_up (up2 (va_up (up2 (va_up (up2 (va_up (up2 (va_up (up2 (va_up (up2 (va_up (up2 (va_up (up2 (va_up (up2 (va_up N 1 (fun _ => none)) 0 1 (some 1)) 2 (fun _ => none)) 0 2 (some 2)) 3 (fun _ => none)) 0 3 (some 3)) 4 (fun _ => none)) 0 4 (some 4)) 5 (fun _ => none)) 0 5 (some 5)) 6 (fun _ => none)) 0 7 (some 6)) 7 (fun _ => none)) 0 11 (some 7)) 8 (fun _ => none)) 0 12 (some 8)) 9 (fun _ => none)) 0 15 (some 9)) 10 (fun _ => none)) 0 16 (some 10)) 11 (fun _ => none)) 0 17 (some 11))) (k := 17) C hin gcX11 inX11 tyX11_ok nmX11 (by decide) fl_Mo_41 rfl rfl ⟨(by decide), rfl⟩ (tyX11_ok 17 (by decide)) rfl rfl (Nat.le_of_ble_eq_true rfl) gs_11_17 (fun _ _ => rfl) (fun _ _ => rfl) (fun b hb => up2_of hb) d_Mo_init_88 ?_
    have hno22 := nok_up (a := 0) (k := 17) (b := 11) hno21 (by decide)
    refine g_aload_n (pc := 91) C d_Mo_init_91 rfl 0 rfl ?_
    refine g_bipush (pc := 92) C (7 : Int32) d_Mo_init_92 (by decide) ?_
    refine g_newa (n := 12) (mc := 11) (ms := 282) (κ := 2) (pc := 94) (lvf := fun ad => [(0, .ref (ad 0))]) (stf := fun ad => [.ref (ad 0)]) C (Or.inr ⟨rfl, rfl, rfl⟩) ac_2 rfl hno22 (by decide) (by decide) (by decide) ⟨Nat.le_of_ble_eq_true rfl, Nat.le_of_ble_eq_true rfl⟩ d_Mo_init_94 (fun ad9 e9 => by simp only [e9 0 (by decide)]) (fun ad9 e9 => by simp only [e9 0 (by decide)]) ?_
    intro ad23 e23
    have hA23 : ∀ i, i < 1 → ad23 i = ad i := fun i hi => (e23 i (by omega)).trans (hA21 i hi)
    have hno23 := nok_new hno22
    refine g_putF (pc := 96) (I' := (va_up (va_up (va_up (va_up (va_up (va_up (va_up (va_up (va_up (va_up (va_up (va_up I 1 (fun _ => 0)) 2 (fun _ => 0)) 3 (fun _ => 0)) 4 (fun _ => 0)) 5 (fun _ => 0)) 6 (fun _ => 0)) 7 (fun _ => 0)) 8 (fun _ => 0)) 9 (fun _ => 0)) 10 (fun _ => 0)) 11 (fun _ => 0)) 12 (fun _ => 0))) (J' := (va_up (va_up (va_up (va_up (va_up (va_up (va_up (va_up (va_up (va_up (va_up (va_up J 1 (fun _ => 0)) 2 (fun _ => 0)) 3 (fun _ => 0)) 4 (fun _ => 0)) 5 (fun _ => 0)) 6 (fun _ => 0)) 7 (fun _ => 0)) 8 (fun _ => 0)) 9 (fun _ => 0)) 10 (fun _ => 0)) 11 (fun _ => 0)) 12 (fun _ => 0))) (N' := (up2 (va_up (up2 (va_up (up2 (va_up (up2 (va_up (up2 (va_up (up2 (va_up (up2 (va_up (up2 (va_up (up2 (va_up (up2 (va_up (up2 (va_up (up2 (va_up N 1 (fun _ => none)) 0 1 (some 1)) 2 (fun _ => none)) 0 2 (some 2)) 3 (fun _ => none)) 0 3 (some 3)) 4 (fun _ => none)) 0 4 (some 4)) 5 (fun _ => none)) 0 5 (some 5)) 6 (fun _ => none)) 0 7 (some 6)) 7 (fun _ => none)) 0 11 (some 7)) 8 (fun _ => none)) 0 12 (some 8)) 9 (fun _ => none)) 0 15 (some 9)) 10 (fun _ => none)) 0 16 (some 10)) 11 (fun _ => none)) 0 17 (some 11)) 12 (fun _ => none)) 0 18 (some 12))) (k := 18) C hin gcX11 inX11 tyX11_ok nmX11 (by decide) fl_Mo_44 rfl rfl ⟨(by decide), rfl⟩ (tyX11_ok 18 (by decide)) rfl rfl (Nat.le_of_ble_eq_true rfl) gs_11_18 (fun _ _ => rfl) (fun _ _ => rfl) (fun b hb => up2_of hb) d_Mo_init_96 ?_
    have hno24 := nok_up (a := 0) (k := 18) (b := 12) hno23 (by decide)
    refine g_aload_n (pc := 99) C d_Mo_init_99 rfl 0 rfl ?_
    refine g_bipush (pc := 100) C (120 : Int32) d_Mo_init_100 (by decide) ?_
    refine g_newa (n := 13) (mc := 12) (ms := 289) (κ := 1) (pc := 102) (lvf := fun ad => [(0, .ref (ad 0))]) (stf := fun ad => [.ref (ad 0)]) C (Or.inl ⟨rfl, rfl, rfl⟩) ac_1 rfl hno24 (by decide) (by decide) (by decide) ⟨Nat.le_of_ble_eq_true rfl, Nat.le_of_ble_eq_true rfl⟩ d_Mo_init_102 (fun ad9 e9 => by simp only [e9 0 (by decide)]) (fun ad9 e9 => by simp only [e9 0 (by decide)]) ?_
    intro ad25 e25
    have hA25 : ∀ i, i < 1 → ad25 i = ad i := fun i hi => (e25 i (by omega)).trans (hA23 i hi)
    have hno25 := nok_new hno24
    refine g_putF (pc := 104) (I' := (va_up (va_up (va_up (va_up (va_up (va_up (va_up (va_up (va_up (va_up (va_up (va_up (va_up I 1 (fun _ => 0)) 2 (fun _ => 0)) 3 (fun _ => 0)) 4 (fun _ => 0)) 5 (fun _ => 0)) 6 (fun _ => 0)) 7 (fun _ => 0)) 8 (fun _ => 0)) 9 (fun _ => 0)) 10 (fun _ => 0)) 11 (fun _ => 0)) 12 (fun _ => 0)) 13 (fun _ => 0))) (J' := (va_up (va_up (va_up (va_up (va_up (va_up (va_up (va_up (va_up (va_up (va_up (va_up (va_up J 1 (fun _ => 0)) 2 (fun _ => 0)) 3 (fun _ => 0)) 4 (fun _ => 0)) 5 (fun _ => 0)) 6 (fun _ => 0)) 7 (fun _ => 0)) 8 (fun _ => 0)) 9 (fun _ => 0)) 10 (fun _ => 0)) 11 (fun _ => 0)) 12 (fun _ => 0)) 13 (fun _ => 0))) (N' := (up2 (va_up (up2 (va_up (up2 (va_up (up2 (va_up (up2 (va_up (up2 (va_up (up2 (va_up (up2 (va_up (up2 (va_up (up2 (va_up (up2 (va_up (up2 (va_up (up2 (va_up N 1 (fun _ => none)) 0 1 (some 1)) 2 (fun _ => none)) 0 2 (some 2)) 3 (fun _ => none)) 0 3 (some 3)) 4 (fun _ => none)) 0 4 (some 4)) 5 (fun _ => none)) 0 5 (some 5)) 6 (fun _ => none)) 0 7 (some 6)) 7 (fun _ => none)) 0 11 (some 7)) 8 (fun _ => none)) 0 12 (some 8)) 9 (fun _ => none)) 0 15 (some 9)) 10 (fun _ => none)) 0 16 (some 10)) 11 (fun _ => none)) 0 17 (some 11)) 12 (fun _ => none)) 0 18 (some 12)) 13 (fun _ => none)) 0 19 (some 13))) (k := 19) C hin gcX11 inX11 tyX11_ok nmX11 (by decide) fl_Mo_47 rfl rfl ⟨(by decide), rfl⟩ (tyX11_ok 19 (by decide)) rfl rfl (Nat.le_of_ble_eq_true rfl) gs_11_19 (fun _ _ => rfl) (fun _ _ => rfl) (fun b hb => up2_of hb) d_Mo_init_104 ?_
    have hno26 := nok_up (a := 0) (k := 19) (b := 13) hno25 (by decide)
    refine g_aload_n (pc := 107) C d_Mo_init_107 rfl 0 rfl ?_
    refine g_bipush (pc := 108) C (120 : Int32) d_Mo_init_108 (by decide) ?_
    refine g_newa (n := 14) (mc := 13) (ms := 409) (κ := 1) (pc := 110) (lvf := fun ad => [(0, .ref (ad 0))]) (stf := fun ad => [.ref (ad 0)]) C (Or.inl ⟨rfl, rfl, rfl⟩) ac_1 rfl hno26 (by decide) (by decide) (by decide) ⟨Nat.le_of_ble_eq_true rfl, Nat.le_of_ble_eq_true rfl⟩ d_Mo_init_110 (fun ad9 e9 => by simp only [e9 0 (by decide)]) (fun ad9 e9 => by simp only [e9 0 (by decide)]) ?_
    intro ad27 e27
    have hA27 : ∀ i, i < 1 → ad27 i = ad i := fun i hi => (e27 i (by omega)).trans (hA25 i hi)
    have hno27 := nok_new hno26
    refine g_putF (pc := 112) (I' := (va_up (va_up (va_up (va_up (va_up (va_up (va_up (va_up (va_up (va_up (va_up (va_up (va_up (va_up I 1 (fun _ => 0)) 2 (fun _ => 0)) 3 (fun _ => 0)) 4 (fun _ => 0)) 5 (fun _ => 0)) 6 (fun _ => 0)) 7 (fun _ => 0)) 8 (fun _ => 0)) 9 (fun _ => 0)) 10 (fun _ => 0)) 11 (fun _ => 0)) 12 (fun _ => 0)) 13 (fun _ => 0)) 14 (fun _ => 0))) (J' := (va_up (va_up (va_up (va_up (va_up (va_up (va_up (va_up (va_up (va_up (va_up (va_up (va_up (va_up J 1 (fun _ => 0)) 2 (fun _ => 0)) 3 (fun _ => 0)) 4 (fun _ => 0)) 5 (fun _ => 0)) 6 (fun _ => 0)) 7 (fun _ => 0)) 8 (fun _ => 0)) 9 (fun _ => 0)) 10 (fun _ => 0)) 11 (fun _ => 0)) 12 (fun _ => 0)) 13 (fun _ => 0)) 14 (fun _ => 0))) (N' := (up2 (va_up (up2 (va_up (up2 (va_up (up2 (va_up (up2 (va_up (up2 (va_up (up2 (va_up (up2 (va_up (up2 (va_up (up2 (va_up (up2 (va_up (up2 (va_up (up2 (va_up (up2 (va_up N 1 (fun _ => none)) 0 1 (some 1)) 2 (fun _ => none)) 0 2 (some 2)) 3 (fun _ => none)) 0 3 (some 3)) 4 (fun _ => none)) 0 4 (some 4)) 5 (fun _ => none)) 0 5 (some 5)) 6 (fun _ => none)) 0 7 (some 6)) 7 (fun _ => none)) 0 11 (some 7)) 8 (fun _ => none)) 0 12 (some 8)) 9 (fun _ => none)) 0 15 (some 9)) 10 (fun _ => none)) 0 16 (some 10)) 11 (fun _ => none)) 0 17 (some 11)) 12 (fun _ => none)) 0 18 (some 12)) 13 (fun _ => none)) 0 19 (some 13)) 14 (fun _ => none)) 0 20 (some 14))) (k := 20) C hin gcX11 inX11 tyX11_ok nmX11 (by decide) fl_Mo_50 rfl rfl ⟨(by decide), rfl⟩ (tyX11_ok 20 (by decide)) rfl rfl (Nat.le_of_ble_eq_true rfl) gs_11_20 (fun _ _ => rfl) (fun _ _ => rfl) (fun b hb => up2_of hb) d_Mo_init_112 ?_
    have hno28 := nok_up (a := 0) (k := 20) (b := 14) hno27 (by decide)
    refine g_aload_n (pc := 115) C d_Mo_init_115 rfl 0 rfl ?_
    refine g_bipush (pc := 116) C (7 : Int32) d_Mo_init_116 (by decide) ?_
    refine g_newa (n := 15) (mc := 14) (ms := 529) (κ := 2) (pc := 118) (lvf := fun ad => [(0, .ref (ad 0))]) (stf := fun ad => [.ref (ad 0)]) C (Or.inr ⟨rfl, rfl, rfl⟩) ac_2 rfl hno28 (by decide) (by decide) (by decide) ⟨Nat.le_of_ble_eq_true rfl, Nat.le_of_ble_eq_true rfl⟩ d_Mo_init_118 (fun ad9 e9 => by simp only [e9 0 (by decide)]) (fun ad9 e9 => by simp only [e9 0 (by decide)]) ?_
    intro ad29 e29
    have hA29 : ∀ i, i < 1 → ad29 i = ad i := fun i hi => (e29 i (by omega)).trans (hA27 i hi)
    have hno29 := nok_new hno28
    refine g_putF (pc := 120) (I' := (va_up (va_up (va_up (va_up (va_up (va_up (va_up (va_up (va_up (va_up (va_up (va_up (va_up (va_up (va_up I 1 (fun _ => 0)) 2 (fun _ => 0)) 3 (fun _ => 0)) 4 (fun _ => 0)) 5 (fun _ => 0)) 6 (fun _ => 0)) 7 (fun _ => 0)) 8 (fun _ => 0)) 9 (fun _ => 0)) 10 (fun _ => 0)) 11 (fun _ => 0)) 12 (fun _ => 0)) 13 (fun _ => 0)) 14 (fun _ => 0)) 15 (fun _ => 0))) (J' := (va_up (va_up (va_up (va_up (va_up (va_up (va_up (va_up (va_up (va_up (va_up (va_up (va_up (va_up (va_up J 1 (fun _ => 0)) 2 (fun _ => 0)) 3 (fun _ => 0)) 4 (fun _ => 0)) 5 (fun _ => 0)) 6 (fun _ => 0)) 7 (fun _ => 0)) 8 (fun _ => 0)) 9 (fun _ => 0)) 10 (fun _ => 0)) 11 (fun _ => 0)) 12 (fun _ => 0)) 13 (fun _ => 0)) 14 (fun _ => 0)) 15 (fun _ => 0))) (N' := (up2 (va_up (up2 (va_up (up2 (va_up (up2 (va_up (up2 (va_up (up2 (va_up (up2 (va_up (up2 (va_up (up2 (va_up (up2 (va_up (up2 (va_up (up2 (va_up (up2 (va_up (up2 (va_up (up2 (va_up N 1 (fun _ => none)) 0 1 (some 1)) 2 (fun _ => none)) 0 2 (some 2)) 3 (fun _ => none)) 0 3 (some 3)) 4 (fun _ => none)) 0 4 (some 4)) 5 (fun _ => none)) 0 5 (some 5)) 6 (fun _ => none)) 0 7 (some 6)) 7 (fun _ => none)) 0 11 (some 7)) 8 (fun _ => none)) 0 12 (some 8)) 9 (fun _ => none)) 0 15 (some 9)) 10 (fun _ => none)) 0 16 (some 10)) 11 (fun _ => none)) 0 17 (some 11)) 12 (fun _ => none)) 0 18 (some 12)) 13 (fun _ => none)) 0 19 (some 13)) 14 (fun _ => none)) 0 20 (some 14)) 15 (fun _ => none)) 0 22 (some 15))) (k := 22) C hin gcX11 inX11 tyX11_ok nmX11 (by decide) fl_Mo_53 rfl rfl ⟨(by decide), rfl⟩ (tyX11_ok 22 (by decide)) rfl rfl (Nat.le_of_ble_eq_true rfl) gs_11_22 (fun _ _ => rfl) (fun _ _ => rfl) (fun b hb => up2_of hb) d_Mo_init_120 ?_
    have hno30 := nok_up (a := 0) (k := 22) (b := 15) hno29 (by decide)
    refine g_aload_n (pc := 123) C d_Mo_init_123 rfl 0 rfl ?_
    refine g_bipush (pc := 124) C (14 : Int32) d_Mo_init_124 (by decide) ?_
    refine g_newa (n := 16) (mc := 15) (ms := 536) (κ := 2) (pc := 126) (lvf := fun ad => [(0, .ref (ad 0))]) (stf := fun ad => [.ref (ad 0)]) C (Or.inr ⟨rfl, rfl, rfl⟩) ac_2 rfl hno30 (by decide) (by decide) (by decide) ⟨Nat.le_of_ble_eq_true rfl, Nat.le_of_ble_eq_true rfl⟩ d_Mo_init_126 (fun ad9 e9 => by simp only [e9 0 (by decide)]) (fun ad9 e9 => by simp only [e9 0 (by decide)]) ?_
    intro ad31 e31
    have hA31 : ∀ i, i < 1 → ad31 i = ad i := fun i hi => (e31 i (by omega)).trans (hA29 i hi)
    have hno31 := nok_new hno30
    refine g_putF (pc := 128) (I' := (va_up (va_up (va_up (va_up (va_up (va_up (va_up (va_up (va_up (va_up (va_up (va_up (va_up (va_up (va_up (va_up I 1 (fun _ => 0)) 2 (fun _ => 0)) 3 (fun _ => 0)) 4 (fun _ => 0)) 5 (fun _ => 0)) 6 (fun _ => 0)) 7 (fun _ => 0)) 8 (fun _ => 0)) 9 (fun _ => 0)) 10 (fun _ => 0)) 11 (fun _ => 0)) 12 (fun _ => 0)) 13 (fun _ => 0)) 14 (fun _ => 0)) 15 (fun _ => 0)) 16 (fun _ => 0))) (J' := (va_up (va_up (va_up (va_up (va_up (va_up (va_up (va_up (va_up (va_up (va_up (va_up (va_up (va_up (va_up (va_up J 1 (fun _ => 0)) 2 (fun _ => 0)) 3 (fun _ => 0)) 4 (fun _ => 0)) 5 (fun _ => 0)) 6 (fun _ => 0)) 7 (fun _ => 0)) 8 (fun _ => 0)) 9 (fun _ => 0)) 10 (fun _ => 0)) 11 (fun _ => 0)) 12 (fun _ => 0)) 13 (fun _ => 0)) 14 (fun _ => 0)) 15 (fun _ => 0)) 16 (fun _ => 0))) (N' := (up2 (va_up (up2 (va_up (up2 (va_up (up2 (va_up (up2 (va_up (up2 (va_up (up2 (va_up (up2 (va_up (up2 (va_up (up2 (va_up (up2 (va_up (up2 (va_up (up2 (va_up (up2 (va_up (up2 (va_up (up2 (va_up N 1 (fun _ => none)) 0 1 (some 1)) 2 (fun _ => none)) 0 2 (some 2)) 3 (fun _ => none)) 0 3 (some 3)) 4 (fun _ => none)) 0 4 (some 4)) 5 (fun _ => none)) 0 5 (some 5)) 6 (fun _ => none)) 0 7 (some 6)) 7 (fun _ => none)) 0 11 (some 7)) 8 (fun _ => none)) 0 12 (some 8)) 9 (fun _ => none)) 0 15 (some 9)) 10 (fun _ => none)) 0 16 (some 10)) 11 (fun _ => none)) 0 17 (some 11)) 12 (fun _ => none)) 0 18 (some 12)) 13 (fun _ => none)) 0 19 (some 13)) 14 (fun _ => none)) 0 20 (some 14)) 15 (fun _ => none)) 0 22 (some 15)) 16 (fun _ => none)) 0 23 (some 16))) (k := 23) C hin gcX11 inX11 tyX11_ok nmX11 (by decide) fl_Mo_56 rfl rfl ⟨(by decide), rfl⟩ (tyX11_ok 23 (by decide)) rfl rfl (Nat.le_of_ble_eq_true rfl) gs_11_23 (fun _ _ => rfl) (fun _ _ => rfl) (fun b hb => up2_of hb) d_Mo_init_128 ?_
    have hno32 := nok_up (a := 0) (k := 23) (b := 16) hno31 (by decide)
    refine g_aload_n (pc := 131) C d_Mo_init_131 rfl 0 rfl ?_
    refine g_bipush (pc := 132) C (14 : Int32) d_Mo_init_132 (by decide) ?_
    refine g_newa (n := 17) (mc := 16) (ms := 550) (κ := 2) (pc := 134) (lvf := fun ad => [(0, .ref (ad 0))]) (stf := fun ad => [.ref (ad 0)]) C (Or.inr ⟨rfl, rfl, rfl⟩) ac_2 rfl hno32 (by decide) (by decide) (by decide) ⟨Nat.le_of_ble_eq_true rfl, Nat.le_of_ble_eq_true rfl⟩ d_Mo_init_134 (fun ad9 e9 => by simp only [e9 0 (by decide)]) (fun ad9 e9 => by simp only [e9 0 (by decide)]) ?_
    intro ad33 e33
    have hA33 : ∀ i, i < 1 → ad33 i = ad i := fun i hi => (e33 i (by omega)).trans (hA31 i hi)
    have hno33 := nok_new hno32
    refine g_putF (pc := 136) (I' := (va_up (va_up (va_up (va_up (va_up (va_up (va_up (va_up (va_up (va_up (va_up (va_up (va_up (va_up (va_up (va_up (va_up I 1 (fun _ => 0)) 2 (fun _ => 0)) 3 (fun _ => 0)) 4 (fun _ => 0)) 5 (fun _ => 0)) 6 (fun _ => 0)) 7 (fun _ => 0)) 8 (fun _ => 0)) 9 (fun _ => 0)) 10 (fun _ => 0)) 11 (fun _ => 0)) 12 (fun _ => 0)) 13 (fun _ => 0)) 14 (fun _ => 0)) 15 (fun _ => 0)) 16 (fun _ => 0)) 17 (fun _ => 0))) (J' := (va_up (va_up (va_up (va_up (va_up (va_up (va_up (va_up (va_up (va_up (va_up (va_up (va_up (va_up (va_up (va_up (va_up J 1 (fun _ => 0)) 2 (fun _ => 0)) 3 (fun _ => 0)) 4 (fun _ => 0)) 5 (fun _ => 0)) 6 (fun _ => 0)) 7 (fun _ => 0)) 8 (fun _ => 0)) 9 (fun _ => 0)) 10 (fun _ => 0)) 11 (fun _ => 0)) 12 (fun _ => 0)) 13 (fun _ => 0)) 14 (fun _ => 0)) 15 (fun _ => 0)) 16 (fun _ => 0)) 17 (fun _ => 0))) (N' := (up2 (va_up (up2 (va_up (up2 (va_up (up2 (va_up (up2 (va_up (up2 (va_up (up2 (va_up (up2 (va_up (up2 (va_up (up2 (va_up (up2 (va_up (up2 (va_up (up2 (va_up (up2 (va_up (up2 (va_up (up2 (va_up (up2 (va_up N 1 (fun _ => none)) 0 1 (some 1)) 2 (fun _ => none)) 0 2 (some 2)) 3 (fun _ => none)) 0 3 (some 3)) 4 (fun _ => none)) 0 4 (some 4)) 5 (fun _ => none)) 0 5 (some 5)) 6 (fun _ => none)) 0 7 (some 6)) 7 (fun _ => none)) 0 11 (some 7)) 8 (fun _ => none)) 0 12 (some 8)) 9 (fun _ => none)) 0 15 (some 9)) 10 (fun _ => none)) 0 16 (some 10)) 11 (fun _ => none)) 0 17 (some 11)) 12 (fun _ => none)) 0 18 (some 12)) 13 (fun _ => none)) 0 19 (some 13)) 14 (fun _ => none)) 0 20 (some 14)) 15 (fun _ => none)) 0 22 (some 15)) 16 (fun _ => none)) 0 23 (some 16)) 17 (fun _ => none)) 0 24 (some 17))) (k := 24) C hin gcX11 inX11 tyX11_ok nmX11 (by decide) fl_Mo_59 rfl rfl ⟨(by decide), rfl⟩ (tyX11_ok 24 (by decide)) rfl rfl (Nat.le_of_ble_eq_true rfl) gs_11_24 (fun _ _ => rfl) (fun _ _ => rfl) (fun b hb => up2_of hb) d_Mo_init_136 ?_
    have hno34 := nok_up (a := 0) (k := 24) (b := 17) hno33 (by decide)
    refine g_aload_n (pc := 139) C d_Mo_init_139 rfl 0 rfl ?_
    refine g_iconst (pc := 140) C (3 : Int32) d_Mo_init_140 (by decide) ?_
    refine g_newa (n := 18) (mc := 17) (ms := 564) (κ := 2) (pc := 141) (lvf := fun ad => [(0, .ref (ad 0))]) (stf := fun ad => [.ref (ad 0)]) C (Or.inr ⟨rfl, rfl, rfl⟩) ac_2 rfl hno34 (by decide) (by decide) (by decide) ⟨Nat.le_of_ble_eq_true rfl, Nat.le_of_ble_eq_true rfl⟩ d_Mo_init_141 (fun ad9 e9 => by simp only [e9 0 (by decide)]) (fun ad9 e9 => by simp only [e9 0 (by decide)]) ?_
    intro ad35 e35
    have hA35 : ∀ i, i < 1 → ad35 i = ad i := fun i hi => (e35 i (by omega)).trans (hA33 i hi)
    have hno35 := nok_new hno34
    refine g_putF (pc := 143) (I' := (va_up (va_up (va_up (va_up (va_up (va_up (va_up (va_up (va_up (va_up (va_up (va_up (va_up (va_up (va_up (va_up (va_up (va_up I 1 (fun _ => 0)) 2 (fun _ => 0)) 3 (fun _ => 0)) 4 (fun _ => 0)) 5 (fun _ => 0)) 6 (fun _ => 0)) 7 (fun _ => 0)) 8 (fun _ => 0)) 9 (fun _ => 0)) 10 (fun _ => 0)) 11 (fun _ => 0)) 12 (fun _ => 0)) 13 (fun _ => 0)) 14 (fun _ => 0)) 15 (fun _ => 0)) 16 (fun _ => 0)) 17 (fun _ => 0)) 18 (fun _ => 0))) (J' := (va_up (va_up (va_up (va_up (va_up (va_up (va_up (va_up (va_up (va_up (va_up (va_up (va_up (va_up (va_up (va_up (va_up (va_up J 1 (fun _ => 0)) 2 (fun _ => 0)) 3 (fun _ => 0)) 4 (fun _ => 0)) 5 (fun _ => 0)) 6 (fun _ => 0)) 7 (fun _ => 0)) 8 (fun _ => 0)) 9 (fun _ => 0)) 10 (fun _ => 0)) 11 (fun _ => 0)) 12 (fun _ => 0)) 13 (fun _ => 0)) 14 (fun _ => 0)) 15 (fun _ => 0)) 16 (fun _ => 0)) 17 (fun _ => 0)) 18 (fun _ => 0))) (N' := (up2 (va_up (up2 (va_up (up2 (va_up (up2 (va_up (up2 (va_up (up2 (va_up (up2 (va_up (up2 (va_up (up2 (va_up (up2 (va_up (up2 (va_up (up2 (va_up (up2 (va_up (up2 (va_up (up2 (va_up (up2 (va_up (up2 (va_up (up2 (va_up N 1 (fun _ => none)) 0 1 (some 1)) 2 (fun _ => none)) 0 2 (some 2)) 3 (fun _ => none)) 0 3 (some 3)) 4 (fun _ => none)) 0 4 (some 4)) 5 (fun _ => none)) 0 5 (some 5)) 6 (fun _ => none)) 0 7 (some 6)) 7 (fun _ => none)) 0 11 (some 7)) 8 (fun _ => none)) 0 12 (some 8)) 9 (fun _ => none)) 0 15 (some 9)) 10 (fun _ => none)) 0 16 (some 10)) 11 (fun _ => none)) 0 17 (some 11)) 12 (fun _ => none)) 0 18 (some 12)) 13 (fun _ => none)) 0 19 (some 13)) 14 (fun _ => none)) 0 20 (some 14)) 15 (fun _ => none)) 0 22 (some 15)) 16 (fun _ => none)) 0 23 (some 16)) 17 (fun _ => none)) 0 24 (some 17)) 18 (fun _ => none)) 0 25 (some 18))) (k := 25) C hin gcX11 inX11 tyX11_ok nmX11 (by decide) fl_Mo_62 rfl rfl ⟨(by decide), rfl⟩ (tyX11_ok 25 (by decide)) rfl rfl (Nat.le_of_ble_eq_true rfl) gs_11_25 (fun _ _ => rfl) (fun _ _ => rfl) (fun b hb => up2_of hb) d_Mo_init_143 ?_
    have hno36 := nok_up (a := 0) (k := 25) (b := 18) hno35 (by decide)
    refine g_aload_n (pc := 146) C d_Mo_init_146 rfl 0 rfl ?_
    refine g_iconst (pc := 147) C (3 : Int32) d_Mo_init_147 (by decide) ?_
    refine g_newa (n := 19) (mc := 18) (ms := 567) (κ := 2) (pc := 148) (lvf := fun ad => [(0, .ref (ad 0))]) (stf := fun ad => [.ref (ad 0)]) C (Or.inr ⟨rfl, rfl, rfl⟩) ac_2 rfl hno36 (by decide) (by decide) (by decide) ⟨Nat.le_of_ble_eq_true rfl, Nat.le_of_ble_eq_true rfl⟩ d_Mo_init_148 (fun ad9 e9 => by simp only [e9 0 (by decide)]) (fun ad9 e9 => by simp only [e9 0 (by decide)]) ?_
    intro ad37 e37
    have hA37 : ∀ i, i < 1 → ad37 i = ad i := fun i hi => (e37 i (by omega)).trans (hA35 i hi)
    have hno37 := nok_new hno36
    refine g_putF (pc := 150) (I' := (va_up (va_up (va_up (va_up (va_up (va_up (va_up (va_up (va_up (va_up (va_up (va_up (va_up (va_up (va_up (va_up (va_up (va_up (va_up I 1 (fun _ => 0)) 2 (fun _ => 0)) 3 (fun _ => 0)) 4 (fun _ => 0)) 5 (fun _ => 0)) 6 (fun _ => 0)) 7 (fun _ => 0)) 8 (fun _ => 0)) 9 (fun _ => 0)) 10 (fun _ => 0)) 11 (fun _ => 0)) 12 (fun _ => 0)) 13 (fun _ => 0)) 14 (fun _ => 0)) 15 (fun _ => 0)) 16 (fun _ => 0)) 17 (fun _ => 0)) 18 (fun _ => 0)) 19 (fun _ => 0))) (J' := (va_up (va_up (va_up (va_up (va_up (va_up (va_up (va_up (va_up (va_up (va_up (va_up (va_up (va_up (va_up (va_up (va_up (va_up (va_up J 1 (fun _ => 0)) 2 (fun _ => 0)) 3 (fun _ => 0)) 4 (fun _ => 0)) 5 (fun _ => 0)) 6 (fun _ => 0)) 7 (fun _ => 0)) 8 (fun _ => 0)) 9 (fun _ => 0)) 10 (fun _ => 0)) 11 (fun _ => 0)) 12 (fun _ => 0)) 13 (fun _ => 0)) 14 (fun _ => 0)) 15 (fun _ => 0)) 16 (fun _ => 0)) 17 (fun _ => 0)) 18 (fun _ => 0)) 19 (fun _ => 0))) (N' := (up2 (va_up (up2 (va_up (up2 (va_up (up2 (va_up (up2 (va_up (up2 (va_up (up2 (va_up (up2 (va_up (up2 (va_up (up2 (va_up (up2 (va_up (up2 (va_up (up2 (va_up (up2 (va_up (up2 (va_up (up2 (va_up (up2 (va_up (up2 (va_up (up2 (va_up N 1 (fun _ => none)) 0 1 (some 1)) 2 (fun _ => none)) 0 2 (some 2)) 3 (fun _ => none)) 0 3 (some 3)) 4 (fun _ => none)) 0 4 (some 4)) 5 (fun _ => none)) 0 5 (some 5)) 6 (fun _ => none)) 0 7 (some 6)) 7 (fun _ => none)) 0 11 (some 7)) 8 (fun _ => none)) 0 12 (some 8)) 9 (fun _ => none)) 0 15 (some 9)) 10 (fun _ => none)) 0 16 (some 10)) 11 (fun _ => none)) 0 17 (some 11)) 12 (fun _ => none)) 0 18 (some 12)) 13 (fun _ => none)) 0 19 (some 13)) 14 (fun _ => none)) 0 20 (some 14)) 15 (fun _ => none)) 0 22 (some 15)) 16 (fun _ => none)) 0 23 (some 16)) 17 (fun _ => none)) 0 24 (some 17)) 18 (fun _ => none)) 0 25 (some 18)) 19 (fun _ => none)) 0 26 (some 19))) (k := 26) C hin gcX11 inX11 tyX11_ok nmX11 (by decide) fl_Mo_65 rfl rfl ⟨(by decide), rfl⟩ (tyX11_ok 26 (by decide)) rfl rfl (Nat.le_of_ble_eq_true rfl) gs_11_26 (fun _ _ => rfl) (fun _ _ => rfl) (fun b hb => up2_of hb) d_Mo_init_150 ?_
    have hno38 := nok_up (a := 0) (k := 26) (b := 19) hno37 (by decide)
    refine g_aload_n (pc := 153) C d_Mo_init_153 rfl 0 rfl ?_
    refine g_bipush (pc := 154) C (14 : Int32) d_Mo_init_154 (by decide) ?_
    refine g_newa (n := 20) (mc := 19) (ms := 570) (κ := 2) (pc := 156) (lvf := fun ad => [(0, .ref (ad 0))]) (stf := fun ad => [.ref (ad 0)]) C (Or.inr ⟨rfl, rfl, rfl⟩) ac_2 rfl hno38 (by decide) (by decide) (by decide) ⟨Nat.le_of_ble_eq_true rfl, Nat.le_of_ble_eq_true rfl⟩ d_Mo_init_156 (fun ad9 e9 => by simp only [e9 0 (by decide)]) (fun ad9 e9 => by simp only [e9 0 (by decide)]) ?_
    intro ad39 e39
    have hA39 : ∀ i, i < 1 → ad39 i = ad i := fun i hi => (e39 i (by omega)).trans (hA37 i hi)
    have hno39 := nok_new hno38
    refine g_putF (pc := 158) (I' := (va_up (va_up (va_up (va_up (va_up (va_up (va_up (va_up (va_up (va_up (va_up (va_up (va_up (va_up (va_up (va_up (va_up (va_up (va_up (va_up I 1 (fun _ => 0)) 2 (fun _ => 0)) 3 (fun _ => 0)) 4 (fun _ => 0)) 5 (fun _ => 0)) 6 (fun _ => 0)) 7 (fun _ => 0)) 8 (fun _ => 0)) 9 (fun _ => 0)) 10 (fun _ => 0)) 11 (fun _ => 0)) 12 (fun _ => 0)) 13 (fun _ => 0)) 14 (fun _ => 0)) 15 (fun _ => 0)) 16 (fun _ => 0)) 17 (fun _ => 0)) 18 (fun _ => 0)) 19 (fun _ => 0)) 20 (fun _ => 0))) (J' := (va_up (va_up (va_up (va_up (va_up (va_up (va_up (va_up (va_up (va_up (va_up (va_up (va_up (va_up (va_up (va_up (va_up (va_up (va_up (va_up J 1 (fun _ => 0)) 2 (fun _ => 0)) 3 (fun _ => 0)) 4 (fun _ => 0)) 5 (fun _ => 0)) 6 (fun _ => 0)) 7 (fun _ => 0)) 8 (fun _ => 0)) 9 (fun _ => 0)) 10 (fun _ => 0)) 11 (fun _ => 0)) 12 (fun _ => 0)) 13 (fun _ => 0)) 14 (fun _ => 0)) 15 (fun _ => 0)) 16 (fun _ => 0)) 17 (fun _ => 0)) 18 (fun _ => 0)) 19 (fun _ => 0)) 20 (fun _ => 0))) (N' := (up2 (va_up (up2 (va_up (up2 (va_up (up2 (va_up (up2 (va_up (up2 (va_up (up2 (va_up (up2 (va_up (up2 (va_up (up2 (va_up (up2 (va_up (up2 (va_up (up2 (va_up (up2 (va_up (up2 (va_up (up2 (va_up (up2 (va_up (up2 (va_up (up2 (va_up (up2 (va_up N 1 (fun _ => none)) 0 1 (some 1)) 2 (fun _ => none)) 0 2 (some 2)) 3 (fun _ => none)) 0 3 (some 3)) 4 (fun _ => none)) 0 4 (some 4)) 5 (fun _ => none)) 0 5 (some 5)) 6 (fun _ => none)) 0 7 (some 6)) 7 (fun _ => none)) 0 11 (some 7)) 8 (fun _ => none)) 0 12 (some 8)) 9 (fun _ => none)) 0 15 (some 9)) 10 (fun _ => none)) 0 16 (some 10)) 11 (fun _ => none)) 0 17 (some 11)) 12 (fun _ => none)) 0 18 (some 12)) 13 (fun _ => none)) 0 19 (some 13)) 14 (fun _ => none)) 0 20 (some 14)) 15 (fun _ => none)) 0 22 (some 15)) 16 (fun _ => none)) 0 23 (some 16)) 17 (fun _ => none)) 0 24 (some 17)) 18 (fun _ => none)) 0 25 (some 18)) 19 (fun _ => none)) 0 26 (some 19)) 20 (fun _ => none)) 0 27 (some 20))) (k := 27) C hin gcX11 inX11 tyX11_ok nmX11 (by decide) fl_Mo_68 rfl rfl ⟨(by decide), rfl⟩ (tyX11_ok 27 (by decide)) rfl rfl (Nat.le_of_ble_eq_true rfl) gs_11_27 (fun _ _ => rfl) (fun _ _ => rfl) (fun b hb => up2_of hb) d_Mo_init_158 ?_
    have hno40 := nok_up (a := 0) (k := 27) (b := 20) hno39 (by decide)
    refine g_aload_n (pc := 161) C d_Mo_init_161 rfl 0 rfl ?_
    refine g_bipush (pc := 162) C (14 : Int32) d_Mo_init_162 (by decide) ?_
    refine g_newa (n := 21) (mc := 20) (ms := 584) (κ := 2) (pc := 164) (lvf := fun ad => [(0, .ref (ad 0))]) (stf := fun ad => [.ref (ad 0)]) C (Or.inr ⟨rfl, rfl, rfl⟩) ac_2 rfl hno40 (by decide) (by decide) (by decide) ⟨Nat.le_of_ble_eq_true rfl, Nat.le_of_ble_eq_true rfl⟩ d_Mo_init_164 (fun ad9 e9 => by simp only [e9 0 (by decide)]) (fun ad9 e9 => by simp only [e9 0 (by decide)]) ?_
    intro ad41 e41
    have hA41 : ∀ i, i < 1 → ad41 i = ad i := fun i hi => (e41 i (by omega)).trans (hA39 i hi)
    have hno41 := nok_new hno40
    refine g_putF (pc := 166) (I' := (va_up (va_up (va_up (va_up (va_up (va_up (va_up (va_up (va_up (va_up (va_up (va_up (va_up (va_up (va_up (va_up (va_up (va_up (va_up (va_up (va_up I 1 (fun _ => 0)) 2 (fun _ => 0)) 3 (fun _ => 0)) 4 (fun _ => 0)) 5 (fun _ => 0)) 6 (fun _ => 0)) 7 (fun _ => 0)) 8 (fun _ => 0)) 9 (fun _ => 0)) 10 (fun _ => 0)) 11 (fun _ => 0)) 12 (fun _ => 0)) 13 (fun _ => 0)) 14 (fun _ => 0)) 15 (fun _ => 0)) 16 (fun _ => 0)) 17 (fun _ => 0)) 18 (fun _ => 0)) 19 (fun _ => 0)) 20 (fun _ => 0)) 21 (fun _ => 0))) (J' := (va_up (va_up (va_up (va_up (va_up (va_up (va_up (va_up (va_up (va_up (va_up (va_up (va_up (va_up (va_up (va_up (va_up (va_up (va_up (va_up (va_up J 1 (fun _ => 0)) 2 (fun _ => 0)) 3 (fun _ => 0)) 4 (fun _ => 0)) 5 (fun _ => 0)) 6 (fun _ => 0)) 7 (fun _ => 0)) 8 (fun _ => 0)) 9 (fun _ => 0)) 10 (fun _ => 0)) 11 (fun _ => 0)) 12 (fun _ => 0)) 13 (fun _ => 0)) 14 (fun _ => 0)) 15 (fun _ => 0)) 16 (fun _ => 0)) 17 (fun _ => 0)) 18 (fun _ => 0)) 19 (fun _ => 0)) 20 (fun _ => 0)) 21 (fun _ => 0))) (N' := (up2 (va_up (up2 (va_up (up2 (va_up (up2 (va_up (up2 (va_up (up2 (va_up (up2 (va_up (up2 (va_up (up2 (va_up (up2 (va_up (up2 (va_up (up2 (va_up (up2 (va_up (up2 (va_up (up2 (va_up (up2 (va_up (up2 (va_up (up2 (va_up (up2 (va_up (up2 (va_up (up2 (va_up N 1 (fun _ => none)) 0 1 (some 1)) 2 (fun _ => none)) 0 2 (some 2)) 3 (fun _ => none)) 0 3 (some 3)) 4 (fun _ => none)) 0 4 (some 4)) 5 (fun _ => none)) 0 5 (some 5)) 6 (fun _ => none)) 0 7 (some 6)) 7 (fun _ => none)) 0 11 (some 7)) 8 (fun _ => none)) 0 12 (some 8)) 9 (fun _ => none)) 0 15 (some 9)) 10 (fun _ => none)) 0 16 (some 10)) 11 (fun _ => none)) 0 17 (some 11)) 12 (fun _ => none)) 0 18 (some 12)) 13 (fun _ => none)) 0 19 (some 13)) 14 (fun _ => none)) 0 20 (some 14)) 15 (fun _ => none)) 0 22 (some 15)) 16 (fun _ => none)) 0 23 (some 16)) 17 (fun _ => none)) 0 24 (some 17)) 18 (fun _ => none)) 0 25 (some 18)) 19 (fun _ => none)) 0 26 (some 19)) 20 (fun _ => none)) 0 27 (some 20)) 21 (fun _ => none)) 0 28 (some 21))) (k := 28) C hin gcX11 inX11 tyX11_ok nmX11 (by decide) fl_Mo_71 rfl rfl ⟨(by decide), rfl⟩ (tyX11_ok 28 (by decide)) rfl rfl (Nat.le_of_ble_eq_true rfl) gs_11_28 (fun _ _ => rfl) (fun _ _ => rfl) (fun b hb => up2_of hb) d_Mo_init_166 ?_
    have hno42 := nok_up (a := 0) (k := 28) (b := 21) hno41 (by decide)
    refine g_aload_n (pc := 169) C d_Mo_init_169 rfl 0 rfl ?_
    refine g_sipush (pc := 170) C (168 : Int32) d_Mo_init_170 (by decide) ?_
    refine g_newa (n := 22) (mc := 21) (ms := 598) (κ := 1) (pc := 173) (lvf := fun ad => [(0, .ref (ad 0))]) (stf := fun ad => [.ref (ad 0)]) C (Or.inl ⟨rfl, rfl, rfl⟩) ac_1 rfl hno42 (by decide) (by decide) (by decide) ⟨Nat.le_of_ble_eq_true rfl, Nat.le_of_ble_eq_true rfl⟩ d_Mo_init_173 (fun ad9 e9 => by simp only [e9 0 (by decide)]) (fun ad9 e9 => by simp only [e9 0 (by decide)]) ?_
    intro ad43 e43
    have hA43 : ∀ i, i < 1 → ad43 i = ad i := fun i hi => (e43 i (by omega)).trans (hA41 i hi)
    have hno43 := nok_new hno42
    refine g_putF (pc := 175) (I' := (va_up (va_up (va_up (va_up (va_up (va_up (va_up (va_up (va_up (va_up (va_up (va_up (va_up (va_up (va_up (va_up (va_up (va_up (va_up (va_up (va_up (va_up I 1 (fun _ => 0)) 2 (fun _ => 0)) 3 (fun _ => 0)) 4 (fun _ => 0)) 5 (fun _ => 0)) 6 (fun _ => 0)) 7 (fun _ => 0)) 8 (fun _ => 0)) 9 (fun _ => 0)) 10 (fun _ => 0)) 11 (fun _ => 0)) 12 (fun _ => 0)) 13 (fun _ => 0)) 14 (fun _ => 0)) 15 (fun _ => 0)) 16 (fun _ => 0)) 17 (fun _ => 0)) 18 (fun _ => 0)) 19 (fun _ => 0)) 20 (fun _ => 0)) 21 (fun _ => 0)) 22 (fun _ => 0))) (J' := (va_up (va_up (va_up (va_up (va_up (va_up (va_up (va_up (va_up (va_up (va_up (va_up (va_up (va_up (va_up (va_up (va_up (va_up (va_up (va_up (va_up (va_up J 1 (fun _ => 0)) 2 (fun _ => 0)) 3 (fun _ => 0)) 4 (fun _ => 0)) 5 (fun _ => 0)) 6 (fun _ => 0)) 7 (fun _ => 0)) 8 (fun _ => 0)) 9 (fun _ => 0)) 10 (fun _ => 0)) 11 (fun _ => 0)) 12 (fun _ => 0)) 13 (fun _ => 0)) 14 (fun _ => 0)) 15 (fun _ => 0)) 16 (fun _ => 0)) 17 (fun _ => 0)) 18 (fun _ => 0)) 19 (fun _ => 0)) 20 (fun _ => 0)) 21 (fun _ => 0)) 22 (fun _ => 0))) (N' := (up2 (va_up (up2 (va_up (up2 (va_up (up2 (va_up (up2 (va_up (up2 (va_up (up2 (va_up (up2 (va_up (up2 (va_up (up2 (va_up (up2 (va_up (up2 (va_up (up2 (va_up (up2 (va_up (up2 (va_up (up2 (va_up (up2 (va_up (up2 (va_up (up2 (va_up (up2 (va_up (up2 (va_up (up2 (va_up N 1 (fun _ => none)) 0 1 (some 1)) 2 (fun _ => none)) 0 2 (some 2)) 3 (fun _ => none)) 0 3 (some 3)) 4 (fun _ => none)) 0 4 (some 4)) 5 (fun _ => none)) 0 5 (some 5)) 6 (fun _ => none)) 0 7 (some 6)) 7 (fun _ => none)) 0 11 (some 7)) 8 (fun _ => none)) 0 12 (some 8)) 9 (fun _ => none)) 0 15 (some 9)) 10 (fun _ => none)) 0 16 (some 10)) 11 (fun _ => none)) 0 17 (some 11)) 12 (fun _ => none)) 0 18 (some 12)) 13 (fun _ => none)) 0 19 (some 13)) 14 (fun _ => none)) 0 20 (some 14)) 15 (fun _ => none)) 0 22 (some 15)) 16 (fun _ => none)) 0 23 (some 16)) 17 (fun _ => none)) 0 24 (some 17)) 18 (fun _ => none)) 0 25 (some 18)) 19 (fun _ => none)) 0 26 (some 19)) 20 (fun _ => none)) 0 27 (some 20)) 21 (fun _ => none)) 0 28 (some 21)) 22 (fun _ => none)) 0 29 (some 22))) (k := 29) C hin gcX11 inX11 tyX11_ok nmX11 (by decide) fl_Mo_74 rfl rfl ⟨(by decide), rfl⟩ (tyX11_ok 29 (by decide)) rfl rfl (Nat.le_of_ble_eq_true rfl) gs_11_29 (fun _ _ => rfl) (fun _ _ => rfl) (fun b hb => up2_of hb) d_Mo_init_175 ?_
    have hno44 := nok_up (a := 0) (k := 29) (b := 22) hno43 (by decide)
    refine g_aload_n (pc := 178) C d_Mo_init_178 rfl 0 rfl ?_
    refine g_bipush (pc := 179) C (12 : Int32) d_Mo_init_179 (by decide) ?_
    refine g_newa (n := 23) (mc := 22) (ms := 766) (κ := 1) (pc := 181) (lvf := fun ad => [(0, .ref (ad 0))]) (stf := fun ad => [.ref (ad 0)]) C (Or.inl ⟨rfl, rfl, rfl⟩) ac_1 rfl hno44 (by decide) (by decide) (by decide) ⟨Nat.le_of_ble_eq_true rfl, Nat.le_of_ble_eq_true rfl⟩ d_Mo_init_181 (fun ad9 e9 => by simp only [e9 0 (by decide)]) (fun ad9 e9 => by simp only [e9 0 (by decide)]) ?_
    intro ad45 e45
    have hA45 : ∀ i, i < 1 → ad45 i = ad i := fun i hi => (e45 i (by omega)).trans (hA43 i hi)
    have hno45 := nok_new hno44
    refine g_putF (pc := 183) (I' := (va_up (va_up (va_up (va_up (va_up (va_up (va_up (va_up (va_up (va_up (va_up (va_up (va_up (va_up (va_up (va_up (va_up (va_up (va_up (va_up (va_up (va_up (va_up I 1 (fun _ => 0)) 2 (fun _ => 0)) 3 (fun _ => 0)) 4 (fun _ => 0)) 5 (fun _ => 0)) 6 (fun _ => 0)) 7 (fun _ => 0)) 8 (fun _ => 0)) 9 (fun _ => 0)) 10 (fun _ => 0)) 11 (fun _ => 0)) 12 (fun _ => 0)) 13 (fun _ => 0)) 14 (fun _ => 0)) 15 (fun _ => 0)) 16 (fun _ => 0)) 17 (fun _ => 0)) 18 (fun _ => 0)) 19 (fun _ => 0)) 20 (fun _ => 0)) 21 (fun _ => 0)) 22 (fun _ => 0)) 23 (fun _ => 0))) (J' := (va_up (va_up (va_up (va_up (va_up (va_up (va_up (va_up (va_up (va_up (va_up (va_up (va_up (va_up (va_up (va_up (va_up (va_up (va_up (va_up (va_up (va_up (va_up J 1 (fun _ => 0)) 2 (fun _ => 0)) 3 (fun _ => 0)) 4 (fun _ => 0)) 5 (fun _ => 0)) 6 (fun _ => 0)) 7 (fun _ => 0)) 8 (fun _ => 0)) 9 (fun _ => 0)) 10 (fun _ => 0)) 11 (fun _ => 0)) 12 (fun _ => 0)) 13 (fun _ => 0)) 14 (fun _ => 0)) 15 (fun _ => 0)) 16 (fun _ => 0)) 17 (fun _ => 0)) 18 (fun _ => 0)) 19 (fun _ => 0)) 20 (fun _ => 0)) 21 (fun _ => 0)) 22 (fun _ => 0)) 23 (fun _ => 0))) (N' := (up2 (va_up (up2 (va_up (up2 (va_up (up2 (va_up (up2 (va_up (up2 (va_up (up2 (va_up (up2 (va_up (up2 (va_up (up2 (va_up (up2 (va_up (up2 (va_up (up2 (va_up (up2 (va_up (up2 (va_up (up2 (va_up (up2 (va_up (up2 (va_up (up2 (va_up (up2 (va_up (up2 (va_up (up2 (va_up (up2 (va_up N 1 (fun _ => none)) 0 1 (some 1)) 2 (fun _ => none)) 0 2 (some 2)) 3 (fun _ => none)) 0 3 (some 3)) 4 (fun _ => none)) 0 4 (some 4)) 5 (fun _ => none)) 0 5 (some 5)) 6 (fun _ => none)) 0 7 (some 6)) 7 (fun _ => none)) 0 11 (some 7)) 8 (fun _ => none)) 0 12 (some 8)) 9 (fun _ => none)) 0 15 (some 9)) 10 (fun _ => none)) 0 16 (some 10)) 11 (fun _ => none)) 0 17 (some 11)) 12 (fun _ => none)) 0 18 (some 12)) 13 (fun _ => none)) 0 19 (some 13)) 14 (fun _ => none)) 0 20 (some 14)) 15 (fun _ => none)) 0 22 (some 15)) 16 (fun _ => none)) 0 23 (some 16)) 17 (fun _ => none)) 0 24 (some 17)) 18 (fun _ => none)) 0 25 (some 18)) 19 (fun _ => none)) 0 26 (some 19)) 20 (fun _ => none)) 0 27 (some 20)) 21 (fun _ => none)) 0 28 (some 21)) 22 (fun _ => none)) 0 29 (some 22)) 23 (fun _ => none)) 0 30 (some 23))) (k := 30) C hin gcX11 inX11 tyX11_ok nmX11 (by decide) fl_Mo_77 rfl rfl ⟨(by decide), rfl⟩ (tyX11_ok 30 (by decide)) rfl rfl (Nat.le_of_ble_eq_true rfl) gs_11_30 (fun _ _ => rfl) (fun _ _ => rfl) (fun b hb => up2_of hb) d_Mo_init_183 ?_
    have hno46 := nok_up (a := 0) (k := 30) (b := 23) hno45 (by decide)
    refine g_aload_n (pc := 186) C d_Mo_init_186 rfl 0 rfl ?_
    refine g_bipush (pc := 187) C (14 : Int32) d_Mo_init_187 (by decide) ?_
    refine g_newa (n := 24) (mc := 23) (ms := 778) (κ := 1) (pc := 189) (lvf := fun ad => [(0, .ref (ad 0))]) (stf := fun ad => [.ref (ad 0)]) C (Or.inl ⟨rfl, rfl, rfl⟩) ac_1 rfl hno46 (by decide) (by decide) (by decide) ⟨Nat.le_of_ble_eq_true rfl, Nat.le_of_ble_eq_true rfl⟩ d_Mo_init_189 (fun ad9 e9 => by simp only [e9 0 (by decide)]) (fun ad9 e9 => by simp only [e9 0 (by decide)]) ?_
    intro ad47 e47
    have hA47 : ∀ i, i < 1 → ad47 i = ad i := fun i hi => (e47 i (by omega)).trans (hA45 i hi)
    have hno47 := nok_new hno46
    refine g_putF (pc := 191) (I' := (va_up (va_up (va_up (va_up (va_up (va_up (va_up (va_up (va_up (va_up (va_up (va_up (va_up (va_up (va_up (va_up (va_up (va_up (va_up (va_up (va_up (va_up (va_up (va_up I 1 (fun _ => 0)) 2 (fun _ => 0)) 3 (fun _ => 0)) 4 (fun _ => 0)) 5 (fun _ => 0)) 6 (fun _ => 0)) 7 (fun _ => 0)) 8 (fun _ => 0)) 9 (fun _ => 0)) 10 (fun _ => 0)) 11 (fun _ => 0)) 12 (fun _ => 0)) 13 (fun _ => 0)) 14 (fun _ => 0)) 15 (fun _ => 0)) 16 (fun _ => 0)) 17 (fun _ => 0)) 18 (fun _ => 0)) 19 (fun _ => 0)) 20 (fun _ => 0)) 21 (fun _ => 0)) 22 (fun _ => 0)) 23 (fun _ => 0)) 24 (fun _ => 0))) (J' := (va_up (va_up (va_up (va_up (va_up (va_up (va_up (va_up (va_up (va_up (va_up (va_up (va_up (va_up (va_up (va_up (va_up (va_up (va_up (va_up (va_up (va_up (va_up (va_up J 1 (fun _ => 0)) 2 (fun _ => 0)) 3 (fun _ => 0)) 4 (fun _ => 0)) 5 (fun _ => 0)) 6 (fun _ => 0)) 7 (fun _ => 0)) 8 (fun _ => 0)) 9 (fun _ => 0)) 10 (fun _ => 0)) 11 (fun _ => 0)) 12 (fun _ => 0)) 13 (fun _ => 0)) 14 (fun _ => 0)) 15 (fun _ => 0)) 16 (fun _ => 0)) 17 (fun _ => 0)) 18 (fun _ => 0)) 19 (fun _ => 0)) 20 (fun _ => 0)) 21 (fun _ => 0)) 22 (fun _ => 0)) 23 (fun _ => 0)) 24 (fun _ => 0))) (N' := (up2 (va_up (up2 (va_up (up2 (va_up (up2 (va_up (up2 (va_up (up2 (va_up (up2 (va_up (up2 (va_up (up2 (va_up (up2 (va_up (up2 (va_up (up2 (va_up (up2 (va_up (up2 (va_up (up2 (va_up (up2 (va_up (up2 (va_up (up2 (va_up (up2 (va_up (up2 (va_up (up2 (va_up (up2 (va_up (up2 (va_up (up2 (va_up N 1 (fun _ => none)) 0 1 (some 1)) 2 (fun _ => none)) 0 2 (some 2)) 3 (fun _ => none)) 0 3 (some 3)) 4 (fun _ => none)) 0 4 (some 4)) 5 (fun _ => none)) 0 5 (some 5)) 6 (fun _ => none)) 0 7 (some 6)) 7 (fun _ => none)) 0 11 (some 7)) 8 (fun _ => none)) 0 12 (some 8)) 9 (fun _ => none)) 0 15 (some 9)) 10 (fun _ => none)) 0 16 (some 10)) 11 (fun _ => none)) 0 17 (some 11)) 12 (fun _ => none)) 0 18 (some 12)) 13 (fun _ => none)) 0 19 (some 13)) 14 (fun _ => none)) 0 20 (some 14)) 15 (fun _ => none)) 0 22 (some 15)) 16 (fun _ => none)) 0 23 (some 16)) 17 (fun _ => none)) 0 24 (some 17)) 18 (fun _ => none)) 0 25 (some 18)) 19 (fun _ => none)) 0 26 (some 19)) 20 (fun _ => none)) 0 27 (some 20)) 21 (fun _ => none)) 0 28 (some 21)) 22 (fun _ => none)) 0 29 (some 22)) 23 (fun _ => none)) 0 30 (some 23)) 24 (fun _ => none)) 0 32 (some 24))) (k := 32) C hin gcX11 inX11 tyX11_ok nmX11 (by decide) fl_Mo_80 rfl rfl ⟨(by decide), rfl⟩ (tyX11_ok 32 (by decide)) rfl rfl (Nat.le_of_ble_eq_true rfl) gs_11_32 (fun _ _ => rfl) (fun _ _ => rfl) (fun b hb => up2_of hb) d_Mo_init_191 ?_
    have hno48 := nok_up (a := 0) (k := 32) (b := 24) hno47 (by decide)
    refine g_iconst (pc := 194) C (0 : Int32) d_Mo_init_194 (by decide) ?_
    refine g_istore_n (pc := 195) (lv' := [(1, .int (0 : Int32)), (0, .ref (ad47 0))]) C d_Mo_init_195 rfl (by decide) rfl ?_
    refine g_iload_n (pc := 196) C d_Mo_init_196 rfl 0 rfl ?_
    refine g_iconst (pc := 197) C (3 : Int32) d_Mo_init_197 (by decide) ?_
    refine g_icmp_ge (pc := 198) C 214 d_Mo_init_198 rfl (fun e => absurd e (by decide)) (fun _ => ?_)
    refine g_aload_n (pc := 201) C d_Mo_init_201 rfl 1 rfl ?_
    refine g_get (pc := 202) (k := 1) (v := va_rf (((up2 (va_up (up2 (va_up (up2 (va_up (up2 (va_up (up2 (va_up (up2 (va_up (up2 (va_up (up2 (va_up (up2 (va_up (up2 (va_up (up2 (va_up (up2 (va_up (up2 (va_up (up2 (va_up (up2 (va_up (up2 (va_up (up2 (va_up (up2 (va_up (up2 (va_up (up2 (va_up (up2 (va_up (up2 (va_up (up2 (va_up (up2 (va_up N 1 (fun _ => none)) 0 1 (some 1)) 2 (fun _ => none)) 0 2 (some 2)) 3 (fun _ => none)) 0 3 (some 3)) 4 (fun _ => none)) 0 4 (some 4)) 5 (fun _ => none)) 0 5 (some 5)) 6 (fun _ => none)) 0 7 (some 6)) 7 (fun _ => none)) 0 11 (some 7)) 8 (fun _ => none)) 0 12 (some 8)) 9 (fun _ => none)) 0 15 (some 9)) 10 (fun _ => none)) 0 16 (some 10)) 11 (fun _ => none)) 0 17 (some 11)) 12 (fun _ => none)) 0 18 (some 12)) 13 (fun _ => none)) 0 19 (some 13)) 14 (fun _ => none)) 0 20 (some 14)) 15 (fun _ => none)) 0 22 (some 15)) 16 (fun _ => none)) 0 23 (some 16)) 17 (fun _ => none)) 0 24 (some 17)) 18 (fun _ => none)) 0 25 (some 18)) 19 (fun _ => none)) 0 26 (some 19)) 20 (fun _ => none)) 0 27 (some 20)) 21 (fun _ => none)) 0 28 (some 21)) 22 (fun _ => none)) 0 29 (some 22)) 23 (fun _ => none)) 0 30 (some 23)) 24 (fun _ => none)) 0 32 (some 24)) 0 1).map ad47)) C gcX11 inX11 (by decide) fl_Mo_7 ⟨(by decide), rfl⟩ rfl d_Mo_init_202 ?_
    refine g_top (g_rf (b := 1) rfl) ?_
    refine g_iload_n (pc := 205) C d_Mo_init_205 rfl 0 rfl ?_
    refine g_iconst (pc := 206) C (-1 : Int32) d_Mo_init_206 (by decide) ?_
    refine g_iast (pc := 207) C ⟨by decide, rfl⟩ (by decide) d_Mo_init_207 ?_
    refine g_iinc (pc := 208) (q := 0) (lv' := [(1, .int (1 : Int32)), (0, .ref (ad47 0))]) C d_Mo_init_208 rfl (by decide) (by decide) rfl ?_
    refine g_goto (pc := 211) C 196 d_Mo_init_211 rfl ?_
    refine g_iload_n (pc := 196) C d_Mo_init_196 rfl 0 rfl ?_
    refine g_iconst (pc := 197) C (3 : Int32) d_Mo_init_197 (by decide) ?_
    refine g_icmp_ge (pc := 198) C 214 d_Mo_init_198 rfl (fun e => absurd e (by decide)) (fun _ => ?_)
    refine g_aload_n (pc := 201) C d_Mo_init_201 rfl 1 rfl ?_
    refine g_get (pc := 202) (k := 1) (v := va_rf (((up2 (va_up (up2 (va_up (up2 (va_up (up2 (va_up (up2 (va_up (up2 (va_up (up2 (va_up (up2 (va_up (up2 (va_up (up2 (va_up (up2 (va_up (up2 (va_up (up2 (va_up (up2 (va_up (up2 (va_up (up2 (va_up (up2 (va_up (up2 (va_up (up2 (va_up (up2 (va_up (up2 (va_up (up2 (va_up (up2 (va_up (up2 (va_up N 1 (fun _ => none)) 0 1 (some 1)) 2 (fun _ => none)) 0 2 (some 2)) 3 (fun _ => none)) 0 3 (some 3)) 4 (fun _ => none)) 0 4 (some 4)) 5 (fun _ => none)) 0 5 (some 5)) 6 (fun _ => none)) 0 7 (some 6)) 7 (fun _ => none)) 0 11 (some 7)) 8 (fun _ => none)) 0 12 (some 8)) 9 (fun _ => none)) 0 15 (some 9)) 10 (fun _ => none)) 0 16 (some 10)) 11 (fun _ => none)) 0 17 (some 11)) 12 (fun _ => none)) 0 18 (some 12)) 13 (fun _ => none)) 0 19 (some 13)) 14 (fun _ => none)) 0 20 (some 14)) 15 (fun _ => none)) 0 22 (some 15)) 16 (fun _ => none)) 0 23 (some 16)) 17 (fun _ => none)) 0 24 (some 17)) 18 (fun _ => none)) 0 25 (some 18)) 19 (fun _ => none)) 0 26 (some 19)) 20 (fun _ => none)) 0 27 (some 20)) 21 (fun _ => none)) 0 28 (some 21)) 22 (fun _ => none)) 0 29 (some 22)) 23 (fun _ => none)) 0 30 (some 23)) 24 (fun _ => none)) 0 32 (some 24)) 0 1).map ad47)) C gcX11 inX11 (by decide) fl_Mo_7 ⟨(by decide), rfl⟩ rfl d_Mo_init_202 ?_
    refine g_top (g_rf (b := 1) rfl) ?_
    refine g_iload_n (pc := 205) C d_Mo_init_205 rfl 0 rfl ?_
    refine g_iconst (pc := 206) C (-1 : Int32) d_Mo_init_206 (by decide) ?_
    refine g_iast (pc := 207) C ⟨by decide, rfl⟩ (by decide) d_Mo_init_207 ?_
    refine g_iinc (pc := 208) (q := 0) (lv' := [(1, .int (2 : Int32)), (0, .ref (ad47 0))]) C d_Mo_init_208 rfl (by decide) (by decide) rfl ?_
    refine g_goto (pc := 211) C 196 d_Mo_init_211 rfl ?_
    refine g_iload_n (pc := 196) C d_Mo_init_196 rfl 0 rfl ?_
    refine g_iconst (pc := 197) C (3 : Int32) d_Mo_init_197 (by decide) ?_
    refine g_icmp_ge (pc := 198) C 214 d_Mo_init_198 rfl (fun e => absurd e (by decide)) (fun _ => ?_)
    refine g_aload_n (pc := 201) C d_Mo_init_201 rfl 1 rfl ?_
    refine g_get (pc := 202) (k := 1) (v := va_rf (((up2 (va_up (up2 (va_up (up2 (va_up (up2 (va_up (up2 (va_up (up2 (va_up (up2 (va_up (up2 (va_up (up2 (va_up (up2 (va_up (up2 (va_up (up2 (va_up (up2 (va_up (up2 (va_up (up2 (va_up (up2 (va_up (up2 (va_up (up2 (va_up (up2 (va_up (up2 (va_up (up2 (va_up (up2 (va_up (up2 (va_up (up2 (va_up N 1 (fun _ => none)) 0 1 (some 1)) 2 (fun _ => none)) 0 2 (some 2)) 3 (fun _ => none)) 0 3 (some 3)) 4 (fun _ => none)) 0 4 (some 4)) 5 (fun _ => none)) 0 5 (some 5)) 6 (fun _ => none)) 0 7 (some 6)) 7 (fun _ => none)) 0 11 (some 7)) 8 (fun _ => none)) 0 12 (some 8)) 9 (fun _ => none)) 0 15 (some 9)) 10 (fun _ => none)) 0 16 (some 10)) 11 (fun _ => none)) 0 17 (some 11)) 12 (fun _ => none)) 0 18 (some 12)) 13 (fun _ => none)) 0 19 (some 13)) 14 (fun _ => none)) 0 20 (some 14)) 15 (fun _ => none)) 0 22 (some 15)) 16 (fun _ => none)) 0 23 (some 16)) 17 (fun _ => none)) 0 24 (some 17)) 18 (fun _ => none)) 0 25 (some 18)) 19 (fun _ => none)) 0 26 (some 19)) 20 (fun _ => none)) 0 27 (some 20)) 21 (fun _ => none)) 0 28 (some 21)) 22 (fun _ => none)) 0 29 (some 22)) 23 (fun _ => none)) 0 30 (some 23)) 24 (fun _ => none)) 0 32 (some 24)) 0 1).map ad47)) C gcX11 inX11 (by decide) fl_Mo_7 ⟨(by decide), rfl⟩ rfl d_Mo_init_202 ?_
    refine g_top (g_rf (b := 1) rfl) ?_
    refine g_iload_n (pc := 205) C d_Mo_init_205 rfl 0 rfl ?_
    refine g_iconst (pc := 206) C (-1 : Int32) d_Mo_init_206 (by decide) ?_
    refine g_iast (pc := 207) C ⟨by decide, rfl⟩ (by decide) d_Mo_init_207 ?_
    refine g_iinc (pc := 208) (q := 0) (lv' := [(1, .int (3 : Int32)), (0, .ref (ad47 0))]) C d_Mo_init_208 rfl (by decide) (by decide) rfl ?_
    refine g_goto (pc := 211) C 196 d_Mo_init_211 rfl ?_
    refine g_iload_n (pc := 196) C d_Mo_init_196 rfl 0 rfl ?_
    refine g_iconst (pc := 197) C (3 : Int32) d_Mo_init_197 (by decide) ?_
    refine g_icmp_ge (pc := 198) C 214 d_Mo_init_198 rfl (fun _ => ?_) (fun e => absurd (by decide) e)
    exact g_vretn (pc := 214) C hA47 d_Mo_init_214
