theorem d_La_item_0 : decode c_La_item 0 = .ok (.iload_n 1, 1) := by decide +kernel
theorem d_La_item_1 : decode c_La_item 1 = .ok (.ifCond .lt 30, 3) := by decide +kernel
theorem d_La_item_4 : decode c_La_item 4 = .ok (.iload_n 1, 1) := by decide +kernel
theorem d_La_item_5 : decode c_La_item 5 = .ok (.aload_n 0, 1) := by decide +kernel
theorem d_La_item_6 : decode c_La_item 6 = .ok (.getfield 16, 3) := by decide +kernel
theorem d_La_item_9 : decode c_La_item 9 = .ok (.if_icmp .ge 22, 3) := by decide +kernel
theorem d_La_item_12 : decode c_La_item 12 = .ok (.iload_n 1, 1) := by decide +kernel
theorem d_La_item_13 : decode c_La_item 13 = .ok (.bipush 6, 2) := by decide +kernel
theorem d_La_item_15 : decode c_La_item 15 = .ok (.if_icmp .ge 16, 3) := by decide +kernel
theorem d_La_item_18 : decode c_La_item 18 = .ok (.iload_n 2, 1) := by decide +kernel
theorem d_La_item_19 : decode c_La_item 19 = .ok (.ifCond .lt 12, 3) := by decide +kernel
theorem d_La_item_22 : decode c_La_item 22 = .ok (.iload_n 2, 1) := by decide +kernel
theorem d_La_item_23 : decode c_La_item 23 = .ok (.iconst 5, 1) := by decide +kernel
theorem d_La_item_24 : decode c_La_item 24 = .ok (.if_icmp .ge 7, 3) := by decide +kernel
theorem d_La_item_27 : decode c_La_item 27 = .ok (.iconst 1, 1) := by decide +kernel
theorem d_La_item_28 : decode c_La_item 28 = .ok (.goto 4, 3) := by decide +kernel
theorem d_La_item_31 : decode c_La_item 31 = .ok (.iconst 0, 1) := by decide +kernel
theorem d_La_item_32 : decode c_La_item 32 = .ok (.istore_n 3, 1) := by decide +kernel
theorem d_La_item_33 : decode c_La_item 33 = .ok (.iload_n 3, 1) := by decide +kernel
theorem d_La_item_34 : decode c_La_item 34 = .ok (.ifCond .eq 14, 3) := by decide +kernel
theorem d_La_item_37 : decode c_La_item 37 = .ok (.aload_n 0, 1) := by decide +kernel
theorem d_La_item_38 : decode c_La_item 38 = .ok (.getfield 11, 3) := by decide +kernel
theorem d_La_item_41 : decode c_La_item 41 = .ok (.iload_n 1, 1) := by decide +kernel
theorem d_La_item_42 : decode c_La_item 42 = .ok (.aaload, 1) := by decide +kernel
theorem d_La_item_43 : decode c_La_item 43 = .ok (.iload_n 2, 1) := by decide +kernel
theorem d_La_item_44 : decode c_La_item 44 = .ok (.iaload, 1) := by decide +kernel
theorem d_La_item_45 : decode c_La_item 45 = .ok (.goto 4, 3) := by decide +kernel
theorem d_La_item_48 : decode c_La_item 48 = .ok (.iconst 0, 1) := by decide +kernel
theorem d_La_item_49 : decode c_La_item 49 = .ok (.ireturn, 1) := by decide +kernel
set_option maxRecDepth 20000 in
theorem w_La_item_32 {X : HX} {ad : Nat → Nat} {I : HI} {J : HJ} {N : HN} {r : Int32} {a0 : Nat} {p1 : Int32} {p2 : Int32} {s0 : Int32} (C : Cx X c_La_item RX3 4 (some .int) rm_La_item) (ha0 : gk Tc nC a0 (0, 3))
    (h : La_item_32 I N a0 p1 p2 s0 = some r) : G Tc X ad nC 0 0 I J N (gE X Tc ad nC (I, J, N, fun _ => some (.int r))) 32 4 [(0, .ref (ad a0)), (1, .int p1), (2, .int p2)] [.int s0] := by
  refine g_istore_n (pc := 32) (lv' := [(3, .int s0), (0, .ref (ad a0)), (1, .int p1), (2, .int p2)]) C d_La_item_32 rfl (by decide) rfl ?_
  refine g_iload_n (pc := 33) C d_La_item_33 rfl 0 rfl ?_
  refine g_if_eq (pc := 34) C 48 d_La_item_34 rfl (fun e1 => ?_) (fun e1 => ?_)
  · have h := o_pos e1 h
    refine g_iconst (pc := 48) C (0 : Int32) d_La_item_48 (by decide) ?_
    obtain rfl := o_ret h
    exact g_iret (pc := 49) C d_La_item_49
  · have h := o_neg e1 h
    refine g_aload_n (pc := 37) C d_La_item_37 rfl 1 rfl ?_
    obtain ⟨b2, hnb2, hb2, h⟩ := o_ra h
    refine g_get (pc := 38) (k := 0) (v := va_rf ((N a0 0).map ad)) C gcX3 inX3 (by decide) fl_La_11 ha0 rfl d_La_item_38 ?_
    refine g_top (g_rf hnb2) ?_
    refine g_iload_n (pc := 41) C d_La_item_41 rfl 2 rfl ?_
    obtain ⟨hi3, h⟩ := o_gd h
    obtain ⟨b4, hnb4, hb4, h⟩ := o_ra h
    refine g_aald (pc := 42) 3 2 C hb2 (Or.inl ⟨rfl, rfl, rfl⟩) hi3 hnb4 d_La_item_42 ?_
    refine g_iload_n (pc := 43) C d_La_item_43 rfl 3 rfl ?_
    obtain ⟨hi5, h⟩ := o_gd h
    refine g_iald (pc := 44) C hb4 hi5 d_La_item_44 ?_
    refine g_goto (pc := 45) C 49 d_La_item_45 rfl ?_
    obtain rfl := o_ret h
    exact g_iret (pc := 49) C d_La_item_49
set_option maxRecDepth 20000 in
theorem w_La_item_31 {X : HX} {ad : Nat → Nat} {I : HI} {J : HJ} {N : HN} {r : Int32} {a0 : Nat} {p1 : Int32} {p2 : Int32} (C : Cx X c_La_item RX3 4 (some .int) rm_La_item) (ha0 : gk Tc nC a0 (0, 3))
    (h : La_item_31 I N a0 p1 p2 = some r) : G Tc X ad nC 0 0 I J N (gE X Tc ad nC (I, J, N, fun _ => some (.int r))) 31 4 [(0, .ref (ad a0)), (1, .int p1), (2, .int p2)] [] := by
  refine g_iconst (pc := 31) C (0 : Int32) d_La_item_31 (by decide) ?_
  refine g_lv [0, 1, 2] rfl ?_
  exact w_La_item_32 C ha0 h
set_option maxRecDepth 20000 in
theorem w_La_item_0 {X : HX} {ad : Nat → Nat} {I : HI} {J : HJ} {N : HN} {r : Int32} {a0 : Nat} {p1 : Int32} {p2 : Int32} (C : Cx X c_La_item RX3 4 (some .int) rm_La_item) (ha0 : gk Tc nC a0 (0, 3))
    (h : La_item_0 I N a0 p1 p2 = some r) : G Tc X ad nC 0 0 I J N (gE X Tc ad nC (I, J, N, fun _ => some (.int r))) 0 4 [(0, .ref (ad a0)), (1, .int p1), (2, .int p2)] [] := by
  refine g_iload_n (pc := 0) C d_La_item_0 rfl 1 rfl ?_
  refine g_if_lt (pc := 1) C 31 d_La_item_1 rfl (fun e1 => ?_) (fun e1 => ?_)
  · have h := o_pos e1 h
    refine g_lv [0, 1, 2] rfl ?_
    exact w_La_item_31 C ha0 h
  · have h := o_neg e1 h
    refine g_iload_n (pc := 4) C d_La_item_4 rfl 1 rfl ?_
    refine g_aload_n (pc := 5) C d_La_item_5 rfl 0 rfl ?_
    refine g_get (pc := 6) (k := 1) (v := .int (I a0 1)) C gcX3 inX3 (by decide) fl_La_16 ha0 rfl d_La_item_6 ?_
    refine g_icmp_ge (pc := 9) C 31 d_La_item_9 rfl (fun e2 => ?_) (fun e2 => ?_)
    · have h := o_pos e2 h
      refine g_lv [0, 1, 2] rfl ?_
      exact w_La_item_31 C ha0 h
    · have h := o_neg e2 h
      refine g_iload_n (pc := 12) C d_La_item_12 rfl 1 rfl ?_
      refine g_bipush (pc := 13) C (6 : Int32) d_La_item_13 (by decide) ?_
      refine g_icmp_ge (pc := 15) C 31 d_La_item_15 rfl (fun e3 => ?_) (fun e3 => ?_)
      · have h := o_pos e3 h
        refine g_lv [0, 1, 2] rfl ?_
        exact w_La_item_31 C ha0 h
      · have h := o_neg e3 h
        refine g_iload_n (pc := 18) C d_La_item_18 rfl 2 rfl ?_
        refine g_if_lt (pc := 19) C 31 d_La_item_19 rfl (fun e4 => ?_) (fun e4 => ?_)
        · have h := o_pos e4 h
          refine g_lv [0, 1, 2] rfl ?_
          exact w_La_item_31 C ha0 h
        · have h := o_neg e4 h
          refine g_iload_n (pc := 22) C d_La_item_22 rfl 2 rfl ?_
          refine g_iconst (pc := 23) C (5 : Int32) d_La_item_23 (by decide) ?_
          refine g_icmp_ge (pc := 24) C 31 d_La_item_24 rfl (fun e5 => ?_) (fun e5 => ?_)
          · have h := o_pos e5 h
            refine g_lv [0, 1, 2] rfl ?_
            exact w_La_item_31 C ha0 h
          · have h := o_neg e5 h
            refine g_iconst (pc := 27) C (1 : Int32) d_La_item_27 (by decide) ?_
            refine g_goto (pc := 28) C 32 d_La_item_28 rfl ?_
            refine g_lv [0, 1, 2] rfl ?_
            exact w_La_item_32 C ha0 h
set_option maxRecDepth 20000 in
theorem k_La_item (l : Launch) {I : HI} {J : HJ} {N : HN} {a0 : Nat} {p1 : Int32} {p2 : Int32} {r : Int32} (ha0 : gk Tc nC a0 (0, 3)) (h : La_item I N a0 p1 p2 = some r) : gM l y_La_item c_La_item 4 (some .int) rm_La_item Tc nC I J N (fun ad => [.ref (ad a0), .int p1, .int p2]) (I, J, N, fun _ => some (.int r)) :=
  g_meth (lv := fun ad => [(0, .ref (ad a0)), (1, .int p1), (2, .int p2)]) (by decide) (fun _ => Nat.le_of_ble_eq_true rfl) (fun _ => rfl) (fun X ad C => g_lv [0, 1, 2] rfl (w_La_item_0 C ha0 h))
theorem d_Bi_addPart_0 : decode c_Bi_addPart 0 = .ok (.iload_n 2, 1) := by decide +kernel
theorem d_Bi_addPart_1 : decode c_Bi_addPart 1 = .ok (.ifCond .ne 4, 3) := by decide +kernel
theorem d_Bi_addPart_4 : decode c_Bi_addPart 4 = .ok (.return_, 1) := by decide +kernel
theorem d_Bi_addPart_5 : decode c_Bi_addPart 5 = .ok (.iconst 0, 1) := by decide +kernel
theorem d_Bi_addPart_6 : decode c_Bi_addPart 6 = .ok (.istore 4, 2) := by decide +kernel
theorem d_Bi_addPart_8 : decode c_Bi_addPart 8 = .ok (.iload 4, 2) := by decide +kernel
theorem d_Bi_addPart_10 : decode c_Bi_addPart 10 = .ok (.aload_n 0, 1) := by decide +kernel
theorem d_Bi_addPart_11 : decode c_Bi_addPart 11 = .ok (.getfield 16, 3) := by decide +kernel
theorem d_Bi_addPart_14 : decode c_Bi_addPart 14 = .ok (.if_icmp .ge 58, 3) := by decide +kernel
theorem d_Bi_addPart_17 : decode c_Bi_addPart 17 = .ok (.iload 4, 2) := by decide +kernel
theorem d_Bi_addPart_19 : decode c_Bi_addPart 19 = .ok (.bipush 6, 2) := by decide +kernel
theorem d_Bi_addPart_21 : decode c_Bi_addPart 21 = .ok (.if_icmp .ge 51, 3) := by decide +kernel
theorem d_Bi_addPart_24 : decode c_Bi_addPart 24 = .ok (.aload_n 0, 1) := by decide +kernel
theorem d_Bi_addPart_25 : decode c_Bi_addPart 25 = .ok (.getfield 11, 3) := by decide +kernel
theorem d_Bi_addPart_28 : decode c_Bi_addPart 28 = .ok (.iload 4, 2) := by decide +kernel
theorem d_Bi_addPart_30 : decode c_Bi_addPart 30 = .ok (.aaload, 1) := by decide +kernel
theorem d_Bi_addPart_31 : decode c_Bi_addPart 31 = .ok (.astore 5, 2) := by decide +kernel
theorem d_Bi_addPart_33 : decode c_Bi_addPart 33 = .ok (.aload 5, 2) := by decide +kernel
theorem d_Bi_addPart_35 : decode c_Bi_addPart 35 = .ok (.iconst 0, 1) := by decide +kernel
theorem d_Bi_addPart_36 : decode c_Bi_addPart 36 = .ok (.iaload, 1) := by decide +kernel
theorem d_Bi_addPart_37 : decode c_Bi_addPart 37 = .ok (.iload_n 1, 1) := by decide +kernel
theorem d_Bi_addPart_38 : decode c_Bi_addPart 38 = .ok (.if_icmp .ne 28, 3) := by decide +kernel
theorem d_Bi_addPart_41 : decode c_Bi_addPart 41 = .ok (.aload 5, 2) := by decide +kernel
theorem d_Bi_addPart_43 : decode c_Bi_addPart 43 = .ok (.iconst 1, 1) := by decide +kernel
theorem d_Bi_addPart_44 : decode c_Bi_addPart 44 = .ok (.iaload, 1) := by decide +kernel
theorem d_Bi_addPart_45 : decode c_Bi_addPart 45 = .ok (.iload_n 2, 1) := by decide +kernel
theorem d_Bi_addPart_46 : decode c_Bi_addPart 46 = .ok (.if_icmp .ne 20, 3) := by decide +kernel
theorem d_Bi_addPart_49 : decode c_Bi_addPart 49 = .ok (.aload 5, 2) := by decide +kernel
theorem d_Bi_addPart_51 : decode c_Bi_addPart 51 = .ok (.iconst 2, 1) := by decide +kernel
theorem d_Bi_addPart_52 : decode c_Bi_addPart 52 = .ok (.iaload, 1) := by decide +kernel
theorem d_Bi_addPart_53 : decode c_Bi_addPart 53 = .ok (.iload_n 3, 1) := by decide +kernel
theorem d_Bi_addPart_54 : decode c_Bi_addPart 54 = .ok (.if_icmp .ne 12, 3) := by decide +kernel
theorem d_Bi_addPart_57 : decode c_Bi_addPart 57 = .ok (.aload 5, 2) := by decide +kernel
theorem d_Bi_addPart_59 : decode c_Bi_addPart 59 = .ok (.iconst 3, 1) := by decide +kernel
theorem d_Bi_addPart_60 : decode c_Bi_addPart 60 = .ok (.dup2, 1) := by decide +kernel
theorem d_Bi_addPart_61 : decode c_Bi_addPart 61 = .ok (.iaload, 1) := by decide +kernel
theorem d_Bi_addPart_62 : decode c_Bi_addPart 62 = .ok (.iconst 1, 1) := by decide +kernel
theorem d_Bi_addPart_63 : decode c_Bi_addPart 63 = .ok (.iadd, 1) := by decide +kernel
theorem d_Bi_addPart_64 : decode c_Bi_addPart 64 = .ok (.iastore, 1) := by decide +kernel
theorem d_Bi_addPart_65 : decode c_Bi_addPart 65 = .ok (.return_, 1) := by decide +kernel
theorem d_Bi_addPart_66 : decode c_Bi_addPart 66 = .ok (.iinc 4 1, 3) := by decide +kernel
theorem d_Bi_addPart_69 : decode c_Bi_addPart 69 = .ok (.goto (-61), 3) := by decide +kernel
theorem d_Bi_addPart_72 : decode c_Bi_addPart 72 = .ok (.aload_n 0, 1) := by decide +kernel
theorem d_Bi_addPart_73 : decode c_Bi_addPart 73 = .ok (.getfield 16, 3) := by decide +kernel
theorem d_Bi_addPart_76 : decode c_Bi_addPart 76 = .ok (.bipush 6, 2) := by decide +kernel
theorem d_Bi_addPart_78 : decode c_Bi_addPart 78 = .ok (.if_icmp .ge 44, 3) := by decide +kernel
theorem d_Bi_addPart_81 : decode c_Bi_addPart 81 = .ok (.aload_n 0, 1) := by decide +kernel
theorem d_Bi_addPart_82 : decode c_Bi_addPart 82 = .ok (.getfield 11, 3) := by decide +kernel
theorem d_Bi_addPart_85 : decode c_Bi_addPart 85 = .ok (.aload_n 0, 1) := by decide +kernel
theorem d_Bi_addPart_86 : decode c_Bi_addPart 86 = .ok (.getfield 16, 3) := by decide +kernel
theorem d_Bi_addPart_89 : decode c_Bi_addPart 89 = .ok (.aaload, 1) := by decide +kernel
theorem d_Bi_addPart_90 : decode c_Bi_addPart 90 = .ok (.astore 4, 2) := by decide +kernel
theorem d_Bi_addPart_92 : decode c_Bi_addPart 92 = .ok (.aload 4, 2) := by decide +kernel
theorem d_Bi_addPart_94 : decode c_Bi_addPart 94 = .ok (.iconst 0, 1) := by decide +kernel
theorem d_Bi_addPart_95 : decode c_Bi_addPart 95 = .ok (.iload_n 1, 1) := by decide +kernel
theorem d_Bi_addPart_96 : decode c_Bi_addPart 96 = .ok (.iastore, 1) := by decide +kernel
theorem d_Bi_addPart_97 : decode c_Bi_addPart 97 = .ok (.aload 4, 2) := by decide +kernel
theorem d_Bi_addPart_99 : decode c_Bi_addPart 99 = .ok (.iconst 1, 1) := by decide +kernel
theorem d_Bi_addPart_100 : decode c_Bi_addPart 100 = .ok (.iload_n 2, 1) := by decide +kernel
theorem d_Bi_addPart_101 : decode c_Bi_addPart 101 = .ok (.iastore, 1) := by decide +kernel
theorem d_Bi_addPart_102 : decode c_Bi_addPart 102 = .ok (.aload 4, 2) := by decide +kernel
theorem d_Bi_addPart_104 : decode c_Bi_addPart 104 = .ok (.iconst 2, 1) := by decide +kernel
theorem d_Bi_addPart_105 : decode c_Bi_addPart 105 = .ok (.iload_n 3, 1) := by decide +kernel
theorem d_Bi_addPart_106 : decode c_Bi_addPart 106 = .ok (.iastore, 1) := by decide +kernel
theorem d_Bi_addPart_107 : decode c_Bi_addPart 107 = .ok (.aload 4, 2) := by decide +kernel
theorem d_Bi_addPart_109 : decode c_Bi_addPart 109 = .ok (.iconst 3, 1) := by decide +kernel
theorem d_Bi_addPart_110 : decode c_Bi_addPart 110 = .ok (.iconst 1, 1) := by decide +kernel
theorem d_Bi_addPart_111 : decode c_Bi_addPart 111 = .ok (.iastore, 1) := by decide +kernel
theorem d_Bi_addPart_112 : decode c_Bi_addPart 112 = .ok (.aload_n 0, 1) := by decide +kernel
theorem d_Bi_addPart_113 : decode c_Bi_addPart 113 = .ok (.dup, 1) := by decide +kernel
theorem d_Bi_addPart_114 : decode c_Bi_addPart 114 = .ok (.getfield 16, 3) := by decide +kernel
theorem d_Bi_addPart_117 : decode c_Bi_addPart 117 = .ok (.iconst 1, 1) := by decide +kernel
theorem d_Bi_addPart_118 : decode c_Bi_addPart 118 = .ok (.iadd, 1) := by decide +kernel
theorem d_Bi_addPart_119 : decode c_Bi_addPart 119 = .ok (.putfield 16, 3) := by decide +kernel
theorem d_Bi_addPart_122 : decode c_Bi_addPart 122 = .ok (.return_, 1) := by decide +kernel
set_option maxRecDepth 20000 in
theorem w_Bi_addPart_72 {X : HX} {ad : Nat → Nat} {I : HI} {J : HJ} {N : HN} {r : HI} {a0 : Nat} {p1 : Int32} {p2 : Int32} {p3 : Int32} (C : Cx X c_Bi_addPart RX0 6 none rm_Bi_addPart) (ha0 : gk Tc nC a0 (0, 0))
    (h : Bi_addPart_72 N a0 p1 p2 p3 I = some r) : G Tc X ad nC 0 0 I J N (gE X Tc ad nC (r, J, N, fun _ => none)) 72 6 [(0, .ref (ad a0)), (1, .int p1), (2, .int p2), (3, .int p3)] [] := by
  refine g_aload_n (pc := 72) C d_Bi_addPart_72 rfl 0 rfl ?_
  refine g_get (pc := 73) (k := 1) (v := .int (I a0 1)) C gcX0 inX0 (by decide) fl_Bi_16 ha0 rfl d_Bi_addPart_73 ?_
  refine g_bipush (pc := 76) C (6 : Int32) d_Bi_addPart_76 (by decide) ?_
  refine g_icmp_ge (pc := 78) C 122 d_Bi_addPart_78 rfl (fun e1 => ?_) (fun e1 => ?_)
  · have h := o_pos e1 h
    obtain rfl := o_ret h
    exact g_vret (pc := 122) C d_Bi_addPart_122
  · have h := o_neg e1 h
    refine g_aload_n (pc := 81) C d_Bi_addPart_81 rfl 0 rfl ?_
    obtain ⟨b2, hnb2, hb2, h⟩ := o_ra h
    refine g_get (pc := 82) (k := 0) (v := va_rf ((N a0 0).map ad)) C gcX0 inX0 (by decide) fl_Bi_11 ha0 rfl d_Bi_addPart_82 ?_
    refine g_top (g_rf hnb2) ?_
    refine g_aload_n (pc := 85) C d_Bi_addPart_85 rfl 0 rfl ?_
    refine g_get (pc := 86) (k := 1) (v := .int (I a0 1)) C gcX0 inX0 (by decide) fl_Bi_16 ha0 rfl d_Bi_addPart_86 ?_
    obtain ⟨hi3, h⟩ := o_gd h
    obtain ⟨b4, hnb4, hb4, h⟩ := o_ra h
    refine g_aald (pc := 89) 3 2 C hb2 (Or.inl ⟨rfl, rfl, rfl⟩) hi3 hnb4 d_Bi_addPart_89 ?_
    refine g_astore (pc := 90) (lv' := [(4, .ref (ad b4)), (0, .ref (ad a0)), (1, .int p1), (2, .int p2), (3, .int p3)]) C d_Bi_addPart_90 (by decide) rfl ?_
    refine g_aload (pc := 92) C d_Bi_addPart_92 0 rfl ?_
    refine g_iconst (pc := 94) C (0 : Int32) d_Bi_addPart_94 (by decide) ?_
    refine g_iload_n (pc := 95) C d_Bi_addPart_95 rfl 2 rfl ?_
    obtain ⟨hi5, h⟩ := o_gd h
    refine g_iast (pc := 96) C hb4 hi5 d_Bi_addPart_96 ?_
    obtain ⟨I6, eI6, h⟩ := o_bd h
    rw [← eI6]
    refine g_aload (pc := 97) C d_Bi_addPart_97 0 rfl ?_
    refine g_iconst (pc := 99) C (1 : Int32) d_Bi_addPart_99 (by decide) ?_
    refine g_iload_n (pc := 100) C d_Bi_addPart_100 rfl 3 rfl ?_
    obtain ⟨hi7, h⟩ := o_gd h
    refine g_iast (pc := 101) C hb4 hi7 d_Bi_addPart_101 ?_
    obtain ⟨I8, eI8, h⟩ := o_bd h
    rw [← eI8]
    refine g_aload (pc := 102) C d_Bi_addPart_102 0 rfl ?_
    refine g_iconst (pc := 104) C (2 : Int32) d_Bi_addPart_104 (by decide) ?_
    refine g_iload_n (pc := 105) C d_Bi_addPart_105 rfl 4 rfl ?_
    obtain ⟨hi9, h⟩ := o_gd h
    refine g_iast (pc := 106) C hb4 hi9 d_Bi_addPart_106 ?_
    obtain ⟨I10, eI10, h⟩ := o_bd h
    rw [← eI10]
    refine g_aload (pc := 107) C d_Bi_addPart_107 0 rfl ?_
    refine g_iconst (pc := 109) C (3 : Int32) d_Bi_addPart_109 (by decide) ?_
    refine g_iconst (pc := 110) C (1 : Int32) d_Bi_addPart_110 (by decide) ?_
    obtain ⟨hi11, h⟩ := o_gd h
    refine g_iast (pc := 111) C hb4 hi11 d_Bi_addPart_111 ?_
    obtain ⟨I12, eI12, h⟩ := o_bd h
    rw [← eI12]
    refine g_aload_n (pc := 112) C d_Bi_addPart_112 rfl 1 rfl ?_
    refine g_dup (pc := 113) C d_Bi_addPart_113 rfl ?_
    refine g_get (pc := 114) (k := 1) (v := .int (I12 a0 1)) C gcX0 inX0 (by decide) fl_Bi_16 ha0 rfl d_Bi_addPart_114 ?_
    refine g_iconst (pc := 117) C (1 : Int32) d_Bi_addPart_117 (by decide) ?_
    refine g_iadd (pc := 118) C d_Bi_addPart_118 ?_
    refine g_put (pc := 119) (I' := up2 I12 a0 1 ((I12 a0 1) + (1 : Int32))) (J' := J) (N' := N) (k := 1) C gcX0 inX0 tyX0_ok nmX0 (by decide) fl_Bi_16 rfl ha0 (tyX0_ok 1 (by decide)) rfl rfl (Nat.le_of_ble_eq_true rfl) gs_0_1 (fun b hb => up2_of hb) (fun _ _ => rfl) (fun _ _ => rfl) d_Bi_addPart_119 ?_
    obtain ⟨I13, eI13, h⟩ := o_bd h
    rw [← eI13]
    obtain rfl := o_ret h
    exact g_vret (pc := 122) C d_Bi_addPart_122
set_option maxRecDepth 20000 in
theorem w_Bi_addPart_66 {X : HX} {ad : Nat → Nat} {I : HI} {J : HJ} {N : HN} {r : HI} {k8 : HI → Int32 → Option (HI)} {a0 : Nat} {p1 : Int32} {p2 : Int32} {p3 : Int32} {x4 : Int32} (C : Cx X c_Bi_addPart RX0 6 none rm_Bi_addPart) (ha0 : gk Tc nC a0 (0, 0))
    (hk8 : ∀ (I : HI) (x4 : Int32), k8 I x4 = some r → G Tc X ad nC 0 0 I J N (gE X Tc ad nC (r, J, N, fun _ => none)) 8 6 [(0, .ref (ad a0)), (1, .int p1), (2, .int p2), (3, .int p3), (4, .int x4)] [])
    (h : Bi_addPart_66 N a0 p1 p2 p3 k8 I x4 = some r) : G Tc X ad nC 0 0 I J N (gE X Tc ad nC (r, J, N, fun _ => none)) 66 6 [(0, .ref (ad a0)), (1, .int p1), (2, .int p2), (3, .int p3), (4, .int x4)] [] := by
  refine g_iinc (pc := 66) (q := 4) (lv' := [(4, .int (x4 + 1)), (0, .ref (ad a0)), (1, .int p1), (2, .int p2), (3, .int p3)]) C d_Bi_addPart_66 rfl rfl (by decide) rfl ?_
  refine g_goto (pc := 69) C 8 d_Bi_addPart_69 rfl ?_
  refine g_lv [1, 2, 3, 4, 0] rfl ?_
  exact hk8 _ _ h
set_option maxRecDepth 20000 in
theorem w_Bi_addPart_8b {X : HX} {ad : Nat → Nat} {I : HI} {J : HJ} {N : HN} {r : HI} {k8 : HI → Int32 → Option (HI)} {a0 : Nat} {p1 : Int32} {p2 : Int32} {p3 : Int32} {x4 : Int32} (C : Cx X c_Bi_addPart RX0 6 none rm_Bi_addPart) (ha0 : gk Tc nC a0 (0, 0))
    (hk8 : ∀ (I : HI) (x4 : Int32), k8 I x4 = some r → G Tc X ad nC 0 0 I J N (gE X Tc ad nC (r, J, N, fun _ => none)) 8 6 [(0, .ref (ad a0)), (1, .int p1), (2, .int p2), (3, .int p3), (4, .int x4)] [])
    (h : Bi_addPart_8b N a0 p1 p2 p3 k8 I x4 = some r) : G Tc X ad nC 0 0 I J N (gE X Tc ad nC (r, J, N, fun _ => none)) 8 6 [(0, .ref (ad a0)), (1, .int p1), (2, .int p2), (3, .int p3), (4, .int x4)] [] := by
  refine g_iload (pc := 8) C d_Bi_addPart_8 4 rfl ?_
  refine g_aload_n (pc := 10) C d_Bi_addPart_10 rfl 0 rfl ?_
  refine g_get (pc := 11) (k := 1) (v := .int (I a0 1)) C gcX0 inX0 (by decide) fl_Bi_16 ha0 rfl d_Bi_addPart_11 ?_
  refine g_icmp_ge (pc := 14) C 72 d_Bi_addPart_14 rfl (fun e1 => ?_) (fun e1 => ?_)
  · have h := o_pos e1 h
    refine g_lv [0, 1, 2, 3] rfl ?_
    exact w_Bi_addPart_72 C ha0 h
  · have h := o_neg e1 h
    refine g_iload (pc := 17) C d_Bi_addPart_17 4 rfl ?_
    refine g_bipush (pc := 19) C (6 : Int32) d_Bi_addPart_19 (by decide) ?_
    refine g_icmp_ge (pc := 21) C 72 d_Bi_addPart_21 rfl (fun e2 => ?_) (fun e2 => ?_)
    · have h := o_pos e2 h
      refine g_lv [0, 1, 2, 3] rfl ?_
      exact w_Bi_addPart_72 C ha0 h
    · have h := o_neg e2 h
      refine g_aload_n (pc := 24) C d_Bi_addPart_24 rfl 0 rfl ?_
      obtain ⟨b3, hnb3, hb3, h⟩ := o_ra h
      refine g_get (pc := 25) (k := 0) (v := va_rf ((N a0 0).map ad)) C gcX0 inX0 (by decide) fl_Bi_11 ha0 rfl d_Bi_addPart_25 ?_
      refine g_top (g_rf hnb3) ?_
      refine g_iload (pc := 28) C d_Bi_addPart_28 4 rfl ?_
      obtain ⟨hi4, h⟩ := o_gd h
      obtain ⟨b5, hnb5, hb5, h⟩ := o_ra h
      refine g_aald (pc := 30) 3 2 C hb3 (Or.inl ⟨rfl, rfl, rfl⟩) hi4 hnb5 d_Bi_addPart_30 ?_
      refine g_astore (pc := 31) (lv' := [(5, .ref (ad b5)), (0, .ref (ad a0)), (1, .int p1), (2, .int p2), (3, .int p3), (4, .int x4)]) C d_Bi_addPart_31 (by decide) rfl ?_
      refine g_aload (pc := 33) C d_Bi_addPart_33 0 rfl ?_
      refine g_iconst (pc := 35) C (0 : Int32) d_Bi_addPart_35 (by decide) ?_
      obtain ⟨hi6, h⟩ := o_gd h
      refine g_iald (pc := 36) C hb5 hi6 d_Bi_addPart_36 ?_
      refine g_iload_n (pc := 37) C d_Bi_addPart_37 rfl 2 rfl ?_
      refine g_icmp_ne (pc := 38) C 66 d_Bi_addPart_38 rfl (fun e7 => ?_) (fun e7 => ?_)
      · have h := o_neg e7 h
        refine g_lv [1, 2, 3, 4, 5] rfl ?_
        exact w_Bi_addPart_66 C ha0 hk8 h
      · have h := o_pos e7 h
        refine g_aload (pc := 41) C d_Bi_addPart_41 0 rfl ?_
        refine g_iconst (pc := 43) C (1 : Int32) d_Bi_addPart_43 (by decide) ?_
        obtain ⟨hi8, h⟩ := o_gd h
        refine g_iald (pc := 44) C hb5 hi8 d_Bi_addPart_44 ?_
        refine g_iload_n (pc := 45) C d_Bi_addPart_45 rfl 3 rfl ?_
        refine g_icmp_ne (pc := 46) C 66 d_Bi_addPart_46 rfl (fun e9 => ?_) (fun e9 => ?_)
        · have h := o_neg e9 h
          refine g_lv [1, 2, 3, 4, 5] rfl ?_
          exact w_Bi_addPart_66 C ha0 hk8 h
        · have h := o_pos e9 h
          refine g_aload (pc := 49) C d_Bi_addPart_49 0 rfl ?_
          refine g_iconst (pc := 51) C (2 : Int32) d_Bi_addPart_51 (by decide) ?_
          obtain ⟨hi10, h⟩ := o_gd h
          refine g_iald (pc := 52) C hb5 hi10 d_Bi_addPart_52 ?_
          refine g_iload_n (pc := 53) C d_Bi_addPart_53 rfl 4 rfl ?_
          refine g_icmp_ne (pc := 54) C 66 d_Bi_addPart_54 rfl (fun e11 => ?_) (fun e11 => ?_)
          · have h := o_neg e11 h
            refine g_lv [1, 2, 3, 4, 5] rfl ?_
            exact w_Bi_addPart_66 C ha0 hk8 h
          · have h := o_pos e11 h
            refine g_aload (pc := 57) C d_Bi_addPart_57 0 rfl ?_
            refine g_iconst (pc := 59) C (3 : Int32) d_Bi_addPart_59 (by decide) ?_
            refine g_dup2 (pc := 60) C d_Bi_addPart_60 rfl rfl ?_
            obtain ⟨hi12, h⟩ := o_gd h
            refine g_iald (pc := 61) C hb5 hi12 d_Bi_addPart_61 ?_
            refine g_iconst (pc := 62) C (1 : Int32) d_Bi_addPart_62 (by decide) ?_
            refine g_iadd (pc := 63) C d_Bi_addPart_63 ?_
            obtain ⟨hi13, h⟩ := o_gd h
            refine g_iast (pc := 64) C hb5 hi13 d_Bi_addPart_64 ?_
            obtain ⟨I14, eI14, h⟩ := o_bd h
            rw [← eI14]
            obtain rfl := o_ret h
            exact g_vret (pc := 65) C d_Bi_addPart_65
set_option maxRecDepth 20000 in
theorem w_Bi_addPart_8 {X : HX} {ad : Nat → Nat} {J : HJ} {N : HN} {r : HI} {a0 : Nat} {p1 : Int32} {p2 : Int32} {p3 : Int32} (C : Cx X c_Bi_addPart RX0 6 none rm_Bi_addPart) (ha0 : gk Tc nC a0 (0, 0)) : ∀ (n : Nat) (I : HI) (x4 : Int32), Bi_addPart_8 N a0 p1 p2 p3 n I x4 = some r → G Tc X ad nC 0 0 I J N (gE X Tc ad nC (r, J, N, fun _ => none)) 8 6 [(0, .ref (ad a0)), (1, .int p1), (2, .int p2), (3, .int p3), (4, .int x4)] [] := by
  intro n
  induction n with
  | zero => intro I x4 h; cases h
  | succ n ih => intro I x4 h; exact w_Bi_addPart_8b C ha0 ih h
set_option maxRecDepth 20000 in
theorem w_Bi_addPart_0 {X : HX} {ad : Nat → Nat} {I : HI} {J : HJ} {N : HN} {r : HI} {a0 : Nat} {p1 : Int32} {p2 : Int32} {p3 : Int32} (C : Cx X c_Bi_addPart RX0 6 none rm_Bi_addPart) (ha0 : gk Tc nC a0 (0, 0))
    (h : Bi_addPart_0 N a0 p1 p2 p3 I = some r) : G Tc X ad nC 0 0 I J N (gE X Tc ad nC (r, J, N, fun _ => none)) 0 6 [(0, .ref (ad a0)), (1, .int p1), (2, .int p2), (3, .int p3)] [] := by
  refine g_iload_n (pc := 0) C d_Bi_addPart_0 rfl 2 rfl ?_
  refine g_if_ne (pc := 1) C 5 d_Bi_addPart_1 rfl (fun e1 => ?_) (fun e1 => ?_)
  · have h := o_neg e1 h
    refine g_iconst (pc := 5) C (0 : Int32) d_Bi_addPart_5 (by decide) ?_
    refine g_istore (pc := 6) (lv' := [(4, .int (0 : Int32)), (0, .ref (ad a0)), (1, .int p1), (2, .int p2), (3, .int p3)]) C d_Bi_addPart_6 (by decide) rfl ?_
    refine g_lv [1, 2, 3, 4, 0] rfl ?_
    exact w_Bi_addPart_8 C ha0 _ _ _ h
  · have h := o_pos e1 h
    obtain rfl := o_ret h
    exact g_vret (pc := 4) C d_Bi_addPart_4
set_option maxRecDepth 20000 in
theorem k_Bi_addPart (l : Launch) {I : HI} {J : HJ} {N : HN} {a0 : Nat} {p1 : Int32} {p2 : Int32} {p3 : Int32} {r : HI} (ha0 : gk Tc nC a0 (0, 0)) (h : Bi_addPart N a0 p1 p2 p3 I = some r) : gM l y_Bi_addPart c_Bi_addPart 6 none rm_Bi_addPart Tc nC I J N (fun ad => [.ref (ad a0), .int p1, .int p2, .int p3]) (r, J, N, fun _ => none) :=
  g_meth (lv := fun ad => [(0, .ref (ad a0)), (1, .int p1), (2, .int p2), (3, .int p3)]) (by decide) (fun _ => Nat.le_of_ble_eq_true rfl) (fun _ => rfl) (fun X ad C => g_lv [0, 1, 2, 3] rfl (w_Bi_addPart_0 C ha0 h))
theorem d_Bi_countUp_0 : decode c_Bi_countUp 0 = .ok (.aload_n 0, 1) := by decide +kernel
theorem d_Bi_countUp_1 : decode c_Bi_countUp 1 = .ok (.iconst 0, 1) := by decide +kernel
theorem d_Bi_countUp_2 : decode c_Bi_countUp 2 = .ok (.putfield 16, 3) := by decide +kernel
theorem d_Bi_countUp_5 : decode c_Bi_countUp 5 = .ok (.iconst 0, 1) := by decide +kernel
theorem d_Bi_countUp_6 : decode c_Bi_countUp 6 = .ok (.istore_n 2, 1) := by decide +kernel
theorem d_Bi_countUp_7 : decode c_Bi_countUp 7 = .ok (.iload_n 2, 1) := by decide +kernel
theorem d_Bi_countUp_8 : decode c_Bi_countUp 8 = .ok (.aload_n 1, 1) := by decide +kernel
theorem d_Bi_countUp_9 : decode c_Bi_countUp 9 = .ok (.getfield 20, 3) := by decide +kernel
theorem d_Bi_countUp_12 : decode c_Bi_countUp 12 = .ok (.if_icmp .ge 43, 3) := by decide +kernel
theorem d_Bi_countUp_15 : decode c_Bi_countUp 15 = .ok (.aload_n 0, 1) := by decide +kernel
theorem d_Bi_countUp_16 : decode c_Bi_countUp 16 = .ok (.iconst 0, 1) := by decide +kernel
theorem d_Bi_countUp_17 : decode c_Bi_countUp 17 = .ok (.aload_n 1, 1) := by decide +kernel
theorem d_Bi_countUp_18 : decode c_Bi_countUp 18 = .ok (.iload_n 2, 1) := by decide +kernel
theorem d_Bi_countUp_19 : decode c_Bi_countUp 19 = .ok (.iconst 1, 1) := by decide +kernel
theorem d_Bi_countUp_20 : decode c_Bi_countUp 20 = .ok (.invokevirtual 25, 3) := by decide +kernel
theorem d_Bi_countUp_23 : decode c_Bi_countUp 23 = .ok (.aload_n 1, 1) := by decide +kernel
theorem d_Bi_countUp_24 : decode c_Bi_countUp 24 = .ok (.iload_n 2, 1) := by decide +kernel
theorem d_Bi_countUp_25 : decode c_Bi_countUp 25 = .ok (.iconst 2, 1) := by decide +kernel
theorem d_Bi_countUp_26 : decode c_Bi_countUp 26 = .ok (.invokevirtual 25, 3) := by decide +kernel
theorem d_Bi_countUp_29 : decode c_Bi_countUp 29 = .ok (.invokevirtual 29, 3) := by decide +kernel
theorem d_Bi_countUp_32 : decode c_Bi_countUp 32 = .ok (.aload_n 0, 1) := by decide +kernel
theorem d_Bi_countUp_33 : decode c_Bi_countUp 33 = .ok (.iconst 1, 1) := by decide +kernel
theorem d_Bi_countUp_34 : decode c_Bi_countUp 34 = .ok (.aload_n 1, 1) := by decide +kernel
theorem d_Bi_countUp_35 : decode c_Bi_countUp 35 = .ok (.iload_n 2, 1) := by decide +kernel
theorem d_Bi_countUp_36 : decode c_Bi_countUp 36 = .ok (.iconst 3, 1) := by decide +kernel
theorem d_Bi_countUp_37 : decode c_Bi_countUp 37 = .ok (.invokevirtual 25, 3) := by decide +kernel
theorem d_Bi_countUp_40 : decode c_Bi_countUp 40 = .ok (.aload_n 1, 1) := by decide +kernel
theorem d_Bi_countUp_41 : decode c_Bi_countUp 41 = .ok (.iload_n 2, 1) := by decide +kernel
theorem d_Bi_countUp_42 : decode c_Bi_countUp 42 = .ok (.iconst 4, 1) := by decide +kernel
theorem d_Bi_countUp_43 : decode c_Bi_countUp 43 = .ok (.invokevirtual 25, 3) := by decide +kernel
theorem d_Bi_countUp_46 : decode c_Bi_countUp 46 = .ok (.invokevirtual 29, 3) := by decide +kernel
theorem d_Bi_countUp_49 : decode c_Bi_countUp 49 = .ok (.iinc 2 1, 3) := by decide +kernel
theorem d_Bi_countUp_52 : decode c_Bi_countUp 52 = .ok (.goto (-45), 3) := by decide +kernel
theorem d_Bi_countUp_55 : decode c_Bi_countUp 55 = .ok (.return_, 1) := by decide +kernel
set_option maxRecDepth 20000 in
theorem w_Bi_countUp_7b {X : HX} {ad : Nat → Nat} {I : HI} {J : HJ} {N : HN} {r : HI} {k7 : HI → Int32 → Option (HI)} {a0 : Nat} {a1 : Nat} {x2 : Int32} (C : Cx X c_Bi_countUp RX0 3 none rm_Bi_countUp) (ha0 : gk Tc nC a0 (0, 0)) (ha1 : gk Tc nC a1 (0, 3))
    (hk7 : ∀ (I : HI) (x2 : Int32), k7 I x2 = some r → G Tc X ad nC 0 0 I J N (gE X Tc ad nC (r, J, N, fun _ => none)) 7 3 [(0, .ref (ad a0)), (1, .ref (ad a1)), (2, .int x2)] [])
    (h : Bi_countUp_7b N a0 a1 k7 I x2 = some r) : G Tc X ad nC 0 0 I J N (gE X Tc ad nC (r, J, N, fun _ => none)) 7 3 [(0, .ref (ad a0)), (1, .ref (ad a1)), (2, .int x2)] [] := by
  refine g_iload_n (pc := 7) C d_Bi_countUp_7 rfl 2 rfl ?_
  refine g_aload_n (pc := 8) C d_Bi_countUp_8 rfl 1 rfl ?_
  refine g_getN (pc := 9) (k := 1) (v := .int (I a1 1)) C gcX3 inX3 (by decide) fl_Bi_20 ha1 rfl d_Bi_countUp_9 ?_
  refine g_icmp_ge (pc := 12) C 55 d_Bi_countUp_12 rfl (fun e1 => ?_) (fun e1 => ?_)
  · have h := o_pos e1 h
    obtain rfl := o_ret h
    exact g_vret (pc := 55) C d_Bi_countUp_55
  · have h := o_neg e1 h
    refine g_aload_n (pc := 15) C d_Bi_countUp_15 rfl 0 rfl ?_
    refine g_iconst (pc := 16) C (0 : Int32) d_Bi_countUp_16 (by decide) ?_
    refine g_aload_n (pc := 17) C d_Bi_countUp_17 rfl 1 rfl ?_
    refine g_iload_n (pc := 18) C d_Bi_countUp_18 rfl 2 rfl ?_
    refine g_iconst (pc := 19) C (1 : Int32) d_Bi_countUp_19 (by decide) ?_
    obtain ⟨r2, hc3, h⟩ := o_bn1 h
    refine g_V (pc := 20) (rest := [.int (0 : Int32), .ref (ad a0)]) C (k_La_item (xl X) ha1 hc3) sm_La_item ml_Bi_25 im_La_item se_La_item gcX3 rfl ha1 ⟨rfl, rfl, Nat.le_of_ble_eq_true rfl, Nat.le_of_ble_eq_true rfl⟩ ⟨Nat.zero_le _, Nat.zero_le _⟩ rfl rfl (Nat.le_of_ble_eq_true rfl) d_Bi_countUp_20 [.int r2, .int (0 : Int32), .ref (ad a0)] rfl ?_
    refine g_aload_n (pc := 23) C d_Bi_countUp_23 rfl 1 rfl ?_
    refine g_iload_n (pc := 24) C d_Bi_countUp_24 rfl 2 rfl ?_
    refine g_iconst (pc := 25) C (2 : Int32) d_Bi_countUp_25 (by decide) ?_
    obtain ⟨r4, hc5, h⟩ := o_bn1 h
    refine g_V (pc := 26) (rest := [.int r2, .int (0 : Int32), .ref (ad a0)]) C (k_La_item (xl X) ha1 hc5) sm_La_item ml_Bi_25 im_La_item se_La_item gcX3 rfl ha1 ⟨rfl, rfl, Nat.le_of_ble_eq_true rfl, Nat.le_of_ble_eq_true rfl⟩ ⟨Nat.zero_le _, Nat.zero_le _⟩ rfl rfl (Nat.le_of_ble_eq_true rfl) d_Bi_countUp_26 [.int r4, .int r2, .int (0 : Int32), .ref (ad a0)] rfl ?_
    obtain ⟨I6, hc7, h⟩ := o_bn1 h
    refine g_V (pc := 29) (rest := []) C (k_Bi_addPart (xl X) ha0 hc7) sm_Bi_addPart ml_Bi_29 im_Bi_addPart se_Bi_addPart gcX0 rfl ha0 ⟨rfl, rfl, Nat.le_of_ble_eq_true rfl, Nat.le_of_ble_eq_true rfl⟩ ⟨Nat.zero_le _, Nat.zero_le _⟩ rfl rfl (Nat.le_of_ble_eq_true rfl) d_Bi_countUp_29 [] rfl ?_
    refine g_aload_n (pc := 32) C d_Bi_countUp_32 rfl 0 rfl ?_
    refine g_iconst (pc := 33) C (1 : Int32) d_Bi_countUp_33 (by decide) ?_
    refine g_aload_n (pc := 34) C d_Bi_countUp_34 rfl 1 rfl ?_
    refine g_iload_n (pc := 35) C d_Bi_countUp_35 rfl 2 rfl ?_
    refine g_iconst (pc := 36) C (3 : Int32) d_Bi_countUp_36 (by decide) ?_
    obtain ⟨r8, hc9, h⟩ := o_bn1 h
    refine g_V (pc := 37) (rest := [.int (1 : Int32), .ref (ad a0)]) C (k_La_item (xl X) ha1 hc9) sm_La_item ml_Bi_25 im_La_item se_La_item gcX3 rfl ha1 ⟨rfl, rfl, Nat.le_of_ble_eq_true rfl, Nat.le_of_ble_eq_true rfl⟩ ⟨Nat.zero_le _, Nat.zero_le _⟩ rfl rfl (Nat.le_of_ble_eq_true rfl) d_Bi_countUp_37 [.int r8, .int (1 : Int32), .ref (ad a0)] rfl ?_
    refine g_aload_n (pc := 40) C d_Bi_countUp_40 rfl 1 rfl ?_
    refine g_iload_n (pc := 41) C d_Bi_countUp_41 rfl 2 rfl ?_
    refine g_iconst (pc := 42) C (4 : Int32) d_Bi_countUp_42 (by decide) ?_
    obtain ⟨r10, hc11, h⟩ := o_bn1 h
    refine g_V (pc := 43) (rest := [.int r8, .int (1 : Int32), .ref (ad a0)]) C (k_La_item (xl X) ha1 hc11) sm_La_item ml_Bi_25 im_La_item se_La_item gcX3 rfl ha1 ⟨rfl, rfl, Nat.le_of_ble_eq_true rfl, Nat.le_of_ble_eq_true rfl⟩ ⟨Nat.zero_le _, Nat.zero_le _⟩ rfl rfl (Nat.le_of_ble_eq_true rfl) d_Bi_countUp_43 [.int r10, .int r8, .int (1 : Int32), .ref (ad a0)] rfl ?_
    obtain ⟨I12, hc13, h⟩ := o_bn1 h
    refine g_V (pc := 46) (rest := []) C (k_Bi_addPart (xl X) ha0 hc13) sm_Bi_addPart ml_Bi_29 im_Bi_addPart se_Bi_addPart gcX0 rfl ha0 ⟨rfl, rfl, Nat.le_of_ble_eq_true rfl, Nat.le_of_ble_eq_true rfl⟩ ⟨Nat.zero_le _, Nat.zero_le _⟩ rfl rfl (Nat.le_of_ble_eq_true rfl) d_Bi_countUp_46 [] rfl ?_
    refine g_iinc (pc := 49) (q := 2) (lv' := [(2, .int (x2 + 1)), (0, .ref (ad a0)), (1, .ref (ad a1))]) C d_Bi_countUp_49 rfl rfl (by decide) rfl ?_
    refine g_goto (pc := 52) C 7 d_Bi_countUp_52 rfl ?_
    refine g_lv [1, 2, 0] rfl ?_
    exact hk7 _ _ h
set_option maxRecDepth 20000 in
theorem w_Bi_countUp_7 {X : HX} {ad : Nat → Nat} {J : HJ} {N : HN} {r : HI} {a0 : Nat} {a1 : Nat} (C : Cx X c_Bi_countUp RX0 3 none rm_Bi_countUp) (ha0 : gk Tc nC a0 (0, 0)) (ha1 : gk Tc nC a1 (0, 3)) : ∀ (n : Nat) (I : HI) (x2 : Int32), Bi_countUp_7 N a0 a1 n I x2 = some r → G Tc X ad nC 0 0 I J N (gE X Tc ad nC (r, J, N, fun _ => none)) 7 3 [(0, .ref (ad a0)), (1, .ref (ad a1)), (2, .int x2)] [] := by
  intro n
  induction n with
  | zero => intro I x2 h; cases h
  | succ n ih => intro I x2 h; exact w_Bi_countUp_7b C ha0 ha1 ih h
set_option maxRecDepth 20000 in
theorem w_Bi_countUp_0 {X : HX} {ad : Nat → Nat} {I : HI} {J : HJ} {N : HN} {r : HI} {a0 : Nat} {a1 : Nat} (C : Cx X c_Bi_countUp RX0 3 none rm_Bi_countUp) (ha0 : gk Tc nC a0 (0, 0)) (ha1 : gk Tc nC a1 (0, 3))
    (h : Bi_countUp_0 N a0 a1 I = some r) : G Tc X ad nC 0 0 I J N (gE X Tc ad nC (r, J, N, fun _ => none)) 0 3 [(0, .ref (ad a0)), (1, .ref (ad a1))] [] := by
  refine g_aload_n (pc := 0) C d_Bi_countUp_0 rfl 0 rfl ?_
  refine g_iconst (pc := 1) C (0 : Int32) d_Bi_countUp_1 (by decide) ?_
  refine g_put (pc := 2) (I' := up2 I a0 1 (0 : Int32)) (J' := J) (N' := N) (k := 1) C gcX0 inX0 tyX0_ok nmX0 (by decide) fl_Bi_16 rfl ha0 (tyX0_ok 1 (by decide)) rfl rfl (Nat.le_of_ble_eq_true rfl) gs_0_1 (fun b hb => up2_of hb) (fun _ _ => rfl) (fun _ _ => rfl) d_Bi_countUp_2 ?_
  obtain ⟨I1, eI1, h⟩ := o_bd h
  rw [← eI1]
  refine g_iconst (pc := 5) C (0 : Int32) d_Bi_countUp_5 (by decide) ?_
  refine g_istore_n (pc := 6) (lv' := [(2, .int (0 : Int32)), (0, .ref (ad a0)), (1, .ref (ad a1))]) C d_Bi_countUp_6 rfl (by decide) rfl ?_
  refine g_lv [1, 2, 0] rfl ?_
  exact w_Bi_countUp_7 C ha0 ha1 _ _ _ h
set_option maxRecDepth 20000 in
theorem k_Bi_countUp (l : Launch) {I : HI} {J : HJ} {N : HN} {a0 : Nat} {a1 : Nat} {r : HI} (ha0 : gk Tc nC a0 (0, 0)) (ha1 : gk Tc nC a1 (0, 3)) (h : Bi_countUp N a0 a1 I = some r) : gM l y_Bi_countUp c_Bi_countUp 3 none rm_Bi_countUp Tc nC I J N (fun ad => [.ref (ad a0), .ref (ad a1)]) (r, J, N, fun _ => none) :=
  g_meth (lv := fun ad => [(0, .ref (ad a0)), (1, .ref (ad a1))]) (by decide) (fun _ => Nat.le_of_ble_eq_true rfl) (fun _ => rfl) (fun X ad C => g_lv [0, 1] rfl (w_Bi_countUp_0 C ha0 ha1 h))
theorem d_Bi_item_0 : decode c_Bi_item 0 = .ok (.iload_n 1, 1) := by decide +kernel
theorem d_Bi_item_1 : decode c_Bi_item 1 = .ok (.ifCond .lt 30, 3) := by decide +kernel
theorem d_Bi_item_4 : decode c_Bi_item 4 = .ok (.iload_n 1, 1) := by decide +kernel
theorem d_Bi_item_5 : decode c_Bi_item 5 = .ok (.aload_n 0, 1) := by decide +kernel
theorem d_Bi_item_6 : decode c_Bi_item 6 = .ok (.getfield 16, 3) := by decide +kernel
theorem d_Bi_item_9 : decode c_Bi_item 9 = .ok (.if_icmp .ge 22, 3) := by decide +kernel
theorem d_Bi_item_12 : decode c_Bi_item 12 = .ok (.iload_n 1, 1) := by decide +kernel
theorem d_Bi_item_13 : decode c_Bi_item 13 = .ok (.bipush 6, 2) := by decide +kernel
theorem d_Bi_item_15 : decode c_Bi_item 15 = .ok (.if_icmp .ge 16, 3) := by decide +kernel
theorem d_Bi_item_18 : decode c_Bi_item 18 = .ok (.iload_n 2, 1) := by decide +kernel
theorem d_Bi_item_19 : decode c_Bi_item 19 = .ok (.ifCond .lt 12, 3) := by decide +kernel
theorem d_Bi_item_22 : decode c_Bi_item 22 = .ok (.iload_n 2, 1) := by decide +kernel
theorem d_Bi_item_23 : decode c_Bi_item 23 = .ok (.iconst 4, 1) := by decide +kernel
theorem d_Bi_item_24 : decode c_Bi_item 24 = .ok (.if_icmp .ge 7, 3) := by decide +kernel
theorem d_Bi_item_27 : decode c_Bi_item 27 = .ok (.iconst 1, 1) := by decide +kernel
theorem d_Bi_item_28 : decode c_Bi_item 28 = .ok (.goto 4, 3) := by decide +kernel
theorem d_Bi_item_31 : decode c_Bi_item 31 = .ok (.iconst 0, 1) := by decide +kernel
theorem d_Bi_item_32 : decode c_Bi_item 32 = .ok (.istore_n 3, 1) := by decide +kernel
theorem d_Bi_item_33 : decode c_Bi_item 33 = .ok (.iload_n 3, 1) := by decide +kernel
theorem d_Bi_item_34 : decode c_Bi_item 34 = .ok (.ifCond .eq 14, 3) := by decide +kernel
theorem d_Bi_item_37 : decode c_Bi_item 37 = .ok (.aload_n 0, 1) := by decide +kernel
theorem d_Bi_item_38 : decode c_Bi_item 38 = .ok (.getfield 11, 3) := by decide +kernel
theorem d_Bi_item_41 : decode c_Bi_item 41 = .ok (.iload_n 1, 1) := by decide +kernel
theorem d_Bi_item_42 : decode c_Bi_item 42 = .ok (.aaload, 1) := by decide +kernel
theorem d_Bi_item_43 : decode c_Bi_item 43 = .ok (.iload_n 2, 1) := by decide +kernel
theorem d_Bi_item_44 : decode c_Bi_item 44 = .ok (.iaload, 1) := by decide +kernel
theorem d_Bi_item_45 : decode c_Bi_item 45 = .ok (.goto 4, 3) := by decide +kernel
theorem d_Bi_item_48 : decode c_Bi_item 48 = .ok (.iconst 0, 1) := by decide +kernel
theorem d_Bi_item_49 : decode c_Bi_item 49 = .ok (.ireturn, 1) := by decide +kernel
set_option maxRecDepth 20000 in
theorem w_Bi_item_32 {X : HX} {ad : Nat → Nat} {I : HI} {J : HJ} {N : HN} {r : Int32} {a0 : Nat} {p1 : Int32} {p2 : Int32} {s0 : Int32} (C : Cx X c_Bi_item RX0 4 (some .int) rm_Bi_item) (ha0 : gk Tc nC a0 (0, 0))
    (h : Bi_item_32 I N a0 p1 p2 s0 = some r) : G Tc X ad nC 0 0 I J N (gE X Tc ad nC (I, J, N, fun _ => some (.int r))) 32 4 [(0, .ref (ad a0)), (1, .int p1), (2, .int p2)] [.int s0] := by
  refine g_istore_n (pc := 32) (lv' := [(3, .int s0), (0, .ref (ad a0)), (1, .int p1), (2, .int p2)]) C d_Bi_item_32 rfl (by decide) rfl ?_
  refine g_iload_n (pc := 33) C d_Bi_item_33 rfl 0 rfl ?_
  refine g_if_eq (pc := 34) C 48 d_Bi_item_34 rfl (fun e1 => ?_) (fun e1 => ?_)
  · have h := o_pos e1 h
    refine g_iconst (pc := 48) C (0 : Int32) d_Bi_item_48 (by decide) ?_
    obtain rfl := o_ret h
    exact g_iret (pc := 49) C d_Bi_item_49
  · have h := o_neg e1 h
    refine g_aload_n (pc := 37) C d_Bi_item_37 rfl 1 rfl ?_
    obtain ⟨b2, hnb2, hb2, h⟩ := o_ra h
    refine g_get (pc := 38) (k := 0) (v := va_rf ((N a0 0).map ad)) C gcX0 inX0 (by decide) fl_Bi_11 ha0 rfl d_Bi_item_38 ?_
    refine g_top (g_rf hnb2) ?_
    refine g_iload_n (pc := 41) C d_Bi_item_41 rfl 2 rfl ?_
    obtain ⟨hi3, h⟩ := o_gd h
    obtain ⟨b4, hnb4, hb4, h⟩ := o_ra h
    refine g_aald (pc := 42) 3 2 C hb2 (Or.inl ⟨rfl, rfl, rfl⟩) hi3 hnb4 d_Bi_item_42 ?_
    refine g_iload_n (pc := 43) C d_Bi_item_43 rfl 3 rfl ?_
    obtain ⟨hi5, h⟩ := o_gd h
    refine g_iald (pc := 44) C hb4 hi5 d_Bi_item_44 ?_
    refine g_goto (pc := 45) C 49 d_Bi_item_45 rfl ?_
    obtain rfl := o_ret h
    exact g_iret (pc := 49) C d_Bi_item_49
set_option maxRecDepth 20000 in
theorem w_Bi_item_31 {X : HX} {ad : Nat → Nat} {I : HI} {J : HJ} {N : HN} {r : Int32} {a0 : Nat} {p1 : Int32} {p2 : Int32} (C : Cx X c_Bi_item RX0 4 (some .int) rm_Bi_item) (ha0 : gk Tc nC a0 (0, 0))
    (h : Bi_item_31 I N a0 p1 p2 = some r) : G Tc X ad nC 0 0 I J N (gE X Tc ad nC (I, J, N, fun _ => some (.int r))) 31 4 [(0, .ref (ad a0)), (1, .int p1), (2, .int p2)] [] := by
  refine g_iconst (pc := 31) C (0 : Int32) d_Bi_item_31 (by decide) ?_
  refine g_lv [0, 1, 2] rfl ?_
  exact w_Bi_item_32 C ha0 h
set_option maxRecDepth 20000 in
theorem w_Bi_item_0 {X : HX} {ad : Nat → Nat} {I : HI} {J : HJ} {N : HN} {r : Int32} {a0 : Nat} {p1 : Int32} {p2 : Int32} (C : Cx X c_Bi_item RX0 4 (some .int) rm_Bi_item) (ha0 : gk Tc nC a0 (0, 0))
    (h : Bi_item_0 I N a0 p1 p2 = some r) : G Tc X ad nC 0 0 I J N (gE X Tc ad nC (I, J, N, fun _ => some (.int r))) 0 4 [(0, .ref (ad a0)), (1, .int p1), (2, .int p2)] [] := by
  refine g_iload_n (pc := 0) C d_Bi_item_0 rfl 1 rfl ?_
  refine g_if_lt (pc := 1) C 31 d_Bi_item_1 rfl (fun e1 => ?_) (fun e1 => ?_)
  · have h := o_pos e1 h
    refine g_lv [0, 1, 2] rfl ?_
    exact w_Bi_item_31 C ha0 h
  · have h := o_neg e1 h
    refine g_iload_n (pc := 4) C d_Bi_item_4 rfl 1 rfl ?_
    refine g_aload_n (pc := 5) C d_Bi_item_5 rfl 0 rfl ?_
    refine g_get (pc := 6) (k := 1) (v := .int (I a0 1)) C gcX0 inX0 (by decide) fl_Bi_16 ha0 rfl d_Bi_item_6 ?_
    refine g_icmp_ge (pc := 9) C 31 d_Bi_item_9 rfl (fun e2 => ?_) (fun e2 => ?_)
    · have h := o_pos e2 h
      refine g_lv [0, 1, 2] rfl ?_
      exact w_Bi_item_31 C ha0 h
    · have h := o_neg e2 h
      refine g_iload_n (pc := 12) C d_Bi_item_12 rfl 1 rfl ?_
      refine g_bipush (pc := 13) C (6 : Int32) d_Bi_item_13 (by decide) ?_
      refine g_icmp_ge (pc := 15) C 31 d_Bi_item_15 rfl (fun e3 => ?_) (fun e3 => ?_)
      · have h := o_pos e3 h
        refine g_lv [0, 1, 2] rfl ?_
        exact w_Bi_item_31 C ha0 h
      · have h := o_neg e3 h
        refine g_iload_n (pc := 18) C d_Bi_item_18 rfl 2 rfl ?_
        refine g_if_lt (pc := 19) C 31 d_Bi_item_19 rfl (fun e4 => ?_) (fun e4 => ?_)
        · have h := o_pos e4 h
          refine g_lv [0, 1, 2] rfl ?_
          exact w_Bi_item_31 C ha0 h
        · have h := o_neg e4 h
          refine g_iload_n (pc := 22) C d_Bi_item_22 rfl 2 rfl ?_
          refine g_iconst (pc := 23) C (4 : Int32) d_Bi_item_23 (by decide) ?_
          refine g_icmp_ge (pc := 24) C 31 d_Bi_item_24 rfl (fun e5 => ?_) (fun e5 => ?_)
          · have h := o_pos e5 h
            refine g_lv [0, 1, 2] rfl ?_
            exact w_Bi_item_31 C ha0 h
          · have h := o_neg e5 h
            refine g_iconst (pc := 27) C (1 : Int32) d_Bi_item_27 (by decide) ?_
            refine g_goto (pc := 28) C 32 d_Bi_item_28 rfl ?_
            refine g_lv [0, 1, 2] rfl ?_
            exact w_Bi_item_32 C ha0 h
set_option maxRecDepth 20000 in
theorem k_Bi_item (l : Launch) {I : HI} {J : HJ} {N : HN} {a0 : Nat} {p1 : Int32} {p2 : Int32} {r : Int32} (ha0 : gk Tc nC a0 (0, 0)) (h : Bi_item I N a0 p1 p2 = some r) : gM l y_Bi_item c_Bi_item 4 (some .int) rm_Bi_item Tc nC I J N (fun ad => [.ref (ad a0), .int p1, .int p2]) (I, J, N, fun _ => some (.int r)) :=
  g_meth (lv := fun ad => [(0, .ref (ad a0)), (1, .int p1), (2, .int p2)]) (by decide) (fun _ => Nat.le_of_ble_eq_true rfl) (fun _ => rfl) (fun X ad C => g_lv [0, 1, 2] rfl (w_Bi_item_0 C ha0 h))
theorem d_Bi_differentValues_0 : decode c_Bi_differentValues 0 = .ok (.iconst 0, 1) := by decide +kernel
theorem d_Bi_differentValues_1 : decode c_Bi_differentValues 1 = .ok (.istore_n 1, 1) := by decide +kernel
theorem d_Bi_differentValues_2 : decode c_Bi_differentValues 2 = .ok (.iconst 0, 1) := by decide +kernel
theorem d_Bi_differentValues_3 : decode c_Bi_differentValues 3 = .ok (.istore_n 2, 1) := by decide +kernel
theorem d_Bi_differentValues_4 : decode c_Bi_differentValues 4 = .ok (.iload_n 2, 1) := by decide +kernel
theorem d_Bi_differentValues_5 : decode c_Bi_differentValues 5 = .ok (.aload_n 0, 1) := by decide +kernel
theorem d_Bi_differentValues_6 : decode c_Bi_differentValues 6 = .ok (.getfield 16, 3) := by decide +kernel
theorem d_Bi_differentValues_9 : decode c_Bi_differentValues 9 = .ok (.if_icmp .ge 80, 3) := by decide +kernel
theorem d_Bi_differentValues_12 : decode c_Bi_differentValues 12 = .ok (.iconst 1, 1) := by decide +kernel
theorem d_Bi_differentValues_13 : decode c_Bi_differentValues 13 = .ok (.istore_n 3, 1) := by decide +kernel
theorem d_Bi_differentValues_14 : decode c_Bi_differentValues 14 = .ok (.iconst 0, 1) := by decide +kernel
theorem d_Bi_differentValues_15 : decode c_Bi_differentValues 15 = .ok (.istore 4, 2) := by decide +kernel
theorem d_Bi_differentValues_17 : decode c_Bi_differentValues 17 = .ok (.iload 4, 2) := by decide +kernel
theorem d_Bi_differentValues_19 : decode c_Bi_differentValues 19 = .ok (.iload_n 2, 1) := by decide +kernel
theorem d_Bi_differentValues_20 : decode c_Bi_differentValues 20 = .ok (.if_icmp .ge 51, 3) := by decide +kernel
theorem d_Bi_differentValues_23 : decode c_Bi_differentValues 23 = .ok (.iload_n 3, 1) := by decide +kernel
theorem d_Bi_differentValues_24 : decode c_Bi_differentValues 24 = .ok (.ifCond .eq 47, 3) := by decide +kernel
theorem d_Bi_differentValues_27 : decode c_Bi_differentValues 27 = .ok (.aload_n 0, 1) := by decide +kernel
theorem d_Bi_differentValues_28 : decode c_Bi_differentValues 28 = .ok (.iload 4, 2) := by decide +kernel
theorem d_Bi_differentValues_30 : decode c_Bi_differentValues 30 = .ok (.iconst 1, 1) := by decide +kernel
theorem d_Bi_differentValues_31 : decode c_Bi_differentValues 31 = .ok (.invokevirtual 33, 3) := by decide +kernel
theorem d_Bi_differentValues_34 : decode c_Bi_differentValues 34 = .ok (.aload_n 0, 1) := by decide +kernel
theorem d_Bi_differentValues_35 : decode c_Bi_differentValues 35 = .ok (.iload_n 2, 1) := by decide +kernel
theorem d_Bi_differentValues_36 : decode c_Bi_differentValues 36 = .ok (.iconst 1, 1) := by decide +kernel
theorem d_Bi_differentValues_37 : decode c_Bi_differentValues 37 = .ok (.invokevirtual 33, 3) := by decide +kernel
theorem d_Bi_differentValues_40 : decode c_Bi_differentValues 40 = .ok (.if_icmp .ne 19, 3) := by decide +kernel
theorem d_Bi_differentValues_43 : decode c_Bi_differentValues 43 = .ok (.aload_n 0, 1) := by decide +kernel
theorem d_Bi_differentValues_44 : decode c_Bi_differentValues 44 = .ok (.iload 4, 2) := by decide +kernel
theorem d_Bi_differentValues_46 : decode c_Bi_differentValues 46 = .ok (.iconst 2, 1) := by decide +kernel
theorem d_Bi_differentValues_47 : decode c_Bi_differentValues 47 = .ok (.invokevirtual 33, 3) := by decide +kernel
theorem d_Bi_differentValues_50 : decode c_Bi_differentValues 50 = .ok (.aload_n 0, 1) := by decide +kernel
theorem d_Bi_differentValues_51 : decode c_Bi_differentValues 51 = .ok (.iload_n 2, 1) := by decide +kernel
theorem d_Bi_differentValues_52 : decode c_Bi_differentValues 52 = .ok (.iconst 2, 1) := by decide +kernel
theorem d_Bi_differentValues_53 : decode c_Bi_differentValues 53 = .ok (.invokevirtual 33, 3) := by decide +kernel
theorem d_Bi_differentValues_56 : decode c_Bi_differentValues 56 = .ok (.if_icmp .eq 7, 3) := by decide +kernel
theorem d_Bi_differentValues_59 : decode c_Bi_differentValues 59 = .ok (.iconst 1, 1) := by decide +kernel
theorem d_Bi_differentValues_60 : decode c_Bi_differentValues 60 = .ok (.goto 4, 3) := by decide +kernel
theorem d_Bi_differentValues_63 : decode c_Bi_differentValues 63 = .ok (.iconst 0, 1) := by decide +kernel
theorem d_Bi_differentValues_64 : decode c_Bi_differentValues 64 = .ok (.istore_n 3, 1) := by decide +kernel
theorem d_Bi_differentValues_65 : decode c_Bi_differentValues 65 = .ok (.iinc 4 1, 3) := by decide +kernel
theorem d_Bi_differentValues_68 : decode c_Bi_differentValues 68 = .ok (.goto (-51), 3) := by decide +kernel
theorem d_Bi_differentValues_71 : decode c_Bi_differentValues 71 = .ok (.iload_n 1, 1) := by decide +kernel
theorem d_Bi_differentValues_72 : decode c_Bi_differentValues 72 = .ok (.iload_n 3, 1) := by decide +kernel
theorem d_Bi_differentValues_73 : decode c_Bi_differentValues 73 = .ok (.ifCond .eq 7, 3) := by decide +kernel
theorem d_Bi_differentValues_76 : decode c_Bi_differentValues 76 = .ok (.iconst 1, 1) := by decide +kernel
theorem d_Bi_differentValues_77 : decode c_Bi_differentValues 77 = .ok (.goto 4, 3) := by decide +kernel
theorem d_Bi_differentValues_80 : decode c_Bi_differentValues 80 = .ok (.iconst 0, 1) := by decide +kernel
theorem d_Bi_differentValues_81 : decode c_Bi_differentValues 81 = .ok (.iadd, 1) := by decide +kernel
theorem d_Bi_differentValues_82 : decode c_Bi_differentValues 82 = .ok (.istore_n 1, 1) := by decide +kernel
theorem d_Bi_differentValues_83 : decode c_Bi_differentValues 83 = .ok (.iinc 2 1, 3) := by decide +kernel
theorem d_Bi_differentValues_86 : decode c_Bi_differentValues 86 = .ok (.goto (-82), 3) := by decide +kernel
theorem d_Bi_differentValues_89 : decode c_Bi_differentValues 89 = .ok (.iload_n 1, 1) := by decide +kernel
theorem d_Bi_differentValues_90 : decode c_Bi_differentValues 90 = .ok (.ireturn, 1) := by decide +kernel
set_option maxRecDepth 20000 in
theorem w_Bi_differentValues_81 {X : HX} {ad : Nat → Nat} {I : HI} {J : HJ} {N : HN} {r : Int32} {k4 : Int32 → Int32 → Option (Int32)} {a0 : Nat} {x2 : Int32} {s0 : Int32} {s1 : Int32} (C : Cx X c_Bi_differentValues RX0 5 (some .int) rm_Bi_differentValues) (ha0 : gk Tc nC a0 (0, 0))
    (hk4 : ∀ (x1 : Int32) (x2 : Int32), k4 x1 x2 = some r → G Tc X ad nC 0 0 I J N (gE X Tc ad nC (I, J, N, fun _ => some (.int r))) 4 5 [(0, .ref (ad a0)), (1, .int x1), (2, .int x2)] [])
    (h : Bi_differentValues_81 I N a0 k4 x2 s0 s1 = some r) : G Tc X ad nC 0 0 I J N (gE X Tc ad nC (I, J, N, fun _ => some (.int r))) 81 5 [(0, .ref (ad a0)), (2, .int x2)] [.int s1, .int s0] := by
  refine g_iadd (pc := 81) C d_Bi_differentValues_81 ?_
  obtain ⟨v1, ev1, h⟩ := o_bd h
  refine g_topi ev1 ?_
  refine g_istore_n (pc := 82) (lv' := [(1, .int v1), (0, .ref (ad a0)), (2, .int x2)]) C d_Bi_differentValues_82 rfl (by decide) rfl ?_
  refine g_iinc (pc := 83) (q := 2) (lv' := [(2, .int (x2 + 1)), (1, .int v1), (0, .ref (ad a0))]) C d_Bi_differentValues_83 rfl rfl (by decide) rfl ?_
  refine g_goto (pc := 86) C 4 d_Bi_differentValues_86 rfl ?_
  refine g_lv [2, 1, 0] rfl ?_
  exact hk4 _ _ h
set_option maxRecDepth 20000 in
theorem w_Bi_differentValues_71 {X : HX} {ad : Nat → Nat} {I : HI} {J : HJ} {N : HN} {r : Int32} {k4 : Int32 → Int32 → Option (Int32)} {a0 : Nat} {x1 : Int32} {x2 : Int32} {x3 : Int32} (C : Cx X c_Bi_differentValues RX0 5 (some .int) rm_Bi_differentValues) (ha0 : gk Tc nC a0 (0, 0))
    (hk4 : ∀ (x1 : Int32) (x2 : Int32), k4 x1 x2 = some r → G Tc X ad nC 0 0 I J N (gE X Tc ad nC (I, J, N, fun _ => some (.int r))) 4 5 [(0, .ref (ad a0)), (1, .int x1), (2, .int x2)] [])
    (h : Bi_differentValues_71 I N a0 k4 x1 x2 x3 = some r) : G Tc X ad nC 0 0 I J N (gE X Tc ad nC (I, J, N, fun _ => some (.int r))) 71 5 [(0, .ref (ad a0)), (1, .int x1), (2, .int x2), (3, .int x3)] [] := by
  refine g_iload_n (pc := 71) C d_Bi_differentValues_71 rfl 1 rfl ?_
  refine g_iload_n (pc := 72) C d_Bi_differentValues_72 rfl 3 rfl ?_
  refine g_if_eq (pc := 73) C 80 d_Bi_differentValues_73 rfl (fun e1 => ?_) (fun e1 => ?_)
  · have h := o_pos e1 h
    refine g_iconst (pc := 80) C (0 : Int32) d_Bi_differentValues_80 (by decide) ?_
    refine g_lv [0, 2] rfl ?_
    exact w_Bi_differentValues_81 C ha0 hk4 h
  · have h := o_neg e1 h
    refine g_iconst (pc := 76) C (1 : Int32) d_Bi_differentValues_76 (by decide) ?_
    refine g_goto (pc := 77) C 81 d_Bi_differentValues_77 rfl ?_
    refine g_lv [0, 2] rfl ?_
    exact w_Bi_differentValues_81 C ha0 hk4 h
set_option maxRecDepth 20000 in
theorem w_Bi_differentValues_64 {X : HX} {ad : Nat → Nat} {I : HI} {J : HJ} {N : HN} {r : Int32} {k4 : Int32 → Int32 → Option (Int32)} {k17 : Int32 → Int32 → Int32 → Int32 → Option (Int32)} {a0 : Nat} {x1 : Int32} {x2 : Int32} {x4 : Int32} {s0 : Int32} (C : Cx X c_Bi_differentValues RX0 5 (some .int) rm_Bi_differentValues) (ha0 : gk Tc nC a0 (0, 0))
    (hk4 : ∀ (x1 : Int32) (x2 : Int32), k4 x1 x2 = some r → G Tc X ad nC 0 0 I J N (gE X Tc ad nC (I, J, N, fun _ => some (.int r))) 4 5 [(0, .ref (ad a0)), (1, .int x1), (2, .int x2)] [])
    (hk17 : ∀ (x1 : Int32) (x2 : Int32) (x3 : Int32) (x4 : Int32), k17 x1 x2 x3 x4 = some r → G Tc X ad nC 0 0 I J N (gE X Tc ad nC (I, J, N, fun _ => some (.int r))) 17 5 [(0, .ref (ad a0)), (1, .int x1), (2, .int x2), (3, .int x3), (4, .int x4)] [])
    (h : Bi_differentValues_64 I N a0 k4 k17 x1 x2 x4 s0 = some r) : G Tc X ad nC 0 0 I J N (gE X Tc ad nC (I, J, N, fun _ => some (.int r))) 64 5 [(0, .ref (ad a0)), (1, .int x1), (2, .int x2), (4, .int x4)] [.int s0] := by
  refine g_istore_n (pc := 64) (lv' := [(3, .int s0), (0, .ref (ad a0)), (1, .int x1), (2, .int x2), (4, .int x4)]) C d_Bi_differentValues_64 rfl (by decide) rfl ?_
  refine g_iinc (pc := 65) (q := 4) (lv' := [(4, .int (x4 + 1)), (3, .int s0), (0, .ref (ad a0)), (1, .int x1), (2, .int x2)]) C d_Bi_differentValues_65 rfl rfl (by decide) rfl ?_
  refine g_goto (pc := 68) C 17 d_Bi_differentValues_68 rfl ?_
  refine g_lv [2, 3, 4, 1, 0] rfl ?_
  exact hk17 _ _ _ _ h
set_option maxRecDepth 20000 in
theorem w_Bi_differentValues_59 {X : HX} {ad : Nat → Nat} {I : HI} {J : HJ} {N : HN} {r : Int32} {k4 : Int32 → Int32 → Option (Int32)} {k17 : Int32 → Int32 → Int32 → Int32 → Option (Int32)} {a0 : Nat} {x1 : Int32} {x2 : Int32} {x4 : Int32} (C : Cx X c_Bi_differentValues RX0 5 (some .int) rm_Bi_differentValues) (ha0 : gk Tc nC a0 (0, 0))
    (hk4 : ∀ (x1 : Int32) (x2 : Int32), k4 x1 x2 = some r → G Tc X ad nC 0 0 I J N (gE X Tc ad nC (I, J, N, fun _ => some (.int r))) 4 5 [(0, .ref (ad a0)), (1, .int x1), (2, .int x2)] [])
    (hk17 : ∀ (x1 : Int32) (x2 : Int32) (x3 : Int32) (x4 : Int32), k17 x1 x2 x3 x4 = some r → G Tc X ad nC 0 0 I J N (gE X Tc ad nC (I, J, N, fun _ => some (.int r))) 17 5 [(0, .ref (ad a0)), (1, .int x1), (2, .int x2), (3, .int x3), (4, .int x4)] [])
    (h : Bi_differentValues_59 I N a0 k4 k17 x1 x2 x4 = some r) : G Tc X ad nC 0 0 I J N (gE X Tc ad nC (I, J, N, fun _ => some (.int r))) 59 5 [(0, .ref (ad a0)), (1, .int x1), (2, .int x2), (4, .int x4)] [] := by
  refine g_iconst (pc := 59) C (1 : Int32) d_Bi_differentValues_59 (by decide) ?_
  refine g_goto (pc := 60) C 64 d_Bi_differentValues_60 rfl ?_
  refine g_lv [0, 1, 2, 3] rfl ?_
  exact w_Bi_differentValues_64 C ha0 hk4 hk17 h
set_option maxRecDepth 20000 in
theorem w_Bi_differentValues_17b {X : HX} {ad : Nat → Nat} {I : HI} {J : HJ} {N : HN} {r : Int32} {k4 : Int32 → Int32 → Option (Int32)} {k17 : Int32 → Int32 → Int32 → Int32 → Option (Int32)} {a0 : Nat} {x1 : Int32} {x2 : Int32} {x3 : Int32} {x4 : Int32} (C : Cx X c_Bi_differentValues RX0 5 (some .int) rm_Bi_differentValues) (ha0 : gk Tc nC a0 (0, 0))
    (hk4 : ∀ (x1 : Int32) (x2 : Int32), k4 x1 x2 = some r → G Tc X ad nC 0 0 I J N (gE X Tc ad nC (I, J, N, fun _ => some (.int r))) 4 5 [(0, .ref (ad a0)), (1, .int x1), (2, .int x2)] [])
    (hk17 : ∀ (x1 : Int32) (x2 : Int32) (x3 : Int32) (x4 : Int32), k17 x1 x2 x3 x4 = some r → G Tc X ad nC 0 0 I J N (gE X Tc ad nC (I, J, N, fun _ => some (.int r))) 17 5 [(0, .ref (ad a0)), (1, .int x1), (2, .int x2), (3, .int x3), (4, .int x4)] [])
    (h : Bi_differentValues_17b I N a0 k4 k17 x1 x2 x3 x4 = some r) : G Tc X ad nC 0 0 I J N (gE X Tc ad nC (I, J, N, fun _ => some (.int r))) 17 5 [(0, .ref (ad a0)), (1, .int x1), (2, .int x2), (3, .int x3), (4, .int x4)] [] := by
  refine g_iload (pc := 17) C d_Bi_differentValues_17 4 rfl ?_
  refine g_iload_n (pc := 19) C d_Bi_differentValues_19 rfl 2 rfl ?_
  refine g_icmp_ge (pc := 20) C 71 d_Bi_differentValues_20 rfl (fun e1 => ?_) (fun e1 => ?_)
  · have h := o_pos e1 h
    refine g_lv [0, 1, 2, 3] rfl ?_
    exact w_Bi_differentValues_71 C ha0 hk4 h
  · have h := o_neg e1 h
    refine g_iload_n (pc := 23) C d_Bi_differentValues_23 rfl 3 rfl ?_
    refine g_if_eq (pc := 24) C 71 d_Bi_differentValues_24 rfl (fun e2 => ?_) (fun e2 => ?_)
    · have h := o_pos e2 h
      refine g_lv [0, 1, 2, 3] rfl ?_
      exact w_Bi_differentValues_71 C ha0 hk4 h
    · have h := o_neg e2 h
      refine g_aload_n (pc := 27) C d_Bi_differentValues_27 rfl 0 rfl ?_
      refine g_iload (pc := 28) C d_Bi_differentValues_28 4 rfl ?_
      refine g_iconst (pc := 30) C (1 : Int32) d_Bi_differentValues_30 (by decide) ?_
      obtain ⟨r3, hc4, h⟩ := o_bn1 h
      refine g_V (pc := 31) (rest := []) C (k_Bi_item (xl X) ha0 hc4) sm_Bi_item ml_Bi_33 im_Bi_item se_Bi_item gcX0 rfl ha0 ⟨rfl, rfl, Nat.le_of_ble_eq_true rfl, Nat.le_of_ble_eq_true rfl⟩ ⟨Nat.zero_le _, Nat.zero_le _⟩ rfl rfl (Nat.le_of_ble_eq_true rfl) d_Bi_differentValues_31 [.int r3] rfl ?_
      refine g_aload_n (pc := 34) C d_Bi_differentValues_34 rfl 0 rfl ?_
      refine g_iload_n (pc := 35) C d_Bi_differentValues_35 rfl 2 rfl ?_
      refine g_iconst (pc := 36) C (1 : Int32) d_Bi_differentValues_36 (by decide) ?_
      obtain ⟨r5, hc6, h⟩ := o_bn1 h
      refine g_V (pc := 37) (rest := [.int r3]) C (k_Bi_item (xl X) ha0 hc6) sm_Bi_item ml_Bi_33 im_Bi_item se_Bi_item gcX0 rfl ha0 ⟨rfl, rfl, Nat.le_of_ble_eq_true rfl, Nat.le_of_ble_eq_true rfl⟩ ⟨Nat.zero_le _, Nat.zero_le _⟩ rfl rfl (Nat.le_of_ble_eq_true rfl) d_Bi_differentValues_37 [.int r5, .int r3] rfl ?_
      refine g_icmp_ne (pc := 40) C 59 d_Bi_differentValues_40 rfl (fun e7 => ?_) (fun e7 => ?_)
      · have h := o_neg e7 h
        refine g_lv [0, 1, 2, 4] rfl ?_
        exact w_Bi_differentValues_59 C ha0 hk4 hk17 h
      · have h := o_pos e7 h
        refine g_aload_n (pc := 43) C d_Bi_differentValues_43 rfl 0 rfl ?_
        refine g_iload (pc := 44) C d_Bi_differentValues_44 4 rfl ?_
        refine g_iconst (pc := 46) C (2 : Int32) d_Bi_differentValues_46 (by decide) ?_
        obtain ⟨r8, hc9, h⟩ := o_bn1 h
        refine g_V (pc := 47) (rest := []) C (k_Bi_item (xl X) ha0 hc9) sm_Bi_item ml_Bi_33 im_Bi_item se_Bi_item gcX0 rfl ha0 ⟨rfl, rfl, Nat.le_of_ble_eq_true rfl, Nat.le_of_ble_eq_true rfl⟩ ⟨Nat.zero_le _, Nat.zero_le _⟩ rfl rfl (Nat.le_of_ble_eq_true rfl) d_Bi_differentValues_47 [.int r8] rfl ?_
        refine g_aload_n (pc := 50) C d_Bi_differentValues_50 rfl 0 rfl ?_
        refine g_iload_n (pc := 51) C d_Bi_differentValues_51 rfl 2 rfl ?_
        refine g_iconst (pc := 52) C (2 : Int32) d_Bi_differentValues_52 (by decide) ?_
        obtain ⟨r10, hc11, h⟩ := o_bn1 h
        refine g_V (pc := 53) (rest := [.int r8]) C (k_Bi_item (xl X) ha0 hc11) sm_Bi_item ml_Bi_33 im_Bi_item se_Bi_item gcX0 rfl ha0 ⟨rfl, rfl, Nat.le_of_ble_eq_true rfl, Nat.le_of_ble_eq_true rfl⟩ ⟨Nat.zero_le _, Nat.zero_le _⟩ rfl rfl (Nat.le_of_ble_eq_true rfl) d_Bi_differentValues_53 [.int r10, .int r8] rfl ?_
        refine g_icmp_eq (pc := 56) C 63 d_Bi_differentValues_56 rfl (fun e12 => ?_) (fun e12 => ?_)
        · have h := o_pos e12 h
          refine g_iconst (pc := 63) C (0 : Int32) d_Bi_differentValues_63 (by decide) ?_
          refine g_lv [0, 1, 2, 4] rfl ?_
          exact w_Bi_differentValues_64 C ha0 hk4 hk17 h
        · have h := o_neg e12 h
          refine g_lv [0, 1, 2, 4] rfl ?_
          exact w_Bi_differentValues_59 C ha0 hk4 hk17 h
set_option maxRecDepth 20000 in
theorem w_Bi_differentValues_17 {X : HX} {ad : Nat → Nat} {I : HI} {J : HJ} {N : HN} {r : Int32} {k4 : Int32 → Int32 → Option (Int32)} {a0 : Nat} (C : Cx X c_Bi_differentValues RX0 5 (some .int) rm_Bi_differentValues) (ha0 : gk Tc nC a0 (0, 0))
    (hk4 : ∀ (x1 : Int32) (x2 : Int32), k4 x1 x2 = some r → G Tc X ad nC 0 0 I J N (gE X Tc ad nC (I, J, N, fun _ => some (.int r))) 4 5 [(0, .ref (ad a0)), (1, .int x1), (2, .int x2)] []) : ∀ (n : Nat) (x1 : Int32) (x2 : Int32) (x3 : Int32) (x4 : Int32), Bi_differentValues_17 I N a0 k4 n x1 x2 x3 x4 = some r → G Tc X ad nC 0 0 I J N (gE X Tc ad nC (I, J, N, fun _ => some (.int r))) 17 5 [(0, .ref (ad a0)), (1, .int x1), (2, .int x2), (3, .int x3), (4, .int x4)] [] := by
  intro n
  induction n with
  | zero => intro x1 x2 x3 x4 h; cases h
  | succ n ih => intro x1 x2 x3 x4 h; exact w_Bi_differentValues_17b C ha0 hk4 ih h
set_option maxRecDepth 20000 in
theorem w_Bi_differentValues_4b {X : HX} {ad : Nat → Nat} {I : HI} {J : HJ} {N : HN} {r : Int32} {k4 : Int32 → Int32 → Option (Int32)} {a0 : Nat} {x1 : Int32} {x2 : Int32} (C : Cx X c_Bi_differentValues RX0 5 (some .int) rm_Bi_differentValues) (ha0 : gk Tc nC a0 (0, 0))
    (hk4 : ∀ (x1 : Int32) (x2 : Int32), k4 x1 x2 = some r → G Tc X ad nC 0 0 I J N (gE X Tc ad nC (I, J, N, fun _ => some (.int r))) 4 5 [(0, .ref (ad a0)), (1, .int x1), (2, .int x2)] [])
    (h : Bi_differentValues_4b I N a0 k4 x1 x2 = some r) : G Tc X ad nC 0 0 I J N (gE X Tc ad nC (I, J, N, fun _ => some (.int r))) 4 5 [(0, .ref (ad a0)), (1, .int x1), (2, .int x2)] [] := by
  refine g_iload_n (pc := 4) C d_Bi_differentValues_4 rfl 2 rfl ?_
  refine g_aload_n (pc := 5) C d_Bi_differentValues_5 rfl 0 rfl ?_
  refine g_get (pc := 6) (k := 1) (v := .int (I a0 1)) C gcX0 inX0 (by decide) fl_Bi_16 ha0 rfl d_Bi_differentValues_6 ?_
  refine g_icmp_ge (pc := 9) C 89 d_Bi_differentValues_9 rfl (fun e1 => ?_) (fun e1 => ?_)
  · have h := o_pos e1 h
    refine g_iload_n (pc := 89) C d_Bi_differentValues_89 rfl 1 rfl ?_
    obtain rfl := o_ret h
    exact g_iret (pc := 90) C d_Bi_differentValues_90
  · have h := o_neg e1 h
    refine g_iconst (pc := 12) C (1 : Int32) d_Bi_differentValues_12 (by decide) ?_
    refine g_istore_n (pc := 13) (lv' := [(3, .int (1 : Int32)), (0, .ref (ad a0)), (1, .int x1), (2, .int x2)]) C d_Bi_differentValues_13 rfl (by decide) rfl ?_
    refine g_iconst (pc := 14) C (0 : Int32) d_Bi_differentValues_14 (by decide) ?_
    refine g_istore (pc := 15) (lv' := [(4, .int (0 : Int32)), (3, .int (1 : Int32)), (0, .ref (ad a0)), (1, .int x1), (2, .int x2)]) C d_Bi_differentValues_15 (by decide) rfl ?_
    refine g_lv [2, 3, 4, 1, 0] rfl ?_
    exact w_Bi_differentValues_17 C ha0 hk4 _ _ _ _ _ h
set_option maxRecDepth 20000 in
theorem w_Bi_differentValues_4 {X : HX} {ad : Nat → Nat} {I : HI} {J : HJ} {N : HN} {r : Int32} {a0 : Nat} (C : Cx X c_Bi_differentValues RX0 5 (some .int) rm_Bi_differentValues) (ha0 : gk Tc nC a0 (0, 0)) : ∀ (n : Nat) (x1 : Int32) (x2 : Int32), Bi_differentValues_4 I N a0 n x1 x2 = some r → G Tc X ad nC 0 0 I J N (gE X Tc ad nC (I, J, N, fun _ => some (.int r))) 4 5 [(0, .ref (ad a0)), (1, .int x1), (2, .int x2)] [] := by
  intro n
  induction n with
  | zero => intro x1 x2 h; cases h
  | succ n ih => intro x1 x2 h; exact w_Bi_differentValues_4b C ha0 ih h
set_option maxRecDepth 20000 in
theorem w_Bi_differentValues_0 {X : HX} {ad : Nat → Nat} {I : HI} {J : HJ} {N : HN} {r : Int32} {a0 : Nat} (C : Cx X c_Bi_differentValues RX0 5 (some .int) rm_Bi_differentValues) (ha0 : gk Tc nC a0 (0, 0))
    (h : Bi_differentValues_0 I N a0 = some r) : G Tc X ad nC 0 0 I J N (gE X Tc ad nC (I, J, N, fun _ => some (.int r))) 0 5 [(0, .ref (ad a0))] [] := by
  refine g_iconst (pc := 0) C (0 : Int32) d_Bi_differentValues_0 (by decide) ?_
  refine g_istore_n (pc := 1) (lv' := [(1, .int (0 : Int32)), (0, .ref (ad a0))]) C d_Bi_differentValues_1 rfl (by decide) rfl ?_
  refine g_iconst (pc := 2) C (0 : Int32) d_Bi_differentValues_2 (by decide) ?_
  refine g_istore_n (pc := 3) (lv' := [(2, .int (0 : Int32)), (1, .int (0 : Int32)), (0, .ref (ad a0))]) C d_Bi_differentValues_3 rfl (by decide) rfl ?_
  refine g_lv [2, 1, 0] rfl ?_
  exact w_Bi_differentValues_4 C ha0 _ _ _ h
set_option maxRecDepth 20000 in
theorem k_Bi_differentValues (l : Launch) {I : HI} {J : HJ} {N : HN} {a0 : Nat} {r : Int32} (ha0 : gk Tc nC a0 (0, 0)) (h : Bi_differentValues I N a0 = some r) : gM l y_Bi_differentValues c_Bi_differentValues 5 (some .int) rm_Bi_differentValues Tc nC I J N (fun ad => [.ref (ad a0)]) (I, J, N, fun _ => some (.int r)) :=
  g_meth (lv := fun ad => [(0, .ref (ad a0))]) (by decide) (fun _ => Nat.le_of_ble_eq_true rfl) (fun _ => rfl) (fun X ad C => g_lv [0] rfl (w_Bi_differentValues_0 C ha0 h))
theorem d_Po_clear_0 : decode c_Po_clear 0 = .ok (.iconst 0, 1) := by decide +kernel
theorem d_Po_clear_1 : decode c_Po_clear 1 = .ok (.istore_n 1, 1) := by decide +kernel
theorem d_Po_clear_2 : decode c_Po_clear 2 = .ok (.iload_n 1, 1) := by decide +kernel
theorem d_Po_clear_3 : decode c_Po_clear 3 = .ok (.bipush 7, 2) := by decide +kernel
theorem d_Po_clear_5 : decode c_Po_clear 5 = .ok (.if_icmp .ge 16, 3) := by decide +kernel
theorem d_Po_clear_8 : decode c_Po_clear 8 = .ok (.aload_n 0, 1) := by decide +kernel
theorem d_Po_clear_9 : decode c_Po_clear 9 = .ok (.getfield 9, 3) := by decide +kernel
theorem d_Po_clear_12 : decode c_Po_clear 12 = .ok (.iload_n 1, 1) := by decide +kernel
theorem d_Po_clear_13 : decode c_Po_clear 13 = .ok (.lconst 0, 1) := by decide +kernel
theorem d_Po_clear_14 : decode c_Po_clear 14 = .ok (.lastore, 1) := by decide +kernel
theorem d_Po_clear_15 : decode c_Po_clear 15 = .ok (.iinc 1 1, 3) := by decide +kernel
theorem d_Po_clear_18 : decode c_Po_clear 18 = .ok (.goto (-16), 3) := by decide +kernel
theorem d_Po_clear_21 : decode c_Po_clear 21 = .ok (.return_, 1) := by decide +kernel
set_option maxRecDepth 20000 in
theorem w_Po_clear_2b {X : HX} {ad : Nat → Nat} {I : HI} {J : HJ} {N : HN} {r : HJ} {k2 : HJ → Int32 → Option (HJ)} {a0 : Nat} {x1 : Int32} (C : Cx X c_Po_clear RX6 2 none rm_Po_clear) (ha0 : gk Tc nC a0 (0, 6))
    (hk2 : ∀ (J : HJ) (x1 : Int32), k2 J x1 = some r → G Tc X ad nC 0 0 I J N (gE X Tc ad nC (I, r, N, fun _ => none)) 2 2 [(0, .ref (ad a0)), (1, .int x1)] [])
    (h : Po_clear_2b N a0 k2 J x1 = some r) : G Tc X ad nC 0 0 I J N (gE X Tc ad nC (I, r, N, fun _ => none)) 2 2 [(0, .ref (ad a0)), (1, .int x1)] [] := by
  refine g_iload_n (pc := 2) C d_Po_clear_2 rfl 1 rfl ?_
  refine g_bipush (pc := 3) C (7 : Int32) d_Po_clear_3 (by decide) ?_
  refine g_icmp_ge (pc := 5) C 21 d_Po_clear_5 rfl (fun e1 => ?_) (fun e1 => ?_)
  · have h := o_pos e1 h
    obtain rfl := o_ret h
    exact g_vret (pc := 21) C d_Po_clear_21
  · have h := o_neg e1 h
    refine g_aload_n (pc := 8) C d_Po_clear_8 rfl 0 rfl ?_
    obtain ⟨b2, hnb2, hb2, h⟩ := o_ra h
    refine g_get (pc := 9) (k := 0) (v := va_rf ((N a0 0).map ad)) C gcX6 inX6 (by decide) fl_Po_9 ha0 rfl d_Po_clear_9 ?_
    refine g_top (g_rf hnb2) ?_
    refine g_iload_n (pc := 12) C d_Po_clear_12 rfl 1 rfl ?_
    refine g_lconst (pc := 13) C (0 : Int64) d_Po_clear_13 (by decide) ?_
    obtain ⟨hi3, h⟩ := o_gd h
    refine g_last (pc := 14) C hb2 hi3 d_Po_clear_14 ?_
    obtain ⟨J4, eJ4, h⟩ := o_bd h
    rw [← eJ4]
    refine g_iinc (pc := 15) (q := 1) (lv' := [(1, .int (x1 + 1)), (0, .ref (ad a0))]) C d_Po_clear_15 rfl rfl (by decide) rfl ?_
    refine g_goto (pc := 18) C 2 d_Po_clear_18 rfl ?_
    refine g_lv [1, 0] rfl ?_
    exact hk2 _ _ h
set_option maxRecDepth 20000 in
theorem w_Po_clear_2 {X : HX} {ad : Nat → Nat} {I : HI} {N : HN} {r : HJ} {a0 : Nat} (C : Cx X c_Po_clear RX6 2 none rm_Po_clear) (ha0 : gk Tc nC a0 (0, 6)) : ∀ (n : Nat) (J : HJ) (x1 : Int32), Po_clear_2 N a0 n J x1 = some r → G Tc X ad nC 0 0 I J N (gE X Tc ad nC (I, r, N, fun _ => none)) 2 2 [(0, .ref (ad a0)), (1, .int x1)] [] := by
  intro n
  induction n with
  | zero => intro J x1 h; cases h
  | succ n ih => intro J x1 h; exact w_Po_clear_2b C ha0 ih h
set_option maxRecDepth 20000 in
theorem w_Po_clear_0 {X : HX} {ad : Nat → Nat} {I : HI} {J : HJ} {N : HN} {r : HJ} {a0 : Nat} (C : Cx X c_Po_clear RX6 2 none rm_Po_clear) (ha0 : gk Tc nC a0 (0, 6))
    (h : Po_clear_0 N a0 J = some r) : G Tc X ad nC 0 0 I J N (gE X Tc ad nC (I, r, N, fun _ => none)) 0 2 [(0, .ref (ad a0))] [] := by
  refine g_iconst (pc := 0) C (0 : Int32) d_Po_clear_0 (by decide) ?_
  refine g_istore_n (pc := 1) (lv' := [(1, .int (0 : Int32)), (0, .ref (ad a0))]) C d_Po_clear_1 rfl (by decide) rfl ?_
  refine g_lv [1, 0] rfl ?_
  exact w_Po_clear_2 C ha0 _ _ _ h
set_option maxRecDepth 20000 in
theorem k_Po_clear (l : Launch) {I : HI} {J : HJ} {N : HN} {a0 : Nat} {r : HJ} (ha0 : gk Tc nC a0 (0, 6)) (h : Po_clear N a0 J = some r) : gM l y_Po_clear c_Po_clear 2 none rm_Po_clear Tc nC I J N (fun ad => [.ref (ad a0)]) (I, r, N, fun _ => none) :=
  g_meth (lv := fun ad => [(0, .ref (ad a0))]) (by decide) (fun _ => Nat.le_of_ble_eq_true rfl) (fun _ => rfl) (fun X ad C => g_lv [0] rfl (w_Po_clear_0 C ha0 h))
theorem d_Pa_side_0 : decode c_Pa_side 0 = .ok (.iload_n 1, 1) := by decide +kernel
theorem d_Pa_side_1 : decode c_Pa_side 1 = .ok (.ifCond .ne 10, 3) := by decide +kernel
theorem d_Pa_side_4 : decode c_Pa_side 4 = .ok (.aload_n 0, 1) := by decide +kernel
theorem d_Pa_side_5 : decode c_Pa_side 5 = .ok (.getfield 12, 3) := by decide +kernel
theorem d_Pa_side_8 : decode c_Pa_side 8 = .ok (.goto 7, 3) := by decide +kernel
theorem d_Pa_side_11 : decode c_Pa_side 11 = .ok (.aload_n 0, 1) := by decide +kernel
theorem d_Pa_side_12 : decode c_Pa_side 12 = .ok (.getfield 18, 3) := by decide +kernel
theorem d_Pa_side_15 : decode c_Pa_side 15 = .ok (.areturn, 1) := by decide +kernel
set_option maxRecDepth 20000 in
theorem w_Pa_side_0 {X : HX} {ad : Nat → Nat} {I : HI} {J : HJ} {N : HN} {r : Nat} {a0 : Nat} {p1 : Int32} (C : Cx X c_Pa_side RX5 2 (some (.object "LadderMaker$Polynomial")) rm_Pa_side) (ha0 : gk Tc nC a0 (0, 5))
    (h : Pa_side_0 N a0 p1 = some r) : G Tc X ad nC 0 0 I J N (gE X Tc ad nC (I, J, N, fun ad => some (.ref (ad r)))) 0 2 [(0, .ref (ad a0)), (1, .int p1)] [] := by
  refine g_iload_n (pc := 0) C d_Pa_side_0 rfl 1 rfl ?_
  refine g_if_ne (pc := 1) C 11 d_Pa_side_1 rfl (fun e1 => ?_) (fun e1 => ?_)
  · have h := o_neg e1 h
    refine g_aload_n (pc := 11) C d_Pa_side_11 rfl 0 rfl ?_
    obtain ⟨b2, hnb2, hb2, h⟩ := o_rq h
    refine g_get (pc := 12) (k := 1) (v := va_rf ((N a0 1).map ad)) C gcX5 inX5 (by decide) fl_Pa_18 ha0 rfl d_Pa_side_12 ?_
    refine g_top (g_rf hnb2) ?_
    obtain rfl := o_ret h
    exact g_aret (pc := 15) C d_Pa_side_15
  · have h := o_pos e1 h
    refine g_aload_n (pc := 4) C d_Pa_side_4 rfl 0 rfl ?_
    obtain ⟨b3, hnb3, hb3, h⟩ := o_rq h
    refine g_get (pc := 5) (k := 0) (v := va_rf ((N a0 0).map ad)) C gcX5 inX5 (by decide) fl_Pa_12 ha0 rfl d_Pa_side_5 ?_
    refine g_top (g_rf hnb3) ?_
    refine g_goto (pc := 8) C 15 d_Pa_side_8 rfl ?_
    obtain rfl := o_ret h
    exact g_aret (pc := 15) C d_Pa_side_15
set_option maxRecDepth 20000 in
theorem k_Pa_side (l : Launch) {I : HI} {J : HJ} {N : HN} {a0 : Nat} {p1 : Int32} {r : Nat} (ha0 : gk Tc nC a0 (0, 5)) (h : Pa_side N a0 p1 = some r) : gM l y_Pa_side c_Pa_side 2 (some (.object "LadderMaker$Polynomial")) rm_Pa_side Tc nC I J N (fun ad => [.ref (ad a0), .int p1]) (I, J, N, fun ad => some (.ref (ad r))) :=
  g_meth (lv := fun ad => [(0, .ref (ad a0)), (1, .int p1)]) (by decide) (fun _ => Nat.le_of_ble_eq_true rfl) (fun _ => rfl) (fun X ad C => g_lv [0, 1] rfl (w_Pa_side_0 C ha0 h))
theorem d_Po_put_0 : decode c_Po_put 0 = .ok (.iload_n 1, 1) := by decide +kernel
theorem d_Po_put_1 : decode c_Po_put 1 = .ok (.ifCond .lt 16, 3) := by decide +kernel
theorem d_Po_put_4 : decode c_Po_put 4 = .ok (.iload_n 1, 1) := by decide +kernel
theorem d_Po_put_5 : decode c_Po_put 5 = .ok (.bipush 7, 2) := by decide +kernel
theorem d_Po_put_7 : decode c_Po_put 7 = .ok (.if_icmp .ge 10, 3) := by decide +kernel
theorem d_Po_put_10 : decode c_Po_put 10 = .ok (.aload_n 0, 1) := by decide +kernel
theorem d_Po_put_11 : decode c_Po_put 11 = .ok (.getfield 9, 3) := by decide +kernel
theorem d_Po_put_14 : decode c_Po_put 14 = .ok (.iload_n 1, 1) := by decide +kernel
theorem d_Po_put_15 : decode c_Po_put 15 = .ok (.lload_n 2, 1) := by decide +kernel
theorem d_Po_put_16 : decode c_Po_put 16 = .ok (.lastore, 1) := by decide +kernel
theorem d_Po_put_17 : decode c_Po_put 17 = .ok (.return_, 1) := by decide +kernel
set_option maxRecDepth 20000 in
theorem w_Po_put_0 {X : HX} {ad : Nat → Nat} {I : HI} {J : HJ} {N : HN} {r : HJ} {a0 : Nat} {p1 : Int32} {p2 : Int64} (C : Cx X c_Po_put RX6 4 none rm_Po_put) (ha0 : gk Tc nC a0 (0, 6))
    (h : Po_put_0 N a0 p1 p2 J = some r) : G Tc X ad nC 0 0 I J N (gE X Tc ad nC (I, r, N, fun _ => none)) 0 4 [(0, .ref (ad a0)), (1, .int p1), (2, .long p2)] [] := by
  refine g_iload_n (pc := 0) C d_Po_put_0 rfl 1 rfl ?_
  refine g_if_lt (pc := 1) C 17 d_Po_put_1 rfl (fun e1 => ?_) (fun e1 => ?_)
  · have h := o_pos e1 h
    obtain rfl := o_ret h
    exact g_vret (pc := 17) C d_Po_put_17
  · have h := o_neg e1 h
    refine g_iload_n (pc := 4) C d_Po_put_4 rfl 1 rfl ?_
    refine g_bipush (pc := 5) C (7 : Int32) d_Po_put_5 (by decide) ?_
    refine g_icmp_ge (pc := 7) C 17 d_Po_put_7 rfl (fun e2 => ?_) (fun e2 => ?_)
    · have h := o_pos e2 h
      obtain rfl := o_ret h
      exact g_vret (pc := 17) C d_Po_put_17
    · have h := o_neg e2 h
      refine g_aload_n (pc := 10) C d_Po_put_10 rfl 0 rfl ?_
      obtain ⟨b3, hnb3, hb3, h⟩ := o_ra h
      refine g_get (pc := 11) (k := 0) (v := va_rf ((N a0 0).map ad)) C gcX6 inX6 (by decide) fl_Po_9 ha0 rfl d_Po_put_11 ?_
      refine g_top (g_rf hnb3) ?_
      refine g_iload_n (pc := 14) C d_Po_put_14 rfl 1 rfl ?_
      refine g_lload_n (pc := 15) C d_Po_put_15 rfl 2 rfl ?_
      obtain ⟨hi4, h⟩ := o_gd h
      refine g_last (pc := 16) C hb3 hi4 d_Po_put_16 ?_
      obtain ⟨J5, eJ5, h⟩ := o_bd h
      rw [← eJ5]
      obtain rfl := o_ret h
      exact g_vret (pc := 17) C d_Po_put_17
set_option maxRecDepth 20000 in
theorem k_Po_put (l : Launch) {I : HI} {J : HJ} {N : HN} {a0 : Nat} {p1 : Int32} {p2 : Int64} {r : HJ} (ha0 : gk Tc nC a0 (0, 6)) (h : Po_put N a0 p1 p2 J = some r) : gM l y_Po_put c_Po_put 4 none rm_Po_put Tc nC I J N (fun ad => [.ref (ad a0), .int p1, .long p2]) (I, r, N, fun _ => none) :=
  g_meth (lv := fun ad => [(0, .ref (ad a0)), (1, .int p1), (2, .long p2)]) (by decide) (fun _ => Nat.le_of_ble_eq_true rfl) (fun _ => rfl) (fun X ad C => g_lv [0, 1, 2] rfl (w_Po_put_0 C ha0 h))
theorem d_Fo_loadArm_0 : decode c_Fo_loadArm 0 = .ok (.aload_n 1, 1) := by decide +kernel
theorem d_Fo_loadArm_1 : decode c_Fo_loadArm 1 = .ok (.iload_n 2, 1) := by decide +kernel
theorem d_Fo_loadArm_2 : decode c_Fo_loadArm 2 = .ok (.iconst 0, 1) := by decide +kernel
theorem d_Fo_loadArm_3 : decode c_Fo_loadArm 3 = .ok (.invokevirtual 30, 3) := by decide +kernel
theorem d_Fo_loadArm_6 : decode c_Fo_loadArm 6 = .ok (.ifCond .ne 7, 3) := by decide +kernel
theorem d_Fo_loadArm_9 : decode c_Fo_loadArm 9 = .ok (.iconst 1, 1) := by decide +kernel
theorem d_Fo_loadArm_10 : decode c_Fo_loadArm 10 = .ok (.goto 4, 3) := by decide +kernel
theorem d_Fo_loadArm_13 : decode c_Fo_loadArm 13 = .ok (.iconst 3, 1) := by decide +kernel
theorem d_Fo_loadArm_14 : decode c_Fo_loadArm 14 = .ok (.istore_n 3, 1) := by decide +kernel
theorem d_Fo_loadArm_15 : decode c_Fo_loadArm 15 = .ok (.iconst 4, 1) := by decide +kernel
theorem d_Fo_loadArm_16 : decode c_Fo_loadArm 16 = .ok (.iload_n 3, 1) := by decide +kernel
theorem d_Fo_loadArm_17 : decode c_Fo_loadArm 17 = .ok (.isub, 1) := by decide +kernel
theorem d_Fo_loadArm_18 : decode c_Fo_loadArm 18 = .ok (.istore 4, 2) := by decide +kernel
theorem d_Fo_loadArm_20 : decode c_Fo_loadArm 20 = .ok (.aload_n 1, 1) := by decide +kernel
theorem d_Fo_loadArm_21 : decode c_Fo_loadArm 21 = .ok (.iload_n 2, 1) := by decide +kernel
theorem d_Fo_loadArm_22 : decode c_Fo_loadArm 22 = .ok (.iload_n 3, 1) := by decide +kernel
theorem d_Fo_loadArm_23 : decode c_Fo_loadArm 23 = .ok (.invokevirtual 30, 3) := by decide +kernel
theorem d_Fo_loadArm_26 : decode c_Fo_loadArm 26 = .ok (.i2l, 1) := by decide +kernel
theorem d_Fo_loadArm_27 : decode c_Fo_loadArm 27 = .ok (.lstore 5, 2) := by decide +kernel
theorem d_Fo_loadArm_29 : decode c_Fo_loadArm 29 = .ok (.aload_n 1, 1) := by decide +kernel
theorem d_Fo_loadArm_30 : decode c_Fo_loadArm 30 = .ok (.iload_n 2, 1) := by decide +kernel
theorem d_Fo_loadArm_31 : decode c_Fo_loadArm 31 = .ok (.iload_n 3, 1) := by decide +kernel
theorem d_Fo_loadArm_32 : decode c_Fo_loadArm 32 = .ok (.iconst 1, 1) := by decide +kernel
theorem d_Fo_loadArm_33 : decode c_Fo_loadArm 33 = .ok (.iadd, 1) := by decide +kernel
theorem d_Fo_loadArm_34 : decode c_Fo_loadArm 34 = .ok (.invokevirtual 30, 3) := by decide +kernel
theorem d_Fo_loadArm_37 : decode c_Fo_loadArm 37 = .ok (.i2l, 1) := by decide +kernel
theorem d_Fo_loadArm_38 : decode c_Fo_loadArm 38 = .ok (.lstore 7, 2) := by decide +kernel
theorem d_Fo_loadArm_40 : decode c_Fo_loadArm 40 = .ok (.aload_n 1, 1) := by decide +kernel
theorem d_Fo_loadArm_41 : decode c_Fo_loadArm 41 = .ok (.iload_n 2, 1) := by decide +kernel
theorem d_Fo_loadArm_42 : decode c_Fo_loadArm 42 = .ok (.iload 4, 2) := by decide +kernel
theorem d_Fo_loadArm_44 : decode c_Fo_loadArm 44 = .ok (.invokevirtual 30, 3) := by decide +kernel
theorem d_Fo_loadArm_47 : decode c_Fo_loadArm 47 = .ok (.i2l, 1) := by decide +kernel
theorem d_Fo_loadArm_48 : decode c_Fo_loadArm 48 = .ok (.lstore 9, 2) := by decide +kernel
theorem d_Fo_loadArm_50 : decode c_Fo_loadArm 50 = .ok (.aload_n 1, 1) := by decide +kernel
theorem d_Fo_loadArm_51 : decode c_Fo_loadArm 51 = .ok (.iload_n 2, 1) := by decide +kernel
theorem d_Fo_loadArm_52 : decode c_Fo_loadArm 52 = .ok (.iload 4, 2) := by decide +kernel
theorem d_Fo_loadArm_54 : decode c_Fo_loadArm 54 = .ok (.iconst 1, 1) := by decide +kernel
theorem d_Fo_loadArm_55 : decode c_Fo_loadArm 55 = .ok (.iadd, 1) := by decide +kernel
theorem d_Fo_loadArm_56 : decode c_Fo_loadArm 56 = .ok (.invokevirtual 30, 3) := by decide +kernel
theorem d_Fo_loadArm_59 : decode c_Fo_loadArm 59 = .ok (.i2l, 1) := by decide +kernel
theorem d_Fo_loadArm_60 : decode c_Fo_loadArm 60 = .ok (.lstore 11, 2) := by decide +kernel
theorem d_Fo_loadArm_62 : decode c_Fo_loadArm 62 = .ok (.aload_n 0, 1) := by decide +kernel
theorem d_Fo_loadArm_63 : decode c_Fo_loadArm 63 = .ok (.getfield 18, 3) := by decide +kernel
theorem d_Fo_loadArm_66 : decode c_Fo_loadArm 66 = .ok (.getfield 34, 3) := by decide +kernel
theorem d_Fo_loadArm_69 : decode c_Fo_loadArm 69 = .ok (.invokevirtual 38, 3) := by decide +kernel
theorem d_Fo_loadArm_72 : decode c_Fo_loadArm 72 = .ok (.aload_n 0, 1) := by decide +kernel
theorem d_Fo_loadArm_73 : decode c_Fo_loadArm 73 = .ok (.getfield 18, 3) := by decide +kernel
theorem d_Fo_loadArm_76 : decode c_Fo_loadArm 76 = .ok (.getfield 43, 3) := by decide +kernel
theorem d_Fo_loadArm_79 : decode c_Fo_loadArm 79 = .ok (.invokevirtual 38, 3) := by decide +kernel
theorem d_Fo_loadArm_82 : decode c_Fo_loadArm 82 = .ok (.lload 9, 2) := by decide +kernel
theorem d_Fo_loadArm_84 : decode c_Fo_loadArm 84 = .ok (.lconst 0, 1) := by decide +kernel
theorem d_Fo_loadArm_85 : decode c_Fo_loadArm 85 = .ok (.lcmp, 1) := by decide +kernel
theorem d_Fo_loadArm_86 : decode c_Fo_loadArm 86 = .ok (.ifCond .ne 32, 3) := by decide +kernel
theorem d_Fo_loadArm_89 : decode c_Fo_loadArm 89 = .ok (.aload_n 0, 1) := by decide +kernel
theorem d_Fo_loadArm_90 : decode c_Fo_loadArm 90 = .ok (.getfield 18, 3) := by decide +kernel
theorem d_Fo_loadArm_93 : decode c_Fo_loadArm 93 = .ok (.getfield 34, 3) := by decide +kernel
theorem d_Fo_loadArm_96 : decode c_Fo_loadArm 96 = .ok (.iconst 1, 1) := by decide +kernel
theorem d_Fo_loadArm_97 : decode c_Fo_loadArm 97 = .ok (.lload 5, 2) := by decide +kernel
theorem d_Fo_loadArm_99 : decode c_Fo_loadArm 99 = .ok (.invokevirtual 50, 3) := by decide +kernel
theorem d_Fo_loadArm_102 : decode c_Fo_loadArm 102 = .ok (.aload_n 0, 1) := by decide +kernel
theorem d_Fo_loadArm_103 : decode c_Fo_loadArm 103 = .ok (.getfield 18, 3) := by decide +kernel
theorem d_Fo_loadArm_106 : decode c_Fo_loadArm 106 = .ok (.getfield 43, 3) := by decide +kernel
theorem d_Fo_loadArm_109 : decode c_Fo_loadArm 109 = .ok (.iconst 0, 1) := by decide +kernel
theorem d_Fo_loadArm_110 : decode c_Fo_loadArm 110 = .ok (.lload 7, 2) := by decide +kernel
theorem d_Fo_loadArm_112 : decode c_Fo_loadArm 112 = .ok (.invokevirtual 50, 3) := by decide +kernel
theorem d_Fo_loadArm_115 : decode c_Fo_loadArm 115 = .ok (.goto 87, 3) := by decide +kernel
theorem d_Fo_loadArm_118 : decode c_Fo_loadArm 118 = .ok (.lload 5, 2) := by decide +kernel
theorem d_Fo_loadArm_120 : decode c_Fo_loadArm 120 = .ok (.lconst 0, 1) := by decide +kernel
theorem d_Fo_loadArm_121 : decode c_Fo_loadArm 121 = .ok (.lcmp, 1) := by decide +kernel
theorem d_Fo_loadArm_122 : decode c_Fo_loadArm 122 = .ok (.ifCond .ne 32, 3) := by decide +kernel
theorem d_Fo_loadArm_125 : decode c_Fo_loadArm 125 = .ok (.aload_n 0, 1) := by decide +kernel
theorem d_Fo_loadArm_126 : decode c_Fo_loadArm 126 = .ok (.getfield 18, 3) := by decide +kernel
theorem d_Fo_loadArm_129 : decode c_Fo_loadArm 129 = .ok (.getfield 34, 3) := by decide +kernel
theorem d_Fo_loadArm_132 : decode c_Fo_loadArm 132 = .ok (.iconst 0, 1) := by decide +kernel
theorem d_Fo_loadArm_133 : decode c_Fo_loadArm 133 = .ok (.lload 11, 2) := by decide +kernel
theorem d_Fo_loadArm_135 : decode c_Fo_loadArm 135 = .ok (.invokevirtual 50, 3) := by decide +kernel
theorem d_Fo_loadArm_138 : decode c_Fo_loadArm 138 = .ok (.aload_n 0, 1) := by decide +kernel
theorem d_Fo_loadArm_139 : decode c_Fo_loadArm 139 = .ok (.getfield 18, 3) := by decide +kernel
theorem d_Fo_loadArm_142 : decode c_Fo_loadArm 142 = .ok (.getfield 43, 3) := by decide +kernel
theorem d_Fo_loadArm_145 : decode c_Fo_loadArm 145 = .ok (.iconst 1, 1) := by decide +kernel
theorem d_Fo_loadArm_146 : decode c_Fo_loadArm 146 = .ok (.lload 9, 2) := by decide +kernel
theorem d_Fo_loadArm_148 : decode c_Fo_loadArm 148 = .ok (.invokevirtual 50, 3) := by decide +kernel
theorem d_Fo_loadArm_151 : decode c_Fo_loadArm 151 = .ok (.goto 51, 3) := by decide +kernel
theorem d_Fo_loadArm_154 : decode c_Fo_loadArm 154 = .ok (.aload_n 0, 1) := by decide +kernel
theorem d_Fo_loadArm_155 : decode c_Fo_loadArm 155 = .ok (.getfield 18, 3) := by decide +kernel
theorem d_Fo_loadArm_158 : decode c_Fo_loadArm 158 = .ok (.getfield 34, 3) := by decide +kernel
theorem d_Fo_loadArm_161 : decode c_Fo_loadArm 161 = .ok (.iconst 1, 1) := by decide +kernel
theorem d_Fo_loadArm_162 : decode c_Fo_loadArm 162 = .ok (.lload 5, 2) := by decide +kernel
theorem d_Fo_loadArm_164 : decode c_Fo_loadArm 164 = .ok (.lload 11, 2) := by decide +kernel
theorem d_Fo_loadArm_166 : decode c_Fo_loadArm 166 = .ok (.lmul, 1) := by decide +kernel
theorem d_Fo_loadArm_167 : decode c_Fo_loadArm 167 = .ok (.invokevirtual 50, 3) := by decide +kernel
theorem d_Fo_loadArm_170 : decode c_Fo_loadArm 170 = .ok (.aload_n 0, 1) := by decide +kernel
theorem d_Fo_loadArm_171 : decode c_Fo_loadArm 171 = .ok (.getfield 18, 3) := by decide +kernel
theorem d_Fo_loadArm_174 : decode c_Fo_loadArm 174 = .ok (.getfield 43, 3) := by decide +kernel
theorem d_Fo_loadArm_177 : decode c_Fo_loadArm 177 = .ok (.iconst 0, 1) := by decide +kernel
theorem d_Fo_loadArm_178 : decode c_Fo_loadArm 178 = .ok (.lload 7, 2) := by decide +kernel
theorem d_Fo_loadArm_180 : decode c_Fo_loadArm 180 = .ok (.lload 11, 2) := by decide +kernel
theorem d_Fo_loadArm_182 : decode c_Fo_loadArm 182 = .ok (.lmul, 1) := by decide +kernel
theorem d_Fo_loadArm_183 : decode c_Fo_loadArm 183 = .ok (.invokevirtual 50, 3) := by decide +kernel
theorem d_Fo_loadArm_186 : decode c_Fo_loadArm 186 = .ok (.aload_n 0, 1) := by decide +kernel
theorem d_Fo_loadArm_187 : decode c_Fo_loadArm 187 = .ok (.getfield 18, 3) := by decide +kernel
theorem d_Fo_loadArm_190 : decode c_Fo_loadArm 190 = .ok (.getfield 43, 3) := by decide +kernel
theorem d_Fo_loadArm_193 : decode c_Fo_loadArm 193 = .ok (.iconst 2, 1) := by decide +kernel
theorem d_Fo_loadArm_194 : decode c_Fo_loadArm 194 = .ok (.lload 5, 2) := by decide +kernel
theorem d_Fo_loadArm_196 : decode c_Fo_loadArm 196 = .ok (.lload 9, 2) := by decide +kernel
theorem d_Fo_loadArm_198 : decode c_Fo_loadArm 198 = .ok (.lmul, 1) := by decide +kernel
theorem d_Fo_loadArm_199 : decode c_Fo_loadArm 199 = .ok (.invokevirtual 50, 3) := by decide +kernel
theorem d_Fo_loadArm_202 : decode c_Fo_loadArm 202 = .ok (.return_, 1) := by decide +kernel
set_option maxRecDepth 20000 in
theorem w_Fo_loadArm_14 {X : HX} {ad : Nat → Nat} {I : HI} {J : HJ} {N : HN} {r : HJ} {a0 : Nat} {a1 : Nat} {p2 : Int32} {s0 : Int32} (C : Cx X c_Fo_loadArm RX1 13 none rm_Fo_loadArm) (ha0 : gk Tc nC a0 (0, 1)) (ha1 : gk Tc nC a1 (0, 3))
    (h : Fo_loadArm_14 I N a0 a1 p2 J s0 = some r) : G Tc X ad nC 0 0 I J N (gE X Tc ad nC (I, r, N, fun _ => none)) 14 13 [(0, .ref (ad a0)), (1, .ref (ad a1)), (2, .int p2)] [.int s0] := by
  refine g_istore_n (pc := 14) (lv' := [(3, .int s0), (0, .ref (ad a0)), (1, .ref (ad a1)), (2, .int p2)]) C d_Fo_loadArm_14 rfl (by decide) rfl ?_
  refine g_iconst (pc := 15) C (4 : Int32) d_Fo_loadArm_15 (by decide) ?_
  refine g_iload_n (pc := 16) C d_Fo_loadArm_16 rfl 0 rfl ?_
  refine g_isub (pc := 17) C d_Fo_loadArm_17 ?_
  obtain ⟨v1, ev1, h⟩ := o_bd h
  refine g_topi ev1 ?_
  refine g_istore (pc := 18) (lv' := [(4, .int v1), (3, .int s0), (0, .ref (ad a0)), (1, .ref (ad a1)), (2, .int p2)]) C d_Fo_loadArm_18 (by decide) rfl ?_
  refine g_aload_n (pc := 20) C d_Fo_loadArm_20 rfl 3 rfl ?_
  refine g_iload_n (pc := 21) C d_Fo_loadArm_21 rfl 4 rfl ?_
  refine g_iload_n (pc := 22) C d_Fo_loadArm_22 rfl 1 rfl ?_
  obtain ⟨r2, hc3, h⟩ := o_bn1 h
  refine g_V (pc := 23) (rest := []) C (k_La_item (xl X) ha1 hc3) sm_La_item ml_Fo_30 im_La_item se_La_item gcX3 rfl ha1 ⟨rfl, rfl, Nat.le_of_ble_eq_true rfl, Nat.le_of_ble_eq_true rfl⟩ ⟨Nat.zero_le _, Nat.zero_le _⟩ rfl rfl (Nat.le_of_ble_eq_true rfl) d_Fo_loadArm_23 [.int r2] rfl ?_
  refine g_i2l (pc := 26) C d_Fo_loadArm_26 ?_
  refine g_lstore (pc := 27) (lv' := [(5, .long r2.toInt64), (4, .int v1), (3, .int s0), (0, .ref (ad a0)), (1, .ref (ad a1)), (2, .int p2)]) C d_Fo_loadArm_27 (by decide) rfl ?_
  refine g_aload_n (pc := 29) C d_Fo_loadArm_29 rfl 4 rfl ?_
  refine g_iload_n (pc := 30) C d_Fo_loadArm_30 rfl 5 rfl ?_
  refine g_iload_n (pc := 31) C d_Fo_loadArm_31 rfl 2 rfl ?_
  refine g_iconst (pc := 32) C (1 : Int32) d_Fo_loadArm_32 (by decide) ?_
  refine g_iadd (pc := 33) C d_Fo_loadArm_33 ?_
  obtain ⟨r4, hc5, h⟩ := o_bn1 h
  refine g_V (pc := 34) (rest := []) C (k_La_item (xl X) ha1 hc5) sm_La_item ml_Fo_30 im_La_item se_La_item gcX3 rfl ha1 ⟨rfl, rfl, Nat.le_of_ble_eq_true rfl, Nat.le_of_ble_eq_true rfl⟩ ⟨Nat.zero_le _, Nat.zero_le _⟩ rfl rfl (Nat.le_of_ble_eq_true rfl) d_Fo_loadArm_34 [.int r4] rfl ?_
  refine g_i2l (pc := 37) C d_Fo_loadArm_37 ?_
  refine g_lstore (pc := 38) (lv' := [(7, .long r4.toInt64), (5, .long r2.toInt64), (4, .int v1), (3, .int s0), (0, .ref (ad a0)), (1, .ref (ad a1)), (2, .int p2)]) C d_Fo_loadArm_38 (by decide) rfl ?_
  refine g_aload_n (pc := 40) C d_Fo_loadArm_40 rfl 5 rfl ?_
  refine g_iload_n (pc := 41) C d_Fo_loadArm_41 rfl 6 rfl ?_
  refine g_iload (pc := 42) C d_Fo_loadArm_42 2 rfl ?_
  obtain ⟨r6, hc7, h⟩ := o_bn1 h
  refine g_V (pc := 44) (rest := []) C (k_La_item (xl X) ha1 hc7) sm_La_item ml_Fo_30 im_La_item se_La_item gcX3 rfl ha1 ⟨rfl, rfl, Nat.le_of_ble_eq_true rfl, Nat.le_of_ble_eq_true rfl⟩ ⟨Nat.zero_le _, Nat.zero_le _⟩ rfl rfl (Nat.le_of_ble_eq_true rfl) d_Fo_loadArm_44 [.int r6] rfl ?_
  refine g_i2l (pc := 47) C d_Fo_loadArm_47 ?_
  refine g_lstore (pc := 48) (lv' := [(9, .long r6.toInt64), (7, .long r4.toInt64), (5, .long r2.toInt64), (4, .int v1), (3, .int s0), (0, .ref (ad a0)), (1, .ref (ad a1)), (2, .int p2)]) C d_Fo_loadArm_48 (by decide) rfl ?_
  refine g_aload_n (pc := 50) C d_Fo_loadArm_50 rfl 6 rfl ?_
  refine g_iload_n (pc := 51) C d_Fo_loadArm_51 rfl 7 rfl ?_
  refine g_iload (pc := 52) C d_Fo_loadArm_52 3 rfl ?_
  refine g_iconst (pc := 54) C (1 : Int32) d_Fo_loadArm_54 (by decide) ?_
  refine g_iadd (pc := 55) C d_Fo_loadArm_55 ?_
  obtain ⟨r8, hc9, h⟩ := o_bn1 h
  refine g_V (pc := 56) (rest := []) C (k_La_item (xl X) ha1 hc9) sm_La_item ml_Fo_30 im_La_item se_La_item gcX3 rfl ha1 ⟨rfl, rfl, Nat.le_of_ble_eq_true rfl, Nat.le_of_ble_eq_true rfl⟩ ⟨Nat.zero_le _, Nat.zero_le _⟩ rfl rfl (Nat.le_of_ble_eq_true rfl) d_Fo_loadArm_56 [.int r8] rfl ?_
  refine g_i2l (pc := 59) C d_Fo_loadArm_59 ?_
  refine g_lstore (pc := 60) (lv' := [(11, .long r8.toInt64), (9, .long r6.toInt64), (7, .long r4.toInt64), (5, .long r2.toInt64), (4, .int v1), (3, .int s0), (0, .ref (ad a0)), (1, .ref (ad a1)), (2, .int p2)]) C d_Fo_loadArm_60 (by decide) rfl ?_
  refine g_aload_n (pc := 62) C d_Fo_loadArm_62 rfl 6 rfl ?_
  obtain ⟨b10, hnb10, hb10, h⟩ := o_rq h
  refine g_get (pc := 63) (k := 1) (v := va_rf ((N a0 1).map ad)) C gcX1 inX1 (by decide) fl_Fo_18 ha0 rfl d_Fo_loadArm_63 ?_
  refine g_top (g_rf hnb10) ?_
  obtain ⟨b11, hnb11, hb11, h⟩ := o_rq h
  refine g_getN (pc := 66) (k := 0) (v := va_rf ((N b10 0).map ad)) C gcX5 inX5 (by decide) fl_Fo_34 hb10 rfl d_Fo_loadArm_66 ?_
  refine g_top (g_rf hnb11) ?_
  obtain ⟨J12, hc13, h⟩ := o_bn1 h
  refine g_V (pc := 69) (rest := []) C (k_Po_clear (xl X) hb11 hc13) sm_Po_clear ml_Fo_38 im_Po_clear se_Po_clear gcX6 rfl hb11 ⟨rfl, rfl, Nat.le_of_ble_eq_true rfl, Nat.le_of_ble_eq_true rfl⟩ ⟨Nat.zero_le _, Nat.zero_le _⟩ rfl rfl (Nat.le_of_ble_eq_true rfl) d_Fo_loadArm_69 [] rfl ?_
  refine g_aload_n (pc := 72) C d_Fo_loadArm_72 rfl 6 rfl ?_
  obtain ⟨b14, hnb14, hb14, h⟩ := o_rq h
  refine g_get (pc := 73) (k := 1) (v := va_rf ((N a0 1).map ad)) C gcX1 inX1 (by decide) fl_Fo_18 ha0 rfl d_Fo_loadArm_73 ?_
  refine g_top (g_rf hnb14) ?_
  obtain ⟨b15, hnb15, hb15, h⟩ := o_rq h
  refine g_getN (pc := 76) (k := 1) (v := va_rf ((N b14 1).map ad)) C gcX5 inX5 (by decide) fl_Fo_43 hb14 rfl d_Fo_loadArm_76 ?_
  refine g_top (g_rf hnb15) ?_
  obtain ⟨J16, hc17, h⟩ := o_bn1 h
  refine g_V (pc := 79) (rest := []) C (k_Po_clear (xl X) hb15 hc17) sm_Po_clear ml_Fo_38 im_Po_clear se_Po_clear gcX6 rfl hb15 ⟨rfl, rfl, Nat.le_of_ble_eq_true rfl, Nat.le_of_ble_eq_true rfl⟩ ⟨Nat.zero_le _, Nat.zero_le _⟩ rfl rfl (Nat.le_of_ble_eq_true rfl) d_Fo_loadArm_79 [] rfl ?_
  refine g_lload (pc := 82) C d_Fo_loadArm_82 1 rfl ?_
  refine g_lconst (pc := 84) C (0 : Int64) d_Fo_loadArm_84 (by decide) ?_
  refine g_lcmp_ne (pc := 85) C 118 d_Fo_loadArm_85 d_Fo_loadArm_86 rfl (fun e18 => ?_) (fun e18 => ?_)
  · have h := o_neg e18 h
    refine g_lload (pc := 118) C d_Fo_loadArm_118 3 rfl ?_
    refine g_lconst (pc := 120) C (0 : Int64) d_Fo_loadArm_120 (by decide) ?_
    refine g_lcmp_ne (pc := 121) C 154 d_Fo_loadArm_121 d_Fo_loadArm_122 rfl (fun e19 => ?_) (fun e19 => ?_)
    · have h := o_neg e19 h
      refine g_aload_n (pc := 154) C d_Fo_loadArm_154 rfl 6 rfl ?_
      obtain ⟨b20, hnb20, hb20, h⟩ := o_rq h
      refine g_get (pc := 155) (k := 1) (v := va_rf ((N a0 1).map ad)) C gcX1 inX1 (by decide) fl_Fo_18 ha0 rfl d_Fo_loadArm_155 ?_
      refine g_top (g_rf hnb20) ?_
      obtain ⟨b21, hnb21, hb21, h⟩ := o_rq h
      refine g_getN (pc := 158) (k := 0) (v := va_rf ((N b20 0).map ad)) C gcX5 inX5 (by decide) fl_Fo_34 hb20 rfl d_Fo_loadArm_158 ?_
      refine g_top (g_rf hnb21) ?_
      refine g_iconst (pc := 161) C (1 : Int32) d_Fo_loadArm_161 (by decide) ?_
      refine g_lload (pc := 162) C d_Fo_loadArm_162 3 rfl ?_
      refine g_lload (pc := 164) C d_Fo_loadArm_164 0 rfl ?_
      refine g_lmul (pc := 166) C d_Fo_loadArm_166 ?_
      obtain ⟨J22, hc23, h⟩ := o_bn1 h
      refine g_V (pc := 167) (rest := []) C (k_Po_put (xl X) hb21 hc23) sm_Po_put ml_Fo_50 im_Po_put se_Po_put gcX6 rfl hb21 ⟨rfl, rfl, Nat.le_of_ble_eq_true rfl, Nat.le_of_ble_eq_true rfl⟩ ⟨Nat.zero_le _, Nat.zero_le _⟩ rfl rfl (Nat.le_of_ble_eq_true rfl) d_Fo_loadArm_167 [] rfl ?_
      refine g_aload_n (pc := 170) C d_Fo_loadArm_170 rfl 6 rfl ?_
      obtain ⟨b24, hnb24, hb24, h⟩ := o_rq h
      refine g_get (pc := 171) (k := 1) (v := va_rf ((N a0 1).map ad)) C gcX1 inX1 (by decide) fl_Fo_18 ha0 rfl d_Fo_loadArm_171 ?_
      refine g_top (g_rf hnb24) ?_
      obtain ⟨b25, hnb25, hb25, h⟩ := o_rq h
      refine g_getN (pc := 174) (k := 1) (v := va_rf ((N b24 1).map ad)) C gcX5 inX5 (by decide) fl_Fo_43 hb24 rfl d_Fo_loadArm_174 ?_
      refine g_top (g_rf hnb25) ?_
      refine g_iconst (pc := 177) C (0 : Int32) d_Fo_loadArm_177 (by decide) ?_
      refine g_lload (pc := 178) C d_Fo_loadArm_178 2 rfl ?_
      refine g_lload (pc := 180) C d_Fo_loadArm_180 0 rfl ?_
      refine g_lmul (pc := 182) C d_Fo_loadArm_182 ?_
      obtain ⟨J26, hc27, h⟩ := o_bn1 h
      refine g_V (pc := 183) (rest := []) C (k_Po_put (xl X) hb25 hc27) sm_Po_put ml_Fo_50 im_Po_put se_Po_put gcX6 rfl hb25 ⟨rfl, rfl, Nat.le_of_ble_eq_true rfl, Nat.le_of_ble_eq_true rfl⟩ ⟨Nat.zero_le _, Nat.zero_le _⟩ rfl rfl (Nat.le_of_ble_eq_true rfl) d_Fo_loadArm_183 [] rfl ?_
      refine g_aload_n (pc := 186) C d_Fo_loadArm_186 rfl 6 rfl ?_
      obtain ⟨b28, hnb28, hb28, h⟩ := o_rq h
      refine g_get (pc := 187) (k := 1) (v := va_rf ((N a0 1).map ad)) C gcX1 inX1 (by decide) fl_Fo_18 ha0 rfl d_Fo_loadArm_187 ?_
      refine g_top (g_rf hnb28) ?_
      obtain ⟨b29, hnb29, hb29, h⟩ := o_rq h
      refine g_getN (pc := 190) (k := 1) (v := va_rf ((N b28 1).map ad)) C gcX5 inX5 (by decide) fl_Fo_43 hb28 rfl d_Fo_loadArm_190 ?_
      refine g_top (g_rf hnb29) ?_
      refine g_iconst (pc := 193) C (2 : Int32) d_Fo_loadArm_193 (by decide) ?_
      refine g_lload (pc := 194) C d_Fo_loadArm_194 3 rfl ?_
      refine g_lload (pc := 196) C d_Fo_loadArm_196 1 rfl ?_
      refine g_lmul (pc := 198) C d_Fo_loadArm_198 ?_
      obtain ⟨J30, hc31, h⟩ := o_bn1 h
      refine g_V (pc := 199) (rest := []) C (k_Po_put (xl X) hb29 hc31) sm_Po_put ml_Fo_50 im_Po_put se_Po_put gcX6 rfl hb29 ⟨rfl, rfl, Nat.le_of_ble_eq_true rfl, Nat.le_of_ble_eq_true rfl⟩ ⟨Nat.zero_le _, Nat.zero_le _⟩ rfl rfl (Nat.le_of_ble_eq_true rfl) d_Fo_loadArm_199 [] rfl ?_
      obtain rfl := o_ret h
      exact g_vret (pc := 202) C d_Fo_loadArm_202
    · have h := o_pos e19 h
      refine g_aload_n (pc := 125) C d_Fo_loadArm_125 rfl 6 rfl ?_
      obtain ⟨b32, hnb32, hb32, h⟩ := o_rq h
      refine g_get (pc := 126) (k := 1) (v := va_rf ((N a0 1).map ad)) C gcX1 inX1 (by decide) fl_Fo_18 ha0 rfl d_Fo_loadArm_126 ?_
      refine g_top (g_rf hnb32) ?_
      obtain ⟨b33, hnb33, hb33, h⟩ := o_rq h
      refine g_getN (pc := 129) (k := 0) (v := va_rf ((N b32 0).map ad)) C gcX5 inX5 (by decide) fl_Fo_34 hb32 rfl d_Fo_loadArm_129 ?_
      refine g_top (g_rf hnb33) ?_
      refine g_iconst (pc := 132) C (0 : Int32) d_Fo_loadArm_132 (by decide) ?_
      refine g_lload (pc := 133) C d_Fo_loadArm_133 0 rfl ?_
      obtain ⟨J34, hc35, h⟩ := o_bn1 h
      refine g_V (pc := 135) (rest := []) C (k_Po_put (xl X) hb33 hc35) sm_Po_put ml_Fo_50 im_Po_put se_Po_put gcX6 rfl hb33 ⟨rfl, rfl, Nat.le_of_ble_eq_true rfl, Nat.le_of_ble_eq_true rfl⟩ ⟨Nat.zero_le _, Nat.zero_le _⟩ rfl rfl (Nat.le_of_ble_eq_true rfl) d_Fo_loadArm_135 [] rfl ?_
      refine g_aload_n (pc := 138) C d_Fo_loadArm_138 rfl 6 rfl ?_
      obtain ⟨b36, hnb36, hb36, h⟩ := o_rq h
      refine g_get (pc := 139) (k := 1) (v := va_rf ((N a0 1).map ad)) C gcX1 inX1 (by decide) fl_Fo_18 ha0 rfl d_Fo_loadArm_139 ?_
      refine g_top (g_rf hnb36) ?_
      obtain ⟨b37, hnb37, hb37, h⟩ := o_rq h
      refine g_getN (pc := 142) (k := 1) (v := va_rf ((N b36 1).map ad)) C gcX5 inX5 (by decide) fl_Fo_43 hb36 rfl d_Fo_loadArm_142 ?_
      refine g_top (g_rf hnb37) ?_
      refine g_iconst (pc := 145) C (1 : Int32) d_Fo_loadArm_145 (by decide) ?_
      refine g_lload (pc := 146) C d_Fo_loadArm_146 1 rfl ?_
      obtain ⟨J38, hc39, h⟩ := o_bn1 h
      refine g_V (pc := 148) (rest := []) C (k_Po_put (xl X) hb37 hc39) sm_Po_put ml_Fo_50 im_Po_put se_Po_put gcX6 rfl hb37 ⟨rfl, rfl, Nat.le_of_ble_eq_true rfl, Nat.le_of_ble_eq_true rfl⟩ ⟨Nat.zero_le _, Nat.zero_le _⟩ rfl rfl (Nat.le_of_ble_eq_true rfl) d_Fo_loadArm_148 [] rfl ?_
      refine g_goto (pc := 151) C 202 d_Fo_loadArm_151 rfl ?_
      obtain rfl := o_ret h
      exact g_vret (pc := 202) C d_Fo_loadArm_202
  · have h := o_pos e18 h
    refine g_aload_n (pc := 89) C d_Fo_loadArm_89 rfl 6 rfl ?_
    obtain ⟨b40, hnb40, hb40, h⟩ := o_rq h
    refine g_get (pc := 90) (k := 1) (v := va_rf ((N a0 1).map ad)) C gcX1 inX1 (by decide) fl_Fo_18 ha0 rfl d_Fo_loadArm_90 ?_
    refine g_top (g_rf hnb40) ?_
    obtain ⟨b41, hnb41, hb41, h⟩ := o_rq h
    refine g_getN (pc := 93) (k := 0) (v := va_rf ((N b40 0).map ad)) C gcX5 inX5 (by decide) fl_Fo_34 hb40 rfl d_Fo_loadArm_93 ?_
    refine g_top (g_rf hnb41) ?_
    refine g_iconst (pc := 96) C (1 : Int32) d_Fo_loadArm_96 (by decide) ?_
    refine g_lload (pc := 97) C d_Fo_loadArm_97 3 rfl ?_
    obtain ⟨J42, hc43, h⟩ := o_bn1 h
    refine g_V (pc := 99) (rest := []) C (k_Po_put (xl X) hb41 hc43) sm_Po_put ml_Fo_50 im_Po_put se_Po_put gcX6 rfl hb41 ⟨rfl, rfl, Nat.le_of_ble_eq_true rfl, Nat.le_of_ble_eq_true rfl⟩ ⟨Nat.zero_le _, Nat.zero_le _⟩ rfl rfl (Nat.le_of_ble_eq_true rfl) d_Fo_loadArm_99 [] rfl ?_
    refine g_aload_n (pc := 102) C d_Fo_loadArm_102 rfl 6 rfl ?_
    obtain ⟨b44, hnb44, hb44, h⟩ := o_rq h
    refine g_get (pc := 103) (k := 1) (v := va_rf ((N a0 1).map ad)) C gcX1 inX1 (by decide) fl_Fo_18 ha0 rfl d_Fo_loadArm_103 ?_
    refine g_top (g_rf hnb44) ?_
    obtain ⟨b45, hnb45, hb45, h⟩ := o_rq h
    refine g_getN (pc := 106) (k := 1) (v := va_rf ((N b44 1).map ad)) C gcX5 inX5 (by decide) fl_Fo_43 hb44 rfl d_Fo_loadArm_106 ?_
    refine g_top (g_rf hnb45) ?_
    refine g_iconst (pc := 109) C (0 : Int32) d_Fo_loadArm_109 (by decide) ?_
    refine g_lload (pc := 110) C d_Fo_loadArm_110 2 rfl ?_
    obtain ⟨J46, hc47, h⟩ := o_bn1 h
    refine g_V (pc := 112) (rest := []) C (k_Po_put (xl X) hb45 hc47) sm_Po_put ml_Fo_50 im_Po_put se_Po_put gcX6 rfl hb45 ⟨rfl, rfl, Nat.le_of_ble_eq_true rfl, Nat.le_of_ble_eq_true rfl⟩ ⟨Nat.zero_le _, Nat.zero_le _⟩ rfl rfl (Nat.le_of_ble_eq_true rfl) d_Fo_loadArm_112 [] rfl ?_
    refine g_goto (pc := 115) C 202 d_Fo_loadArm_115 rfl ?_
    obtain rfl := o_ret h
    exact g_vret (pc := 202) C d_Fo_loadArm_202
set_option maxRecDepth 20000 in
theorem w_Fo_loadArm_0 {X : HX} {ad : Nat → Nat} {I : HI} {J : HJ} {N : HN} {r : HJ} {a0 : Nat} {a1 : Nat} {p2 : Int32} (C : Cx X c_Fo_loadArm RX1 13 none rm_Fo_loadArm) (ha0 : gk Tc nC a0 (0, 1)) (ha1 : gk Tc nC a1 (0, 3))
    (h : Fo_loadArm_0 I N a0 a1 p2 J = some r) : G Tc X ad nC 0 0 I J N (gE X Tc ad nC (I, r, N, fun _ => none)) 0 13 [(0, .ref (ad a0)), (1, .ref (ad a1)), (2, .int p2)] [] := by
  refine g_aload_n (pc := 0) C d_Fo_loadArm_0 rfl 1 rfl ?_
  refine g_iload_n (pc := 1) C d_Fo_loadArm_1 rfl 2 rfl ?_
  refine g_iconst (pc := 2) C (0 : Int32) d_Fo_loadArm_2 (by decide) ?_
  obtain ⟨r1, hc2, h⟩ := o_bn1 h
  refine g_V (pc := 3) (rest := []) C (k_La_item (xl X) ha1 hc2) sm_La_item ml_Fo_30 im_La_item se_La_item gcX3 rfl ha1 ⟨rfl, rfl, Nat.le_of_ble_eq_true rfl, Nat.le_of_ble_eq_true rfl⟩ ⟨Nat.zero_le _, Nat.zero_le _⟩ rfl rfl (Nat.le_of_ble_eq_true rfl) d_Fo_loadArm_3 [.int r1] rfl ?_
  refine g_if_ne (pc := 6) C 13 d_Fo_loadArm_6 rfl (fun e3 => ?_) (fun e3 => ?_)
  · have h := o_neg e3 h
    refine g_iconst (pc := 13) C (3 : Int32) d_Fo_loadArm_13 (by decide) ?_
    refine g_lv [0, 1, 2] rfl ?_
    exact w_Fo_loadArm_14 C ha0 ha1 h
  · have h := o_pos e3 h
    refine g_iconst (pc := 9) C (1 : Int32) d_Fo_loadArm_9 (by decide) ?_
    refine g_goto (pc := 10) C 14 d_Fo_loadArm_10 rfl ?_
    refine g_lv [0, 1, 2] rfl ?_
    exact w_Fo_loadArm_14 C ha0 ha1 h
set_option maxRecDepth 20000 in
theorem k_Fo_loadArm (l : Launch) {I : HI} {J : HJ} {N : HN} {a0 : Nat} {a1 : Nat} {p2 : Int32} {r : HJ} (ha0 : gk Tc nC a0 (0, 1)) (ha1 : gk Tc nC a1 (0, 3)) (h : Fo_loadArm I N a0 a1 p2 J = some r) : gM l y_Fo_loadArm c_Fo_loadArm 13 none rm_Fo_loadArm Tc nC I J N (fun ad => [.ref (ad a0), .ref (ad a1), .int p2]) (I, r, N, fun _ => none) :=
  g_meth (lv := fun ad => [(0, .ref (ad a0)), (1, .ref (ad a1)), (2, .int p2)]) (by decide) (fun _ => Nat.le_of_ble_eq_true rfl) (fun _ => rfl) (fun X ad C => g_lv [0, 1, 2] rfl (w_Fo_loadArm_0 C ha0 ha1 h))
theorem d_Pa_swap_0 : decode c_Pa_swap 0 = .ok (.aload_n 0, 1) := by decide +kernel
theorem d_Pa_swap_1 : decode c_Pa_swap 1 = .ok (.getfield 12, 3) := by decide +kernel
theorem d_Pa_swap_4 : decode c_Pa_swap 4 = .ok (.astore_n 1, 1) := by decide +kernel
theorem d_Pa_swap_5 : decode c_Pa_swap 5 = .ok (.aload_n 0, 1) := by decide +kernel
theorem d_Pa_swap_6 : decode c_Pa_swap 6 = .ok (.aload_n 0, 1) := by decide +kernel
theorem d_Pa_swap_7 : decode c_Pa_swap 7 = .ok (.getfield 18, 3) := by decide +kernel
theorem d_Pa_swap_10 : decode c_Pa_swap 10 = .ok (.putfield 12, 3) := by decide +kernel
theorem d_Pa_swap_13 : decode c_Pa_swap 13 = .ok (.aload_n 0, 1) := by decide +kernel
theorem d_Pa_swap_14 : decode c_Pa_swap 14 = .ok (.aload_n 1, 1) := by decide +kernel
theorem d_Pa_swap_15 : decode c_Pa_swap 15 = .ok (.putfield 18, 3) := by decide +kernel
theorem d_Pa_swap_18 : decode c_Pa_swap 18 = .ok (.return_, 1) := by decide +kernel
set_option maxRecDepth 20000 in
theorem w_Pa_swap_0 {X : HX} {ad : Nat → Nat} {I : HI} {J : HJ} {N : HN} {r : HN} {a0 : Nat} (C : Cx X c_Pa_swap RX5 2 none rm_Pa_swap) (ha0 : gk Tc nC a0 (0, 5))
    (h : Pa_swap_0 a0 N = some r) : G Tc X ad nC 0 0 I J N (gE X Tc ad nC (I, J, r, fun _ => none)) 0 2 [(0, .ref (ad a0))] [] := by
  refine g_aload_n (pc := 0) C d_Pa_swap_0 rfl 0 rfl ?_
  obtain ⟨b1, hnb1, hb1, h⟩ := o_rq h
  refine g_get (pc := 1) (k := 0) (v := va_rf ((N a0 0).map ad)) C gcX5 inX5 (by decide) fl_Pa_12 ha0 rfl d_Pa_swap_1 ?_
  refine g_top (g_rf hnb1) ?_
  refine g_astore_n (pc := 4) (lv' := [(1, .ref (ad b1)), (0, .ref (ad a0))]) C d_Pa_swap_4 rfl (by decide) rfl ?_
  refine g_aload_n (pc := 5) C d_Pa_swap_5 rfl 1 rfl ?_
  refine g_aload_n (pc := 6) C d_Pa_swap_6 rfl 1 rfl ?_
  obtain ⟨b2, hnb2, hb2, h⟩ := o_rq h
  refine g_get (pc := 7) (k := 1) (v := va_rf ((N a0 1).map ad)) C gcX5 inX5 (by decide) fl_Pa_18 ha0 rfl d_Pa_swap_7 ?_
  refine g_top (g_rf hnb2) ?_
  refine g_put (pc := 10) (I' := I) (J' := J) (N' := up2 N a0 0 (some b2)) (k := 0) C gcX5 inX5 tyX5_ok nmX5 (by decide) fl_Pa_12 rfl ha0 (tyX5_ok 0 (by decide)) rfl rfl (Nat.le_of_ble_eq_true rfl) gs_5_0 (fun _ _ => rfl) (fun _ _ => rfl) (fun b hb => up2_of hb) d_Pa_swap_10 ?_
  obtain ⟨N3, eN3, h⟩ := o_bd h
  rw [← eN3]
  refine g_aload_n (pc := 13) C d_Pa_swap_13 rfl 1 rfl ?_
  refine g_aload_n (pc := 14) C d_Pa_swap_14 rfl 0 rfl ?_
  refine g_put (pc := 15) (I' := I) (J' := J) (N' := up2 N3 a0 1 (some b1)) (k := 1) C gcX5 inX5 tyX5_ok nmX5 (by decide) fl_Pa_18 rfl ha0 (tyX5_ok 1 (by decide)) rfl rfl (Nat.le_of_ble_eq_true rfl) gs_5_1 (fun _ _ => rfl) (fun _ _ => rfl) (fun b hb => up2_of hb) d_Pa_swap_15 ?_
  obtain ⟨N4, eN4, h⟩ := o_bd h
  rw [← eN4]
  obtain rfl := o_ret h
  exact g_vret (pc := 18) C d_Pa_swap_18
set_option maxRecDepth 20000 in
theorem k_Pa_swap (l : Launch) {I : HI} {J : HJ} {N : HN} {a0 : Nat} {r : HN} (ha0 : gk Tc nC a0 (0, 5)) (h : Pa_swap a0 N = some r) : gM l y_Pa_swap c_Pa_swap 2 none rm_Pa_swap Tc nC I J N (fun ad => [.ref (ad a0)]) (I, J, r, fun _ => none) :=
  g_meth (lv := fun ad => [(0, .ref (ad a0))]) (by decide) (fun _ => Nat.le_of_ble_eq_true rfl) (fun _ => rfl) (fun X ad C => g_lv [0] rfl (w_Pa_swap_0 C ha0 h))
theorem d_Po_addProduct_0 : decode c_Po_addProduct 0 = .ok (.iconst 0, 1) := by decide +kernel
theorem d_Po_addProduct_1 : decode c_Po_addProduct 1 = .ok (.istore_n 3, 1) := by decide +kernel
theorem d_Po_addProduct_2 : decode c_Po_addProduct 2 = .ok (.iload_n 3, 1) := by decide +kernel
theorem d_Po_addProduct_3 : decode c_Po_addProduct 3 = .ok (.bipush 7, 2) := by decide +kernel
theorem d_Po_addProduct_5 : decode c_Po_addProduct 5 = .ok (.if_icmp .ge 53, 3) := by decide +kernel
theorem d_Po_addProduct_8 : decode c_Po_addProduct 8 = .ok (.iconst 0, 1) := by decide +kernel
theorem d_Po_addProduct_9 : decode c_Po_addProduct 9 = .ok (.istore 4, 2) := by decide +kernel
theorem d_Po_addProduct_11 : decode c_Po_addProduct 11 = .ok (.iload 4, 2) := by decide +kernel
theorem d_Po_addProduct_13 : decode c_Po_addProduct 13 = .ok (.iload_n 3, 1) := by decide +kernel
theorem d_Po_addProduct_14 : decode c_Po_addProduct 14 = .ok (.iadd, 1) := by decide +kernel
theorem d_Po_addProduct_15 : decode c_Po_addProduct 15 = .ok (.bipush 7, 2) := by decide +kernel
theorem d_Po_addProduct_17 : decode c_Po_addProduct 17 = .ok (.if_icmp .ge 35, 3) := by decide +kernel
theorem d_Po_addProduct_20 : decode c_Po_addProduct 20 = .ok (.aload_n 0, 1) := by decide +kernel
theorem d_Po_addProduct_21 : decode c_Po_addProduct 21 = .ok (.getfield 9, 3) := by decide +kernel
theorem d_Po_addProduct_24 : decode c_Po_addProduct 24 = .ok (.iload 4, 2) := by decide +kernel
theorem d_Po_addProduct_26 : decode c_Po_addProduct 26 = .ok (.iload_n 3, 1) := by decide +kernel
theorem d_Po_addProduct_27 : decode c_Po_addProduct 27 = .ok (.iadd, 1) := by decide +kernel
theorem d_Po_addProduct_28 : decode c_Po_addProduct 28 = .ok (.dup2, 1) := by decide +kernel
theorem d_Po_addProduct_29 : decode c_Po_addProduct 29 = .ok (.laload, 1) := by decide +kernel
theorem d_Po_addProduct_30 : decode c_Po_addProduct 30 = .ok (.aload_n 1, 1) := by decide +kernel
theorem d_Po_addProduct_31 : decode c_Po_addProduct 31 = .ok (.getfield 9, 3) := by decide +kernel
theorem d_Po_addProduct_34 : decode c_Po_addProduct 34 = .ok (.iload_n 3, 1) := by decide +kernel
theorem d_Po_addProduct_35 : decode c_Po_addProduct 35 = .ok (.laload, 1) := by decide +kernel
theorem d_Po_addProduct_36 : decode c_Po_addProduct 36 = .ok (.aload_n 2, 1) := by decide +kernel
theorem d_Po_addProduct_37 : decode c_Po_addProduct 37 = .ok (.getfield 9, 3) := by decide +kernel
theorem d_Po_addProduct_40 : decode c_Po_addProduct 40 = .ok (.iload 4, 2) := by decide +kernel
theorem d_Po_addProduct_42 : decode c_Po_addProduct 42 = .ok (.laload, 1) := by decide +kernel
theorem d_Po_addProduct_43 : decode c_Po_addProduct 43 = .ok (.lmul, 1) := by decide +kernel
theorem d_Po_addProduct_44 : decode c_Po_addProduct 44 = .ok (.ladd, 1) := by decide +kernel
theorem d_Po_addProduct_45 : decode c_Po_addProduct 45 = .ok (.lastore, 1) := by decide +kernel
theorem d_Po_addProduct_46 : decode c_Po_addProduct 46 = .ok (.iinc 4 1, 3) := by decide +kernel
theorem d_Po_addProduct_49 : decode c_Po_addProduct 49 = .ok (.goto (-38), 3) := by decide +kernel
theorem d_Po_addProduct_52 : decode c_Po_addProduct 52 = .ok (.iinc 3 1, 3) := by decide +kernel
theorem d_Po_addProduct_55 : decode c_Po_addProduct 55 = .ok (.goto (-53), 3) := by decide +kernel
theorem d_Po_addProduct_58 : decode c_Po_addProduct 58 = .ok (.return_, 1) := by decide +kernel
set_option maxRecDepth 20000 in
theorem w_Po_addProduct_11b {X : HX} {ad : Nat → Nat} {I : HI} {J : HJ} {N : HN} {r : HJ} {k2 : HJ → Int32 → Option (HJ)} {k11 : HJ → Int32 → Int32 → Option (HJ)} {a0 : Nat} {a1 : Nat} {a2 : Nat} {x3 : Int32} {x4 : Int32} (C : Cx X c_Po_addProduct RX6 5 none rm_Po_addProduct) (ha0 : gk Tc nC a0 (0, 6)) (ha1 : gk Tc nC a1 (0, 6)) (ha2 : gk Tc nC a2 (0, 6))
    (hk2 : ∀ (J : HJ) (x3 : Int32), k2 J x3 = some r → G Tc X ad nC 0 0 I J N (gE X Tc ad nC (I, r, N, fun _ => none)) 2 5 [(0, .ref (ad a0)), (1, .ref (ad a1)), (2, .ref (ad a2)), (3, .int x3)] [])
    (hk11 : ∀ (J : HJ) (x3 : Int32) (x4 : Int32), k11 J x3 x4 = some r → G Tc X ad nC 0 0 I J N (gE X Tc ad nC (I, r, N, fun _ => none)) 11 5 [(0, .ref (ad a0)), (1, .ref (ad a1)), (2, .ref (ad a2)), (3, .int x3), (4, .int x4)] [])
    (h : Po_addProduct_11b N a0 a1 a2 k2 k11 J x3 x4 = some r) : G Tc X ad nC 0 0 I J N (gE X Tc ad nC (I, r, N, fun _ => none)) 11 5 [(0, .ref (ad a0)), (1, .ref (ad a1)), (2, .ref (ad a2)), (3, .int x3), (4, .int x4)] [] := by
  refine g_iload (pc := 11) C d_Po_addProduct_11 4 rfl ?_
  refine g_iload_n (pc := 13) C d_Po_addProduct_13 rfl 3 rfl ?_
  refine g_iadd (pc := 14) C d_Po_addProduct_14 ?_
  refine g_bipush (pc := 15) C (7 : Int32) d_Po_addProduct_15 (by decide) ?_
  refine g_icmp_ge (pc := 17) C 52 d_Po_addProduct_17 rfl (fun e1 => ?_) (fun e1 => ?_)
  · have h := o_pos e1 h
    refine g_iinc (pc := 52) (q := 3) (lv' := [(3, .int (x3 + 1)), (0, .ref (ad a0)), (1, .ref (ad a1)), (2, .ref (ad a2)), (4, .int x4)]) C d_Po_addProduct_52 rfl rfl (by decide) rfl ?_
    refine g_goto (pc := 55) C 2 d_Po_addProduct_55 rfl ?_
    refine g_lv [1, 2, 3, 0] rfl ?_
    exact hk2 _ _ h
  · have h := o_neg e1 h
    refine g_aload_n (pc := 20) C d_Po_addProduct_20 rfl 0 rfl ?_
    obtain ⟨b2, hnb2, hb2, h⟩ := o_ra h
    refine g_get (pc := 21) (k := 0) (v := va_rf ((N a0 0).map ad)) C gcX6 inX6 (by decide) fl_Po_9 ha0 rfl d_Po_addProduct_21 ?_
    refine g_top (g_rf hnb2) ?_
    refine g_iload (pc := 24) C d_Po_addProduct_24 4 rfl ?_
    refine g_iload_n (pc := 26) C d_Po_addProduct_26 rfl 3 rfl ?_
    refine g_iadd (pc := 27) C d_Po_addProduct_27 ?_
    refine g_dup2 (pc := 28) C d_Po_addProduct_28 rfl rfl ?_
    obtain ⟨hi3, h⟩ := o_gd h
    refine g_lald (pc := 29) C hb2 hi3 d_Po_addProduct_29 ?_
    refine g_aload_n (pc := 30) C d_Po_addProduct_30 rfl 1 rfl ?_
    obtain ⟨b4, hnb4, hb4, h⟩ := o_ra h
    refine g_get (pc := 31) (k := 0) (v := va_rf ((N a1 0).map ad)) C gcX6 inX6 (by decide) fl_Po_9 ha1 rfl d_Po_addProduct_31 ?_
    refine g_top (g_rf hnb4) ?_
    refine g_iload_n (pc := 34) C d_Po_addProduct_34 rfl 3 rfl ?_
    obtain ⟨hi5, h⟩ := o_gd h
    refine g_lald (pc := 35) C hb4 hi5 d_Po_addProduct_35 ?_
    refine g_aload_n (pc := 36) C d_Po_addProduct_36 rfl 2 rfl ?_
    obtain ⟨b6, hnb6, hb6, h⟩ := o_ra h
    refine g_get (pc := 37) (k := 0) (v := va_rf ((N a2 0).map ad)) C gcX6 inX6 (by decide) fl_Po_9 ha2 rfl d_Po_addProduct_37 ?_
    refine g_top (g_rf hnb6) ?_
    refine g_iload (pc := 40) C d_Po_addProduct_40 4 rfl ?_
    obtain ⟨hi7, h⟩ := o_gd h
    refine g_lald (pc := 42) C hb6 hi7 d_Po_addProduct_42 ?_
    refine g_lmul (pc := 43) C d_Po_addProduct_43 ?_
    refine g_ladd (pc := 44) C d_Po_addProduct_44 ?_
    obtain ⟨hi8, h⟩ := o_gd h
    refine g_last (pc := 45) C hb2 hi8 d_Po_addProduct_45 ?_
    obtain ⟨J9, eJ9, h⟩ := o_bd h
    rw [← eJ9]
    refine g_iinc (pc := 46) (q := 4) (lv' := [(4, .int (x4 + 1)), (0, .ref (ad a0)), (1, .ref (ad a1)), (2, .ref (ad a2)), (3, .int x3)]) C d_Po_addProduct_46 rfl rfl (by decide) rfl ?_
    refine g_goto (pc := 49) C 11 d_Po_addProduct_49 rfl ?_
    refine g_lv [1, 2, 3, 4, 0] rfl ?_
    exact hk11 _ _ _ h
set_option maxRecDepth 20000 in
theorem w_Po_addProduct_11 {X : HX} {ad : Nat → Nat} {I : HI} {N : HN} {r : HJ} {k2 : HJ → Int32 → Option (HJ)} {a0 : Nat} {a1 : Nat} {a2 : Nat} (C : Cx X c_Po_addProduct RX6 5 none rm_Po_addProduct) (ha0 : gk Tc nC a0 (0, 6)) (ha1 : gk Tc nC a1 (0, 6)) (ha2 : gk Tc nC a2 (0, 6))
    (hk2 : ∀ (J : HJ) (x3 : Int32), k2 J x3 = some r → G Tc X ad nC 0 0 I J N (gE X Tc ad nC (I, r, N, fun _ => none)) 2 5 [(0, .ref (ad a0)), (1, .ref (ad a1)), (2, .ref (ad a2)), (3, .int x3)] []) : ∀ (n : Nat) (J : HJ) (x3 : Int32) (x4 : Int32), Po_addProduct_11 N a0 a1 a2 k2 n J x3 x4 = some r → G Tc X ad nC 0 0 I J N (gE X Tc ad nC (I, r, N, fun _ => none)) 11 5 [(0, .ref (ad a0)), (1, .ref (ad a1)), (2, .ref (ad a2)), (3, .int x3), (4, .int x4)] [] := by
  intro n
  induction n with
  | zero => intro J x3 x4 h; cases h
  | succ n ih => intro J x3 x4 h; exact w_Po_addProduct_11b C ha0 ha1 ha2 hk2 ih h
set_option maxRecDepth 20000 in
theorem w_Po_addProduct_2b {X : HX} {ad : Nat → Nat} {I : HI} {J : HJ} {N : HN} {r : HJ} {k2 : HJ → Int32 → Option (HJ)} {a0 : Nat} {a1 : Nat} {a2 : Nat} {x3 : Int32} (C : Cx X c_Po_addProduct RX6 5 none rm_Po_addProduct) (ha0 : gk Tc nC a0 (0, 6)) (ha1 : gk Tc nC a1 (0, 6)) (ha2 : gk Tc nC a2 (0, 6))
    (hk2 : ∀ (J : HJ) (x3 : Int32), k2 J x3 = some r → G Tc X ad nC 0 0 I J N (gE X Tc ad nC (I, r, N, fun _ => none)) 2 5 [(0, .ref (ad a0)), (1, .ref (ad a1)), (2, .ref (ad a2)), (3, .int x3)] [])
    (h : Po_addProduct_2b N a0 a1 a2 k2 J x3 = some r) : G Tc X ad nC 0 0 I J N (gE X Tc ad nC (I, r, N, fun _ => none)) 2 5 [(0, .ref (ad a0)), (1, .ref (ad a1)), (2, .ref (ad a2)), (3, .int x3)] [] := by
  refine g_iload_n (pc := 2) C d_Po_addProduct_2 rfl 3 rfl ?_
  refine g_bipush (pc := 3) C (7 : Int32) d_Po_addProduct_3 (by decide) ?_
  refine g_icmp_ge (pc := 5) C 58 d_Po_addProduct_5 rfl (fun e1 => ?_) (fun e1 => ?_)
  · have h := o_pos e1 h
    obtain rfl := o_ret h
    exact g_vret (pc := 58) C d_Po_addProduct_58
  · have h := o_neg e1 h
    refine g_iconst (pc := 8) C (0 : Int32) d_Po_addProduct_8 (by decide) ?_
    refine g_istore (pc := 9) (lv' := [(4, .int (0 : Int32)), (0, .ref (ad a0)), (1, .ref (ad a1)), (2, .ref (ad a2)), (3, .int x3)]) C d_Po_addProduct_9 (by decide) rfl ?_
    refine g_lv [1, 2, 3, 4, 0] rfl ?_
    exact w_Po_addProduct_11 C ha0 ha1 ha2 hk2 _ _ _ _ h
set_option maxRecDepth 20000 in
theorem w_Po_addProduct_2 {X : HX} {ad : Nat → Nat} {I : HI} {N : HN} {r : HJ} {a0 : Nat} {a1 : Nat} {a2 : Nat} (C : Cx X c_Po_addProduct RX6 5 none rm_Po_addProduct) (ha0 : gk Tc nC a0 (0, 6)) (ha1 : gk Tc nC a1 (0, 6)) (ha2 : gk Tc nC a2 (0, 6)) : ∀ (n : Nat) (J : HJ) (x3 : Int32), Po_addProduct_2 N a0 a1 a2 n J x3 = some r → G Tc X ad nC 0 0 I J N (gE X Tc ad nC (I, r, N, fun _ => none)) 2 5 [(0, .ref (ad a0)), (1, .ref (ad a1)), (2, .ref (ad a2)), (3, .int x3)] [] := by
  intro n
  induction n with
  | zero => intro J x3 h; cases h
  | succ n ih => intro J x3 h; exact w_Po_addProduct_2b C ha0 ha1 ha2 ih h
set_option maxRecDepth 20000 in
theorem w_Po_addProduct_0 {X : HX} {ad : Nat → Nat} {I : HI} {J : HJ} {N : HN} {r : HJ} {a0 : Nat} {a1 : Nat} {a2 : Nat} (C : Cx X c_Po_addProduct RX6 5 none rm_Po_addProduct) (ha0 : gk Tc nC a0 (0, 6)) (ha1 : gk Tc nC a1 (0, 6)) (ha2 : gk Tc nC a2 (0, 6))
    (h : Po_addProduct_0 N a0 a1 a2 J = some r) : G Tc X ad nC 0 0 I J N (gE X Tc ad nC (I, r, N, fun _ => none)) 0 5 [(0, .ref (ad a0)), (1, .ref (ad a1)), (2, .ref (ad a2))] [] := by
  refine g_iconst (pc := 0) C (0 : Int32) d_Po_addProduct_0 (by decide) ?_
  refine g_istore_n (pc := 1) (lv' := [(3, .int (0 : Int32)), (0, .ref (ad a0)), (1, .ref (ad a1)), (2, .ref (ad a2))]) C d_Po_addProduct_1 rfl (by decide) rfl ?_
  refine g_lv [1, 2, 3, 0] rfl ?_
  exact w_Po_addProduct_2 C ha0 ha1 ha2 _ _ _ h
set_option maxRecDepth 20000 in
theorem k_Po_addProduct (l : Launch) {I : HI} {J : HJ} {N : HN} {a0 : Nat} {a1 : Nat} {a2 : Nat} {r : HJ} (ha0 : gk Tc nC a0 (0, 6)) (ha1 : gk Tc nC a1 (0, 6)) (ha2 : gk Tc nC a2 (0, 6)) (h : Po_addProduct N a0 a1 a2 J = some r) : gM l y_Po_addProduct c_Po_addProduct 5 none rm_Po_addProduct Tc nC I J N (fun ad => [.ref (ad a0), .ref (ad a1), .ref (ad a2)]) (I, r, N, fun _ => none) :=
  g_meth (lv := fun ad => [(0, .ref (ad a0)), (1, .ref (ad a1)), (2, .ref (ad a2))]) (by decide) (fun _ => Nat.le_of_ble_eq_true rfl) (fun _ => rfl) (fun X ad C => g_lv [0, 1, 2] rfl (w_Po_addProduct_0 C ha0 ha1 ha2 h))
theorem d_Po_load_0 : decode c_Po_load 0 = .ok (.iconst 0, 1) := by decide +kernel
theorem d_Po_load_1 : decode c_Po_load 1 = .ok (.istore_n 2, 1) := by decide +kernel
theorem d_Po_load_2 : decode c_Po_load 2 = .ok (.iload_n 2, 1) := by decide +kernel
theorem d_Po_load_3 : decode c_Po_load 3 = .ok (.bipush 7, 2) := by decide +kernel
theorem d_Po_load_5 : decode c_Po_load 5 = .ok (.if_icmp .ge 21, 3) := by decide +kernel
theorem d_Po_load_8 : decode c_Po_load 8 = .ok (.aload_n 0, 1) := by decide +kernel
theorem d_Po_load_9 : decode c_Po_load 9 = .ok (.getfield 9, 3) := by decide +kernel
theorem d_Po_load_12 : decode c_Po_load 12 = .ok (.iload_n 2, 1) := by decide +kernel
theorem d_Po_load_13 : decode c_Po_load 13 = .ok (.aload_n 1, 1) := by decide +kernel
theorem d_Po_load_14 : decode c_Po_load 14 = .ok (.getfield 9, 3) := by decide +kernel
theorem d_Po_load_17 : decode c_Po_load 17 = .ok (.iload_n 2, 1) := by decide +kernel
theorem d_Po_load_18 : decode c_Po_load 18 = .ok (.laload, 1) := by decide +kernel
theorem d_Po_load_19 : decode c_Po_load 19 = .ok (.lastore, 1) := by decide +kernel
theorem d_Po_load_20 : decode c_Po_load 20 = .ok (.iinc 2 1, 3) := by decide +kernel
theorem d_Po_load_23 : decode c_Po_load 23 = .ok (.goto (-21), 3) := by decide +kernel
theorem d_Po_load_26 : decode c_Po_load 26 = .ok (.return_, 1) := by decide +kernel
set_option maxRecDepth 20000 in
theorem w_Po_load_2b {X : HX} {ad : Nat → Nat} {I : HI} {J : HJ} {N : HN} {r : HJ} {k2 : HJ → Int32 → Option (HJ)} {a0 : Nat} {a1 : Nat} {x2 : Int32} (C : Cx X c_Po_load RX6 3 none rm_Po_load) (ha0 : gk Tc nC a0 (0, 6)) (ha1 : gk Tc nC a1 (0, 6))
    (hk2 : ∀ (J : HJ) (x2 : Int32), k2 J x2 = some r → G Tc X ad nC 0 0 I J N (gE X Tc ad nC (I, r, N, fun _ => none)) 2 3 [(0, .ref (ad a0)), (1, .ref (ad a1)), (2, .int x2)] [])
    (h : Po_load_2b N a0 a1 k2 J x2 = some r) : G Tc X ad nC 0 0 I J N (gE X Tc ad nC (I, r, N, fun _ => none)) 2 3 [(0, .ref (ad a0)), (1, .ref (ad a1)), (2, .int x2)] [] := by
  refine g_iload_n (pc := 2) C d_Po_load_2 rfl 2 rfl ?_
  refine g_bipush (pc := 3) C (7 : Int32) d_Po_load_3 (by decide) ?_
  refine g_icmp_ge (pc := 5) C 26 d_Po_load_5 rfl (fun e1 => ?_) (fun e1 => ?_)
  · have h := o_pos e1 h
    obtain rfl := o_ret h
    exact g_vret (pc := 26) C d_Po_load_26
  · have h := o_neg e1 h
    refine g_aload_n (pc := 8) C d_Po_load_8 rfl 0 rfl ?_
    obtain ⟨b2, hnb2, hb2, h⟩ := o_ra h
    refine g_get (pc := 9) (k := 0) (v := va_rf ((N a0 0).map ad)) C gcX6 inX6 (by decide) fl_Po_9 ha0 rfl d_Po_load_9 ?_
    refine g_top (g_rf hnb2) ?_
    refine g_iload_n (pc := 12) C d_Po_load_12 rfl 2 rfl ?_
    refine g_aload_n (pc := 13) C d_Po_load_13 rfl 1 rfl ?_
    obtain ⟨b3, hnb3, hb3, h⟩ := o_ra h
    refine g_get (pc := 14) (k := 0) (v := va_rf ((N a1 0).map ad)) C gcX6 inX6 (by decide) fl_Po_9 ha1 rfl d_Po_load_14 ?_
    refine g_top (g_rf hnb3) ?_
    refine g_iload_n (pc := 17) C d_Po_load_17 rfl 2 rfl ?_
    obtain ⟨hi4, h⟩ := o_gd h
    refine g_lald (pc := 18) C hb3 hi4 d_Po_load_18 ?_
    obtain ⟨hi5, h⟩ := o_gd h
    refine g_last (pc := 19) C hb2 hi5 d_Po_load_19 ?_
    obtain ⟨J6, eJ6, h⟩ := o_bd h
    rw [← eJ6]
    refine g_iinc (pc := 20) (q := 2) (lv' := [(2, .int (x2 + 1)), (0, .ref (ad a0)), (1, .ref (ad a1))]) C d_Po_load_20 rfl rfl (by decide) rfl ?_
    refine g_goto (pc := 23) C 2 d_Po_load_23 rfl ?_
    refine g_lv [1, 2, 0] rfl ?_
    exact hk2 _ _ h
set_option maxRecDepth 20000 in
theorem w_Po_load_2 {X : HX} {ad : Nat → Nat} {I : HI} {N : HN} {r : HJ} {a0 : Nat} {a1 : Nat} (C : Cx X c_Po_load RX6 3 none rm_Po_load) (ha0 : gk Tc nC a0 (0, 6)) (ha1 : gk Tc nC a1 (0, 6)) : ∀ (n : Nat) (J : HJ) (x2 : Int32), Po_load_2 N a0 a1 n J x2 = some r → G Tc X ad nC 0 0 I J N (gE X Tc ad nC (I, r, N, fun _ => none)) 2 3 [(0, .ref (ad a0)), (1, .ref (ad a1)), (2, .int x2)] [] := by
  intro n
  induction n with
  | zero => intro J x2 h; cases h
  | succ n ih => intro J x2 h; exact w_Po_load_2b C ha0 ha1 ih h
set_option maxRecDepth 20000 in
theorem w_Po_load_0 {X : HX} {ad : Nat → Nat} {I : HI} {J : HJ} {N : HN} {r : HJ} {a0 : Nat} {a1 : Nat} (C : Cx X c_Po_load RX6 3 none rm_Po_load) (ha0 : gk Tc nC a0 (0, 6)) (ha1 : gk Tc nC a1 (0, 6))
    (h : Po_load_0 N a0 a1 J = some r) : G Tc X ad nC 0 0 I J N (gE X Tc ad nC (I, r, N, fun _ => none)) 0 3 [(0, .ref (ad a0)), (1, .ref (ad a1))] [] := by
  refine g_iconst (pc := 0) C (0 : Int32) d_Po_load_0 (by decide) ?_
  refine g_istore_n (pc := 1) (lv' := [(2, .int (0 : Int32)), (0, .ref (ad a0)), (1, .ref (ad a1))]) C d_Po_load_1 rfl (by decide) rfl ?_
  refine g_lv [1, 2, 0] rfl ?_
  exact w_Po_load_2 C ha0 ha1 _ _ _ h
set_option maxRecDepth 20000 in
theorem k_Po_load (l : Launch) {I : HI} {J : HJ} {N : HN} {a0 : Nat} {a1 : Nat} {r : HJ} (ha0 : gk Tc nC a0 (0, 6)) (ha1 : gk Tc nC a1 (0, 6)) (h : Po_load N a0 a1 J = some r) : gM l y_Po_load c_Po_load 3 none rm_Po_load Tc nC I J N (fun ad => [.ref (ad a0), .ref (ad a1)]) (I, r, N, fun _ => none) :=
  g_meth (lv := fun ad => [(0, .ref (ad a0)), (1, .ref (ad a1))]) (by decide) (fun _ => Nat.le_of_ble_eq_true rfl) (fun _ => rfl) (fun X ad C => g_lv [0, 1] rfl (w_Po_load_0 C ha0 ha1 h))
theorem d_Pa_load_0 : decode c_Pa_load 0 = .ok (.aload_n 0, 1) := by decide +kernel
theorem d_Pa_load_1 : decode c_Pa_load 1 = .ok (.getfield 12, 3) := by decide +kernel
theorem d_Pa_load_4 : decode c_Pa_load 4 = .ok (.aload_n 1, 1) := by decide +kernel
theorem d_Pa_load_5 : decode c_Pa_load 5 = .ok (.getfield 12, 3) := by decide +kernel
theorem d_Pa_load_8 : decode c_Pa_load 8 = .ok (.invokevirtual 29, 3) := by decide +kernel
theorem d_Pa_load_11 : decode c_Pa_load 11 = .ok (.aload_n 0, 1) := by decide +kernel
theorem d_Pa_load_12 : decode c_Pa_load 12 = .ok (.getfield 18, 3) := by decide +kernel
theorem d_Pa_load_15 : decode c_Pa_load 15 = .ok (.aload_n 1, 1) := by decide +kernel
theorem d_Pa_load_16 : decode c_Pa_load 16 = .ok (.getfield 18, 3) := by decide +kernel
theorem d_Pa_load_19 : decode c_Pa_load 19 = .ok (.invokevirtual 29, 3) := by decide +kernel
theorem d_Pa_load_22 : decode c_Pa_load 22 = .ok (.return_, 1) := by decide +kernel
set_option maxRecDepth 20000 in
theorem w_Pa_load_0 {X : HX} {ad : Nat → Nat} {I : HI} {J : HJ} {N : HN} {r : HJ} {a0 : Nat} {a1 : Nat} (C : Cx X c_Pa_load RX5 2 none rm_Pa_load) (ha0 : gk Tc nC a0 (0, 5)) (ha1 : gk Tc nC a1 (0, 5))
    (h : Pa_load_0 N a0 a1 J = some r) : G Tc X ad nC 0 0 I J N (gE X Tc ad nC (I, r, N, fun _ => none)) 0 2 [(0, .ref (ad a0)), (1, .ref (ad a1))] [] := by
  refine g_aload_n (pc := 0) C d_Pa_load_0 rfl 0 rfl ?_
  obtain ⟨b1, hnb1, hb1, h⟩ := o_rq h
  refine g_get (pc := 1) (k := 0) (v := va_rf ((N a0 0).map ad)) C gcX5 inX5 (by decide) fl_Pa_12 ha0 rfl d_Pa_load_1 ?_
  refine g_top (g_rf hnb1) ?_
  refine g_aload_n (pc := 4) C d_Pa_load_4 rfl 1 rfl ?_
  obtain ⟨b2, hnb2, hb2, h⟩ := o_rq h
  refine g_get (pc := 5) (k := 0) (v := va_rf ((N a1 0).map ad)) C gcX5 inX5 (by decide) fl_Pa_12 ha1 rfl d_Pa_load_5 ?_
  refine g_top (g_rf hnb2) ?_
  obtain ⟨J3, hc4, h⟩ := o_bn1 h
  refine g_V (pc := 8) (rest := []) C (k_Po_load (xl X) hb1 hb2 hc4) sm_Po_load ml_Pa_29 im_Po_load se_Po_load gcX6 rfl hb1 ⟨rfl, rfl, Nat.le_of_ble_eq_true rfl, Nat.le_of_ble_eq_true rfl⟩ ⟨Nat.zero_le _, Nat.zero_le _⟩ rfl rfl (Nat.le_of_ble_eq_true rfl) d_Pa_load_8 [] rfl ?_
  refine g_aload_n (pc := 11) C d_Pa_load_11 rfl 0 rfl ?_
  obtain ⟨b5, hnb5, hb5, h⟩ := o_rq h
  refine g_get (pc := 12) (k := 1) (v := va_rf ((N a0 1).map ad)) C gcX5 inX5 (by decide) fl_Pa_18 ha0 rfl d_Pa_load_12 ?_
  refine g_top (g_rf hnb5) ?_
  refine g_aload_n (pc := 15) C d_Pa_load_15 rfl 1 rfl ?_
  obtain ⟨b6, hnb6, hb6, h⟩ := o_rq h
  refine g_get (pc := 16) (k := 1) (v := va_rf ((N a1 1).map ad)) C gcX5 inX5 (by decide) fl_Pa_18 ha1 rfl d_Pa_load_16 ?_
  refine g_top (g_rf hnb6) ?_
  obtain ⟨J7, hc8, h⟩ := o_bn1 h
  refine g_V (pc := 19) (rest := []) C (k_Po_load (xl X) hb5 hb6 hc8) sm_Po_load ml_Pa_29 im_Po_load se_Po_load gcX6 rfl hb5 ⟨rfl, rfl, Nat.le_of_ble_eq_true rfl, Nat.le_of_ble_eq_true rfl⟩ ⟨Nat.zero_le _, Nat.zero_le _⟩ rfl rfl (Nat.le_of_ble_eq_true rfl) d_Pa_load_19 [] rfl ?_
  obtain rfl := o_ret h
  exact g_vret (pc := 22) C d_Pa_load_22
set_option maxRecDepth 20000 in
theorem k_Pa_load (l : Launch) {I : HI} {J : HJ} {N : HN} {a0 : Nat} {a1 : Nat} {r : HJ} (ha0 : gk Tc nC a0 (0, 5)) (ha1 : gk Tc nC a1 (0, 5)) (h : Pa_load N a0 a1 J = some r) : gM l y_Pa_load c_Pa_load 2 none rm_Pa_load Tc nC I J N (fun ad => [.ref (ad a0), .ref (ad a1)]) (I, r, N, fun _ => none) :=
  g_meth (lv := fun ad => [(0, .ref (ad a0)), (1, .ref (ad a1))]) (by decide) (fun _ => Nat.le_of_ble_eq_true rfl) (fun _ => rfl) (fun X ad C => g_lv [0, 1] rfl (w_Pa_load_0 C ha0 ha1 h))
theorem d_Fo_addArm_0 : decode c_Fo_addArm 0 = .ok (.aload_n 0, 1) := by decide +kernel
theorem d_Fo_addArm_1 : decode c_Fo_addArm 1 = .ok (.getfield 21, 3) := by decide +kernel
theorem d_Fo_addArm_4 : decode c_Fo_addArm 4 = .ok (.getfield 34, 3) := by decide +kernel
theorem d_Fo_addArm_7 : decode c_Fo_addArm 7 = .ok (.invokevirtual 38, 3) := by decide +kernel
theorem d_Fo_addArm_10 : decode c_Fo_addArm 10 = .ok (.aload_n 0, 1) := by decide +kernel
theorem d_Fo_addArm_11 : decode c_Fo_addArm 11 = .ok (.getfield 21, 3) := by decide +kernel
theorem d_Fo_addArm_14 : decode c_Fo_addArm 14 = .ok (.getfield 34, 3) := by decide +kernel
theorem d_Fo_addArm_17 : decode c_Fo_addArm 17 = .ok (.aload_n 0, 1) := by decide +kernel
theorem d_Fo_addArm_18 : decode c_Fo_addArm 18 = .ok (.getfield 12, 3) := by decide +kernel
theorem d_Fo_addArm_21 : decode c_Fo_addArm 21 = .ok (.getfield 34, 3) := by decide +kernel
theorem d_Fo_addArm_24 : decode c_Fo_addArm 24 = .ok (.aload_n 0, 1) := by decide +kernel
theorem d_Fo_addArm_25 : decode c_Fo_addArm 25 = .ok (.getfield 18, 3) := by decide +kernel
theorem d_Fo_addArm_28 : decode c_Fo_addArm 28 = .ok (.getfield 43, 3) := by decide +kernel
theorem d_Fo_addArm_31 : decode c_Fo_addArm 31 = .ok (.invokevirtual 67, 3) := by decide +kernel
theorem d_Fo_addArm_34 : decode c_Fo_addArm 34 = .ok (.aload_n 0, 1) := by decide +kernel
theorem d_Fo_addArm_35 : decode c_Fo_addArm 35 = .ok (.getfield 21, 3) := by decide +kernel
theorem d_Fo_addArm_38 : decode c_Fo_addArm 38 = .ok (.getfield 34, 3) := by decide +kernel
theorem d_Fo_addArm_41 : decode c_Fo_addArm 41 = .ok (.aload_n 0, 1) := by decide +kernel
theorem d_Fo_addArm_42 : decode c_Fo_addArm 42 = .ok (.getfield 18, 3) := by decide +kernel
theorem d_Fo_addArm_45 : decode c_Fo_addArm 45 = .ok (.getfield 34, 3) := by decide +kernel
theorem d_Fo_addArm_48 : decode c_Fo_addArm 48 = .ok (.aload_n 0, 1) := by decide +kernel
theorem d_Fo_addArm_49 : decode c_Fo_addArm 49 = .ok (.getfield 12, 3) := by decide +kernel
theorem d_Fo_addArm_52 : decode c_Fo_addArm 52 = .ok (.getfield 43, 3) := by decide +kernel
theorem d_Fo_addArm_55 : decode c_Fo_addArm 55 = .ok (.invokevirtual 67, 3) := by decide +kernel
theorem d_Fo_addArm_58 : decode c_Fo_addArm 58 = .ok (.aload_n 0, 1) := by decide +kernel
theorem d_Fo_addArm_59 : decode c_Fo_addArm 59 = .ok (.getfield 21, 3) := by decide +kernel
theorem d_Fo_addArm_62 : decode c_Fo_addArm 62 = .ok (.getfield 43, 3) := by decide +kernel
theorem d_Fo_addArm_65 : decode c_Fo_addArm 65 = .ok (.invokevirtual 38, 3) := by decide +kernel
theorem d_Fo_addArm_68 : decode c_Fo_addArm 68 = .ok (.aload_n 0, 1) := by decide +kernel
theorem d_Fo_addArm_69 : decode c_Fo_addArm 69 = .ok (.getfield 21, 3) := by decide +kernel
theorem d_Fo_addArm_72 : decode c_Fo_addArm 72 = .ok (.getfield 43, 3) := by decide +kernel
theorem d_Fo_addArm_75 : decode c_Fo_addArm 75 = .ok (.aload_n 0, 1) := by decide +kernel
theorem d_Fo_addArm_76 : decode c_Fo_addArm 76 = .ok (.getfield 12, 3) := by decide +kernel
theorem d_Fo_addArm_79 : decode c_Fo_addArm 79 = .ok (.getfield 43, 3) := by decide +kernel
theorem d_Fo_addArm_82 : decode c_Fo_addArm 82 = .ok (.aload_n 0, 1) := by decide +kernel
theorem d_Fo_addArm_83 : decode c_Fo_addArm 83 = .ok (.getfield 18, 3) := by decide +kernel
theorem d_Fo_addArm_86 : decode c_Fo_addArm 86 = .ok (.getfield 43, 3) := by decide +kernel
theorem d_Fo_addArm_89 : decode c_Fo_addArm 89 = .ok (.invokevirtual 67, 3) := by decide +kernel
theorem d_Fo_addArm_92 : decode c_Fo_addArm 92 = .ok (.aload_n 0, 1) := by decide +kernel
theorem d_Fo_addArm_93 : decode c_Fo_addArm 93 = .ok (.getfield 12, 3) := by decide +kernel
theorem d_Fo_addArm_96 : decode c_Fo_addArm 96 = .ok (.aload_n 0, 1) := by decide +kernel
theorem d_Fo_addArm_97 : decode c_Fo_addArm 97 = .ok (.getfield 21, 3) := by decide +kernel
theorem d_Fo_addArm_100 : decode c_Fo_addArm 100 = .ok (.invokevirtual 71, 3) := by decide +kernel
theorem d_Fo_addArm_103 : decode c_Fo_addArm 103 = .ok (.return_, 1) := by decide +kernel
set_option maxRecDepth 20000 in
theorem w_Fo_addArm_0 {X : HX} {ad : Nat → Nat} {I : HI} {J : HJ} {N : HN} {r : HJ} {a0 : Nat} (C : Cx X c_Fo_addArm RX1 1 none rm_Fo_addArm) (ha0 : gk Tc nC a0 (0, 1))
    (h : Fo_addArm_0 N a0 J = some r) : G Tc X ad nC 0 0 I J N (gE X Tc ad nC (I, r, N, fun _ => none)) 0 1 [(0, .ref (ad a0))] [] := by
  refine g_aload_n (pc := 0) C d_Fo_addArm_0 rfl 0 rfl ?_
  obtain ⟨b1, hnb1, hb1, h⟩ := o_rq h
  refine g_get (pc := 1) (k := 2) (v := va_rf ((N a0 2).map ad)) C gcX1 inX1 (by decide) fl_Fo_21 ha0 rfl d_Fo_addArm_1 ?_
  refine g_top (g_rf hnb1) ?_
  obtain ⟨b2, hnb2, hb2, h⟩ := o_rq h
  refine g_getN (pc := 4) (k := 0) (v := va_rf ((N b1 0).map ad)) C gcX5 inX5 (by decide) fl_Fo_34 hb1 rfl d_Fo_addArm_4 ?_
  refine g_top (g_rf hnb2) ?_
  obtain ⟨J3, hc4, h⟩ := o_bn1 h
  refine g_V (pc := 7) (rest := []) C (k_Po_clear (xl X) hb2 hc4) sm_Po_clear ml_Fo_38 im_Po_clear se_Po_clear gcX6 rfl hb2 ⟨rfl, rfl, Nat.le_of_ble_eq_true rfl, Nat.le_of_ble_eq_true rfl⟩ ⟨Nat.zero_le _, Nat.zero_le _⟩ rfl rfl (Nat.le_of_ble_eq_true rfl) d_Fo_addArm_7 [] rfl ?_
  refine g_aload_n (pc := 10) C d_Fo_addArm_10 rfl 0 rfl ?_
  obtain ⟨b5, hnb5, hb5, h⟩ := o_rq h
  refine g_get (pc := 11) (k := 2) (v := va_rf ((N a0 2).map ad)) C gcX1 inX1 (by decide) fl_Fo_21 ha0 rfl d_Fo_addArm_11 ?_
  refine g_top (g_rf hnb5) ?_
  obtain ⟨b6, hnb6, hb6, h⟩ := o_rq h
  refine g_getN (pc := 14) (k := 0) (v := va_rf ((N b5 0).map ad)) C gcX5 inX5 (by decide) fl_Fo_34 hb5 rfl d_Fo_addArm_14 ?_
  refine g_top (g_rf hnb6) ?_
  refine g_aload_n (pc := 17) C d_Fo_addArm_17 rfl 0 rfl ?_
  obtain ⟨b7, hnb7, hb7, h⟩ := o_rq h
  refine g_get (pc := 18) (k := 0) (v := va_rf ((N a0 0).map ad)) C gcX1 inX1 (by decide) fl_Fo_12 ha0 rfl d_Fo_addArm_18 ?_
  refine g_top (g_rf hnb7) ?_
  obtain ⟨b8, hnb8, hb8, h⟩ := o_rq h
  refine g_getN (pc := 21) (k := 0) (v := va_rf ((N b7 0).map ad)) C gcX5 inX5 (by decide) fl_Fo_34 hb7 rfl d_Fo_addArm_21 ?_
  refine g_top (g_rf hnb8) ?_
  refine g_aload_n (pc := 24) C d_Fo_addArm_24 rfl 0 rfl ?_
  obtain ⟨b9, hnb9, hb9, h⟩ := o_rq h
  refine g_get (pc := 25) (k := 1) (v := va_rf ((N a0 1).map ad)) C gcX1 inX1 (by decide) fl_Fo_18 ha0 rfl d_Fo_addArm_25 ?_
  refine g_top (g_rf hnb9) ?_
  obtain ⟨b10, hnb10, hb10, h⟩ := o_rq h
  refine g_getN (pc := 28) (k := 1) (v := va_rf ((N b9 1).map ad)) C gcX5 inX5 (by decide) fl_Fo_43 hb9 rfl d_Fo_addArm_28 ?_
  refine g_top (g_rf hnb10) ?_
  obtain ⟨J11, hc12, h⟩ := o_bn1 h
  refine g_V (pc := 31) (rest := []) C (k_Po_addProduct (xl X) hb6 hb8 hb10 hc12) sm_Po_addProduct ml_Fo_67 im_Po_addProduct se_Po_addProduct gcX6 rfl hb6 ⟨rfl, rfl, Nat.le_of_ble_eq_true rfl, Nat.le_of_ble_eq_true rfl⟩ ⟨Nat.zero_le _, Nat.zero_le _⟩ rfl rfl (Nat.le_of_ble_eq_true rfl) d_Fo_addArm_31 [] rfl ?_
  refine g_aload_n (pc := 34) C d_Fo_addArm_34 rfl 0 rfl ?_
  obtain ⟨b13, hnb13, hb13, h⟩ := o_rq h
  refine g_get (pc := 35) (k := 2) (v := va_rf ((N a0 2).map ad)) C gcX1 inX1 (by decide) fl_Fo_21 ha0 rfl d_Fo_addArm_35 ?_
  refine g_top (g_rf hnb13) ?_
  obtain ⟨b14, hnb14, hb14, h⟩ := o_rq h
  refine g_getN (pc := 38) (k := 0) (v := va_rf ((N b13 0).map ad)) C gcX5 inX5 (by decide) fl_Fo_34 hb13 rfl d_Fo_addArm_38 ?_
  refine g_top (g_rf hnb14) ?_
  refine g_aload_n (pc := 41) C d_Fo_addArm_41 rfl 0 rfl ?_
  obtain ⟨b15, hnb15, hb15, h⟩ := o_rq h
  refine g_get (pc := 42) (k := 1) (v := va_rf ((N a0 1).map ad)) C gcX1 inX1 (by decide) fl_Fo_18 ha0 rfl d_Fo_addArm_42 ?_
  refine g_top (g_rf hnb15) ?_
  obtain ⟨b16, hnb16, hb16, h⟩ := o_rq h
  refine g_getN (pc := 45) (k := 0) (v := va_rf ((N b15 0).map ad)) C gcX5 inX5 (by decide) fl_Fo_34 hb15 rfl d_Fo_addArm_45 ?_
  refine g_top (g_rf hnb16) ?_
  refine g_aload_n (pc := 48) C d_Fo_addArm_48 rfl 0 rfl ?_
  obtain ⟨b17, hnb17, hb17, h⟩ := o_rq h
  refine g_get (pc := 49) (k := 0) (v := va_rf ((N a0 0).map ad)) C gcX1 inX1 (by decide) fl_Fo_12 ha0 rfl d_Fo_addArm_49 ?_
  refine g_top (g_rf hnb17) ?_
  obtain ⟨b18, hnb18, hb18, h⟩ := o_rq h
  refine g_getN (pc := 52) (k := 1) (v := va_rf ((N b17 1).map ad)) C gcX5 inX5 (by decide) fl_Fo_43 hb17 rfl d_Fo_addArm_52 ?_
  refine g_top (g_rf hnb18) ?_
  obtain ⟨J19, hc20, h⟩ := o_bn1 h
  refine g_V (pc := 55) (rest := []) C (k_Po_addProduct (xl X) hb14 hb16 hb18 hc20) sm_Po_addProduct ml_Fo_67 im_Po_addProduct se_Po_addProduct gcX6 rfl hb14 ⟨rfl, rfl, Nat.le_of_ble_eq_true rfl, Nat.le_of_ble_eq_true rfl⟩ ⟨Nat.zero_le _, Nat.zero_le _⟩ rfl rfl (Nat.le_of_ble_eq_true rfl) d_Fo_addArm_55 [] rfl ?_
  refine g_aload_n (pc := 58) C d_Fo_addArm_58 rfl 0 rfl ?_
  obtain ⟨b21, hnb21, hb21, h⟩ := o_rq h
  refine g_get (pc := 59) (k := 2) (v := va_rf ((N a0 2).map ad)) C gcX1 inX1 (by decide) fl_Fo_21 ha0 rfl d_Fo_addArm_59 ?_
  refine g_top (g_rf hnb21) ?_
  obtain ⟨b22, hnb22, hb22, h⟩ := o_rq h
  refine g_getN (pc := 62) (k := 1) (v := va_rf ((N b21 1).map ad)) C gcX5 inX5 (by decide) fl_Fo_43 hb21 rfl d_Fo_addArm_62 ?_
  refine g_top (g_rf hnb22) ?_
  obtain ⟨J23, hc24, h⟩ := o_bn1 h
  refine g_V (pc := 65) (rest := []) C (k_Po_clear (xl X) hb22 hc24) sm_Po_clear ml_Fo_38 im_Po_clear se_Po_clear gcX6 rfl hb22 ⟨rfl, rfl, Nat.le_of_ble_eq_true rfl, Nat.le_of_ble_eq_true rfl⟩ ⟨Nat.zero_le _, Nat.zero_le _⟩ rfl rfl (Nat.le_of_ble_eq_true rfl) d_Fo_addArm_65 [] rfl ?_
  refine g_aload_n (pc := 68) C d_Fo_addArm_68 rfl 0 rfl ?_
  obtain ⟨b25, hnb25, hb25, h⟩ := o_rq h
  refine g_get (pc := 69) (k := 2) (v := va_rf ((N a0 2).map ad)) C gcX1 inX1 (by decide) fl_Fo_21 ha0 rfl d_Fo_addArm_69 ?_
  refine g_top (g_rf hnb25) ?_
  obtain ⟨b26, hnb26, hb26, h⟩ := o_rq h
  refine g_getN (pc := 72) (k := 1) (v := va_rf ((N b25 1).map ad)) C gcX5 inX5 (by decide) fl_Fo_43 hb25 rfl d_Fo_addArm_72 ?_
  refine g_top (g_rf hnb26) ?_
  refine g_aload_n (pc := 75) C d_Fo_addArm_75 rfl 0 rfl ?_
  obtain ⟨b27, hnb27, hb27, h⟩ := o_rq h
  refine g_get (pc := 76) (k := 0) (v := va_rf ((N a0 0).map ad)) C gcX1 inX1 (by decide) fl_Fo_12 ha0 rfl d_Fo_addArm_76 ?_
  refine g_top (g_rf hnb27) ?_
  obtain ⟨b28, hnb28, hb28, h⟩ := o_rq h
  refine g_getN (pc := 79) (k := 1) (v := va_rf ((N b27 1).map ad)) C gcX5 inX5 (by decide) fl_Fo_43 hb27 rfl d_Fo_addArm_79 ?_
  refine g_top (g_rf hnb28) ?_
  refine g_aload_n (pc := 82) C d_Fo_addArm_82 rfl 0 rfl ?_
  obtain ⟨b29, hnb29, hb29, h⟩ := o_rq h
  refine g_get (pc := 83) (k := 1) (v := va_rf ((N a0 1).map ad)) C gcX1 inX1 (by decide) fl_Fo_18 ha0 rfl d_Fo_addArm_83 ?_
  refine g_top (g_rf hnb29) ?_
  obtain ⟨b30, hnb30, hb30, h⟩ := o_rq h
  refine g_getN (pc := 86) (k := 1) (v := va_rf ((N b29 1).map ad)) C gcX5 inX5 (by decide) fl_Fo_43 hb29 rfl d_Fo_addArm_86 ?_
  refine g_top (g_rf hnb30) ?_
  obtain ⟨J31, hc32, h⟩ := o_bn1 h
  refine g_V (pc := 89) (rest := []) C (k_Po_addProduct (xl X) hb26 hb28 hb30 hc32) sm_Po_addProduct ml_Fo_67 im_Po_addProduct se_Po_addProduct gcX6 rfl hb26 ⟨rfl, rfl, Nat.le_of_ble_eq_true rfl, Nat.le_of_ble_eq_true rfl⟩ ⟨Nat.zero_le _, Nat.zero_le _⟩ rfl rfl (Nat.le_of_ble_eq_true rfl) d_Fo_addArm_89 [] rfl ?_
  refine g_aload_n (pc := 92) C d_Fo_addArm_92 rfl 0 rfl ?_
  obtain ⟨b33, hnb33, hb33, h⟩ := o_rq h
  refine g_get (pc := 93) (k := 0) (v := va_rf ((N a0 0).map ad)) C gcX1 inX1 (by decide) fl_Fo_12 ha0 rfl d_Fo_addArm_93 ?_
  refine g_top (g_rf hnb33) ?_
  refine g_aload_n (pc := 96) C d_Fo_addArm_96 rfl 0 rfl ?_
  obtain ⟨b34, hnb34, hb34, h⟩ := o_rq h
  refine g_get (pc := 97) (k := 2) (v := va_rf ((N a0 2).map ad)) C gcX1 inX1 (by decide) fl_Fo_21 ha0 rfl d_Fo_addArm_97 ?_
  refine g_top (g_rf hnb34) ?_
  obtain ⟨J35, hc36, h⟩ := o_bn1 h
  refine g_V (pc := 100) (rest := []) C (k_Pa_load (xl X) hb33 hb34 hc36) sm_Pa_load ml_Fo_71 im_Pa_load se_Pa_load gcX5 rfl hb33 ⟨rfl, rfl, Nat.le_of_ble_eq_true rfl, Nat.le_of_ble_eq_true rfl⟩ ⟨Nat.zero_le _, Nat.zero_le _⟩ rfl rfl (Nat.le_of_ble_eq_true rfl) d_Fo_addArm_100 [] rfl ?_
  obtain rfl := o_ret h
  exact g_vret (pc := 103) C d_Fo_addArm_103
set_option maxRecDepth 20000 in
theorem k_Fo_addArm (l : Launch) {I : HI} {J : HJ} {N : HN} {a0 : Nat} {r : HJ} (ha0 : gk Tc nC a0 (0, 1)) (h : Fo_addArm N a0 J = some r) : gM l y_Fo_addArm c_Fo_addArm 1 none rm_Fo_addArm Tc nC I J N (fun ad => [.ref (ad a0)]) (I, r, N, fun _ => none) :=
  g_meth (lv := fun ad => [(0, .ref (ad a0))]) (by decide) (fun _ => Nat.le_of_ble_eq_true rfl) (fun _ => rfl) (fun X ad C => g_lv [0] rfl (w_Fo_addArm_0 C ha0 h))
theorem d_Po_at_0 : decode c_Po_at 0 = .ok (.iload_n 1, 1) := by decide +kernel
theorem d_Po_at_1 : decode c_Po_at 1 = .ok (.ifCond .lt 18, 3) := by decide +kernel
theorem d_Po_at_4 : decode c_Po_at 4 = .ok (.iload_n 1, 1) := by decide +kernel
theorem d_Po_at_5 : decode c_Po_at 5 = .ok (.bipush 7, 2) := by decide +kernel
theorem d_Po_at_7 : decode c_Po_at 7 = .ok (.if_icmp .ge 12, 3) := by decide +kernel
theorem d_Po_at_10 : decode c_Po_at 10 = .ok (.aload_n 0, 1) := by decide +kernel
theorem d_Po_at_11 : decode c_Po_at 11 = .ok (.getfield 9, 3) := by decide +kernel
theorem d_Po_at_14 : decode c_Po_at 14 = .ok (.iload_n 1, 1) := by decide +kernel
theorem d_Po_at_15 : decode c_Po_at 15 = .ok (.laload, 1) := by decide +kernel
theorem d_Po_at_16 : decode c_Po_at 16 = .ok (.goto 4, 3) := by decide +kernel
theorem d_Po_at_19 : decode c_Po_at 19 = .ok (.lconst 0, 1) := by decide +kernel
theorem d_Po_at_20 : decode c_Po_at 20 = .ok (.lreturn, 1) := by decide +kernel
set_option maxRecDepth 20000 in
theorem w_Po_at_0 {X : HX} {ad : Nat → Nat} {I : HI} {J : HJ} {N : HN} {r : Int64} {a0 : Nat} {p1 : Int32} (C : Cx X c_Po_at RX6 2 (some .long) rm_Po_at) (ha0 : gk Tc nC a0 (0, 6))
    (h : Po_at_0 J N a0 p1 = some r) : G Tc X ad nC 0 0 I J N (gE X Tc ad nC (I, J, N, fun _ => some (.long r))) 0 2 [(0, .ref (ad a0)), (1, .int p1)] [] := by
  refine g_iload_n (pc := 0) C d_Po_at_0 rfl 1 rfl ?_
  refine g_if_lt (pc := 1) C 19 d_Po_at_1 rfl (fun e1 => ?_) (fun e1 => ?_)
  · have h := o_pos e1 h
    refine g_lconst (pc := 19) C (0 : Int64) d_Po_at_19 (by decide) ?_
    obtain rfl := o_ret h
    exact g_lret (pc := 20) C d_Po_at_20
  · have h := o_neg e1 h
    refine g_iload_n (pc := 4) C d_Po_at_4 rfl 1 rfl ?_
    refine g_bipush (pc := 5) C (7 : Int32) d_Po_at_5 (by decide) ?_
    refine g_icmp_ge (pc := 7) C 19 d_Po_at_7 rfl (fun e2 => ?_) (fun e2 => ?_)
    · have h := o_pos e2 h
      refine g_lconst (pc := 19) C (0 : Int64) d_Po_at_19 (by decide) ?_
      obtain rfl := o_ret h
      exact g_lret (pc := 20) C d_Po_at_20
    · have h := o_neg e2 h
      refine g_aload_n (pc := 10) C d_Po_at_10 rfl 0 rfl ?_
      obtain ⟨b3, hnb3, hb3, h⟩ := o_ra h
      refine g_get (pc := 11) (k := 0) (v := va_rf ((N a0 0).map ad)) C gcX6 inX6 (by decide) fl_Po_9 ha0 rfl d_Po_at_11 ?_
      refine g_top (g_rf hnb3) ?_
      refine g_iload_n (pc := 14) C d_Po_at_14 rfl 1 rfl ?_
      obtain ⟨hi4, h⟩ := o_gd h
      refine g_lald (pc := 15) C hb3 hi4 d_Po_at_15 ?_
      refine g_goto (pc := 16) C 20 d_Po_at_16 rfl ?_
      obtain rfl := o_ret h
      exact g_lret (pc := 20) C d_Po_at_20
set_option maxRecDepth 20000 in
theorem k_Po_at (l : Launch) {I : HI} {J : HJ} {N : HN} {a0 : Nat} {p1 : Int32} {r : Int64} (ha0 : gk Tc nC a0 (0, 6)) (h : Po_at J N a0 p1 = some r) : gM l y_Po_at c_Po_at 2 (some .long) rm_Po_at Tc nC I J N (fun ad => [.ref (ad a0), .int p1]) (I, J, N, fun _ => some (.long r)) :=
  g_meth (lv := fun ad => [(0, .ref (ad a0)), (1, .int p1)]) (by decide) (fun _ => Nat.le_of_ble_eq_true rfl) (fun _ => rfl) (fun X ad C => g_lv [0, 1] rfl (w_Po_at_0 C ha0 h))
theorem d_Pa_number_0 : decode c_Pa_number 0 = .ok (.iload_n 1, 1) := by decide +kernel
theorem d_Pa_number_1 : decode c_Pa_number 1 = .ok (.bipush 7, 2) := by decide +kernel
theorem d_Pa_number_3 : decode c_Pa_number 3 = .ok (.if_icmp .ge 14, 3) := by decide +kernel
theorem d_Pa_number_6 : decode c_Pa_number 6 = .ok (.aload_n 0, 1) := by decide +kernel
theorem d_Pa_number_7 : decode c_Pa_number 7 = .ok (.getfield 12, 3) := by decide +kernel
theorem d_Pa_number_10 : decode c_Pa_number 10 = .ok (.iload_n 1, 1) := by decide +kernel
theorem d_Pa_number_11 : decode c_Pa_number 11 = .ok (.invokevirtual 21, 3) := by decide +kernel
theorem d_Pa_number_14 : decode c_Pa_number 14 = .ok (.goto 14, 3) := by decide +kernel
theorem d_Pa_number_17 : decode c_Pa_number 17 = .ok (.aload_n 0, 1) := by decide +kernel
theorem d_Pa_number_18 : decode c_Pa_number 18 = .ok (.getfield 18, 3) := by decide +kernel
theorem d_Pa_number_21 : decode c_Pa_number 21 = .ok (.iload_n 1, 1) := by decide +kernel
theorem d_Pa_number_22 : decode c_Pa_number 22 = .ok (.bipush 7, 2) := by decide +kernel
theorem d_Pa_number_24 : decode c_Pa_number 24 = .ok (.isub, 1) := by decide +kernel
theorem d_Pa_number_25 : decode c_Pa_number 25 = .ok (.invokevirtual 21, 3) := by decide +kernel
theorem d_Pa_number_28 : decode c_Pa_number 28 = .ok (.lreturn, 1) := by decide +kernel
set_option maxRecDepth 20000 in
theorem w_Pa_number_0 {X : HX} {ad : Nat → Nat} {I : HI} {J : HJ} {N : HN} {r : Int64} {a0 : Nat} {p1 : Int32} (C : Cx X c_Pa_number RX5 2 (some .long) rm_Pa_number) (ha0 : gk Tc nC a0 (0, 5))
    (h : Pa_number_0 J N a0 p1 = some r) : G Tc X ad nC 0 0 I J N (gE X Tc ad nC (I, J, N, fun _ => some (.long r))) 0 2 [(0, .ref (ad a0)), (1, .int p1)] [] := by
  refine g_iload_n (pc := 0) C d_Pa_number_0 rfl 1 rfl ?_
  refine g_bipush (pc := 1) C (7 : Int32) d_Pa_number_1 (by decide) ?_
  refine g_icmp_ge (pc := 3) C 17 d_Pa_number_3 rfl (fun e1 => ?_) (fun e1 => ?_)
  · have h := o_pos e1 h
    refine g_aload_n (pc := 17) C d_Pa_number_17 rfl 0 rfl ?_
    obtain ⟨b2, hnb2, hb2, h⟩ := o_rq h
    refine g_get (pc := 18) (k := 1) (v := va_rf ((N a0 1).map ad)) C gcX5 inX5 (by decide) fl_Pa_18 ha0 rfl d_Pa_number_18 ?_
    refine g_top (g_rf hnb2) ?_
    refine g_iload_n (pc := 21) C d_Pa_number_21 rfl 1 rfl ?_
    refine g_bipush (pc := 22) C (7 : Int32) d_Pa_number_22 (by decide) ?_
    refine g_isub (pc := 24) C d_Pa_number_24 ?_
    obtain ⟨r3, hc4, h⟩ := o_bn1 h
    refine g_V (pc := 25) (rest := []) C (k_Po_at (xl X) hb2 hc4) sm_Po_at ml_Pa_21 im_Po_at se_Po_at gcX6 rfl hb2 ⟨rfl, rfl, Nat.le_of_ble_eq_true rfl, Nat.le_of_ble_eq_true rfl⟩ ⟨Nat.zero_le _, Nat.zero_le _⟩ rfl rfl (Nat.le_of_ble_eq_true rfl) d_Pa_number_25 [.long r3] rfl ?_
    obtain rfl := o_ret h
    exact g_lret (pc := 28) C d_Pa_number_28
  · have h := o_neg e1 h
    refine g_aload_n (pc := 6) C d_Pa_number_6 rfl 0 rfl ?_
    obtain ⟨b5, hnb5, hb5, h⟩ := o_rq h
    refine g_get (pc := 7) (k := 0) (v := va_rf ((N a0 0).map ad)) C gcX5 inX5 (by decide) fl_Pa_12 ha0 rfl d_Pa_number_7 ?_
    refine g_top (g_rf hnb5) ?_
    refine g_iload_n (pc := 10) C d_Pa_number_10 rfl 1 rfl ?_
    obtain ⟨r6, hc7, h⟩ := o_bn1 h
    refine g_V (pc := 11) (rest := []) C (k_Po_at (xl X) hb5 hc7) sm_Po_at ml_Pa_21 im_Po_at se_Po_at gcX6 rfl hb5 ⟨rfl, rfl, Nat.le_of_ble_eq_true rfl, Nat.le_of_ble_eq_true rfl⟩ ⟨Nat.zero_le _, Nat.zero_le _⟩ rfl rfl (Nat.le_of_ble_eq_true rfl) d_Pa_number_11 [.long r6] rfl ?_
    refine g_goto (pc := 14) C 28 d_Pa_number_14 rfl ?_
    obtain rfl := o_ret h
    exact g_lret (pc := 28) C d_Pa_number_28
set_option maxRecDepth 20000 in
theorem k_Pa_number (l : Launch) {I : HI} {J : HJ} {N : HN} {a0 : Nat} {p1 : Int32} {r : Int64} (ha0 : gk Tc nC a0 (0, 5)) (h : Pa_number J N a0 p1 = some r) : gM l y_Pa_number c_Pa_number 2 (some .long) rm_Pa_number Tc nC I J N (fun ad => [.ref (ad a0), .int p1]) (I, J, N, fun _ => some (.long r)) :=
  g_meth (lv := fun ad => [(0, .ref (ad a0)), (1, .int p1)]) (by decide) (fun _ => Nat.le_of_ble_eq_true rfl) (fun _ => rfl) (fun X ad C => g_lv [0, 1] rfl (w_Pa_number_0 C ha0 h))
theorem d_Lm_commonDivisor_0 : decode c_Lm_commonDivisor 0 = .ok (.lload_n 0, 1) := by decide +kernel
theorem d_Lm_commonDivisor_1 : decode c_Lm_commonDivisor 1 = .ok (.invokestatic 316, 3) := by decide +kernel
theorem d_Lm_commonDivisor_4 : decode c_Lm_commonDivisor 4 = .ok (.lstore 4, 2) := by decide +kernel
theorem d_Lm_commonDivisor_6 : decode c_Lm_commonDivisor 6 = .ok (.lload_n 2, 1) := by decide +kernel
theorem d_Lm_commonDivisor_7 : decode c_Lm_commonDivisor 7 = .ok (.invokestatic 316, 3) := by decide +kernel
theorem d_Lm_commonDivisor_10 : decode c_Lm_commonDivisor 10 = .ok (.lstore 6, 2) := by decide +kernel
theorem d_Lm_commonDivisor_12 : decode c_Lm_commonDivisor 12 = .ok (.iconst 0, 1) := by decide +kernel
theorem d_Lm_commonDivisor_13 : decode c_Lm_commonDivisor 13 = .ok (.istore 8, 2) := by decide +kernel
theorem d_Lm_commonDivisor_15 : decode c_Lm_commonDivisor 15 = .ok (.iload 8, 2) := by decide +kernel
theorem d_Lm_commonDivisor_17 : decode c_Lm_commonDivisor 17 = .ok (.sipush 200, 3) := by decide +kernel
theorem d_Lm_commonDivisor_20 : decode c_Lm_commonDivisor 20 = .ok (.if_icmp .ge 31, 3) := by decide +kernel
theorem d_Lm_commonDivisor_23 : decode c_Lm_commonDivisor 23 = .ok (.lload 6, 2) := by decide +kernel
theorem d_Lm_commonDivisor_25 : decode c_Lm_commonDivisor 25 = .ok (.lconst 0, 1) := by decide +kernel
theorem d_Lm_commonDivisor_26 : decode c_Lm_commonDivisor 26 = .ok (.lcmp, 1) := by decide +kernel
theorem d_Lm_commonDivisor_27 : decode c_Lm_commonDivisor 27 = .ok (.ifCond .eq 24, 3) := by decide +kernel
theorem d_Lm_commonDivisor_30 : decode c_Lm_commonDivisor 30 = .ok (.lload 4, 2) := by decide +kernel
theorem d_Lm_commonDivisor_32 : decode c_Lm_commonDivisor 32 = .ok (.lload 6, 2) := by decide +kernel
theorem d_Lm_commonDivisor_34 : decode c_Lm_commonDivisor 34 = .ok (.lrem, 1) := by decide +kernel
theorem d_Lm_commonDivisor_35 : decode c_Lm_commonDivisor 35 = .ok (.lstore 9, 2) := by decide +kernel
theorem d_Lm_commonDivisor_37 : decode c_Lm_commonDivisor 37 = .ok (.lload 6, 2) := by decide +kernel
theorem d_Lm_commonDivisor_39 : decode c_Lm_commonDivisor 39 = .ok (.lstore 4, 2) := by decide +kernel
theorem d_Lm_commonDivisor_41 : decode c_Lm_commonDivisor 41 = .ok (.lload 9, 2) := by decide +kernel
theorem d_Lm_commonDivisor_43 : decode c_Lm_commonDivisor 43 = .ok (.lstore 6, 2) := by decide +kernel
theorem d_Lm_commonDivisor_45 : decode c_Lm_commonDivisor 45 = .ok (.iinc 8 1, 3) := by decide +kernel
theorem d_Lm_commonDivisor_48 : decode c_Lm_commonDivisor 48 = .ok (.goto (-33), 3) := by decide +kernel
theorem d_Lm_commonDivisor_51 : decode c_Lm_commonDivisor 51 = .ok (.lload 4, 2) := by decide +kernel
theorem d_Lm_commonDivisor_53 : decode c_Lm_commonDivisor 53 = .ok (.lreturn, 1) := by decide +kernel
set_option maxRecDepth 20000 in
theorem w_Lm_commonDivisor_15b {X : HX} {ad : Nat → Nat} {I : HI} {J : HJ} {N : HN} {r : Int64} {k15 : Int64 → Int64 → Int32 → Option (Int64)} {p0 : Int64} {p2 : Int64} {x4 : Int64} {x6 : Int64} {x8 : Int32} (C : Cx X c_Lm_commonDivisor RX10 11 (some .long) rm_Lm_commonDivisor)
    (hk15 : ∀ (x4 : Int64) (x6 : Int64) (x8 : Int32), k15 x4 x6 x8 = some r → G Tc X ad nC 0 0 I J N (gE X Tc ad nC (I, J, N, fun _ => some (.long r))) 15 11 [(4, .long x4), (6, .long x6), (8, .int x8)] [])
    (h : Lm_commonDivisor_15b p0 p2 k15 x4 x6 x8 = some r) : G Tc X ad nC 0 0 I J N (gE X Tc ad nC (I, J, N, fun _ => some (.long r))) 15 11 [(4, .long x4), (6, .long x6), (8, .int x8)] [] := by
  refine g_iload (pc := 15) C d_Lm_commonDivisor_15 2 rfl ?_
  refine g_sipush (pc := 17) C (200 : Int32) d_Lm_commonDivisor_17 (by decide) ?_
  refine g_icmp_ge (pc := 20) C 51 d_Lm_commonDivisor_20 rfl (fun e1 => ?_) (fun e1 => ?_)
  · have h := o_pos e1 h
    refine g_lload (pc := 51) C d_Lm_commonDivisor_51 0 rfl ?_
    obtain rfl := o_ret h
    exact g_lret (pc := 53) C d_Lm_commonDivisor_53
  · have h := o_neg e1 h
    refine g_lload (pc := 23) C d_Lm_commonDivisor_23 1 rfl ?_
    refine g_lconst (pc := 25) C (0 : Int64) d_Lm_commonDivisor_25 (by decide) ?_
    refine g_lcmp_eq (pc := 26) C 51 d_Lm_commonDivisor_26 d_Lm_commonDivisor_27 rfl (fun e2 => ?_) (fun e2 => ?_)
    · have h := o_pos e2 h
      refine g_lload (pc := 51) C d_Lm_commonDivisor_51 0 rfl ?_
      obtain rfl := o_ret h
      exact g_lret (pc := 53) C d_Lm_commonDivisor_53
    · have h := o_neg e2 h
      refine g_lload (pc := 30) C d_Lm_commonDivisor_30 0 rfl ?_
      refine g_lload (pc := 32) C d_Lm_commonDivisor_32 1 rfl ?_
      obtain ⟨hz3, h⟩ := o_gd h
      refine g_lrem (pc := 34) C d_Lm_commonDivisor_34 (of_decide_eq_true hz3) ?_
      obtain ⟨v4, ev4, h⟩ := o_bd h
      refine g_topl ev4 ?_
      refine g_lstore (pc := 35) (lv' := [(9, .long v4), (4, .long x4), (6, .long x6), (8, .int x8)]) C d_Lm_commonDivisor_35 (by decide) rfl ?_
      refine g_lload (pc := 37) C d_Lm_commonDivisor_37 2 rfl ?_
      refine g_lstore (pc := 39) (lv' := [(4, .long x6), (9, .long v4), (6, .long x6), (8, .int x8)]) C d_Lm_commonDivisor_39 (by decide) rfl ?_
      refine g_lload (pc := 41) C d_Lm_commonDivisor_41 1 rfl ?_
      refine g_lstore (pc := 43) (lv' := [(6, .long v4), (4, .long x6), (9, .long v4), (8, .int x8)]) C d_Lm_commonDivisor_43 (by decide) rfl ?_
      refine g_iinc (pc := 45) (q := 3) (lv' := [(8, .int (x8 + 1)), (6, .long v4), (4, .long x6), (9, .long v4)]) C d_Lm_commonDivisor_45 rfl rfl (by decide) rfl ?_
      refine g_goto (pc := 48) C 15 d_Lm_commonDivisor_48 rfl ?_
      refine g_lv [2, 1, 0] rfl ?_
      exact hk15 _ _ _ h
set_option maxRecDepth 20000 in
theorem w_Lm_commonDivisor_15 {X : HX} {ad : Nat → Nat} {I : HI} {J : HJ} {N : HN} {r : Int64} {p0 : Int64} {p2 : Int64} (C : Cx X c_Lm_commonDivisor RX10 11 (some .long) rm_Lm_commonDivisor) : ∀ (n : Nat) (x4 : Int64) (x6 : Int64) (x8 : Int32), Lm_commonDivisor_15 p0 p2 n x4 x6 x8 = some r → G Tc X ad nC 0 0 I J N (gE X Tc ad nC (I, J, N, fun _ => some (.long r))) 15 11 [(4, .long x4), (6, .long x6), (8, .int x8)] [] := by
  intro n
  induction n with
  | zero => intro x4 x6 x8 h; cases h
  | succ n ih => intro x4 x6 x8 h; exact w_Lm_commonDivisor_15b C ih h
set_option maxRecDepth 20000 in
theorem w_Lm_commonDivisor_0 {X : HX} {ad : Nat → Nat} {I : HI} {J : HJ} {N : HN} {r : Int64} {p0 : Int64} {p2 : Int64} (C : Cx X c_Lm_commonDivisor RX10 11 (some .long) rm_Lm_commonDivisor)
    (h : Lm_commonDivisor_0 p0 p2 = some r) : G Tc X ad nC 0 0 I J N (gE X Tc ad nC (I, J, N, fun _ => some (.long r))) 0 11 [(0, .long p0), (2, .long p2)] [] := by
  refine g_lload_n (pc := 0) C d_Lm_commonDivisor_0 rfl 0 rfl ?_
  refine g_abs (pc := 1) C ml_Lm_316 jd_abs_s jd_Math_i jd_abs_c ⟨Nat.le_of_ble_eq_true rfl, Nat.le_of_ble_eq_true rfl, Nat.zero_le _, Nat.zero_le _⟩ d_Lm_commonDivisor_1 ?_
  obtain ⟨v1, ev1, h⟩ := o_bd h
  refine g_topl ev1 ?_
  refine g_lstore (pc := 4) (lv' := [(4, .long v1), (0, .long p0), (2, .long p2)]) C d_Lm_commonDivisor_4 (by decide) rfl ?_
  refine g_lload_n (pc := 6) C d_Lm_commonDivisor_6 rfl 2 rfl ?_
  refine g_abs (pc := 7) C ml_Lm_316 jd_abs_s jd_Math_i jd_abs_c ⟨Nat.le_of_ble_eq_true rfl, Nat.le_of_ble_eq_true rfl, Nat.zero_le _, Nat.zero_le _⟩ d_Lm_commonDivisor_7 ?_
  obtain ⟨v2, ev2, h⟩ := o_bd h
  refine g_topl ev2 ?_
  refine g_lstore (pc := 10) (lv' := [(6, .long v2), (4, .long v1), (0, .long p0), (2, .long p2)]) C d_Lm_commonDivisor_10 (by decide) rfl ?_
  refine g_iconst (pc := 12) C (0 : Int32) d_Lm_commonDivisor_12 (by decide) ?_
  refine g_istore (pc := 13) (lv' := [(8, .int (0 : Int32)), (6, .long v2), (4, .long v1), (0, .long p0), (2, .long p2)]) C d_Lm_commonDivisor_13 (by decide) rfl ?_
  refine g_lv [2, 1, 0] rfl ?_
  exact w_Lm_commonDivisor_15 C _ _ _ _ h
set_option maxRecDepth 20000 in
theorem k_Lm_commonDivisor (l : Launch) {I : HI} {J : HJ} {N : HN} {p0 : Int64} {p2 : Int64} {r : Int64} (h : Lm_commonDivisor p0 p2 = some r) : gM l y_Lm_commonDivisor c_Lm_commonDivisor 11 (some .long) rm_Lm_commonDivisor Tc nC I J N (fun ad => [.long p0, .long p2]) (I, J, N, fun _ => some (.long r)) :=
  g_meth (lv := fun ad => [(0, .long p0), (2, .long p2)]) (by decide) (fun _ => Nat.le_of_ble_eq_true rfl) (fun _ => rfl) (fun X ad C => g_lv [0, 1] rfl (w_Lm_commonDivisor_0 C  h))
theorem d_Po_degree_0 : decode c_Po_degree 0 = .ok (.bipush 6, 2) := by decide +kernel
theorem d_Po_degree_2 : decode c_Po_degree 2 = .ok (.istore_n 1, 1) := by decide +kernel
theorem d_Po_degree_3 : decode c_Po_degree 3 = .ok (.iload_n 1, 1) := by decide +kernel
theorem d_Po_degree_4 : decode c_Po_degree 4 = .ok (.ifCond .lt 22, 3) := by decide +kernel
theorem d_Po_degree_7 : decode c_Po_degree 7 = .ok (.aload_n 0, 1) := by decide +kernel
theorem d_Po_degree_8 : decode c_Po_degree 8 = .ok (.getfield 9, 3) := by decide +kernel
theorem d_Po_degree_11 : decode c_Po_degree 11 = .ok (.iload_n 1, 1) := by decide +kernel
theorem d_Po_degree_12 : decode c_Po_degree 12 = .ok (.laload, 1) := by decide +kernel
theorem d_Po_degree_13 : decode c_Po_degree 13 = .ok (.lconst 0, 1) := by decide +kernel
theorem d_Po_degree_14 : decode c_Po_degree 14 = .ok (.lcmp, 1) := by decide +kernel
theorem d_Po_degree_15 : decode c_Po_degree 15 = .ok (.ifCond .eq 5, 3) := by decide +kernel
theorem d_Po_degree_18 : decode c_Po_degree 18 = .ok (.iload_n 1, 1) := by decide +kernel
theorem d_Po_degree_19 : decode c_Po_degree 19 = .ok (.ireturn, 1) := by decide +kernel
theorem d_Po_degree_20 : decode c_Po_degree 20 = .ok (.iinc 1 (-1), 3) := by decide +kernel
theorem d_Po_degree_23 : decode c_Po_degree 23 = .ok (.goto (-20), 3) := by decide +kernel
theorem d_Po_degree_26 : decode c_Po_degree 26 = .ok (.iconst (-1), 1) := by decide +kernel
theorem d_Po_degree_27 : decode c_Po_degree 27 = .ok (.ireturn, 1) := by decide +kernel
set_option maxRecDepth 20000 in
theorem w_Po_degree_3b {X : HX} {ad : Nat → Nat} {I : HI} {J : HJ} {N : HN} {r : Int32} {k3 : Int32 → Option (Int32)} {a0 : Nat} {x1 : Int32} (C : Cx X c_Po_degree RX6 2 (some .int) rm_Po_degree) (ha0 : gk Tc nC a0 (0, 6))
    (hk3 : ∀ (x1 : Int32), k3 x1 = some r → G Tc X ad nC 0 0 I J N (gE X Tc ad nC (I, J, N, fun _ => some (.int r))) 3 2 [(0, .ref (ad a0)), (1, .int x1)] [])
    (h : Po_degree_3b J N a0 k3 x1 = some r) : G Tc X ad nC 0 0 I J N (gE X Tc ad nC (I, J, N, fun _ => some (.int r))) 3 2 [(0, .ref (ad a0)), (1, .int x1)] [] := by
  refine g_iload_n (pc := 3) C d_Po_degree_3 rfl 1 rfl ?_
  refine g_if_lt (pc := 4) C 26 d_Po_degree_4 rfl (fun e1 => ?_) (fun e1 => ?_)
  · have h := o_pos e1 h
    refine g_iconst (pc := 26) C (-1 : Int32) d_Po_degree_26 (by decide) ?_
    obtain rfl := o_ret h
    exact g_iret (pc := 27) C d_Po_degree_27
  · have h := o_neg e1 h
    refine g_aload_n (pc := 7) C d_Po_degree_7 rfl 0 rfl ?_
    obtain ⟨b2, hnb2, hb2, h⟩ := o_ra h
    refine g_get (pc := 8) (k := 0) (v := va_rf ((N a0 0).map ad)) C gcX6 inX6 (by decide) fl_Po_9 ha0 rfl d_Po_degree_8 ?_
    refine g_top (g_rf hnb2) ?_
    refine g_iload_n (pc := 11) C d_Po_degree_11 rfl 1 rfl ?_
    obtain ⟨hi3, h⟩ := o_gd h
    refine g_lald (pc := 12) C hb2 hi3 d_Po_degree_12 ?_
    refine g_lconst (pc := 13) C (0 : Int64) d_Po_degree_13 (by decide) ?_
    refine g_lcmp_eq (pc := 14) C 20 d_Po_degree_14 d_Po_degree_15 rfl (fun e4 => ?_) (fun e4 => ?_)
    · have h := o_pos e4 h
      refine g_iinc (pc := 20) (q := 1) (lv' := [(1, .int (x1 + (-1))), (0, .ref (ad a0))]) C d_Po_degree_20 rfl rfl (by decide) rfl ?_
      refine g_goto (pc := 23) C 3 d_Po_degree_23 rfl ?_
      refine g_lv [1, 0] rfl ?_
      exact hk3 _ h
    · have h := o_neg e4 h
      refine g_iload_n (pc := 18) C d_Po_degree_18 rfl 1 rfl ?_
      obtain rfl := o_ret h
      exact g_iret (pc := 19) C d_Po_degree_19
set_option maxRecDepth 20000 in
theorem w_Po_degree_3 {X : HX} {ad : Nat → Nat} {I : HI} {J : HJ} {N : HN} {r : Int32} {a0 : Nat} (C : Cx X c_Po_degree RX6 2 (some .int) rm_Po_degree) (ha0 : gk Tc nC a0 (0, 6)) : ∀ (n : Nat) (x1 : Int32), Po_degree_3 J N a0 n x1 = some r → G Tc X ad nC 0 0 I J N (gE X Tc ad nC (I, J, N, fun _ => some (.int r))) 3 2 [(0, .ref (ad a0)), (1, .int x1)] [] := by
  intro n
  induction n with
  | zero => intro x1 h; cases h
  | succ n ih => intro x1 h; exact w_Po_degree_3b C ha0 ih h
set_option maxRecDepth 20000 in
theorem w_Po_degree_0 {X : HX} {ad : Nat → Nat} {I : HI} {J : HJ} {N : HN} {r : Int32} {a0 : Nat} (C : Cx X c_Po_degree RX6 2 (some .int) rm_Po_degree) (ha0 : gk Tc nC a0 (0, 6))
    (h : Po_degree_0 J N a0 = some r) : G Tc X ad nC 0 0 I J N (gE X Tc ad nC (I, J, N, fun _ => some (.int r))) 0 2 [(0, .ref (ad a0))] [] := by
  refine g_bipush (pc := 0) C (6 : Int32) d_Po_degree_0 (by decide) ?_
  refine g_istore_n (pc := 2) (lv' := [(1, .int (6 : Int32)), (0, .ref (ad a0))]) C d_Po_degree_2 rfl (by decide) rfl ?_
  refine g_lv [1, 0] rfl ?_
  exact w_Po_degree_3 C ha0 _ _ h
set_option maxRecDepth 20000 in
theorem k_Po_degree (l : Launch) {I : HI} {J : HJ} {N : HN} {a0 : Nat} {r : Int32} (ha0 : gk Tc nC a0 (0, 6)) (h : Po_degree J N a0 = some r) : gM l y_Po_degree c_Po_degree 2 (some .int) rm_Po_degree Tc nC I J N (fun ad => [.ref (ad a0)]) (I, J, N, fun _ => some (.int r)) :=
  g_meth (lv := fun ad => [(0, .ref (ad a0))]) (by decide) (fun _ => Nat.le_of_ble_eq_true rfl) (fun _ => rfl) (fun X ad C => g_lv [0] rfl (w_Po_degree_0 C ha0 h))
theorem d_Po_divideBy_0 : decode c_Po_divideBy 0 = .ok (.iconst 0, 1) := by decide +kernel
theorem d_Po_divideBy_1 : decode c_Po_divideBy 1 = .ok (.istore_n 3, 1) := by decide +kernel
theorem d_Po_divideBy_2 : decode c_Po_divideBy 2 = .ok (.iload_n 3, 1) := by decide +kernel
theorem d_Po_divideBy_3 : decode c_Po_divideBy 3 = .ok (.bipush 7, 2) := by decide +kernel
theorem d_Po_divideBy_5 : decode c_Po_divideBy 5 = .ok (.if_icmp .ge 25, 3) := by decide +kernel
theorem d_Po_divideBy_8 : decode c_Po_divideBy 8 = .ok (.lload_n 1, 1) := by decide +kernel
theorem d_Po_divideBy_9 : decode c_Po_divideBy 9 = .ok (.lconst 0, 1) := by decide +kernel
theorem d_Po_divideBy_10 : decode c_Po_divideBy 10 = .ok (.lcmp, 1) := by decide +kernel
theorem d_Po_divideBy_11 : decode c_Po_divideBy 11 = .ok (.ifCond .eq 19, 3) := by decide +kernel
theorem d_Po_divideBy_14 : decode c_Po_divideBy 14 = .ok (.aload_n 0, 1) := by decide +kernel
theorem d_Po_divideBy_15 : decode c_Po_divideBy 15 = .ok (.getfield 9, 3) := by decide +kernel
theorem d_Po_divideBy_18 : decode c_Po_divideBy 18 = .ok (.iload_n 3, 1) := by decide +kernel
theorem d_Po_divideBy_19 : decode c_Po_divideBy 19 = .ok (.dup2, 1) := by decide +kernel
theorem d_Po_divideBy_20 : decode c_Po_divideBy 20 = .ok (.laload, 1) := by decide +kernel
theorem d_Po_divideBy_21 : decode c_Po_divideBy 21 = .ok (.lload_n 1, 1) := by decide +kernel
theorem d_Po_divideBy_22 : decode c_Po_divideBy 22 = .ok (.ldiv, 1) := by decide +kernel
theorem d_Po_divideBy_23 : decode c_Po_divideBy 23 = .ok (.lastore, 1) := by decide +kernel
theorem d_Po_divideBy_24 : decode c_Po_divideBy 24 = .ok (.iinc 3 1, 3) := by decide +kernel
theorem d_Po_divideBy_27 : decode c_Po_divideBy 27 = .ok (.goto (-25), 3) := by decide +kernel
theorem d_Po_divideBy_30 : decode c_Po_divideBy 30 = .ok (.return_, 1) := by decide +kernel
set_option maxRecDepth 20000 in
theorem w_Po_divideBy_2b {X : HX} {ad : Nat → Nat} {I : HI} {J : HJ} {N : HN} {r : HJ} {k2 : HJ → Int32 → Option (HJ)} {a0 : Nat} {p1 : Int64} {x3 : Int32} (C : Cx X c_Po_divideBy RX6 4 none rm_Po_divideBy) (ha0 : gk Tc nC a0 (0, 6))
    (hk2 : ∀ (J : HJ) (x3 : Int32), k2 J x3 = some r → G Tc X ad nC 0 0 I J N (gE X Tc ad nC (I, r, N, fun _ => none)) 2 4 [(0, .ref (ad a0)), (1, .long p1), (3, .int x3)] [])
    (h : Po_divideBy_2b N a0 p1 k2 J x3 = some r) : G Tc X ad nC 0 0 I J N (gE X Tc ad nC (I, r, N, fun _ => none)) 2 4 [(0, .ref (ad a0)), (1, .long p1), (3, .int x3)] [] := by
  refine g_iload_n (pc := 2) C d_Po_divideBy_2 rfl 2 rfl ?_
  refine g_bipush (pc := 3) C (7 : Int32) d_Po_divideBy_3 (by decide) ?_
  refine g_icmp_ge (pc := 5) C 30 d_Po_divideBy_5 rfl (fun e1 => ?_) (fun e1 => ?_)
  · have h := o_pos e1 h
    obtain rfl := o_ret h
    exact g_vret (pc := 30) C d_Po_divideBy_30
  · have h := o_neg e1 h
    refine g_lload_n (pc := 8) C d_Po_divideBy_8 rfl 1 rfl ?_
    refine g_lconst (pc := 9) C (0 : Int64) d_Po_divideBy_9 (by decide) ?_
    refine g_lcmp_eq (pc := 10) C 30 d_Po_divideBy_10 d_Po_divideBy_11 rfl (fun e2 => ?_) (fun e2 => ?_)
    · have h := o_pos e2 h
      obtain rfl := o_ret h
      exact g_vret (pc := 30) C d_Po_divideBy_30
    · have h := o_neg e2 h
      refine g_aload_n (pc := 14) C d_Po_divideBy_14 rfl 0 rfl ?_
      obtain ⟨b3, hnb3, hb3, h⟩ := o_ra h
      refine g_get (pc := 15) (k := 0) (v := va_rf ((N a0 0).map ad)) C gcX6 inX6 (by decide) fl_Po_9 ha0 rfl d_Po_divideBy_15 ?_
      refine g_top (g_rf hnb3) ?_
      refine g_iload_n (pc := 18) C d_Po_divideBy_18 rfl 2 rfl ?_
      refine g_dup2 (pc := 19) C d_Po_divideBy_19 rfl rfl ?_
      obtain ⟨hi4, h⟩ := o_gd h
      refine g_lald (pc := 20) C hb3 hi4 d_Po_divideBy_20 ?_
      refine g_lload_n (pc := 21) C d_Po_divideBy_21 rfl 1 rfl ?_
      obtain ⟨hz5, h⟩ := o_gd h
      refine g_ldiv (pc := 22) C d_Po_divideBy_22 (of_decide_eq_true hz5) ?_
      obtain ⟨hi6, h⟩ := o_gd h
      refine g_last (pc := 23) C hb3 hi6 d_Po_divideBy_23 ?_
      obtain ⟨J7, eJ7, h⟩ := o_bd h
      rw [← eJ7]
      refine g_iinc (pc := 24) (q := 2) (lv' := [(3, .int (x3 + 1)), (0, .ref (ad a0)), (1, .long p1)]) C d_Po_divideBy_24 rfl rfl (by decide) rfl ?_
      refine g_goto (pc := 27) C 2 d_Po_divideBy_27 rfl ?_
      refine g_lv [1, 2, 0] rfl ?_
      exact hk2 _ _ h
set_option maxRecDepth 20000 in
theorem w_Po_divideBy_2 {X : HX} {ad : Nat → Nat} {I : HI} {N : HN} {r : HJ} {a0 : Nat} {p1 : Int64} (C : Cx X c_Po_divideBy RX6 4 none rm_Po_divideBy) (ha0 : gk Tc nC a0 (0, 6)) : ∀ (n : Nat) (J : HJ) (x3 : Int32), Po_divideBy_2 N a0 p1 n J x3 = some r → G Tc X ad nC 0 0 I J N (gE X Tc ad nC (I, r, N, fun _ => none)) 2 4 [(0, .ref (ad a0)), (1, .long p1), (3, .int x3)] [] := by
  intro n
  induction n with
  | zero => intro J x3 h; cases h
  | succ n ih => intro J x3 h; exact w_Po_divideBy_2b C ha0 ih h
set_option maxRecDepth 20000 in
theorem w_Po_divideBy_0 {X : HX} {ad : Nat → Nat} {I : HI} {J : HJ} {N : HN} {r : HJ} {a0 : Nat} {p1 : Int64} (C : Cx X c_Po_divideBy RX6 4 none rm_Po_divideBy) (ha0 : gk Tc nC a0 (0, 6))
    (h : Po_divideBy_0 N a0 p1 J = some r) : G Tc X ad nC 0 0 I J N (gE X Tc ad nC (I, r, N, fun _ => none)) 0 4 [(0, .ref (ad a0)), (1, .long p1)] [] := by
  refine g_iconst (pc := 0) C (0 : Int32) d_Po_divideBy_0 (by decide) ?_
  refine g_istore_n (pc := 1) (lv' := [(3, .int (0 : Int32)), (0, .ref (ad a0)), (1, .long p1)]) C d_Po_divideBy_1 rfl (by decide) rfl ?_
  refine g_lv [1, 2, 0] rfl ?_
  exact w_Po_divideBy_2 C ha0 _ _ _ h
set_option maxRecDepth 20000 in
theorem k_Po_divideBy (l : Launch) {I : HI} {J : HJ} {N : HN} {a0 : Nat} {p1 : Int64} {r : HJ} (ha0 : gk Tc nC a0 (0, 6)) (h : Po_divideBy N a0 p1 J = some r) : gM l y_Po_divideBy c_Po_divideBy 4 none rm_Po_divideBy Tc nC I J N (fun ad => [.ref (ad a0), .long p1]) (I, r, N, fun _ => none) :=
  g_meth (lv := fun ad => [(0, .ref (ad a0)), (1, .long p1)]) (by decide) (fun _ => Nat.le_of_ble_eq_true rfl) (fun _ => rfl) (fun X ad C => g_lv [0, 1] rfl (w_Po_divideBy_0 C ha0 h))
theorem d_Pa_becomeAsPair_0 : decode c_Pa_becomeAsPair 0 = .ok (.lconst 0, 1) := by decide +kernel
theorem d_Pa_becomeAsPair_1 : decode c_Pa_becomeAsPair 1 = .ok (.lstore_n 1, 1) := by decide +kernel
theorem d_Pa_becomeAsPair_2 : decode c_Pa_becomeAsPair 2 = .ok (.iconst 0, 1) := by decide +kernel
theorem d_Pa_becomeAsPair_3 : decode c_Pa_becomeAsPair 3 = .ok (.istore_n 3, 1) := by decide +kernel
theorem d_Pa_becomeAsPair_4 : decode c_Pa_becomeAsPair 4 = .ok (.iload_n 3, 1) := by decide +kernel
theorem d_Pa_becomeAsPair_5 : decode c_Pa_becomeAsPair 5 = .ok (.bipush 14, 2) := by decide +kernel
theorem d_Pa_becomeAsPair_7 : decode c_Pa_becomeAsPair 7 = .ok (.if_icmp .ge 25, 3) := by decide +kernel
theorem d_Pa_becomeAsPair_10 : decode c_Pa_becomeAsPair 10 = .ok (.lload_n 1, 1) := by decide +kernel
theorem d_Pa_becomeAsPair_11 : decode c_Pa_becomeAsPair 11 = .ok (.lconst 1, 1) := by decide +kernel
theorem d_Pa_becomeAsPair_12 : decode c_Pa_becomeAsPair 12 = .ok (.lcmp, 1) := by decide +kernel
theorem d_Pa_becomeAsPair_13 : decode c_Pa_becomeAsPair 13 = .ok (.ifCond .eq 19, 3) := by decide +kernel
theorem d_Pa_becomeAsPair_16 : decode c_Pa_becomeAsPair 16 = .ok (.lload_n 1, 1) := by decide +kernel
theorem d_Pa_becomeAsPair_17 : decode c_Pa_becomeAsPair 17 = .ok (.aload_n 0, 1) := by decide +kernel
theorem d_Pa_becomeAsPair_18 : decode c_Pa_becomeAsPair 18 = .ok (.iload_n 3, 1) := by decide +kernel
theorem d_Pa_becomeAsPair_19 : decode c_Pa_becomeAsPair 19 = .ok (.invokevirtual 47, 3) := by decide +kernel
theorem d_Pa_becomeAsPair_22 : decode c_Pa_becomeAsPair 22 = .ok (.invokestatic 50, 3) := by decide +kernel
theorem d_Pa_becomeAsPair_25 : decode c_Pa_becomeAsPair 25 = .ok (.lstore_n 1, 1) := by decide +kernel
theorem d_Pa_becomeAsPair_26 : decode c_Pa_becomeAsPair 26 = .ok (.iinc 3 1, 3) := by decide +kernel
theorem d_Pa_becomeAsPair_29 : decode c_Pa_becomeAsPair 29 = .ok (.goto (-25), 3) := by decide +kernel
theorem d_Pa_becomeAsPair_32 : decode c_Pa_becomeAsPair 32 = .ok (.aload_n 0, 1) := by decide +kernel
theorem d_Pa_becomeAsPair_33 : decode c_Pa_becomeAsPair 33 = .ok (.getfield 18, 3) := by decide +kernel
theorem d_Pa_becomeAsPair_36 : decode c_Pa_becomeAsPair 36 = .ok (.invokevirtual 37, 3) := by decide +kernel
theorem d_Pa_becomeAsPair_39 : decode c_Pa_becomeAsPair 39 = .ok (.istore_n 3, 1) := by decide +kernel
theorem d_Pa_becomeAsPair_40 : decode c_Pa_becomeAsPair 40 = .ok (.iload_n 3, 1) := by decide +kernel
theorem d_Pa_becomeAsPair_41 : decode c_Pa_becomeAsPair 41 = .ok (.iconst (-1), 1) := by decide +kernel
theorem d_Pa_becomeAsPair_42 : decode c_Pa_becomeAsPair 42 = .ok (.if_icmp .ne 20, 3) := by decide +kernel
theorem d_Pa_becomeAsPair_45 : decode c_Pa_becomeAsPair 45 = .ok (.aload_n 0, 1) := by decide +kernel
theorem d_Pa_becomeAsPair_46 : decode c_Pa_becomeAsPair 46 = .ok (.getfield 12, 3) := by decide +kernel
theorem d_Pa_becomeAsPair_49 : decode c_Pa_becomeAsPair 49 = .ok (.aload_n 0, 1) := by decide +kernel
theorem d_Pa_becomeAsPair_50 : decode c_Pa_becomeAsPair 50 = .ok (.getfield 12, 3) := by decide +kernel
theorem d_Pa_becomeAsPair_53 : decode c_Pa_becomeAsPair 53 = .ok (.invokevirtual 37, 3) := by decide +kernel
theorem d_Pa_becomeAsPair_56 : decode c_Pa_becomeAsPair 56 = .ok (.invokevirtual 21, 3) := by decide +kernel
theorem d_Pa_becomeAsPair_59 : decode c_Pa_becomeAsPair 59 = .ok (.goto 11, 3) := by decide +kernel
theorem d_Pa_becomeAsPair_62 : decode c_Pa_becomeAsPair 62 = .ok (.aload_n 0, 1) := by decide +kernel
theorem d_Pa_becomeAsPair_63 : decode c_Pa_becomeAsPair 63 = .ok (.getfield 18, 3) := by decide +kernel
theorem d_Pa_becomeAsPair_66 : decode c_Pa_becomeAsPair 66 = .ok (.iload_n 3, 1) := by decide +kernel
theorem d_Pa_becomeAsPair_67 : decode c_Pa_becomeAsPair 67 = .ok (.invokevirtual 21, 3) := by decide +kernel
theorem d_Pa_becomeAsPair_70 : decode c_Pa_becomeAsPair 70 = .ok (.lstore 4, 2) := by decide +kernel
theorem d_Pa_becomeAsPair_72 : decode c_Pa_becomeAsPair 72 = .ok (.lload 4, 2) := by decide +kernel
theorem d_Pa_becomeAsPair_74 : decode c_Pa_becomeAsPair 74 = .ok (.lconst 0, 1) := by decide +kernel
theorem d_Pa_becomeAsPair_75 : decode c_Pa_becomeAsPair 75 = .ok (.lcmp, 1) := by decide +kernel
theorem d_Pa_becomeAsPair_76 : decode c_Pa_becomeAsPair 76 = .ok (.ifCond .ge 6, 3) := by decide +kernel
theorem d_Pa_becomeAsPair_79 : decode c_Pa_becomeAsPair 79 = .ok (.lload_n 1, 1) := by decide +kernel
theorem d_Pa_becomeAsPair_80 : decode c_Pa_becomeAsPair 80 = .ok (.lneg, 1) := by decide +kernel
theorem d_Pa_becomeAsPair_81 : decode c_Pa_becomeAsPair 81 = .ok (.lstore_n 1, 1) := by decide +kernel
theorem d_Pa_becomeAsPair_82 : decode c_Pa_becomeAsPair 82 = .ok (.lload_n 1, 1) := by decide +kernel
theorem d_Pa_becomeAsPair_83 : decode c_Pa_becomeAsPair 83 = .ok (.lconst 1, 1) := by decide +kernel
theorem d_Pa_becomeAsPair_84 : decode c_Pa_becomeAsPair 84 = .ok (.lcmp, 1) := by decide +kernel
theorem d_Pa_becomeAsPair_85 : decode c_Pa_becomeAsPair 85 = .ok (.ifCond .eq 19, 3) := by decide +kernel
theorem d_Pa_becomeAsPair_88 : decode c_Pa_becomeAsPair 88 = .ok (.aload_n 0, 1) := by decide +kernel
theorem d_Pa_becomeAsPair_89 : decode c_Pa_becomeAsPair 89 = .ok (.getfield 12, 3) := by decide +kernel
theorem d_Pa_becomeAsPair_92 : decode c_Pa_becomeAsPair 92 = .ok (.lload_n 1, 1) := by decide +kernel
theorem d_Pa_becomeAsPair_93 : decode c_Pa_becomeAsPair 93 = .ok (.invokevirtual 54, 3) := by decide +kernel
theorem d_Pa_becomeAsPair_96 : decode c_Pa_becomeAsPair 96 = .ok (.aload_n 0, 1) := by decide +kernel
theorem d_Pa_becomeAsPair_97 : decode c_Pa_becomeAsPair 97 = .ok (.getfield 18, 3) := by decide +kernel
theorem d_Pa_becomeAsPair_100 : decode c_Pa_becomeAsPair 100 = .ok (.lload_n 1, 1) := by decide +kernel
theorem d_Pa_becomeAsPair_101 : decode c_Pa_becomeAsPair 101 = .ok (.invokevirtual 54, 3) := by decide +kernel
theorem d_Pa_becomeAsPair_104 : decode c_Pa_becomeAsPair 104 = .ok (.return_, 1) := by decide +kernel
set_option maxRecDepth 20000 in
theorem w_Pa_becomeAsPair_82 {X : HX} {ad : Nat → Nat} {I : HI} {J : HJ} {N : HN} {r : HJ} {a0 : Nat} {x1 : Int64} (C : Cx X c_Pa_becomeAsPair RX5 6 none rm_Pa_becomeAsPair) (ha0 : gk Tc nC a0 (0, 5))
    (h : Pa_becomeAsPair_82 N a0 J x1 = some r) : G Tc X ad nC 0 0 I J N (gE X Tc ad nC (I, r, N, fun _ => none)) 82 6 [(0, .ref (ad a0)), (1, .long x1)] [] := by
  refine g_lload_n (pc := 82) C d_Pa_becomeAsPair_82 rfl 1 rfl ?_
  refine g_lconst (pc := 83) C (1 : Int64) d_Pa_becomeAsPair_83 (by decide) ?_
  refine g_lcmp_eq (pc := 84) C 104 d_Pa_becomeAsPair_84 d_Pa_becomeAsPair_85 rfl (fun e1 => ?_) (fun e1 => ?_)
  · have h := o_pos e1 h
    obtain rfl := o_ret h
    exact g_vret (pc := 104) C d_Pa_becomeAsPair_104
  · have h := o_neg e1 h
    refine g_aload_n (pc := 88) C d_Pa_becomeAsPair_88 rfl 0 rfl ?_
    obtain ⟨b2, hnb2, hb2, h⟩ := o_rq h
    refine g_get (pc := 89) (k := 0) (v := va_rf ((N a0 0).map ad)) C gcX5 inX5 (by decide) fl_Pa_12 ha0 rfl d_Pa_becomeAsPair_89 ?_
    refine g_top (g_rf hnb2) ?_
    refine g_lload_n (pc := 92) C d_Pa_becomeAsPair_92 rfl 1 rfl ?_
    obtain ⟨J3, hc4, h⟩ := o_bn1 h
    refine g_V (pc := 93) (rest := []) C (k_Po_divideBy (xl X) hb2 hc4) sm_Po_divideBy ml_Pa_54 im_Po_divideBy se_Po_divideBy gcX6 rfl hb2 ⟨rfl, rfl, Nat.le_of_ble_eq_true rfl, Nat.le_of_ble_eq_true rfl⟩ ⟨Nat.zero_le _, Nat.zero_le _⟩ rfl rfl (Nat.le_of_ble_eq_true rfl) d_Pa_becomeAsPair_93 [] rfl ?_
    refine g_aload_n (pc := 96) C d_Pa_becomeAsPair_96 rfl 0 rfl ?_
    obtain ⟨b5, hnb5, hb5, h⟩ := o_rq h
    refine g_get (pc := 97) (k := 1) (v := va_rf ((N a0 1).map ad)) C gcX5 inX5 (by decide) fl_Pa_18 ha0 rfl d_Pa_becomeAsPair_97 ?_
    refine g_top (g_rf hnb5) ?_
    refine g_lload_n (pc := 100) C d_Pa_becomeAsPair_100 rfl 1 rfl ?_
    obtain ⟨J6, hc7, h⟩ := o_bn1 h
    refine g_V (pc := 101) (rest := []) C (k_Po_divideBy (xl X) hb5 hc7) sm_Po_divideBy ml_Pa_54 im_Po_divideBy se_Po_divideBy gcX6 rfl hb5 ⟨rfl, rfl, Nat.le_of_ble_eq_true rfl, Nat.le_of_ble_eq_true rfl⟩ ⟨Nat.zero_le _, Nat.zero_le _⟩ rfl rfl (Nat.le_of_ble_eq_true rfl) d_Pa_becomeAsPair_101 [] rfl ?_
    obtain rfl := o_ret h
    exact g_vret (pc := 104) C d_Pa_becomeAsPair_104
set_option maxRecDepth 20000 in
theorem w_Pa_becomeAsPair_70 {X : HX} {ad : Nat → Nat} {I : HI} {J : HJ} {N : HN} {r : HJ} {a0 : Nat} {x1 : Int64} {s0 : Int64} (C : Cx X c_Pa_becomeAsPair RX5 6 none rm_Pa_becomeAsPair) (ha0 : gk Tc nC a0 (0, 5))
    (h : Pa_becomeAsPair_70 N a0 J x1 s0 = some r) : G Tc X ad nC 0 0 I J N (gE X Tc ad nC (I, r, N, fun _ => none)) 70 6 [(0, .ref (ad a0)), (1, .long x1)] [.long s0] := by
  refine g_lstore (pc := 70) (lv' := [(4, .long s0), (0, .ref (ad a0)), (1, .long x1)]) C d_Pa_becomeAsPair_70 (by decide) rfl ?_
  refine g_lload (pc := 72) C d_Pa_becomeAsPair_72 0 rfl ?_
  refine g_lconst (pc := 74) C (0 : Int64) d_Pa_becomeAsPair_74 (by decide) ?_
  refine g_lcmp_ge (pc := 75) C 82 d_Pa_becomeAsPair_75 d_Pa_becomeAsPair_76 rfl (fun e1 => ?_) (fun e1 => ?_)
  · have h := o_pos e1 h
    refine g_lv [1, 2] rfl ?_
    exact w_Pa_becomeAsPair_82 C ha0 h
  · have h := o_neg e1 h
    refine g_lload_n (pc := 79) C d_Pa_becomeAsPair_79 rfl 2 rfl ?_
    refine g_lneg (pc := 80) C d_Pa_becomeAsPair_80 ?_
    refine g_lstore_n (pc := 81) (lv' := [(1, .long (-x1)), (4, .long s0), (0, .ref (ad a0))]) C d_Pa_becomeAsPair_81 rfl (by decide) rfl ?_
    refine g_lv [2, 0] rfl ?_
    exact w_Pa_becomeAsPair_82 C ha0 h
set_option maxRecDepth 20000 in
theorem w_Pa_becomeAsPair_32 {X : HX} {ad : Nat → Nat} {I : HI} {J : HJ} {N : HN} {r : HJ} {a0 : Nat} {x1 : Int64} (C : Cx X c_Pa_becomeAsPair RX5 6 none rm_Pa_becomeAsPair) (ha0 : gk Tc nC a0 (0, 5))
    (h : Pa_becomeAsPair_32 N a0 J x1 = some r) : G Tc X ad nC 0 0 I J N (gE X Tc ad nC (I, r, N, fun _ => none)) 32 6 [(0, .ref (ad a0)), (1, .long x1)] [] := by
  refine g_aload_n (pc := 32) C d_Pa_becomeAsPair_32 rfl 0 rfl ?_
  obtain ⟨b1, hnb1, hb1, h⟩ := o_rq h
  refine g_get (pc := 33) (k := 1) (v := va_rf ((N a0 1).map ad)) C gcX5 inX5 (by decide) fl_Pa_18 ha0 rfl d_Pa_becomeAsPair_33 ?_
  refine g_top (g_rf hnb1) ?_
  obtain ⟨r2, hc3, h⟩ := o_bn1 h
  refine g_V (pc := 36) (rest := []) C (k_Po_degree (xl X) hb1 hc3) sm_Po_degree ml_Pa_37 im_Po_degree se_Po_degree gcX6 rfl hb1 ⟨rfl, rfl, Nat.le_of_ble_eq_true rfl, Nat.le_of_ble_eq_true rfl⟩ ⟨Nat.zero_le _, Nat.zero_le _⟩ rfl rfl (Nat.le_of_ble_eq_true rfl) d_Pa_becomeAsPair_36 [.int r2] rfl ?_
  refine g_istore_n (pc := 39) (lv' := [(3, .int r2), (0, .ref (ad a0)), (1, .long x1)]) C d_Pa_becomeAsPair_39 rfl (by decide) rfl ?_
  refine g_iload_n (pc := 40) C d_Pa_becomeAsPair_40 rfl 0 rfl ?_
  refine g_iconst (pc := 41) C (-1 : Int32) d_Pa_becomeAsPair_41 (by decide) ?_
  refine g_icmp_ne (pc := 42) C 62 d_Pa_becomeAsPair_42 rfl (fun e4 => ?_) (fun e4 => ?_)
  · have h := o_neg e4 h
    refine g_aload_n (pc := 62) C d_Pa_becomeAsPair_62 rfl 1 rfl ?_
    obtain ⟨b5, hnb5, hb5, h⟩ := o_rq h
    refine g_get (pc := 63) (k := 1) (v := va_rf ((N a0 1).map ad)) C gcX5 inX5 (by decide) fl_Pa_18 ha0 rfl d_Pa_becomeAsPair_63 ?_
    refine g_top (g_rf hnb5) ?_
    refine g_iload_n (pc := 66) C d_Pa_becomeAsPair_66 rfl 0 rfl ?_
    obtain ⟨r6, hc7, h⟩ := o_bn1 h
    refine g_V (pc := 67) (rest := []) C (k_Po_at (xl X) hb5 hc7) sm_Po_at ml_Pa_21 im_Po_at se_Po_at gcX6 rfl hb5 ⟨rfl, rfl, Nat.le_of_ble_eq_true rfl, Nat.le_of_ble_eq_true rfl⟩ ⟨Nat.zero_le _, Nat.zero_le _⟩ rfl rfl (Nat.le_of_ble_eq_true rfl) d_Pa_becomeAsPair_67 [.long r6] rfl ?_
    refine g_lv [1, 2] rfl ?_
    exact w_Pa_becomeAsPair_70 C ha0 h
  · have h := o_pos e4 h
    refine g_aload_n (pc := 45) C d_Pa_becomeAsPair_45 rfl 1 rfl ?_
    obtain ⟨b8, hnb8, hb8, h⟩ := o_rq h
    refine g_get (pc := 46) (k := 0) (v := va_rf ((N a0 0).map ad)) C gcX5 inX5 (by decide) fl_Pa_12 ha0 rfl d_Pa_becomeAsPair_46 ?_
    refine g_top (g_rf hnb8) ?_
    refine g_aload_n (pc := 49) C d_Pa_becomeAsPair_49 rfl 1 rfl ?_
    obtain ⟨b9, hnb9, hb9, h⟩ := o_rq h
    refine g_get (pc := 50) (k := 0) (v := va_rf ((N a0 0).map ad)) C gcX5 inX5 (by decide) fl_Pa_12 ha0 rfl d_Pa_becomeAsPair_50 ?_
    refine g_top (g_rf hnb9) ?_
    obtain ⟨r10, hc11, h⟩ := o_bn1 h
    refine g_V (pc := 53) (rest := [.ref (ad b8)]) C (k_Po_degree (xl X) hb9 hc11) sm_Po_degree ml_Pa_37 im_Po_degree se_Po_degree gcX6 rfl hb9 ⟨rfl, rfl, Nat.le_of_ble_eq_true rfl, Nat.le_of_ble_eq_true rfl⟩ ⟨Nat.zero_le _, Nat.zero_le _⟩ rfl rfl (Nat.le_of_ble_eq_true rfl) d_Pa_becomeAsPair_53 [.int r10, .ref (ad b8)] rfl ?_
    obtain ⟨r12, hc13, h⟩ := o_bn1 h
    refine g_V (pc := 56) (rest := []) C (k_Po_at (xl X) hb8 hc13) sm_Po_at ml_Pa_21 im_Po_at se_Po_at gcX6 rfl hb8 ⟨rfl, rfl, Nat.le_of_ble_eq_true rfl, Nat.le_of_ble_eq_true rfl⟩ ⟨Nat.zero_le _, Nat.zero_le _⟩ rfl rfl (Nat.le_of_ble_eq_true rfl) d_Pa_becomeAsPair_56 [.long r12] rfl ?_
    refine g_goto (pc := 59) C 70 d_Pa_becomeAsPair_59 rfl ?_
    refine g_lv [1, 2] rfl ?_
    exact w_Pa_becomeAsPair_70 C ha0 h
set_option maxRecDepth 20000 in
theorem w_Pa_becomeAsPair_4b {X : HX} {ad : Nat → Nat} {I : HI} {J : HJ} {N : HN} {r : HJ} {k4 : HJ → Int64 → Int32 → Option (HJ)} {a0 : Nat} {x1 : Int64} {x3 : Int32} (C : Cx X c_Pa_becomeAsPair RX5 6 none rm_Pa_becomeAsPair) (ha0 : gk Tc nC a0 (0, 5))
    (hk4 : ∀ (J : HJ) (x1 : Int64) (x3 : Int32), k4 J x1 x3 = some r → G Tc X ad nC 0 0 I J N (gE X Tc ad nC (I, r, N, fun _ => none)) 4 6 [(0, .ref (ad a0)), (1, .long x1), (3, .int x3)] [])
    (h : Pa_becomeAsPair_4b N a0 k4 J x1 x3 = some r) : G Tc X ad nC 0 0 I J N (gE X Tc ad nC (I, r, N, fun _ => none)) 4 6 [(0, .ref (ad a0)), (1, .long x1), (3, .int x3)] [] := by
  refine g_iload_n (pc := 4) C d_Pa_becomeAsPair_4 rfl 2 rfl ?_
  refine g_bipush (pc := 5) C (14 : Int32) d_Pa_becomeAsPair_5 (by decide) ?_
  refine g_icmp_ge (pc := 7) C 32 d_Pa_becomeAsPair_7 rfl (fun e1 => ?_) (fun e1 => ?_)
  · have h := o_pos e1 h
    refine g_lv [0, 1] rfl ?_
    exact w_Pa_becomeAsPair_32 C ha0 h
  · have h := o_neg e1 h
    refine g_lload_n (pc := 10) C d_Pa_becomeAsPair_10 rfl 1 rfl ?_
    refine g_lconst (pc := 11) C (1 : Int64) d_Pa_becomeAsPair_11 (by decide) ?_
    refine g_lcmp_eq (pc := 12) C 32 d_Pa_becomeAsPair_12 d_Pa_becomeAsPair_13 rfl (fun e2 => ?_) (fun e2 => ?_)
    · have h := o_pos e2 h
      refine g_lv [0, 1] rfl ?_
      exact w_Pa_becomeAsPair_32 C ha0 h
    · have h := o_neg e2 h
      refine g_lload_n (pc := 16) C d_Pa_becomeAsPair_16 rfl 1 rfl ?_
      refine g_aload_n (pc := 17) C d_Pa_becomeAsPair_17 rfl 0 rfl ?_
      refine g_iload_n (pc := 18) C d_Pa_becomeAsPair_18 rfl 2 rfl ?_
      obtain ⟨r3, hc4, h⟩ := o_bn1 h
      refine g_V (pc := 19) (rest := [.long x1]) C (k_Pa_number (xl X) ha0 hc4) sm_Pa_number ml_Pa_47 im_Pa_number se_Pa_number gcX5 rfl ha0 ⟨rfl, rfl, Nat.le_of_ble_eq_true rfl, Nat.le_of_ble_eq_true rfl⟩ ⟨Nat.zero_le _, Nat.zero_le _⟩ rfl rfl (Nat.le_of_ble_eq_true rfl) d_Pa_becomeAsPair_19 [.long r3, .long x1] rfl ?_
      obtain ⟨r5, hc6, h⟩ := o_bn1 h
      refine g_SN (pc := 22) (rest := []) C (k_Lm_commonDivisor (xl X)  hc6) sm_Lm_commonDivisor ml_Pa_50 st_Lm_commonDivisor ⟨rfl, rfl, Nat.le_of_ble_eq_true rfl, Nat.le_of_ble_eq_true rfl⟩ ⟨Nat.zero_le _, Nat.zero_le _⟩ rfl rfl (Nat.le_of_ble_eq_true rfl) d_Pa_becomeAsPair_22 [.long r5] rfl ?_
      refine g_lstore_n (pc := 25) (lv' := [(1, .long r5), (0, .ref (ad a0)), (3, .int x3)]) C d_Pa_becomeAsPair_25 rfl (by decide) rfl ?_
      refine g_iinc (pc := 26) (q := 2) (lv' := [(3, .int (x3 + 1)), (1, .long r5), (0, .ref (ad a0))]) C d_Pa_becomeAsPair_26 rfl rfl (by decide) rfl ?_
      refine g_goto (pc := 29) C 4 d_Pa_becomeAsPair_29 rfl ?_
      refine g_lv [2, 1, 0] rfl ?_
      exact hk4 _ _ _ h
set_option maxRecDepth 20000 in
theorem w_Pa_becomeAsPair_4 {X : HX} {ad : Nat → Nat} {I : HI} {N : HN} {r : HJ} {a0 : Nat} (C : Cx X c_Pa_becomeAsPair RX5 6 none rm_Pa_becomeAsPair) (ha0 : gk Tc nC a0 (0, 5)) : ∀ (n : Nat) (J : HJ) (x1 : Int64) (x3 : Int32), Pa_becomeAsPair_4 N a0 n J x1 x3 = some r → G Tc X ad nC 0 0 I J N (gE X Tc ad nC (I, r, N, fun _ => none)) 4 6 [(0, .ref (ad a0)), (1, .long x1), (3, .int x3)] [] := by
  intro n
  induction n with
  | zero => intro J x1 x3 h; cases h
  | succ n ih => intro J x1 x3 h; exact w_Pa_becomeAsPair_4b C ha0 ih h
set_option maxRecDepth 20000 in
theorem w_Pa_becomeAsPair_0 {X : HX} {ad : Nat → Nat} {I : HI} {J : HJ} {N : HN} {r : HJ} {a0 : Nat} (C : Cx X c_Pa_becomeAsPair RX5 6 none rm_Pa_becomeAsPair) (ha0 : gk Tc nC a0 (0, 5))
    (h : Pa_becomeAsPair_0 N a0 J = some r) : G Tc X ad nC 0 0 I J N (gE X Tc ad nC (I, r, N, fun _ => none)) 0 6 [(0, .ref (ad a0))] [] := by
  refine g_lconst (pc := 0) C (0 : Int64) d_Pa_becomeAsPair_0 (by decide) ?_
  refine g_lstore_n (pc := 1) (lv' := [(1, .long (0 : Int64)), (0, .ref (ad a0))]) C d_Pa_becomeAsPair_1 rfl (by decide) rfl ?_
  refine g_iconst (pc := 2) C (0 : Int32) d_Pa_becomeAsPair_2 (by decide) ?_
  refine g_istore_n (pc := 3) (lv' := [(3, .int (0 : Int32)), (1, .long (0 : Int64)), (0, .ref (ad a0))]) C d_Pa_becomeAsPair_3 rfl (by decide) rfl ?_
  refine g_lv [2, 1, 0] rfl ?_
  exact w_Pa_becomeAsPair_4 C ha0 _ _ _ _ h
set_option maxRecDepth 20000 in
theorem k_Pa_becomeAsPair (l : Launch) {I : HI} {J : HJ} {N : HN} {a0 : Nat} {r : HJ} (ha0 : gk Tc nC a0 (0, 5)) (h : Pa_becomeAsPair N a0 J = some r) : gM l y_Pa_becomeAsPair c_Pa_becomeAsPair 6 none rm_Pa_becomeAsPair Tc nC I J N (fun ad => [.ref (ad a0)]) (I, r, N, fun _ => none) :=
  g_meth (lv := fun ad => [(0, .ref (ad a0))]) (by decide) (fun _ => Nat.le_of_ble_eq_true rfl) (fun _ => rfl) (fun X ad C => g_lv [0] rfl (w_Pa_becomeAsPair_0 C ha0 h))
theorem d_Fo_foldUp_0 : decode c_Fo_foldUp 0 = .ok (.aload_n 1, 1) := by decide +kernel
theorem d_Fo_foldUp_1 : decode c_Fo_foldUp 1 = .ok (.getfield 24, 3) := by decide +kernel
theorem d_Fo_foldUp_4 : decode c_Fo_foldUp 4 = .ok (.iconst 1, 1) := by decide +kernel
theorem d_Fo_foldUp_5 : decode c_Fo_foldUp 5 = .ok (.isub, 1) := by decide +kernel
theorem d_Fo_foldUp_6 : decode c_Fo_foldUp 6 = .ok (.istore_n 2, 1) := by decide +kernel
theorem d_Fo_foldUp_7 : decode c_Fo_foldUp 7 = .ok (.aload_n 1, 1) := by decide +kernel
theorem d_Fo_foldUp_8 : decode c_Fo_foldUp 8 = .ok (.iload_n 2, 1) := by decide +kernel
theorem d_Fo_foldUp_9 : decode c_Fo_foldUp 9 = .ok (.iconst 0, 1) := by decide +kernel
theorem d_Fo_foldUp_10 : decode c_Fo_foldUp 10 = .ok (.invokevirtual 30, 3) := by decide +kernel
theorem d_Fo_foldUp_13 : decode c_Fo_foldUp 13 = .ok (.istore_n 3, 1) := by decide +kernel
theorem d_Fo_foldUp_14 : decode c_Fo_foldUp 14 = .ok (.aload_n 0, 1) := by decide +kernel
theorem d_Fo_foldUp_15 : decode c_Fo_foldUp 15 = .ok (.getfield 12, 3) := by decide +kernel
theorem d_Fo_foldUp_18 : decode c_Fo_foldUp 18 = .ok (.getfield 34, 3) := by decide +kernel
theorem d_Fo_foldUp_21 : decode c_Fo_foldUp 21 = .ok (.invokevirtual 38, 3) := by decide +kernel
theorem d_Fo_foldUp_24 : decode c_Fo_foldUp 24 = .ok (.aload_n 0, 1) := by decide +kernel
theorem d_Fo_foldUp_25 : decode c_Fo_foldUp 25 = .ok (.getfield 12, 3) := by decide +kernel
theorem d_Fo_foldUp_28 : decode c_Fo_foldUp 28 = .ok (.getfield 43, 3) := by decide +kernel
theorem d_Fo_foldUp_31 : decode c_Fo_foldUp 31 = .ok (.invokevirtual 38, 3) := by decide +kernel
theorem d_Fo_foldUp_34 : decode c_Fo_foldUp 34 = .ok (.aload_n 0, 1) := by decide +kernel
theorem d_Fo_foldUp_35 : decode c_Fo_foldUp 35 = .ok (.getfield 12, 3) := by decide +kernel
theorem d_Fo_foldUp_38 : decode c_Fo_foldUp 38 = .ok (.iload_n 3, 1) := by decide +kernel
theorem d_Fo_foldUp_39 : decode c_Fo_foldUp 39 = .ok (.ifCond .ne 7, 3) := by decide +kernel
theorem d_Fo_foldUp_42 : decode c_Fo_foldUp 42 = .ok (.iconst 1, 1) := by decide +kernel
theorem d_Fo_foldUp_43 : decode c_Fo_foldUp 43 = .ok (.goto 4, 3) := by decide +kernel
theorem d_Fo_foldUp_46 : decode c_Fo_foldUp 46 = .ok (.iconst 0, 1) := by decide +kernel
theorem d_Fo_foldUp_47 : decode c_Fo_foldUp 47 = .ok (.invokevirtual 46, 3) := by decide +kernel
theorem d_Fo_foldUp_50 : decode c_Fo_foldUp 50 = .ok (.iconst 0, 1) := by decide +kernel
theorem d_Fo_foldUp_51 : decode c_Fo_foldUp 51 = .ok (.lconst 1, 1) := by decide +kernel
theorem d_Fo_foldUp_52 : decode c_Fo_foldUp 52 = .ok (.invokevirtual 50, 3) := by decide +kernel
theorem d_Fo_foldUp_55 : decode c_Fo_foldUp 55 = .ok (.iload_n 2, 1) := by decide +kernel
theorem d_Fo_foldUp_56 : decode c_Fo_foldUp 56 = .ok (.istore 4, 2) := by decide +kernel
theorem d_Fo_foldUp_58 : decode c_Fo_foldUp 58 = .ok (.iload 4, 2) := by decide +kernel
theorem d_Fo_foldUp_60 : decode c_Fo_foldUp 60 = .ok (.ifCond .lt 69, 3) := by decide +kernel
theorem d_Fo_foldUp_63 : decode c_Fo_foldUp 63 = .ok (.aload_n 0, 1) := by decide +kernel
theorem d_Fo_foldUp_64 : decode c_Fo_foldUp 64 = .ok (.aload_n 1, 1) := by decide +kernel
theorem d_Fo_foldUp_65 : decode c_Fo_foldUp 65 = .ok (.iload 4, 2) := by decide +kernel
theorem d_Fo_foldUp_67 : decode c_Fo_foldUp 67 = .ok (.invokevirtual 54, 3) := by decide +kernel
theorem d_Fo_foldUp_70 : decode c_Fo_foldUp 70 = .ok (.aload_n 1, 1) := by decide +kernel
theorem d_Fo_foldUp_71 : decode c_Fo_foldUp 71 = .ok (.iload 4, 2) := by decide +kernel
theorem d_Fo_foldUp_73 : decode c_Fo_foldUp 73 = .ok (.iconst 0, 1) := by decide +kernel
theorem d_Fo_foldUp_74 : decode c_Fo_foldUp 74 = .ok (.invokevirtual 30, 3) := by decide +kernel
theorem d_Fo_foldUp_77 : decode c_Fo_foldUp 77 = .ok (.iconst 1, 1) := by decide +kernel
theorem d_Fo_foldUp_78 : decode c_Fo_foldUp 78 = .ok (.if_icmp .ne 7, 3) := by decide +kernel
theorem d_Fo_foldUp_81 : decode c_Fo_foldUp 81 = .ok (.iconst 1, 1) := by decide +kernel
theorem d_Fo_foldUp_82 : decode c_Fo_foldUp 82 = .ok (.goto 4, 3) := by decide +kernel
theorem d_Fo_foldUp_85 : decode c_Fo_foldUp 85 = .ok (.iconst 0, 1) := by decide +kernel
theorem d_Fo_foldUp_86 : decode c_Fo_foldUp 86 = .ok (.istore 5, 2) := by decide +kernel
theorem d_Fo_foldUp_88 : decode c_Fo_foldUp 88 = .ok (.iload 5, 2) := by decide +kernel
theorem d_Fo_foldUp_90 : decode c_Fo_foldUp 90 = .ok (.ifCond .eq 10, 3) := by decide +kernel
theorem d_Fo_foldUp_93 : decode c_Fo_foldUp 93 = .ok (.aload_n 0, 1) := by decide +kernel
theorem d_Fo_foldUp_94 : decode c_Fo_foldUp 94 = .ok (.getfield 12, 3) := by decide +kernel
theorem d_Fo_foldUp_97 : decode c_Fo_foldUp 97 = .ok (.invokevirtual 58, 3) := by decide +kernel
theorem d_Fo_foldUp_100 : decode c_Fo_foldUp 100 = .ok (.aload_n 0, 1) := by decide +kernel
theorem d_Fo_foldUp_101 : decode c_Fo_foldUp 101 = .ok (.invokevirtual 61, 3) := by decide +kernel
theorem d_Fo_foldUp_104 : decode c_Fo_foldUp 104 = .ok (.iload 5, 2) := by decide +kernel
theorem d_Fo_foldUp_106 : decode c_Fo_foldUp 106 = .ok (.ifCond .eq 10, 3) := by decide +kernel
theorem d_Fo_foldUp_109 : decode c_Fo_foldUp 109 = .ok (.aload_n 0, 1) := by decide +kernel
theorem d_Fo_foldUp_110 : decode c_Fo_foldUp 110 = .ok (.getfield 12, 3) := by decide +kernel
theorem d_Fo_foldUp_113 : decode c_Fo_foldUp 113 = .ok (.invokevirtual 58, 3) := by decide +kernel
theorem d_Fo_foldUp_116 : decode c_Fo_foldUp 116 = .ok (.aload_n 0, 1) := by decide +kernel
theorem d_Fo_foldUp_117 : decode c_Fo_foldUp 117 = .ok (.getfield 12, 3) := by decide +kernel
theorem d_Fo_foldUp_120 : decode c_Fo_foldUp 120 = .ok (.invokevirtual 64, 3) := by decide +kernel
theorem d_Fo_foldUp_123 : decode c_Fo_foldUp 123 = .ok (.iinc 4 (-1), 3) := by decide +kernel
theorem d_Fo_foldUp_126 : decode c_Fo_foldUp 126 = .ok (.goto (-68), 3) := by decide +kernel
theorem d_Fo_foldUp_129 : decode c_Fo_foldUp 129 = .ok (.return_, 1) := by decide +kernel
set_option maxRecDepth 20000 in
theorem w_Fo_foldUp_116 {X : HX} {ad : Nat → Nat} {I : HI} {J : HJ} {N : HN} {r : HJ × HN} {k58 : HJ → HN → Int32 → Option (HJ × HN)} {a0 : Nat} {a1 : Nat} {x4 : Int32} (C : Cx X c_Fo_foldUp RX1 6 none rm_Fo_foldUp) (ha0 : gk Tc nC a0 (0, 1)) (ha1 : gk Tc nC a1 (0, 3))
    (hk58 : ∀ (J : HJ) (N : HN) (x4 : Int32), k58 J N x4 = some r → G Tc X ad nC 0 0 I J N (gE X Tc ad nC (I, r.1, r.2, fun _ => none)) 58 6 [(0, .ref (ad a0)), (1, .ref (ad a1)), (4, .int x4)] [])
    (h : Fo_foldUp_116 I a0 a1 k58 J N x4 = some r) : G Tc X ad nC 0 0 I J N (gE X Tc ad nC (I, r.1, r.2, fun _ => none)) 116 6 [(0, .ref (ad a0)), (1, .ref (ad a1)), (4, .int x4)] [] := by
  refine g_aload_n (pc := 116) C d_Fo_foldUp_116 rfl 0 rfl ?_
  obtain ⟨b1, hnb1, hb1, h⟩ := o_rq h
  refine g_get (pc := 117) (k := 0) (v := va_rf ((N a0 0).map ad)) C gcX1 inX1 (by decide) fl_Fo_12 ha0 rfl d_Fo_foldUp_117 ?_
  refine g_top (g_rf hnb1) ?_
  obtain ⟨J2, hc3, h⟩ := o_bn1 h
  refine g_V (pc := 120) (rest := []) C (k_Pa_becomeAsPair (xl X) hb1 hc3) sm_Pa_becomeAsPair ml_Fo_64 im_Pa_becomeAsPair se_Pa_becomeAsPair gcX5 rfl hb1 ⟨rfl, rfl, Nat.le_of_ble_eq_true rfl, Nat.le_of_ble_eq_true rfl⟩ ⟨Nat.zero_le _, Nat.zero_le _⟩ rfl rfl (Nat.le_of_ble_eq_true rfl) d_Fo_foldUp_120 [] rfl ?_
  refine g_iinc (pc := 123) (q := 2) (lv' := [(4, .int (x4 + (-1))), (0, .ref (ad a0)), (1, .ref (ad a1))]) C d_Fo_foldUp_123 rfl rfl (by decide) rfl ?_
  refine g_goto (pc := 126) C 58 d_Fo_foldUp_126 rfl ?_
  refine g_lv [1, 2, 0] rfl ?_
  exact hk58 _ _ _ h
set_option maxRecDepth 20000 in
theorem w_Fo_foldUp_100 {X : HX} {ad : Nat → Nat} {I : HI} {J : HJ} {N : HN} {r : HJ × HN} {k58 : HJ → HN → Int32 → Option (HJ × HN)} {a0 : Nat} {a1 : Nat} {x4 : Int32} {x5 : Int32} (C : Cx X c_Fo_foldUp RX1 6 none rm_Fo_foldUp) (ha0 : gk Tc nC a0 (0, 1)) (ha1 : gk Tc nC a1 (0, 3))
    (hk58 : ∀ (J : HJ) (N : HN) (x4 : Int32), k58 J N x4 = some r → G Tc X ad nC 0 0 I J N (gE X Tc ad nC (I, r.1, r.2, fun _ => none)) 58 6 [(0, .ref (ad a0)), (1, .ref (ad a1)), (4, .int x4)] [])
    (h : Fo_foldUp_100 I a0 a1 k58 J N x4 x5 = some r) : G Tc X ad nC 0 0 I J N (gE X Tc ad nC (I, r.1, r.2, fun _ => none)) 100 6 [(0, .ref (ad a0)), (1, .ref (ad a1)), (4, .int x4), (5, .int x5)] [] := by
  refine g_aload_n (pc := 100) C d_Fo_foldUp_100 rfl 0 rfl ?_
  obtain ⟨J1, hc2, h⟩ := o_bn1 h
  refine g_V (pc := 101) (rest := []) C (k_Fo_addArm (xl X) ha0 hc2) sm_Fo_addArm ml_Fo_61 im_Fo_addArm se_Fo_addArm gcX1 rfl ha0 ⟨rfl, rfl, Nat.le_of_ble_eq_true rfl, Nat.le_of_ble_eq_true rfl⟩ ⟨Nat.zero_le _, Nat.zero_le _⟩ rfl rfl (Nat.le_of_ble_eq_true rfl) d_Fo_foldUp_101 [] rfl ?_
  refine g_iload (pc := 104) C d_Fo_foldUp_104 3 rfl ?_
  refine g_if_eq (pc := 106) C 116 d_Fo_foldUp_106 rfl (fun e3 => ?_) (fun e3 => ?_)
  · have h := o_pos e3 h
    refine g_lv [0, 1, 2] rfl ?_
    exact w_Fo_foldUp_116 C ha0 ha1 hk58 h
  · have h := o_neg e3 h
    refine g_aload_n (pc := 109) C d_Fo_foldUp_109 rfl 0 rfl ?_
    obtain ⟨b4, hnb4, hb4, h⟩ := o_rq h
    refine g_get (pc := 110) (k := 0) (v := va_rf ((N a0 0).map ad)) C gcX1 inX1 (by decide) fl_Fo_12 ha0 rfl d_Fo_foldUp_110 ?_
    refine g_top (g_rf hnb4) ?_
    obtain ⟨N5, hc6, h⟩ := o_bn1 h
    refine g_V (pc := 113) (rest := []) C (k_Pa_swap (xl X) hb4 hc6) sm_Pa_swap ml_Fo_58 im_Pa_swap se_Pa_swap gcX5 rfl hb4 ⟨rfl, rfl, Nat.le_of_ble_eq_true rfl, Nat.le_of_ble_eq_true rfl⟩ ⟨Nat.zero_le _, Nat.zero_le _⟩ rfl rfl (Nat.le_of_ble_eq_true rfl) d_Fo_foldUp_113 [] rfl ?_
    refine g_lv [0, 1, 2] rfl ?_
    exact w_Fo_foldUp_116 C ha0 ha1 hk58 h
set_option maxRecDepth 20000 in
theorem w_Fo_foldUp_86 {X : HX} {ad : Nat → Nat} {I : HI} {J : HJ} {N : HN} {r : HJ × HN} {k58 : HJ → HN → Int32 → Option (HJ × HN)} {a0 : Nat} {a1 : Nat} {x4 : Int32} {s0 : Int32} (C : Cx X c_Fo_foldUp RX1 6 none rm_Fo_foldUp) (ha0 : gk Tc nC a0 (0, 1)) (ha1 : gk Tc nC a1 (0, 3))
    (hk58 : ∀ (J : HJ) (N : HN) (x4 : Int32), k58 J N x4 = some r → G Tc X ad nC 0 0 I J N (gE X Tc ad nC (I, r.1, r.2, fun _ => none)) 58 6 [(0, .ref (ad a0)), (1, .ref (ad a1)), (4, .int x4)] [])
    (h : Fo_foldUp_86 I a0 a1 k58 J N x4 s0 = some r) : G Tc X ad nC 0 0 I J N (gE X Tc ad nC (I, r.1, r.2, fun _ => none)) 86 6 [(0, .ref (ad a0)), (1, .ref (ad a1)), (4, .int x4)] [.int s0] := by
  refine g_istore (pc := 86) (lv' := [(5, .int s0), (0, .ref (ad a0)), (1, .ref (ad a1)), (4, .int x4)]) C d_Fo_foldUp_86 (by decide) rfl ?_
  refine g_iload (pc := 88) C d_Fo_foldUp_88 0 rfl ?_
  refine g_if_eq (pc := 90) C 100 d_Fo_foldUp_90 rfl (fun e1 => ?_) (fun e1 => ?_)
  · have h := o_pos e1 h
    refine g_lv [1, 2, 3, 0] rfl ?_
    exact w_Fo_foldUp_100 C ha0 ha1 hk58 h
  · have h := o_neg e1 h
    refine g_aload_n (pc := 93) C d_Fo_foldUp_93 rfl 1 rfl ?_
    obtain ⟨b2, hnb2, hb2, h⟩ := o_rq h
    refine g_get (pc := 94) (k := 0) (v := va_rf ((N a0 0).map ad)) C gcX1 inX1 (by decide) fl_Fo_12 ha0 rfl d_Fo_foldUp_94 ?_
    refine g_top (g_rf hnb2) ?_
    obtain ⟨N3, hc4, h⟩ := o_bn1 h
    refine g_V (pc := 97) (rest := []) C (k_Pa_swap (xl X) hb2 hc4) sm_Pa_swap ml_Fo_58 im_Pa_swap se_Pa_swap gcX5 rfl hb2 ⟨rfl, rfl, Nat.le_of_ble_eq_true rfl, Nat.le_of_ble_eq_true rfl⟩ ⟨Nat.zero_le _, Nat.zero_le _⟩ rfl rfl (Nat.le_of_ble_eq_true rfl) d_Fo_foldUp_97 [] rfl ?_
    refine g_lv [1, 2, 3, 0] rfl ?_
    exact w_Fo_foldUp_100 C ha0 ha1 hk58 h
set_option maxRecDepth 20000 in
theorem w_Fo_foldUp_58b {X : HX} {ad : Nat → Nat} {I : HI} {J : HJ} {N : HN} {r : HJ × HN} {k58 : HJ → HN → Int32 → Option (HJ × HN)} {a0 : Nat} {a1 : Nat} {x4 : Int32} (C : Cx X c_Fo_foldUp RX1 6 none rm_Fo_foldUp) (ha0 : gk Tc nC a0 (0, 1)) (ha1 : gk Tc nC a1 (0, 3))
    (hk58 : ∀ (J : HJ) (N : HN) (x4 : Int32), k58 J N x4 = some r → G Tc X ad nC 0 0 I J N (gE X Tc ad nC (I, r.1, r.2, fun _ => none)) 58 6 [(0, .ref (ad a0)), (1, .ref (ad a1)), (4, .int x4)] [])
    (h : Fo_foldUp_58b I a0 a1 k58 J N x4 = some r) : G Tc X ad nC 0 0 I J N (gE X Tc ad nC (I, r.1, r.2, fun _ => none)) 58 6 [(0, .ref (ad a0)), (1, .ref (ad a1)), (4, .int x4)] [] := by
  refine g_iload (pc := 58) C d_Fo_foldUp_58 2 rfl ?_
  refine g_if_lt (pc := 60) C 129 d_Fo_foldUp_60 rfl (fun e1 => ?_) (fun e1 => ?_)
  · have h := o_pos e1 h
    obtain rfl := o_ret h
    exact g_vret (pc := 129) C d_Fo_foldUp_129
  · have h := o_neg e1 h
    refine g_aload_n (pc := 63) C d_Fo_foldUp_63 rfl 0 rfl ?_
    refine g_aload_n (pc := 64) C d_Fo_foldUp_64 rfl 1 rfl ?_
    refine g_iload (pc := 65) C d_Fo_foldUp_65 2 rfl ?_
    obtain ⟨J2, hc3, h⟩ := o_bn1 h
    refine g_V (pc := 67) (rest := []) C (k_Fo_loadArm (xl X) ha0 ha1 hc3) sm_Fo_loadArm ml_Fo_54 im_Fo_loadArm se_Fo_loadArm gcX1 rfl ha0 ⟨rfl, rfl, Nat.le_of_ble_eq_true rfl, Nat.le_of_ble_eq_true rfl⟩ ⟨Nat.zero_le _, Nat.zero_le _⟩ rfl rfl (Nat.le_of_ble_eq_true rfl) d_Fo_foldUp_67 [] rfl ?_
    refine g_aload_n (pc := 70) C d_Fo_foldUp_70 rfl 1 rfl ?_
    refine g_iload (pc := 71) C d_Fo_foldUp_71 2 rfl ?_
    refine g_iconst (pc := 73) C (0 : Int32) d_Fo_foldUp_73 (by decide) ?_
    obtain ⟨r4, hc5, h⟩ := o_bn1 h
    refine g_V (pc := 74) (rest := []) C (k_La_item (xl X) ha1 hc5) sm_La_item ml_Fo_30 im_La_item se_La_item gcX3 rfl ha1 ⟨rfl, rfl, Nat.le_of_ble_eq_true rfl, Nat.le_of_ble_eq_true rfl⟩ ⟨Nat.zero_le _, Nat.zero_le _⟩ rfl rfl (Nat.le_of_ble_eq_true rfl) d_Fo_foldUp_74 [.int r4] rfl ?_
    refine g_iconst (pc := 77) C (1 : Int32) d_Fo_foldUp_77 (by decide) ?_
    refine g_icmp_ne (pc := 78) C 85 d_Fo_foldUp_78 rfl (fun e6 => ?_) (fun e6 => ?_)
    · have h := o_neg e6 h
      refine g_iconst (pc := 85) C (0 : Int32) d_Fo_foldUp_85 (by decide) ?_
      refine g_lv [0, 1, 2] rfl ?_
      exact w_Fo_foldUp_86 C ha0 ha1 hk58 h
    · have h := o_pos e6 h
      refine g_iconst (pc := 81) C (1 : Int32) d_Fo_foldUp_81 (by decide) ?_
      refine g_goto (pc := 82) C 86 d_Fo_foldUp_82 rfl ?_
      refine g_lv [0, 1, 2] rfl ?_
      exact w_Fo_foldUp_86 C ha0 ha1 hk58 h
set_option maxRecDepth 20000 in
theorem w_Fo_foldUp_58 {X : HX} {ad : Nat → Nat} {I : HI} {r : HJ × HN} {a0 : Nat} {a1 : Nat} (C : Cx X c_Fo_foldUp RX1 6 none rm_Fo_foldUp) (ha0 : gk Tc nC a0 (0, 1)) (ha1 : gk Tc nC a1 (0, 3)) : ∀ (n : Nat) (J : HJ) (N : HN) (x4 : Int32), Fo_foldUp_58 I a0 a1 n J N x4 = some r → G Tc X ad nC 0 0 I J N (gE X Tc ad nC (I, r.1, r.2, fun _ => none)) 58 6 [(0, .ref (ad a0)), (1, .ref (ad a1)), (4, .int x4)] [] := by
  intro n
  induction n with
  | zero => intro J N x4 h; cases h
  | succ n ih => intro J N x4 h; exact w_Fo_foldUp_58b C ha0 ha1 ih h
set_option maxRecDepth 20000 in
theorem w_Fo_foldUp_47 {X : HX} {ad : Nat → Nat} {I : HI} {J : HJ} {N : HN} {r : HJ × HN} {a0 : Nat} {a1 : Nat} {x2 : Int32} {bs0 : Nat} {s1 : Int32} (C : Cx X c_Fo_foldUp RX1 6 none rm_Fo_foldUp) (ha0 : gk Tc nC a0 (0, 1)) (ha1 : gk Tc nC a1 (0, 3)) (hbs0 : gk Tc nC bs0 (0, 5))
    (h : Fo_foldUp_47 I a0 a1 J N x2 bs0 s1 = some r) : G Tc X ad nC 0 0 I J N (gE X Tc ad nC (I, r.1, r.2, fun _ => none)) 47 6 [(0, .ref (ad a0)), (1, .ref (ad a1)), (2, .int x2)] [.int s1, .ref (ad bs0)] := by
  obtain ⟨b1, hc2, h⟩ := o_bn1 h
  refine g_V (pc := 47) (rest := []) C (k_Pa_side (xl X) hbs0 hc2) sm_Pa_side ml_Fo_46 im_Pa_side se_Pa_side gcX5 rfl hbs0 ⟨rfl, rfl, Nat.le_of_ble_eq_true rfl, Nat.le_of_ble_eq_true rfl⟩ ⟨Nat.zero_le _, Nat.zero_le _⟩ rfl rfl (Nat.le_of_ble_eq_true rfl) d_Fo_foldUp_47 [.ref (ad b1)] rfl ?_
  obtain ⟨hb1, h⟩ := o_gd h
  have hb1 : gk Tc nC b1 (0, 6) := of_decide_eq_true (p := b1 < nC ∧ Tc b1 = (0, 6)) hb1
  refine g_iconst (pc := 50) C (0 : Int32) d_Fo_foldUp_50 (by decide) ?_
  refine g_lconst (pc := 51) C (1 : Int64) d_Fo_foldUp_51 (by decide) ?_
  obtain ⟨J3, hc4, h⟩ := o_bn1 h
  refine g_V (pc := 52) (rest := []) C (k_Po_put (xl X) hb1 hc4) sm_Po_put ml_Fo_50 im_Po_put se_Po_put gcX6 rfl hb1 ⟨rfl, rfl, Nat.le_of_ble_eq_true rfl, Nat.le_of_ble_eq_true rfl⟩ ⟨Nat.zero_le _, Nat.zero_le _⟩ rfl rfl (Nat.le_of_ble_eq_true rfl) d_Fo_foldUp_52 [] rfl ?_
  refine g_iload_n (pc := 55) C d_Fo_foldUp_55 rfl 2 rfl ?_
  refine g_istore (pc := 56) (lv' := [(4, .int x2), (0, .ref (ad a0)), (1, .ref (ad a1)), (2, .int x2)]) C d_Fo_foldUp_56 (by decide) rfl ?_
  refine g_lv [1, 2, 0] rfl ?_
  exact w_Fo_foldUp_58 C ha0 ha1 _ _ _ _ h
set_option maxRecDepth 20000 in
theorem w_Fo_foldUp_0 {X : HX} {ad : Nat → Nat} {I : HI} {J : HJ} {N : HN} {r : HJ × HN} {a0 : Nat} {a1 : Nat} (C : Cx X c_Fo_foldUp RX1 6 none rm_Fo_foldUp) (ha0 : gk Tc nC a0 (0, 1)) (ha1 : gk Tc nC a1 (0, 3))
    (h : Fo_foldUp_0 I a0 a1 J N = some r) : G Tc X ad nC 0 0 I J N (gE X Tc ad nC (I, r.1, r.2, fun _ => none)) 0 6 [(0, .ref (ad a0)), (1, .ref (ad a1))] [] := by
  refine g_aload_n (pc := 0) C d_Fo_foldUp_0 rfl 1 rfl ?_
  refine g_getN (pc := 1) (k := 1) (v := .int (I a1 1)) C gcX3 inX3 (by decide) fl_Fo_24 ha1 rfl d_Fo_foldUp_1 ?_
  refine g_iconst (pc := 4) C (1 : Int32) d_Fo_foldUp_4 (by decide) ?_
  refine g_isub (pc := 5) C d_Fo_foldUp_5 ?_
  obtain ⟨v1, ev1, h⟩ := o_bd h
  refine g_topi ev1 ?_
  refine g_istore_n (pc := 6) (lv' := [(2, .int v1), (0, .ref (ad a0)), (1, .ref (ad a1))]) C d_Fo_foldUp_6 rfl (by decide) rfl ?_
  refine g_aload_n (pc := 7) C d_Fo_foldUp_7 rfl 2 rfl ?_
  refine g_iload_n (pc := 8) C d_Fo_foldUp_8 rfl 0 rfl ?_
  refine g_iconst (pc := 9) C (0 : Int32) d_Fo_foldUp_9 (by decide) ?_
  obtain ⟨r2, hc3, h⟩ := o_bn1 h
  refine g_V (pc := 10) (rest := []) C (k_La_item (xl X) ha1 hc3) sm_La_item ml_Fo_30 im_La_item se_La_item gcX3 rfl ha1 ⟨rfl, rfl, Nat.le_of_ble_eq_true rfl, Nat.le_of_ble_eq_true rfl⟩ ⟨Nat.zero_le _, Nat.zero_le _⟩ rfl rfl (Nat.le_of_ble_eq_true rfl) d_Fo_foldUp_10 [.int r2] rfl ?_
  refine g_istore_n (pc := 13) (lv' := [(3, .int r2), (2, .int v1), (0, .ref (ad a0)), (1, .ref (ad a1))]) C d_Fo_foldUp_13 rfl (by decide) rfl ?_
  refine g_aload_n (pc := 14) C d_Fo_foldUp_14 rfl 2 rfl ?_
  obtain ⟨b4, hnb4, hb4, h⟩ := o_rq h
  refine g_get (pc := 15) (k := 0) (v := va_rf ((N a0 0).map ad)) C gcX1 inX1 (by decide) fl_Fo_12 ha0 rfl d_Fo_foldUp_15 ?_
  refine g_top (g_rf hnb4) ?_
  obtain ⟨b5, hnb5, hb5, h⟩ := o_rq h
  refine g_getN (pc := 18) (k := 0) (v := va_rf ((N b4 0).map ad)) C gcX5 inX5 (by decide) fl_Fo_34 hb4 rfl d_Fo_foldUp_18 ?_
  refine g_top (g_rf hnb5) ?_
  obtain ⟨J6, hc7, h⟩ := o_bn1 h
  refine g_V (pc := 21) (rest := []) C (k_Po_clear (xl X) hb5 hc7) sm_Po_clear ml_Fo_38 im_Po_clear se_Po_clear gcX6 rfl hb5 ⟨rfl, rfl, Nat.le_of_ble_eq_true rfl, Nat.le_of_ble_eq_true rfl⟩ ⟨Nat.zero_le _, Nat.zero_le _⟩ rfl rfl (Nat.le_of_ble_eq_true rfl) d_Fo_foldUp_21 [] rfl ?_
  refine g_aload_n (pc := 24) C d_Fo_foldUp_24 rfl 2 rfl ?_
  obtain ⟨b8, hnb8, hb8, h⟩ := o_rq h
  refine g_get (pc := 25) (k := 0) (v := va_rf ((N a0 0).map ad)) C gcX1 inX1 (by decide) fl_Fo_12 ha0 rfl d_Fo_foldUp_25 ?_
  refine g_top (g_rf hnb8) ?_
  obtain ⟨b9, hnb9, hb9, h⟩ := o_rq h
  refine g_getN (pc := 28) (k := 1) (v := va_rf ((N b8 1).map ad)) C gcX5 inX5 (by decide) fl_Fo_43 hb8 rfl d_Fo_foldUp_28 ?_
  refine g_top (g_rf hnb9) ?_
  obtain ⟨J10, hc11, h⟩ := o_bn1 h
  refine g_V (pc := 31) (rest := []) C (k_Po_clear (xl X) hb9 hc11) sm_Po_clear ml_Fo_38 im_Po_clear se_Po_clear gcX6 rfl hb9 ⟨rfl, rfl, Nat.le_of_ble_eq_true rfl, Nat.le_of_ble_eq_true rfl⟩ ⟨Nat.zero_le _, Nat.zero_le _⟩ rfl rfl (Nat.le_of_ble_eq_true rfl) d_Fo_foldUp_31 [] rfl ?_
  refine g_aload_n (pc := 34) C d_Fo_foldUp_34 rfl 2 rfl ?_
  obtain ⟨b12, hnb12, hb12, h⟩ := o_rq h
  refine g_get (pc := 35) (k := 0) (v := va_rf ((N a0 0).map ad)) C gcX1 inX1 (by decide) fl_Fo_12 ha0 rfl d_Fo_foldUp_35 ?_
  refine g_top (g_rf hnb12) ?_
  refine g_iload_n (pc := 38) C d_Fo_foldUp_38 rfl 0 rfl ?_
  refine g_if_ne (pc := 39) C 46 d_Fo_foldUp_39 rfl (fun e13 => ?_) (fun e13 => ?_)
  · have h := o_neg e13 h
    refine g_iconst (pc := 46) C (0 : Int32) d_Fo_foldUp_46 (by decide) ?_
    refine g_lv [2, 3, 1] rfl ?_
    exact w_Fo_foldUp_47 C ha0 ha1 hb12 h
  · have h := o_pos e13 h
    refine g_iconst (pc := 42) C (1 : Int32) d_Fo_foldUp_42 (by decide) ?_
    refine g_goto (pc := 43) C 47 d_Fo_foldUp_43 rfl ?_
    refine g_lv [2, 3, 1] rfl ?_
    exact w_Fo_foldUp_47 C ha0 ha1 hb12 h
set_option maxRecDepth 20000 in
theorem k_Fo_foldUp (l : Launch) {I : HI} {J : HJ} {N : HN} {a0 : Nat} {a1 : Nat} {r : HJ × HN} (ha0 : gk Tc nC a0 (0, 1)) (ha1 : gk Tc nC a1 (0, 3)) (h : Fo_foldUp I a0 a1 J N = some r) : gM l y_Fo_foldUp c_Fo_foldUp 6 none rm_Fo_foldUp Tc nC I J N (fun ad => [.ref (ad a0), .ref (ad a1)]) (I, r.1, r.2, fun _ => none) :=
  g_meth (lv := fun ad => [(0, .ref (ad a0)), (1, .ref (ad a1))]) (by decide) (fun _ => Nat.le_of_ble_eq_true rfl) (fun _ => rfl) (fun X ad C => g_lv [0, 1] rfl (w_Fo_foldUp_0 C ha0 ha1 h))
theorem d_Fr_put_0 : decode c_Fr_put 0 = .ok (.lload_n 1, 1) := by decide +kernel
theorem d_Fr_put_1 : decode c_Fr_put 1 = .ok (.lload_n 3, 1) := by decide +kernel
theorem d_Fr_put_2 : decode c_Fr_put 2 = .ok (.invokestatic 18, 3) := by decide +kernel
theorem d_Fr_put_5 : decode c_Fr_put 5 = .ok (.lstore 5, 2) := by decide +kernel
theorem d_Fr_put_7 : decode c_Fr_put 7 = .ok (.lload_n 3, 1) := by decide +kernel
theorem d_Fr_put_8 : decode c_Fr_put 8 = .ok (.lconst 0, 1) := by decide +kernel
theorem d_Fr_put_9 : decode c_Fr_put 9 = .ok (.lcmp, 1) := by decide +kernel
theorem d_Fr_put_10 : decode c_Fr_put 10 = .ok (.ifCond .eq 10, 3) := by decide +kernel
theorem d_Fr_put_13 : decode c_Fr_put 13 = .ok (.lload 5, 2) := by decide +kernel
theorem d_Fr_put_15 : decode c_Fr_put 15 = .ok (.lconst 0, 1) := by decide +kernel
theorem d_Fr_put_16 : decode c_Fr_put 16 = .ok (.lcmp, 1) := by decide +kernel
theorem d_Fr_put_17 : decode c_Fr_put 17 = .ok (.ifCond .ne 14, 3) := by decide +kernel
theorem d_Fr_put_20 : decode c_Fr_put 20 = .ok (.aload_n 0, 1) := by decide +kernel
theorem d_Fr_put_21 : decode c_Fr_put 21 = .ok (.lconst 0, 1) := by decide +kernel
theorem d_Fr_put_22 : decode c_Fr_put 22 = .ok (.putfield 9, 3) := by decide +kernel
theorem d_Fr_put_25 : decode c_Fr_put 25 = .ok (.aload_n 0, 1) := by decide +kernel
theorem d_Fr_put_26 : decode c_Fr_put 26 = .ok (.lconst 1, 1) := by decide +kernel
theorem d_Fr_put_27 : decode c_Fr_put 27 = .ok (.putfield 15, 3) := by decide +kernel
theorem d_Fr_put_30 : decode c_Fr_put 30 = .ok (.return_, 1) := by decide +kernel
theorem d_Fr_put_31 : decode c_Fr_put 31 = .ok (.aload_n 0, 1) := by decide +kernel
theorem d_Fr_put_32 : decode c_Fr_put 32 = .ok (.lload_n 3, 1) := by decide +kernel
theorem d_Fr_put_33 : decode c_Fr_put 33 = .ok (.lconst 0, 1) := by decide +kernel
theorem d_Fr_put_34 : decode c_Fr_put 34 = .ok (.lcmp, 1) := by decide +kernel
theorem d_Fr_put_35 : decode c_Fr_put 35 = .ok (.ifCond .ge 11, 3) := by decide +kernel
theorem d_Fr_put_38 : decode c_Fr_put 38 = .ok (.lload_n 1, 1) := by decide +kernel
theorem d_Fr_put_39 : decode c_Fr_put 39 = .ok (.lload 5, 2) := by decide +kernel
theorem d_Fr_put_41 : decode c_Fr_put 41 = .ok (.ldiv, 1) := by decide +kernel
theorem d_Fr_put_42 : decode c_Fr_put 42 = .ok (.lneg, 1) := by decide +kernel
theorem d_Fr_put_43 : decode c_Fr_put 43 = .ok (.goto 7, 3) := by decide +kernel
theorem d_Fr_put_46 : decode c_Fr_put 46 = .ok (.lload_n 1, 1) := by decide +kernel
theorem d_Fr_put_47 : decode c_Fr_put 47 = .ok (.lload 5, 2) := by decide +kernel
theorem d_Fr_put_49 : decode c_Fr_put 49 = .ok (.ldiv, 1) := by decide +kernel
theorem d_Fr_put_50 : decode c_Fr_put 50 = .ok (.putfield 9, 3) := by decide +kernel
theorem d_Fr_put_53 : decode c_Fr_put 53 = .ok (.aload_n 0, 1) := by decide +kernel
theorem d_Fr_put_54 : decode c_Fr_put 54 = .ok (.lload_n 3, 1) := by decide +kernel
theorem d_Fr_put_55 : decode c_Fr_put 55 = .ok (.lload 5, 2) := by decide +kernel
theorem d_Fr_put_57 : decode c_Fr_put 57 = .ok (.ldiv, 1) := by decide +kernel
theorem d_Fr_put_58 : decode c_Fr_put 58 = .ok (.invokestatic 22, 3) := by decide +kernel
theorem d_Fr_put_61 : decode c_Fr_put 61 = .ok (.putfield 15, 3) := by decide +kernel
theorem d_Fr_put_64 : decode c_Fr_put 64 = .ok (.return_, 1) := by decide +kernel
set_option maxRecDepth 20000 in
theorem w_Fr_put_50 {X : HX} {ad : Nat → Nat} {I : HI} {J : HJ} {N : HN} {r : HJ} {a0 : Nat} {p1 : Int64} {p3 : Int64} {x5 : Int64} {bs0 : Nat} {s1 : Int64} (C : Cx X c_Fr_put RX2 7 none rm_Fr_put) (ha0 : gk Tc nC a0 (0, 2)) (hbs0 : gk Tc nC bs0 (0, 2))
    (h : Fr_put_50 a0 p1 p3 J x5 bs0 s1 = some r) : G Tc X ad nC 0 0 I J N (gE X Tc ad nC (I, r, N, fun _ => none)) 50 7 [(0, .ref (ad a0)), (3, .long p3), (5, .long x5)] [.long s1, .ref (ad bs0)] := by
  refine g_put (pc := 50) (I' := I) (J' := up2 J bs0 0 s1) (N' := N) (k := 0) C gcX2 inX2 tyX2_ok nmX2 (by decide) fl_Fr_9 rfl hbs0 (tyX2_ok 0 (by decide)) rfl rfl (Nat.le_of_ble_eq_true rfl) gs_2_0 (fun _ _ => rfl) (fun b hb => up2_of hb) (fun _ _ => rfl) d_Fr_put_50 ?_
  obtain ⟨J1, eJ1, h⟩ := o_bd h
  rw [← eJ1]
  refine g_aload_n (pc := 53) C d_Fr_put_53 rfl 0 rfl ?_
  refine g_lload_n (pc := 54) C d_Fr_put_54 rfl 1 rfl ?_
  refine g_lload (pc := 55) C d_Fr_put_55 2 rfl ?_
  obtain ⟨hz2, h⟩ := o_gd h
  refine g_ldiv (pc := 57) C d_Fr_put_57 (of_decide_eq_true hz2) ?_
  refine g_abs (pc := 58) C ml_Fr_22 jd_abs_s jd_Math_i jd_abs_c ⟨Nat.le_of_ble_eq_true rfl, Nat.le_of_ble_eq_true rfl, Nat.zero_le _, Nat.zero_le _⟩ d_Fr_put_58 ?_
  refine g_put (pc := 61) (I' := I) (J' := up2 J1 a0 1 (if 0 < (p3 / x5) then (p3 / x5) else -(p3 / x5))) (N' := N) (k := 1) C gcX2 inX2 tyX2_ok nmX2 (by decide) fl_Fr_15 rfl ha0 (tyX2_ok 1 (by decide)) rfl rfl (Nat.le_of_ble_eq_true rfl) gs_2_1 (fun _ _ => rfl) (fun b hb => up2_of hb) (fun _ _ => rfl) d_Fr_put_61 ?_
  obtain ⟨J3, eJ3, h⟩ := o_bd h
  rw [← eJ3]
  obtain rfl := o_ret h
  exact g_vret (pc := 64) C d_Fr_put_64
set_option maxRecDepth 20000 in
theorem w_Fr_put_20 {X : HX} {ad : Nat → Nat} {I : HI} {J : HJ} {N : HN} {r : HJ} {a0 : Nat} {p1 : Int64} {p3 : Int64} (C : Cx X c_Fr_put RX2 7 none rm_Fr_put) (ha0 : gk Tc nC a0 (0, 2))
    (h : Fr_put_20 a0 p1 p3 J = some r) : G Tc X ad nC 0 0 I J N (gE X Tc ad nC (I, r, N, fun _ => none)) 20 7 [(0, .ref (ad a0))] [] := by
  refine g_aload_n (pc := 20) C d_Fr_put_20 rfl 0 rfl ?_
  refine g_lconst (pc := 21) C (0 : Int64) d_Fr_put_21 (by decide) ?_
  refine g_put (pc := 22) (I' := I) (J' := up2 J a0 0 (0 : Int64)) (N' := N) (k := 0) C gcX2 inX2 tyX2_ok nmX2 (by decide) fl_Fr_9 rfl ha0 (tyX2_ok 0 (by decide)) rfl rfl (Nat.le_of_ble_eq_true rfl) gs_2_0 (fun _ _ => rfl) (fun b hb => up2_of hb) (fun _ _ => rfl) d_Fr_put_22 ?_
  obtain ⟨J1, eJ1, h⟩ := o_bd h
  rw [← eJ1]
  refine g_aload_n (pc := 25) C d_Fr_put_25 rfl 0 rfl ?_
  refine g_lconst (pc := 26) C (1 : Int64) d_Fr_put_26 (by decide) ?_
  refine g_put (pc := 27) (I' := I) (J' := up2 J1 a0 1 (1 : Int64)) (N' := N) (k := 1) C gcX2 inX2 tyX2_ok nmX2 (by decide) fl_Fr_15 rfl ha0 (tyX2_ok 1 (by decide)) rfl rfl (Nat.le_of_ble_eq_true rfl) gs_2_1 (fun _ _ => rfl) (fun b hb => up2_of hb) (fun _ _ => rfl) d_Fr_put_27 ?_
  obtain ⟨J2, eJ2, h⟩ := o_bd h
  rw [← eJ2]
  obtain rfl := o_ret h
  exact g_vret (pc := 30) C d_Fr_put_30
set_option maxRecDepth 20000 in
theorem w_Fr_put_0 {X : HX} {ad : Nat → Nat} {I : HI} {J : HJ} {N : HN} {r : HJ} {a0 : Nat} {p1 : Int64} {p3 : Int64} (C : Cx X c_Fr_put RX2 7 none rm_Fr_put) (ha0 : gk Tc nC a0 (0, 2))
    (h : Fr_put_0 a0 p1 p3 J = some r) : G Tc X ad nC 0 0 I J N (gE X Tc ad nC (I, r, N, fun _ => none)) 0 7 [(0, .ref (ad a0)), (1, .long p1), (3, .long p3)] [] := by
  refine g_lload_n (pc := 0) C d_Fr_put_0 rfl 1 rfl ?_
  refine g_lload_n (pc := 1) C d_Fr_put_1 rfl 2 rfl ?_
  obtain ⟨r1, hc2, h⟩ := o_bn1 h
  refine g_SN (pc := 2) (rest := []) C (k_Lm_commonDivisor (xl X)  hc2) sm_Lm_commonDivisor ml_Fr_18 st_Lm_commonDivisor ⟨rfl, rfl, Nat.le_of_ble_eq_true rfl, Nat.le_of_ble_eq_true rfl⟩ ⟨Nat.zero_le _, Nat.zero_le _⟩ rfl rfl (Nat.le_of_ble_eq_true rfl) d_Fr_put_2 [.long r1] rfl ?_
  refine g_lstore (pc := 5) (lv' := [(5, .long r1), (0, .ref (ad a0)), (1, .long p1), (3, .long p3)]) C d_Fr_put_5 (by decide) rfl ?_
  refine g_lload_n (pc := 7) C d_Fr_put_7 rfl 3 rfl ?_
  refine g_lconst (pc := 8) C (0 : Int64) d_Fr_put_8 (by decide) ?_
  refine g_lcmp_eq (pc := 9) C 20 d_Fr_put_9 d_Fr_put_10 rfl (fun e3 => ?_) (fun e3 => ?_)
  · have h := o_pos e3 h
    refine g_lv [1] rfl ?_
    exact w_Fr_put_20 C ha0 h
  · have h := o_neg e3 h
    refine g_lload (pc := 13) C d_Fr_put_13 0 rfl ?_
    refine g_lconst (pc := 15) C (0 : Int64) d_Fr_put_15 (by decide) ?_
    refine g_lcmp_ne (pc := 16) C 31 d_Fr_put_16 d_Fr_put_17 rfl (fun e4 => ?_) (fun e4 => ?_)
    · have h := o_neg e4 h
      refine g_aload_n (pc := 31) C d_Fr_put_31 rfl 1 rfl ?_
      refine g_lload_n (pc := 32) C d_Fr_put_32 rfl 3 rfl ?_
      refine g_lconst (pc := 33) C (0 : Int64) d_Fr_put_33 (by decide) ?_
      refine g_lcmp_ge (pc := 34) C 46 d_Fr_put_34 d_Fr_put_35 rfl (fun e5 => ?_) (fun e5 => ?_)
      · have h := o_pos e5 h
        refine g_lload_n (pc := 46) C d_Fr_put_46 rfl 2 rfl ?_
        refine g_lload (pc := 47) C d_Fr_put_47 0 rfl ?_
        obtain ⟨hz6, h⟩ := o_gd h
        refine g_ldiv (pc := 49) C d_Fr_put_49 (of_decide_eq_true hz6) ?_
        refine g_lv [1, 3, 0] rfl ?_
        exact w_Fr_put_50 C ha0 ha0 h
      · have h := o_neg e5 h
        refine g_lload_n (pc := 38) C d_Fr_put_38 rfl 2 rfl ?_
        refine g_lload (pc := 39) C d_Fr_put_39 0 rfl ?_
        obtain ⟨hz7, h⟩ := o_gd h
        refine g_ldiv (pc := 41) C d_Fr_put_41 (of_decide_eq_true hz7) ?_
        refine g_lneg (pc := 42) C d_Fr_put_42 ?_
        refine g_goto (pc := 43) C 50 d_Fr_put_43 rfl ?_
        refine g_lv [1, 3, 0] rfl ?_
        exact w_Fr_put_50 C ha0 ha0 h
    · have h := o_pos e4 h
      refine g_lv [1] rfl ?_
      exact w_Fr_put_20 C ha0 h
set_option maxRecDepth 20000 in
theorem k_Fr_put (l : Launch) {I : HI} {J : HJ} {N : HN} {a0 : Nat} {p1 : Int64} {p3 : Int64} {r : HJ} (ha0 : gk Tc nC a0 (0, 2)) (h : Fr_put a0 p1 p3 J = some r) : gM l y_Fr_put c_Fr_put 7 none rm_Fr_put Tc nC I J N (fun ad => [.ref (ad a0), .long p1, .long p3]) (I, r, N, fun _ => none) :=
  g_meth (lv := fun ad => [(0, .ref (ad a0)), (1, .long p1), (3, .long p3)]) (by decide) (fun _ => Nat.le_of_ble_eq_true rfl) (fun _ => rfl) (fun X ad C => g_lv [0, 1, 2] rfl (w_Fr_put_0 C ha0 h))
theorem d_Fr_isHandy_0 : decode c_Fr_isHandy 0 = .ok (.aload_n 0, 1) := by decide +kernel
theorem d_Fr_isHandy_1 : decode c_Fr_isHandy 1 = .ok (.getfield 9, 3) := by decide +kernel
theorem d_Fr_isHandy_4 : decode c_Fr_isHandy 4 = .ok (.lconst 0, 1) := by decide +kernel
theorem d_Fr_isHandy_5 : decode c_Fr_isHandy 5 = .ok (.lcmp, 1) := by decide +kernel
theorem d_Fr_isHandy_6 : decode c_Fr_isHandy 6 = .ok (.ifCond .le 29, 3) := by decide +kernel
theorem d_Fr_isHandy_9 : decode c_Fr_isHandy 9 = .ok (.aload_n 0, 1) := by decide +kernel
theorem d_Fr_isHandy_10 : decode c_Fr_isHandy 10 = .ok (.getfield 9, 3) := by decide +kernel
theorem d_Fr_isHandy_13 : decode c_Fr_isHandy 13 = .ok (.ldc2_w 28, 3) := by decide +kernel
theorem d_Fr_isHandy_16 : decode c_Fr_isHandy 16 = .ok (.lcmp, 1) := by decide +kernel
theorem d_Fr_isHandy_17 : decode c_Fr_isHandy 17 = .ok (.ifCond .gt 18, 3) := by decide +kernel
theorem d_Fr_isHandy_20 : decode c_Fr_isHandy 20 = .ok (.aload_n 0, 1) := by decide +kernel
theorem d_Fr_isHandy_21 : decode c_Fr_isHandy 21 = .ok (.getfield 15, 3) := by decide +kernel
theorem d_Fr_isHandy_24 : decode c_Fr_isHandy 24 = .ok (.ldc2_w 28, 3) := by decide +kernel
theorem d_Fr_isHandy_27 : decode c_Fr_isHandy 27 = .ok (.lcmp, 1) := by decide +kernel
theorem d_Fr_isHandy_28 : decode c_Fr_isHandy 28 = .ok (.ifCond .gt 7, 3) := by decide +kernel
theorem d_Fr_isHandy_31 : decode c_Fr_isHandy 31 = .ok (.iconst 1, 1) := by decide +kernel
theorem d_Fr_isHandy_32 : decode c_Fr_isHandy 32 = .ok (.goto 4, 3) := by decide +kernel
theorem d_Fr_isHandy_35 : decode c_Fr_isHandy 35 = .ok (.iconst 0, 1) := by decide +kernel
theorem d_Fr_isHandy_36 : decode c_Fr_isHandy 36 = .ok (.ireturn, 1) := by decide +kernel
set_option maxRecDepth 20000 in
theorem w_Fr_isHandy_0 {X : HX} {ad : Nat → Nat} {I : HI} {J : HJ} {N : HN} {r : Int32} {a0 : Nat} (C : Cx X c_Fr_isHandy RX2 1 (some .boolean) rm_Fr_isHandy) (ha0 : gk Tc nC a0 (0, 2))
    (h : Fr_isHandy_0 J a0 = some r) : G Tc X ad nC 0 0 I J N (gE X Tc ad nC (I, J, N, fun _ => some (.int r))) 0 1 [(0, .ref (ad a0))] [] := by
  refine g_aload_n (pc := 0) C d_Fr_isHandy_0 rfl 0 rfl ?_
  refine g_get (pc := 1) (k := 0) (v := .long (J a0 0)) C gcX2 inX2 (by decide) fl_Fr_9 ha0 rfl d_Fr_isHandy_1 ?_
  refine g_lconst (pc := 4) C (0 : Int64) d_Fr_isHandy_4 (by decide) ?_
  refine g_lcmp_le (pc := 5) C 35 d_Fr_isHandy_5 d_Fr_isHandy_6 rfl (fun e1 => ?_) (fun e1 => ?_)
  · have h := o_pos e1 h
    refine g_iconst (pc := 35) C (0 : Int32) d_Fr_isHandy_35 (by decide) ?_
    obtain rfl := o_ret h
    exact g_zret (pc := 36) C zn_0 d_Fr_isHandy_36
  · have h := o_neg e1 h
    refine g_aload_n (pc := 9) C d_Fr_isHandy_9 rfl 0 rfl ?_
    refine g_get (pc := 10) (k := 0) (v := .long (J a0 0)) C gcX2 inX2 (by decide) fl_Fr_9 ha0 rfl d_Fr_isHandy_10 ?_
    refine g_ldc2 (pc := 13) C kc_Fr_28 d_Fr_isHandy_13 ?_
    refine g_lcmp_gt (pc := 16) C 35 d_Fr_isHandy_16 d_Fr_isHandy_17 rfl (fun e2 => ?_) (fun e2 => ?_)
    · have h := o_pos e2 h
      refine g_iconst (pc := 35) C (0 : Int32) d_Fr_isHandy_35 (by decide) ?_
      obtain rfl := o_ret h
      exact g_zret (pc := 36) C zn_0 d_Fr_isHandy_36
    · have h := o_neg e2 h
      refine g_aload_n (pc := 20) C d_Fr_isHandy_20 rfl 0 rfl ?_
      refine g_get (pc := 21) (k := 1) (v := .long (J a0 1)) C gcX2 inX2 (by decide) fl_Fr_15 ha0 rfl d_Fr_isHandy_21 ?_
      refine g_ldc2 (pc := 24) C kc_Fr_28 d_Fr_isHandy_24 ?_
      refine g_lcmp_gt (pc := 27) C 35 d_Fr_isHandy_27 d_Fr_isHandy_28 rfl (fun e3 => ?_) (fun e3 => ?_)
      · have h := o_pos e3 h
        refine g_iconst (pc := 35) C (0 : Int32) d_Fr_isHandy_35 (by decide) ?_
        obtain rfl := o_ret h
        exact g_zret (pc := 36) C zn_0 d_Fr_isHandy_36
      · have h := o_neg e3 h
        refine g_iconst (pc := 31) C (1 : Int32) d_Fr_isHandy_31 (by decide) ?_
        refine g_goto (pc := 32) C 36 d_Fr_isHandy_32 rfl ?_
        obtain rfl := o_ret h
        exact g_zret (pc := 36) C zn_1 d_Fr_isHandy_36
set_option maxRecDepth 20000 in
theorem k_Fr_isHandy (l : Launch) {I : HI} {J : HJ} {N : HN} {a0 : Nat} {r : Int32} (ha0 : gk Tc nC a0 (0, 2)) (h : Fr_isHandy J a0 = some r) : gM l y_Fr_isHandy c_Fr_isHandy 1 (some .boolean) rm_Fr_isHandy Tc nC I J N (fun ad => [.ref (ad a0)]) (I, J, N, fun _ => some (.int r)) :=
  g_meth (lv := fun ad => [(0, .ref (ad a0))]) (by decide) (fun _ => Nat.le_of_ble_eq_true rfl) (fun _ => rfl) (fun X ad C => g_lv [0] rfl (w_Fr_isHandy_0 C ha0 h))
theorem d_La_valueCount_0 : decode c_La_valueCount 0 = .ok (.iconst 0, 1) := by decide +kernel
theorem d_La_valueCount_1 : decode c_La_valueCount 1 = .ok (.istore_n 1, 1) := by decide +kernel
theorem d_La_valueCount_2 : decode c_La_valueCount 2 = .ok (.iconst 0, 1) := by decide +kernel
theorem d_La_valueCount_3 : decode c_La_valueCount 3 = .ok (.istore_n 2, 1) := by decide +kernel
theorem d_La_valueCount_4 : decode c_La_valueCount 4 = .ok (.iload_n 2, 1) := by decide +kernel
theorem d_La_valueCount_5 : decode c_La_valueCount 5 = .ok (.aload_n 0, 1) := by decide +kernel
theorem d_La_valueCount_6 : decode c_La_valueCount 6 = .ok (.getfield 16, 3) := by decide +kernel
theorem d_La_valueCount_9 : decode c_La_valueCount 9 = .ok (.if_icmp .ge 51, 3) := by decide +kernel
theorem d_La_valueCount_12 : decode c_La_valueCount 12 = .ok (.iload_n 2, 1) := by decide +kernel
theorem d_La_valueCount_13 : decode c_La_valueCount 13 = .ok (.bipush 6, 2) := by decide +kernel
theorem d_La_valueCount_15 : decode c_La_valueCount 15 = .ok (.if_icmp .ge 45, 3) := by decide +kernel
theorem d_La_valueCount_18 : decode c_La_valueCount 18 = .ok (.iload_n 1, 1) := by decide +kernel
theorem d_La_valueCount_19 : decode c_La_valueCount 19 = .ok (.aload_n 0, 1) := by decide +kernel
theorem d_La_valueCount_20 : decode c_La_valueCount 20 = .ok (.getfield 11, 3) := by decide +kernel
theorem d_La_valueCount_23 : decode c_La_valueCount 23 = .ok (.iload_n 2, 1) := by decide +kernel
theorem d_La_valueCount_24 : decode c_La_valueCount 24 = .ok (.aaload, 1) := by decide +kernel
theorem d_La_valueCount_25 : decode c_La_valueCount 25 = .ok (.iconst 1, 1) := by decide +kernel
theorem d_La_valueCount_26 : decode c_La_valueCount 26 = .ok (.iaload, 1) := by decide +kernel
theorem d_La_valueCount_27 : decode c_La_valueCount 27 = .ok (.ifCond .eq 7, 3) := by decide +kernel
theorem d_La_valueCount_30 : decode c_La_valueCount 30 = .ok (.iconst 1, 1) := by decide +kernel
theorem d_La_valueCount_31 : decode c_La_valueCount 31 = .ok (.goto 4, 3) := by decide +kernel
theorem d_La_valueCount_34 : decode c_La_valueCount 34 = .ok (.iconst 0, 1) := by decide +kernel
theorem d_La_valueCount_35 : decode c_La_valueCount 35 = .ok (.aload_n 0, 1) := by decide +kernel
theorem d_La_valueCount_36 : decode c_La_valueCount 36 = .ok (.getfield 11, 3) := by decide +kernel
theorem d_La_valueCount_39 : decode c_La_valueCount 39 = .ok (.iload_n 2, 1) := by decide +kernel
theorem d_La_valueCount_40 : decode c_La_valueCount 40 = .ok (.aaload, 1) := by decide +kernel
theorem d_La_valueCount_41 : decode c_La_valueCount 41 = .ok (.iconst 3, 1) := by decide +kernel
theorem d_La_valueCount_42 : decode c_La_valueCount 42 = .ok (.iaload, 1) := by decide +kernel
theorem d_La_valueCount_43 : decode c_La_valueCount 43 = .ok (.ifCond .eq 7, 3) := by decide +kernel
theorem d_La_valueCount_46 : decode c_La_valueCount 46 = .ok (.iconst 1, 1) := by decide +kernel
theorem d_La_valueCount_47 : decode c_La_valueCount 47 = .ok (.goto 4, 3) := by decide +kernel
theorem d_La_valueCount_50 : decode c_La_valueCount 50 = .ok (.iconst 0, 1) := by decide +kernel
theorem d_La_valueCount_51 : decode c_La_valueCount 51 = .ok (.iadd, 1) := by decide +kernel
theorem d_La_valueCount_52 : decode c_La_valueCount 52 = .ok (.iadd, 1) := by decide +kernel
theorem d_La_valueCount_53 : decode c_La_valueCount 53 = .ok (.istore_n 1, 1) := by decide +kernel
theorem d_La_valueCount_54 : decode c_La_valueCount 54 = .ok (.iinc 2 1, 3) := by decide +kernel
theorem d_La_valueCount_57 : decode c_La_valueCount 57 = .ok (.goto (-53), 3) := by decide +kernel
theorem d_La_valueCount_60 : decode c_La_valueCount 60 = .ok (.iload_n 1, 1) := by decide +kernel
theorem d_La_valueCount_61 : decode c_La_valueCount 61 = .ok (.ireturn, 1) := by decide +kernel
set_option maxRecDepth 20000 in
theorem w_La_valueCount_51 {X : HX} {ad : Nat → Nat} {I : HI} {J : HJ} {N : HN} {r : Int32} {k4 : Int32 → Int32 → Option (Int32)} {a0 : Nat} {x2 : Int32} {s0 : Int32} {s1 : Int32} {s2 : Int32} (C : Cx X c_La_valueCount RX3 3 (some .int) rm_La_valueCount) (ha0 : gk Tc nC a0 (0, 3))
    (hk4 : ∀ (x1 : Int32) (x2 : Int32), k4 x1 x2 = some r → G Tc X ad nC 0 0 I J N (gE X Tc ad nC (I, J, N, fun _ => some (.int r))) 4 3 [(0, .ref (ad a0)), (1, .int x1), (2, .int x2)] [])
    (h : La_valueCount_51 I N a0 k4 x2 s0 s1 s2 = some r) : G Tc X ad nC 0 0 I J N (gE X Tc ad nC (I, J, N, fun _ => some (.int r))) 51 3 [(0, .ref (ad a0)), (2, .int x2)] [.int s2, .int s1, .int s0] := by
  refine g_iadd (pc := 51) C d_La_valueCount_51 ?_
  refine g_iadd (pc := 52) C d_La_valueCount_52 ?_
  obtain ⟨v1, ev1, h⟩ := o_bd h
  refine g_topi ev1 ?_
  refine g_istore_n (pc := 53) (lv' := [(1, .int v1), (0, .ref (ad a0)), (2, .int x2)]) C d_La_valueCount_53 rfl (by decide) rfl ?_
  refine g_iinc (pc := 54) (q := 2) (lv' := [(2, .int (x2 + 1)), (1, .int v1), (0, .ref (ad a0))]) C d_La_valueCount_54 rfl rfl (by decide) rfl ?_
  refine g_goto (pc := 57) C 4 d_La_valueCount_57 rfl ?_
  refine g_lv [2, 1, 0] rfl ?_
  exact hk4 _ _ h
set_option maxRecDepth 20000 in
theorem w_La_valueCount_35 {X : HX} {ad : Nat → Nat} {I : HI} {J : HJ} {N : HN} {r : Int32} {k4 : Int32 → Int32 → Option (Int32)} {a0 : Nat} {x2 : Int32} {s0 : Int32} {s1 : Int32} (C : Cx X c_La_valueCount RX3 3 (some .int) rm_La_valueCount) (ha0 : gk Tc nC a0 (0, 3))
    (hk4 : ∀ (x1 : Int32) (x2 : Int32), k4 x1 x2 = some r → G Tc X ad nC 0 0 I J N (gE X Tc ad nC (I, J, N, fun _ => some (.int r))) 4 3 [(0, .ref (ad a0)), (1, .int x1), (2, .int x2)] [])
    (h : La_valueCount_35 I N a0 k4 x2 s0 s1 = some r) : G Tc X ad nC 0 0 I J N (gE X Tc ad nC (I, J, N, fun _ => some (.int r))) 35 3 [(0, .ref (ad a0)), (2, .int x2)] [.int s1, .int s0] := by
  refine g_aload_n (pc := 35) C d_La_valueCount_35 rfl 0 rfl ?_
  obtain ⟨b1, hnb1, hb1, h⟩ := o_ra h
  refine g_get (pc := 36) (k := 0) (v := va_rf ((N a0 0).map ad)) C gcX3 inX3 (by decide) fl_La_11 ha0 rfl d_La_valueCount_36 ?_
  refine g_top (g_rf hnb1) ?_
  refine g_iload_n (pc := 39) C d_La_valueCount_39 rfl 1 rfl ?_
  obtain ⟨hi2, h⟩ := o_gd h
  obtain ⟨b3, hnb3, hb3, h⟩ := o_ra h
  refine g_aald (pc := 40) 3 2 C hb1 (Or.inl ⟨rfl, rfl, rfl⟩) hi2 hnb3 d_La_valueCount_40 ?_
  refine g_iconst (pc := 41) C (3 : Int32) d_La_valueCount_41 (by decide) ?_
  obtain ⟨hi4, h⟩ := o_gd h
  refine g_iald (pc := 42) C hb3 hi4 d_La_valueCount_42 ?_
  refine g_if_eq (pc := 43) C 50 d_La_valueCount_43 rfl (fun e5 => ?_) (fun e5 => ?_)
  · have h := o_pos e5 h
    refine g_iconst (pc := 50) C (0 : Int32) d_La_valueCount_50 (by decide) ?_
    refine g_lv [0, 1] rfl ?_
    exact w_La_valueCount_51 C ha0 hk4 h
  · have h := o_neg e5 h
    refine g_iconst (pc := 46) C (1 : Int32) d_La_valueCount_46 (by decide) ?_
    refine g_goto (pc := 47) C 51 d_La_valueCount_47 rfl ?_
    refine g_lv [0, 1] rfl ?_
    exact w_La_valueCount_51 C ha0 hk4 h
set_option maxRecDepth 20000 in
theorem w_La_valueCount_4b {X : HX} {ad : Nat → Nat} {I : HI} {J : HJ} {N : HN} {r : Int32} {k4 : Int32 → Int32 → Option (Int32)} {a0 : Nat} {x1 : Int32} {x2 : Int32} (C : Cx X c_La_valueCount RX3 3 (some .int) rm_La_valueCount) (ha0 : gk Tc nC a0 (0, 3))
    (hk4 : ∀ (x1 : Int32) (x2 : Int32), k4 x1 x2 = some r → G Tc X ad nC 0 0 I J N (gE X Tc ad nC (I, J, N, fun _ => some (.int r))) 4 3 [(0, .ref (ad a0)), (1, .int x1), (2, .int x2)] [])
    (h : La_valueCount_4b I N a0 k4 x1 x2 = some r) : G Tc X ad nC 0 0 I J N (gE X Tc ad nC (I, J, N, fun _ => some (.int r))) 4 3 [(0, .ref (ad a0)), (1, .int x1), (2, .int x2)] [] := by
  refine g_iload_n (pc := 4) C d_La_valueCount_4 rfl 2 rfl ?_
  refine g_aload_n (pc := 5) C d_La_valueCount_5 rfl 0 rfl ?_
  refine g_get (pc := 6) (k := 1) (v := .int (I a0 1)) C gcX3 inX3 (by decide) fl_La_16 ha0 rfl d_La_valueCount_6 ?_
  refine g_icmp_ge (pc := 9) C 60 d_La_valueCount_9 rfl (fun e1 => ?_) (fun e1 => ?_)
  · have h := o_pos e1 h
    refine g_iload_n (pc := 60) C d_La_valueCount_60 rfl 1 rfl ?_
    obtain rfl := o_ret h
    exact g_iret (pc := 61) C d_La_valueCount_61
  · have h := o_neg e1 h
    refine g_iload_n (pc := 12) C d_La_valueCount_12 rfl 2 rfl ?_
    refine g_bipush (pc := 13) C (6 : Int32) d_La_valueCount_13 (by decide) ?_
    refine g_icmp_ge (pc := 15) C 60 d_La_valueCount_15 rfl (fun e2 => ?_) (fun e2 => ?_)
    · have h := o_pos e2 h
      refine g_iload_n (pc := 60) C d_La_valueCount_60 rfl 1 rfl ?_
      obtain rfl := o_ret h
      exact g_iret (pc := 61) C d_La_valueCount_61
    · have h := o_neg e2 h
      refine g_iload_n (pc := 18) C d_La_valueCount_18 rfl 1 rfl ?_
      refine g_aload_n (pc := 19) C d_La_valueCount_19 rfl 0 rfl ?_
      obtain ⟨b3, hnb3, hb3, h⟩ := o_ra h
      refine g_get (pc := 20) (k := 0) (v := va_rf ((N a0 0).map ad)) C gcX3 inX3 (by decide) fl_La_11 ha0 rfl d_La_valueCount_20 ?_
      refine g_top (g_rf hnb3) ?_
      refine g_iload_n (pc := 23) C d_La_valueCount_23 rfl 2 rfl ?_
      obtain ⟨hi4, h⟩ := o_gd h
      obtain ⟨b5, hnb5, hb5, h⟩ := o_ra h
      refine g_aald (pc := 24) 3 2 C hb3 (Or.inl ⟨rfl, rfl, rfl⟩) hi4 hnb5 d_La_valueCount_24 ?_
      refine g_iconst (pc := 25) C (1 : Int32) d_La_valueCount_25 (by decide) ?_
      obtain ⟨hi6, h⟩ := o_gd h
      refine g_iald (pc := 26) C hb5 hi6 d_La_valueCount_26 ?_
      refine g_if_eq (pc := 27) C 34 d_La_valueCount_27 rfl (fun e7 => ?_) (fun e7 => ?_)
      · have h := o_pos e7 h
        refine g_iconst (pc := 34) C (0 : Int32) d_La_valueCount_34 (by decide) ?_
        refine g_lv [0, 2] rfl ?_
        exact w_La_valueCount_35 C ha0 hk4 h
      · have h := o_neg e7 h
        refine g_iconst (pc := 30) C (1 : Int32) d_La_valueCount_30 (by decide) ?_
        refine g_goto (pc := 31) C 35 d_La_valueCount_31 rfl ?_
        refine g_lv [0, 2] rfl ?_
        exact w_La_valueCount_35 C ha0 hk4 h
set_option maxRecDepth 20000 in
theorem w_La_valueCount_4 {X : HX} {ad : Nat → Nat} {I : HI} {J : HJ} {N : HN} {r : Int32} {a0 : Nat} (C : Cx X c_La_valueCount RX3 3 (some .int) rm_La_valueCount) (ha0 : gk Tc nC a0 (0, 3)) : ∀ (n : Nat) (x1 : Int32) (x2 : Int32), La_valueCount_4 I N a0 n x1 x2 = some r → G Tc X ad nC 0 0 I J N (gE X Tc ad nC (I, J, N, fun _ => some (.int r))) 4 3 [(0, .ref (ad a0)), (1, .int x1), (2, .int x2)] [] := by
  intro n
  induction n with
  | zero => intro x1 x2 h; cases h
  | succ n ih => intro x1 x2 h; exact w_La_valueCount_4b C ha0 ih h
set_option maxRecDepth 20000 in
theorem w_La_valueCount_0 {X : HX} {ad : Nat → Nat} {I : HI} {J : HJ} {N : HN} {r : Int32} {a0 : Nat} (C : Cx X c_La_valueCount RX3 3 (some .int) rm_La_valueCount) (ha0 : gk Tc nC a0 (0, 3))
    (h : La_valueCount_0 I N a0 = some r) : G Tc X ad nC 0 0 I J N (gE X Tc ad nC (I, J, N, fun _ => some (.int r))) 0 3 [(0, .ref (ad a0))] [] := by
  refine g_iconst (pc := 0) C (0 : Int32) d_La_valueCount_0 (by decide) ?_
  refine g_istore_n (pc := 1) (lv' := [(1, .int (0 : Int32)), (0, .ref (ad a0))]) C d_La_valueCount_1 rfl (by decide) rfl ?_
  refine g_iconst (pc := 2) C (0 : Int32) d_La_valueCount_2 (by decide) ?_
  refine g_istore_n (pc := 3) (lv' := [(2, .int (0 : Int32)), (1, .int (0 : Int32)), (0, .ref (ad a0))]) C d_La_valueCount_3 rfl (by decide) rfl ?_
  refine g_lv [2, 1, 0] rfl ?_
  exact w_La_valueCount_4 C ha0 _ _ _ h
set_option maxRecDepth 20000 in
theorem k_La_valueCount (l : Launch) {I : HI} {J : HJ} {N : HN} {a0 : Nat} {r : Int32} (ha0 : gk Tc nC a0 (0, 3)) (h : La_valueCount I N a0 = some r) : gM l y_La_valueCount c_La_valueCount 3 (some .int) rm_La_valueCount Tc nC I J N (fun ad => [.ref (ad a0)]) (I, J, N, fun _ => some (.int r)) :=
  g_meth (lv := fun ad => [(0, .ref (ad a0))]) (by decide) (fun _ => Nat.le_of_ble_eq_true rfl) (fun _ => rfl) (fun X ad C => g_lv [0] rfl (w_La_valueCount_0 C ha0 h))
