/-- the reference's table of fractions: empty, or as far as it goes -/
def RC (a b : Nat → Int32) (c : Int32) : Prop := c = 0 ∨ ∃ n : Nat, n ≤ 120 ∧ c = nI n ∧ (∀ k, k < n → Mo_candidate (nI k) 0 = some (a k) ∧ Mo_candidate (nI k) 1 = some (b k) ∧ ¬ b k = 0) ∧ (n = 120 ∨ Mo_candidate (nI n) 1 = some 0)
def Body (w : Nat → Bool) (I : HI) (J : HJ) (I2 : HI) (J2 : HJ) : Prop := ∃ m q : Nat, RW (J (ab w 1 + 1)) (J (be w 1 + 1)) (I2 4) ∧ RS (I 88) (I2 1) (fun s => J (85 + s)) (J2 2) ∧ RL m (I 6 1) (I2 0 6) (fun k => I (8 + k)) (I2 5) ∧ (m ≠ 0 → RR 7 (J (ab w 15 + 1)) (J (be w 15 + 1)) (FO (I2 5) m)) ∧ RB I (I2 5) (2 * m) ∧ RM q (I 64 2) (I2 0 31) (fun k => I (66 + k)) (I2 22) (I2 23) ∧ I 0 8 = I2 0 0 ∧ RC (I2 13) (I2 14) (I2 0 21)
def Rel (I : HI) (J : HJ) (N : HN) (I2 : HI) (J2 : HJ) (N2 : HN) : Prop := ∃ w, N = nn w ∧ N2 = N_m ∧ Body w I J I2 J2
theorem RS_c {I I' I2 I2' : HI} {J J' J2 J2' : HJ} (h : RS (I 88) (I2 1) (fun s => J (85 + s)) (J2 2)) (h88 : I' 88 = I 88) (h1 : I2' 1 = I2 1) (hJ : ∀ s, s < 3 → J' (85 + s) = J (85 + s)) (h2 : J2' 2 = J2 2) : RS (I' 88) (I2' 1) (fun s => J' (85 + s)) (J2' 2) := by
  rw [h88, h1, h2]
  intro s hs
  have t := h s hs
  refine ⟨t.1, t.2.1, t.2.2.1, fun i hi => ?_⟩
  show J' (85 + s) i = _
  rw [hJ s hs]
  exact t.2.2.2 i hi
theorem RL_c {I I' I2 I2' : HI} {m : Nat} (h : RL m (I 6 1) (I2 0 6) (fun k => I (8 + k)) (I2 5)) (h6 : I' 6 = I 6) (hr : ∀ k, k < 6 → I' (8 + k) = I (8 + k)) (h2 : I2' 0 6 = I2 0 6) (h5 : I2' 5 = I2 5) : RL m (I' 6 1) (I2' 0 6) (fun k => I' (8 + k)) (I2' 5) := by
  rw [h6, h2, h5]
  obtain ⟨a, b, c, d, e⟩ := h
  refine ⟨a, b, c, fun k hk j hj => ?_, e⟩
  show I' (8 + k) j = _
  rw [hr k (by omega)]
  exact d k hk j hj
theorem RB_c {I I' : HI} {A : Nat → Int32} {m : Nat} (h : RB I A (2 * m)) (hv : vc A m ≤ 6) (h56 : I' 56 = I 56) (hr : ∀ k, k < 6 → I' (58 + k) = I (58 + k)) : RB I' A (2 * m) := by
  obtain ⟨a, b⟩ := h
  refine ⟨by rw [h56]; exact a, fun x hx hf => ?_⟩
  have t := b x hx hf
  have c := cnt_lt hx hf
  have c6 := cnt_6 hv (Nat.le_refl (2 * m)) true
  unfold mt at t ⊢
  rw [hr _ (by omega)]
  exact t
theorem RM_c {I I' I2 I2' : HI} {q : Nat} (h : RM q (I 64 2) (I2 0 31) (fun k => I (66 + k)) (I2 22) (I2 23)) (h64 : I' 64 = I 64) (hr : ∀ k, k < 12 → I' (66 + k) = I (66 + k)) (h2 : I2' 0 31 = I2 0 31) (h22 : I2' 22 = I2 22) (h23 : I2' 23 = I2 23) : RM q (I' 64 2) (I2' 0 31) (fun k => I' (66 + k)) (I2' 22) (I2' 23) := by
  rw [h64, h2, h22, h23]
  obtain ⟨a, b, c, d⟩ := h
  refine ⟨a, b, c, fun k hk => ?_⟩
  show I' (66 + k) 0 = _ ∧ ∀ j, j < 14 → I' (66 + k) (1 + j) = _ ∧ _
  rw [hr k (by omega)]
  exact d k hk
theorem RW_c {w : Nat → Bool} {I2 I2' : HI} {J J' : HJ} (h : RW (J (ab w 1 + 1)) (J (be w 1 + 1)) (I2 4)) (h3 : J' 3 = J 3) (h5 : J' 5 = J 5) (h4 : I2' 4 = I2 4) : RW (J' (ab w 1 + 1)) (J' (be w 1 + 1)) (I2' 4) := by
  rcases ab_be (w := w) (p := 1) with ⟨e1, e2⟩ | ⟨e1, e2⟩
  · rw [e1, e2] at h ⊢; rw [h4]; show RW (J' 3) (J' 5) _; rw [h3, h5]; exact h
  · rw [e1, e2] at h ⊢; rw [h4]; show RW (J' 5) (J' 3) _; rw [h3, h5]; exact h
theorem RF_c {w : Nat → Bool} {J J' : HJ} {A A' : Nat → Int32} {m : Nat} (h : m ≠ 0 → RR 7 (J (ab w 15 + 1)) (J (be w 15 + 1)) (FO A m)) (h17 : J' 17 = J 17) (h19 : J' 19 = J 19) (hA : A' = A) : m ≠ 0 → RR 7 (J' (ab w 15 + 1)) (J' (be w 15 + 1)) (FO A' m) := by
  intro hm
  have h := h hm
  rw [hA]
  rcases ab_be (w := w) (p := 15) with ⟨e1, e2⟩ | ⟨e1, e2⟩
  · rw [e1, e2] at h ⊢; show RR 7 (J' 17) (J' 19) _; rw [h17, h19]; exact h
  · rw [e1, e2] at h ⊢; show RR 7 (J' 19) (J' 17) _; rw [h17, h19]; exact h
theorem RC_c {I2 I2' : HI} (h : RC (I2 13) (I2 14) (I2 0 21)) (h13 : I2' 13 = I2 13) (h14 : I2' 14 = I2 14) (h0 : I2' 0 21 = I2 0 21) : RC (I2' 13) (I2' 14) (I2' 0 21) := by rw [h13, h14, h0]; exact h
/-- when only the wish is new -/
theorem body_W {w w' : Nat → Bool} {I I2 I2' : HI} {J J' J2 : HJ} (h : Body w I J I2 J2) (hw : w' 15 = w 15) (hW : RW (J' (ab w' 1 + 1)) (J' (be w' 1 + 1)) (I2' 4)) (f : fW J J' I2 I2') : Body w' I J' I2' J2 := by
  obtain ⟨m, q, -, hS, hL, hF, hB, hM, hf, hC⟩ := h
  obtain ⟨f1, f2⟩ := f
  have e15 : ab w' 15 = ab w 15 ∧ be w' 15 = be w 15 := by unfold ab be; rw [hw]; exact ⟨rfl, rfl⟩
  refine ⟨m, q, hW, RS_c hS rfl (f2 1 (by decide)) (fun s hs => f1 _ (by omega) (by omega)) rfl, RL_c hL rfl (fun _ _ => rfl) (by rw [f2 0 (by decide)]) (f2 5 (by decide)), ?_, by rw [f2 5 (by decide)]; exact hB, RM_c hM rfl (fun _ _ => rfl) (by rw [f2 0 (by decide)]) (f2 22 (by decide)) (f2 23 (by decide)), by rw [f2 0 (by decide)]; exact hf, RC_c hC (f2 13 (by decide)) (f2 14 (by decide)) (by rw [f2 0 (by decide)])⟩
  rw [e15.1, e15.2]
  exact RF_c hF (f1 17 (by decide) (by decide)) (f1 19 (by decide) (by decide)) (f2 5 (by decide))
/-- when only the sheets and the latest finding are new -/
theorem body_S {w : Nat → Bool} {I I' I2 I2' : HI} {J J' J2 J2' : HJ} (h : Body w I J I2 J2) (hS : RS (I' 88) (I2' 1) (fun s => J' (85 + s)) (J2' 2)) (f : fS I I' J J' I2 I2' J2 J2') : Body w I' J' I2' J2' := by
  obtain ⟨m, q, hW, -, hL, hF, hB, hM, hf, hC⟩ := h
  obtain ⟨f1, f2, f3, f4, f5, f6⟩ := f
  refine ⟨m, q, RW_c hW (f2 3 (by decide) (by decide) (by decide)) (f2 5 (by decide) (by decide) (by decide)) (f3 4 (by decide) (by decide)), hS, RL_c hL (f1 6 (by decide) (by decide)) (fun k hk => f1 _ (by omega) (by omega)) (f4 6 (by decide)) (f3 5 (by decide) (by decide)), RF_c hF (f2 17 (by decide) (by decide) (by decide)) (f2 19 (by decide) (by decide) (by decide)) (f3 5 (by decide) (by decide)), ?_, RM_c hM (f1 64 (by decide) (by decide)) (fun k hk => f1 _ (by omega) (by omega)) (f4 31 (by decide)) (f3 22 (by decide) (by decide)) (f3 23 (by decide) (by decide)), f6, RC_c hC (f3 13 (by decide) (by decide)) (f3 14 (by decide) (by decide)) (f4 21 (by decide))⟩
  rw [f3 5 (by decide) (by decide)]
  exact RB_c hB hL.2.2.2.2.2 (f1 56 (by decide) (by decide)) (fun k hk => f1 _ (by omega) (by omega))
/-- when only the reference's scratch rows are new -/
theorem body_M {w : Nat → Bool} {I I2 : HI} {J J2 J2' : HJ} (h : Body w I J I2 J2) (f : fM J2 J2') : Body w I J I2 J2' := by
  obtain ⟨m, q, hW, hS, r⟩ := h
  exact ⟨m, q, hW, RS_c hS rfl rfl (fun _ _ => rfl) (f 2 (by decide)), r⟩
theorem o_tell : ok_tell Rel := by
  rintro I J _ I2 J2 _ ⟨w, rfl, rfl, h⟩ x0 x1 x2
  obtain ⟨m, q, hW, -⟩ := id h
  obtain ⟨J', I2', r, h1, h2, h3, h4⟩ := tell_ok hW x0 x1 x2
  exact ⟨J', I2', r, h1, h2, w, rfl, rfl, body_W h rfl h3 h4⟩
theorem o_told : ok_told Rel := by
  rintro I J _ I2 J2 _ ⟨w, rfl, rfl, h⟩ x0 x1
  obtain ⟨m, q, hW, -⟩ := id h
  obtain ⟨r, h1, h2⟩ := told_ok hW x0 x1
  exact ⟨r, h1, h2, w, rfl, rfl, h⟩
theorem o_turn : ok_turn Rel := by
  rintro I J _ I2 J2 _ ⟨w, rfl, rfl, h⟩
  obtain ⟨m, q, hW, -⟩ := id h
  obtain ⟨I2', r, h1, h2, h3, h4⟩ := turn_ok hW
  exact ⟨_, I2', r, h1, h2, va_up w 1 (!(w 1)), rfl, rfl, body_W h (va_up_of (by decide)) h3 h4⟩
theorem o_reverse : ok_reverse Rel := by
  rintro I J _ I2 J2 _ ⟨w, rfl, rfl, h⟩
  obtain ⟨m, q, hW, -⟩ := id h
  obtain ⟨J', I2', r, h1, h2, h3, h4⟩ := reverse_ok hW
  exact ⟨J', I2', r, h1, h2, w, rfl, rfl, body_W h rfl h3 h4⟩
theorem o_info : ok_info Rel := by
  rintro I J _ I2 J2 _ ⟨w, rfl, rfl, h⟩ x0
  obtain ⟨m, q, hW, -⟩ := id h
  obtain ⟨r, h1, h2⟩ := info_ok hW x0
  exact ⟨r, h1, h2, w, rfl, rfl, h⟩
theorem o_read : ok_read Rel := by
  rintro I J _ I2 J2 _ ⟨w, rfl, rfl, h⟩ x0 x1
  obtain ⟨m, q, hW, hS, hL, hF, hB, hM, hf, hC⟩ := id h
  obtain ⟨I', J', I2', r, h1, h2, h3, f1, f2, f3, f4, f5⟩ := read_ok hW hS hf x0 x1
  refine ⟨I', J', I2', r, h1, h2, w, rfl, rfl, m, q, h3, RS_c hS (f1 88 (by decide)) (f3 1 (by decide) (by decide)) (fun s hs => f2 _ (by omega) (by omega)) rfl, RL_c hL (f1 6 (by decide)) (fun k hk => f1 _ (by omega)) (f4 6 (by decide)) (f3 5 (by decide) (by decide)), RF_c hF (f2 17 (by decide) (by decide)) (f2 19 (by decide) (by decide)) (f3 5 (by decide) (by decide)), ?_, RM_c hM (f1 64 (by decide)) (fun k hk => f1 _ (by omega)) (f4 31 (by decide)) (f3 22 (by decide) (by decide)) (f3 23 (by decide) (by decide)), f5, RC_c hC (f3 13 (by decide) (by decide)) (f3 14 (by decide) (by decide)) (f4 21 (by decide))⟩
  rw [f3 5 (by decide) (by decide)]
  exact RB_c hB hL.2.2.2.2.2 (f1 56 (by decide)) (fun k hk => f1 _ (by omega))
theorem o_reactance : ok_reactance Rel := by
  rintro I J _ I2 J2 _ ⟨w, rfl, rfl, h⟩ x0 x1 x2
  obtain ⟨m, q, hW, hS, hL, hF, r⟩ := id h
  obtain ⟨J', v, h1, h2, f⟩ := reactance_ok hW x0 x1 x2
  exact ⟨J', v, h1, h2, w, rfl, rfl, m, q, RW_c hW (f 3 (by decide)) (f 5 (by decide)) rfl, RS_c hS rfl rfl (fun s hs => f _ (by omega)) rfl, hL, RF_c hF (f 17 (by decide)) (f 19 (by decide)) rfl, r⟩
/-- when the ladder is new -/
theorem body_L {w : Nat → Bool} {I I' I2 I2' : HI} {J J' J2 : HJ} {m' : Nat} (h : Body w I J I2 J2) (hL : RL m' (I' 6 1) (I2' 0 6) (fun k => I' (8 + k)) (I2' 5)) (hF : m' ≠ 0 → RR 7 (J' (ab w 15 + 1)) (J' (be w 15 + 1)) (FO (I2' 5) m')) (hB : RB I' (I2' 5) (2 * m')) (f : fL I I' J J' I2 I2') : Body w I' J' I2' J2 := by
  obtain ⟨m, q, hW, hS, -, -, -, hM, hf, hC⟩ := h
  obtain ⟨f1, f2, f3, f4⟩ := f
  exact ⟨m', q, RW_c hW (f2 3 (by decide)) (f2 5 (by decide)) (f3 4 (by decide) (by decide)), RS_c hS (f1 88 (by decide) (by decide) (by decide)) (f3 1 (by decide) (by decide)) (fun s hs => f2 _ (by omega)) rfl, hL, hF, hB, RM_c hM (f1 64 (by decide) (by decide) (by decide)) (fun k hk => f1 _ (by omega) (by omega) (by omega)) (f4 31 (by decide)) (f3 22 (by decide) (by decide)) (f3 23 (by decide) (by decide)), by rw [f1 0 (by decide) (by decide) (by decide), f4 0 (by decide)]; exact hf, RC_c hC (f3 13 (by decide) (by decide)) (f3 14 (by decide) (by decide)) (f4 21 (by decide))⟩
theorem o_arm : ok_arm Rel := by
  rintro I J _ I2 J2 _ ⟨w, rfl, rfl, h⟩ x0 x1 x2
  obtain ⟨m, q, hW, hS, hL, hF, hB, -⟩ := id h
  obtain ⟨I', J', I2', r, m', h1, h2, h3, h4, h5, h6⟩ := arm_ok hL hF hB x0 x1 x2
  exact ⟨I', J', _, I2', r, h1, h2, w, rfl, rfl, body_L h h3 h4 h5 h6⟩
theorem o_back : ok_back Rel := by
  rintro I J _ I2 J2 _ ⟨w, rfl, rfl, h⟩
  obtain ⟨m, q, hW, hS, hL, hF, hB, -⟩ := id h
  obtain ⟨I', J', I2', r, m', h1, h2, h3, h4, h5, h6⟩ := back_ok hL hF hB
  exact ⟨I', J', _, I2', r, h1, h2, w, rfl, rfl, body_L h h3 h4 h5 h6⟩
theorem o_element : ok_element Rel := by
  rintro I J _ I2 J2 _ ⟨w, rfl, rfl, h⟩ x0 x1
  obtain ⟨m, q, hW, hS, hL, -⟩ := id h
  obtain ⟨r, h1, h2⟩ := element_ok hL x0 x1
  exact ⟨r, h1, h2, w, rfl, rfl, h⟩
theorem o_fold : ok_fold Rel := by
  rintro I J _ I2 J2 _ ⟨w, rfl, rfl, h⟩ x0 x1
  obtain ⟨m, q, hW, hS, hL, hF, -⟩ := id h
  obtain ⟨J2', r, h1, h2, h3⟩ := fold_ok (J2 := J2) hL hF x0 x1
  exact ⟨J2', r, h1, h2, w, rfl, rfl, body_M h h3⟩
theorem o_alike : ok_alike Rel := by
  rintro I J _ I2 J2 _ ⟨w, rfl, rfl, h⟩
  obtain ⟨m, q, hW, hS, hL, hF, -⟩ := id h
  obtain ⟨J2', r, h1, h2, h3⟩ := alike_ok (J2 := J2) hL hW hF
  exact ⟨J2', r, h1, h2, w, rfl, rfl, body_M h h3⟩
theorem o_take : ok_take Rel := by
  rintro I J _ I2 J2 _ ⟨w, rfl, rfl, h⟩
  obtain ⟨m, q, hW, hS, hL, hF, -⟩ := id h
  obtain ⟨J', I2', J2', r, h1, h2, h3, h4, h5, h6⟩ := take_ok (J2 := J2) hL hW hF
  exact ⟨J', I2', J2', r, h1, h2, w, rfl, rfl, body_M (body_W h rfl h3 ⟨h4, h5⟩) h6⟩
theorem o_bill : ok_bill Rel := by
  rintro I J _ I2 J2 _ ⟨w, rfl, rfl, h⟩ x0 x1
  obtain ⟨m, q, hW, hS, hL, hF, hB, -⟩ := id h
  obtain ⟨r, h1, h2⟩ := bill_ok (w := w) hL hB x0 x1
  exact ⟨r, h1, h2, w, rfl, rfl, h⟩
theorem o_values : ok_values Rel := by
  rintro I J _ I2 J2 _ ⟨w, rfl, rfl, h⟩
  obtain ⟨m, q, hW, hS, hL, hF, hB, -⟩ := id h
  obtain ⟨r, h1, h2⟩ := values_ok (w := w) hL hB
  exact ⟨r, h1, h2, w, rfl, rfl, h⟩
theorem o_keep : ok_keep Rel := by
  rintro I J _ I2 J2 _ ⟨w, rfl, rfl, h⟩
  obtain ⟨m, q, hW, hS, hL, hF, hB, hM, hf, hC⟩ := id h
  obtain ⟨I', J', I2', J2', r, q', h1, h2, h3, f1, f2, f3, f4, f5⟩ := keep_ok (J2 := J2) hW hM
  refine ⟨I', J', I2', J2', r, h1, h2, w, rfl, rfl, m, q', RW_c hW (f2 3 (by decide) (by decide)) (f2 5 (by decide) (by decide)) (f3 4 (by decide) (by decide) (by decide) (by decide)), RS_c hS (f1 88 (by decide) (by decide)) (f3 1 (by decide) (by decide) (by decide) (by decide)) (fun s hs => f2 _ (by omega) (by omega)) (f5 2 (by decide) (by decide)), RL_c hL (f1 6 (by decide) (by decide)) (fun k hk => f1 _ (by omega) (by omega)) (f4 6 (by decide)) (f3 5 (by decide) (by decide) (by decide) (by decide)), RF_c hF (f2 17 (by decide) (by decide)) (f2 19 (by decide) (by decide)) (f3 5 (by decide) (by decide) (by decide) (by decide)), ?_, h3, by rw [f1 0 (by decide) (by decide), f4 0 (by decide)]; exact hf, RC_c hC (f3 13 (by decide) (by decide) (by decide) (by decide)) (f3 14 (by decide) (by decide) (by decide) (by decide)) (f4 21 (by decide))⟩
  rw [f3 5 (by decide) (by decide) (by decide) (by decide)]
  exact RB_c hB hL.2.2.2.2.2 (f1 56 (by decide) (by decide)) (fun k hk => f1 _ (by omega) (by omega))
/-- when only what find writes is new -/
theorem body_F {w : Nat → Bool} {I I2 I2' : HI} {J J' J2 J2' : HJ} (h : Body w I J I2 J2) (f : fF J J' I2 I2' J2 J2') : Body w I J' I2' J2' := by
  obtain ⟨m, q, hW, hS, hL, hF, hB, hM, hf, hC⟩ := h
  obtain ⟨f1, f2, f3⟩ := f
  exact ⟨m, q, RW_c hW (f1 3 (by decide) (by decide)) (f1 5 (by decide) (by decide)) (f2 4 (by decide)), RS_c hS rfl (f2 1 (by decide)) (fun s hs => f1 _ (by omega) (by omega)) (f3 2 (by decide) (by decide)), RL_c hL rfl (fun _ _ => rfl) (by rw [f2 0 (by decide)]) (f2 5 (by decide)), RF_c hF (f1 17 (by decide) (by decide)) (f1 19 (by decide) (by decide)) (f2 5 (by decide)), by rw [f2 5 (by decide)]; exact hB, RM_c hM rfl (fun _ _ => rfl) (by rw [f2 0 (by decide)]) (f2 22 (by decide)) (f2 23 (by decide)), by rw [f2 0 (by decide)]; exact hf, RC_c hC (f2 13 (by decide)) (f2 14 (by decide)) (by rw [f2 0 (by decide)])⟩
theorem o_find : ok_find Rel := by
  rintro I J _ I2 J2 _ ⟨w, rfl, rfl, h⟩
  obtain ⟨m, q, hW, hS, hL, hF, hB, hM, hf, hC⟩ := id h
  obtain ⟨J', I2', J2', h1, h2, h3⟩ := find_ok (J2 := J2) hW hM
  refine ⟨J', I2', J2', _, h1, ?_, w, rfl, rfl, body_F h h3⟩
  unfold Mo_find Mo_find_0
  rw [h2, bn3_s]
theorem o_kept : ok_kept Rel := by
  rintro I J _ I2 J2 _ ⟨w, rfl, rfl, h⟩ x0 x1
  obtain ⟨m, q, hW, hS, hL, hF, hB, hM, hf, hC⟩ := id h
  obtain ⟨r, h1, h2⟩ := kept_ok (w := w) hM x0 x1
  exact ⟨r, h1, h2, w, rfl, rfl, h⟩
theorem o_recall : ok_recall Rel := by
  rintro I J _ I2 J2 _ ⟨w, rfl, rfl, h⟩ x0
  obtain ⟨m, q, hW, hS, hL, hF, hB, hM, hf, hC⟩ := id h
  obtain ⟨J', I2', r, h1, h2, h3, h4⟩ := recall_ok hW hM x0
  exact ⟨J', I2', r, h1, h2, w, rfl, rfl, body_W h rfl h3 h4⟩
theorem o_sheet : ok_sheet Rel := by
  rintro I J _ I2 J2 _ ⟨w, rfl, rfl, h⟩ x0 x1
  obtain ⟨m, q, hW, hS, hL, hF, hB, hM, hf, hC⟩ := id h
  obtain ⟨I', J', I2', J2', r, h1, h2, h3, h4⟩ := sheet_ok (w := w) hS hf x0 x1
  exact ⟨I', J', I2', J2', r, h1, h2, w, rfl, rfl, body_S h h3 h4⟩
theorem o_lose : ok_lose Rel := by
  rintro I J _ I2 J2 _ ⟨w, rfl, rfl, h⟩ x0
  obtain ⟨m, q, hW, hS, hL, hF, hB, hM, hf, hC⟩ := id h
  obtain ⟨I', I2', r, h1, h2, h3, h4⟩ := lose_ok (w := w) hS hf x0
  exact ⟨I', I2', r, h1, h2, w, rfl, rfl, body_S h h3 h4⟩
theorem o_lay : ok_lay Rel := by
  rintro I J _ I2 J2 _ ⟨w, rfl, rfl, h⟩ x0 x1 x2
  obtain ⟨m, q, hW, hS, hL, hF, hB, hM, hf, hC⟩ := id h
  obtain ⟨I', J', I2', J2', r, h1, h2, h3, h4⟩ := lay_ok (w := w) hS hf x0 x1 x2
  exact ⟨I', J', I2', J2', r, h1, h2, w, rfl, rfl, body_S h h3 h4⟩
theorem o_get : ok_get Rel := by
  rintro I J _ I2 J2 _ ⟨w, rfl, rfl, h⟩ x0 x1
  obtain ⟨m, q, hW, hS, hL, hF, hB, hM, hf, hC⟩ := id h
  obtain ⟨I', I2', r, h1, h2, h3, h4⟩ := get_ok (w := w) hS hf x0 x1
  exact ⟨I', I2', r, h1, h2, w, rfl, rfl, body_S h h3 h4⟩
theorem o_copy : ok_copy Rel := by
  rintro I J _ I2 J2 _ ⟨w, rfl, rfl, h⟩ x0 x1 x2 x3 x4
  obtain ⟨m, q, hW, hS, hL, hF, hB, hM, hf, hC⟩ := id h
  obtain ⟨I', J', I2', J2', r, h1, h2, h3, h4⟩ := copy_ok (w := w) hS hf x0 x1 x2 x3 x4
  exact ⟨I', J', I2', J2', r, h1, h2, w, rfl, rfl, body_S h h3 h4⟩
theorem o_write : ok_write Rel := by
  rintro I J _ I2 J2 _ ⟨w, rfl, rfl, h⟩ x0
  obtain ⟨m, q, hW, hS, hL, hF, hB, hM, hf, hC⟩ := id h
  obtain ⟨I', J', I2', J2', r, h1, h2, h3, h4⟩ := write_ok (w := w) hL hS hf x0
  exact ⟨I', J', I2', J2', r, h1, h2, w, rfl, rfl, body_S h h3 h4⟩
theorem o_count : ok_count Rel := by
  rintro I J _ I2 J2 _ ⟨w, rfl, rfl, h⟩ x0
  obtain ⟨m, q, hW, hS, hL, hF, hB, hM, hf, hC⟩ := id h
  obtain ⟨J2', r, h1, h2, h3⟩ := count_ok hL hW hF hB hM hS hf x0
  exact ⟨J2', r, h1, h2, w, rfl, rfl, body_M h h3⟩
