/-- from o on k numbers of a row are g's -/
def wrs {α : Type} (o k : Nat) (f g : Nat → α) : Nat → α := fun j => if o ≤ j ∧ j < o + k then g (j - o) else f j
theorem wrs_0 {α : Type} {o : Nat} {f g : Nat → α} : wrs o 0 f g = f := by
  funext j
  exact if_neg (by omega)
theorem wrs_s {α : Type} {o k : Nat} {f g : Nat → α} : va_up (wrs o k f g) (o + k) (g k) = wrs o (k + 1) f g := by
  funext j
  unfold wrs va_up
  by_cases h : j = o + k
  · subst h
    rw [if_pos rfl, if_pos (by omega), show o + k - o = k by omega]
  · rw [if_neg h]
    show (if o ≤ j ∧ j < o + k then g (j - o) else f j) = _
    by_cases h2 : o ≤ j ∧ j < o + k
    · rw [if_pos h2, if_pos (by omega)]
    · rw [if_neg h2, if_neg (by omega)]
theorem wrs_in {α : Type} {o k j : Nat} {f g : Nat → α} (h : o ≤ j ∧ j < o + k) : wrs o k f g j = g (j - o) := if_pos h
theorem wrs_out {α : Type} {o k j : Nat} {f g : Nat → α} (h : ¬ (o ≤ j ∧ j < o + k)) : wrs o k f g j = f j := if_neg h
theorem get_ok {w : Nat → Bool} {I I2 : HI} {J J2 : HJ} (hS : RS (I 88) (I2 1) (fun s => J (85 + s)) (J2 2)) (hf : I 0 8 = I2 0 0) (p i : Int32) : ∃ (I' : HI) (I2' : HI) (r : Int64), Lm_get J (nn w) 0 p i I = some (I', r) ∧ Mo_get J2 N_m 0 p i I2 = some (I2', r) ∧ RS (I' 88) (I2' 1) (fun s => J (85 + s)) (J2 2) ∧ fS I I' J J I2 I2' J2 J2 := by
  unfold Lm_get Lm_get_0 Mo_get Mo_get_0
  rw [Mo_isSheet_s, bn1_s]
  rcases inb_cases p (n := 3) (by decide) with hb | ⟨s, hs, rfl⟩
  · rw [hb, if_pos b2i_f, ir_bad hb, bn2_s, if_neg (by decide)]
    exact ⟨I, I2, _, rfl, rfl, hS, fS_rf hf⟩
  · obtain ⟨h1, h2, h3, h4⟩ := hS s hs
    rw [inb_nI hs (by decide), if_neg b2i_t]
    by_cases e : I 88 s = -1
    · rw [ir_lost hs e, bn2_s, if_neg (by decide), lk_lost hs (h1 ▸ e), bn2_s, if_neg (by decide)]
      exact ⟨_, _, _, rfl, rfl, hS, fS_fd 1⟩
    · have e2 : ¬ I2 1 s = -1 := fun q => e (h1.trans q)
      cases hh : hr (I 88 s) i 1 with
      | false =>
        rw [ir_out hs ⟨h2, h3⟩ e hh, bn2_s, if_neg (by decide), lk_out hs (h1 ▸ ⟨h2, h3⟩) e2 (h1 ▸ hh), bn2_s, if_neg (by decide)]
        exact ⟨_, _, _, rfl, rfl, hS, fS_fd 2⟩
      | true =>
        obtain ⟨k, hk, rfl, hlt⟩ := hr_1 h3 hh
        rw [ir_ok hs ⟨h2, h3⟩ e hh, bn2_s, if_pos rfl, nv_0_6, Sh_item_s hs ⟨h2, h3⟩ hk hlt, bn1_s, lk_ok hs (h1 ▸ ⟨h2, h3⟩) e2 (h1 ▸ hh), bn2_s, if_pos rfl, mv_2, i40, gd_of (tm2 (by omega)), nI_clamp (by omega)]
        exact ⟨I, I2, J (85 + s) k, rfl, by rw [show J (85 + s) k = J2 2 (40 * s + k) from h4 k hlt], hS, fS_rf hf⟩
theorem renew_l {w : Nat → Bool} {I : HI} {J : HJ} {s : Nat} {n : Int32} (h : s < 3) : Sh_renew_27 (nn w) 83 (nI s) n 256 I J 0 = some (I, va_up J (85 + s) (wrk 40 (J (85 + s)) (fun _ => 0))) := by
  have key := up_loop (fun n' (S : HI × HJ) x => Sh_renew_27 (nn w) 83 (nI s) n n' S.1 S.2 x) (fun k => (I, va_up J (85 + s) (wrk k (J (85 + s)) (fun _ => 0)))) (some (I, va_up J (85 + s) (wrk 40 (J (85 + s)) (fun _ => 0)))) 40 (fun n' k hk => ?_) (fun n' => ?_) 256 0 (by decide) (by decide)
  · rw [wrk_0, va_up_id] at key
    exact key
  · show Sh_renew_27b (nn w) 83 (nI s) n (Sh_renew_27 (nn w) 83 (nI s) n n') _ _ (nI k) = _
    unfold Sh_renew_27b
    dsimp only
    rw [if_neg (n40 hk), nv_83_0, gd_of (tc84 h), nI_clamp (show s < 2 ^ 31 by omega), nv84 h, gd_of (tc85 h hk), bd_e, nI_clamp (by omega), up2_va, nI_1, ← wrk_s]
  · show Sh_renew_27b (nn w) 83 (nI s) n (Sh_renew_27 (nn w) 83 (nI s) n n') _ _ (nI 40) = _
    unfold Sh_renew_27b
    rw [if_pos (by decide)]
theorem msheet_l {I : HI} {J : HJ} {s m : Nat} (h : s < 3) (hm : m ≤ 40) : Mo_sheet_35 N_m 0 (nI s) (nI m) 256 I J 0 = some (I, va_up J 2 (wrs (40 * s) m (J 2) (fun _ => 0)), nI m) := by
  have key := up_loop (fun n' (S : HI × HJ) x => Mo_sheet_35 N_m 0 (nI s) (nI m) n' S.1 S.2 x) (fun k => (I, va_up J 2 (wrs (40 * s) k (J 2) (fun _ => 0)))) (some (I, va_up J 2 (wrs (40 * s) m (J 2) (fun _ => 0)), nI m)) m (fun n' k hk => ?_) (fun n' => ?_) 256 0 (by omega) (by omega)
  · rw [wrs_0, va_up_id] at key
    exact key
  · show Mo_sheet_35b N_m 0 (nI s) (nI m) (Mo_sheet_35 N_m 0 (nI s) (nI m) n') _ _ (nI k) = _
    unfold Mo_sheet_35b
    dsimp only
    rw [if_neg (nI_ge hk (by omega)), mv_2, i40, gd_of (tm2 (by omega)), bd_e, nI_clamp (by omega), up2_va, nI_1, ← wrs_s]
  · show Mo_sheet_35b N_m 0 (nI s) (nI m) (Mo_sheet_35 N_m 0 (nI s) (nI m) n') _ _ (nI m) = _
    unfold Mo_sheet_35b
    rw [if_pos (nI_le (Nat.le_refl m) (by omega))]
theorem sheet_ok {w : Nat → Bool} {I I2 : HI} {J J2 : HJ} (hS : RS (I 88) (I2 1) (fun s => J (85 + s)) (J2 2)) (hf : I 0 8 = I2 0 0) (p n : Int32) : ∃ (I' : HI) (J' : HJ) (I2' : HI) (J2' : HJ) (r : Int32), Lm_sheet (nn w) 0 p n I J = some (I', J', r) ∧ Mo_sheet N_m 0 p n I2 J2 = some (I2', J2', r) ∧ RS (I' 88) (I2' 1) (fun s => J' (85 + s)) (J2' 2) ∧ fS I I' J J' I2 I2' J2 J2' := by
  unfold Lm_sheet Lm_sheet_0 Mo_sheet Mo_sheet_0
  rw [nv_0_6, Sh_isSheet_s, Mo_isSheet_s, bn1_s, bn1_s]
  rcases inb_cases p (n := 3) (by decide) with hb | ⟨s, hs, rfl⟩
  · rw [hb, if_pos b2i_f, if_pos b2i_f]
    exact ⟨I, J, I2, J2, -2, rfl, rfl, hS, fS_rf hf⟩
  · rw [inb_nI hs (by decide), if_neg b2i_t, if_neg b2i_t]
    by_cases h1 : n ≤ 40
    · rw [if_pos h1, if_pos h1]
      by_cases h2 : 0 ≤ n
      · have hn : ¬ n < 0 := fun q => by
          have a := Int32.lt_iff_toInt_lt.mp q
          have b := Int32.le_iff_toInt_le.mp h2
          omega
        obtain ⟨m, hm, rfl⟩ := nI_of hn
        have hm40 : m ≤ 40 := by
          rcases Nat.lt_or_ge 40 m with q | q
          · exact absurd h1 (nI_ge (a := 40) q hm)
          · exact q
        rw [if_pos h2, if_pos h2, nv_0_6]
        unfold Sh_renew Sh_renew_0
        rw [Sh_isSheet_s, inb_nI hs (by decide), bn1_s, if_neg b2i_t, if_neg hn, if_neg (show ¬ (40 : Int32) < nI m from nI_nlt (b := m) (a := 40) hm40 (by decide)), nv_83_1, gd_of (tc88 hs), bd_e, nI_clamp (by omega), renew_l hs, bn2_s, mv_1, gd_of (tm1 hs), bd_e, msheet_l hs hm40]
        refine ⟨_, _, _, _, _, rfl, rfl, ?_, ?_⟩
        · intro t ht
          rw [up2_at, up2_at, va_up_at]
          by_cases et : t = s
          · subst et
            rw [va_up_at, va_up_at]
            refine ⟨rfl, by rw [nI_toInt hm]; omega, by rw [nI_toInt hm]; omega, fun i hi => ?_⟩
            rw [nI_toInt hm] at hi
            show va_up J (85 + t) _ (85 + t) i = _
            rw [va_up_at, wrk_lt (by omega), wrs_in (by omega)]
          · obtain ⟨a1, a2, a3, a4⟩ := hS t ht
            rw [va_up_of et, va_up_of et]
            refine ⟨a1, a2, a3, fun i hi => ?_⟩
            show va_up J (85 + s) _ (85 + t) i = _
            rw [va_up_of (by omega), wrs_out (by omega)]
            exact a4 i hi
        · refine ⟨fun a h _ => up2_of h, fun a ha hb hc => va_up_of (by omega), fun a _ h => up2_of h, fun k _ => ?_, fun a ha _ => va_up_of ha, ?_⟩
          · rw [up2_of (by decide)]
          · rw [up2_of (by decide), up2_of (by decide)]; exact hf
      · rw [if_neg h2, if_neg h2]
        exact ⟨up2 I 0 8 3, J, up2 I2 0 0 3, J2, -13, rfl, rfl, hS, fS_fd 3⟩
    · rw [if_neg h1, if_neg h1]
      exact ⟨I, J, I2, J2, -2, rfl, rfl, hS, fS_rf hf⟩
-- copy
theorem add64 {a b : Int32} : (a.toInt64 + b.toInt64).toInt = a.toInt + b.toInt := by
  have h1 := ir a
  have h2 := ir b
  rw [Int64.toInt_add, Int32.toInt_toInt64, Int32.toInt_toInt64]
  exact Int.bmod_eq_of_le (by omega) (by omega)
theorem hr_n {z i n : Int32} (h : hr z i n = true) (hz : z.toInt ≤ 40) : ∃ a m : Nat, i = nI a ∧ n = nI m ∧ a + m ≤ 40 ∧ (a : Int) + m ≤ z.toInt := by
  unfold hr at h
  have h := of_decide_eq_true h
  have hi : ¬ i < 0 := fun q => by have := Int32.lt_iff_toInt_lt.mp q; rw [i32_0] at this; omega
  have hn : ¬ n < 0 := fun q => by have := Int32.lt_iff_toInt_lt.mp q; rw [i32_0] at this; omega
  obtain ⟨a, ha, rfl⟩ := nI_of hi
  obtain ⟨m, hm, rfl⟩ := nI_of hn
  rw [nI_toInt ha, nI_toInt hm] at h
  exact ⟨a, m, rfl, rfl, by omega, by omega⟩
theorem mcopy_2 {I : HI} {J : HJ} {s t a b m : Nat} (ht : t < 3) (hb : b + m ≤ 40) : Mo_copy_138 N_m 0 (nI s) (nI a) (nI t) (nI b) (nI m) 256 I J 0 = some (I, va_up J 2 (wrs (40 * t + b) m (J 2) (J 3)), 1) := by
  have key := up_loop (fun n' (S : HI × HJ) x => Mo_copy_138 N_m 0 (nI s) (nI a) (nI t) (nI b) (nI m) n' S.1 S.2 x) (fun k => (I, va_up J 2 (wrs (40 * t + b) k (J 2) (J 3)))) (some (I, va_up J 2 (wrs (40 * t + b) m (J 2) (J 3)), 1)) m (fun n' k hk => ?_) (fun n' => ?_) 256 0 (by omega) (by omega)
  · rw [wrs_0, va_up_id] at key
    exact key
  · show Mo_copy_138b N_m 0 (nI s) (nI a) (nI t) (nI b) (nI m) (Mo_copy_138 N_m 0 (nI s) (nI a) (nI t) (nI b) (nI m) n') _ _ (nI k) = _
    unfold Mo_copy_138b
    dsimp only
    rw [if_neg (nI_ge hk (by omega)), mv_2, mv_3, i40, nI_add, gd_of (show inb (nI k) (Tm 3).2 = true from inb_nI (by show k < 40; omega) (by decide)), gd_of (tm2 (by omega)), bd_e, nI_clamp (by omega), nI_clamp (by omega), va_up_of (show (3 : Nat) ≠ 2 by decide), up2_va, nI_1, ← wrs_s]
  · show Mo_copy_138b N_m 0 (nI s) (nI a) (nI t) (nI b) (nI m) (Mo_copy_138 N_m 0 (nI s) (nI a) (nI t) (nI b) (nI m) n') _ _ (nI m) = _
    unfold Mo_copy_138b
    rw [if_pos (nI_le (Nat.le_refl m) (by omega))]
theorem mcopy_1 {I : HI} {J : HJ} {s t a b m : Nat} (hs : s < 3) (ht : t < 3) (ha : a + m ≤ 40) (hb : b + m ≤ 40) : Mo_copy_101 N_m 0 (nI s) (nI a) (nI t) (nI b) (nI m) 256 I J 0 = some (I, va_up (va_up J 3 (wrk m (J 3) (fun x => J 2 (40 * s + a + x)))) 2 (wrs (40 * t + b) m (J 2) (wrk m (J 3) (fun x => J 2 (40 * s + a + x)))), 1) := by
  have key := up_loop (fun n' (S : HI × HJ) x => Mo_copy_101 N_m 0 (nI s) (nI a) (nI t) (nI b) (nI m) n' S.1 S.2 x) (fun k => (I, va_up J 3 (wrk k (J 3) (fun x => J 2 (40 * s + a + x))))) (some (I, va_up (va_up J 3 (wrk m (J 3) (fun x => J 2 (40 * s + a + x)))) 2 (wrs (40 * t + b) m (J 2) (wrk m (J 3) (fun x => J 2 (40 * s + a + x)))), 1)) m (fun n' k hk => ?_) (fun n' => ?_) 256 0 (by omega) (by omega)
  · rw [wrk_0, va_up_id] at key
    exact key
  · show Mo_copy_101b N_m 0 (nI s) (nI a) (nI t) (nI b) (nI m) (Mo_copy_101 N_m 0 (nI s) (nI a) (nI t) (nI b) (nI m) n') _ _ (nI k) = _
    unfold Mo_copy_101b
    dsimp only
    rw [if_neg (nI_ge hk (by omega)), mv_3, mv_2, i40, nI_add, gd_of (tm2 (by omega)), gd_of (show inb (nI k) (Tm 3).2 = true from inb_nI (by show k < 40; omega) (by decide)), bd_e, nI_clamp (by omega), nI_clamp (by omega), va_up_of (show (2 : Nat) ≠ 3 by decide), up2_va, nI_1, ← wrk_s]
  · show Mo_copy_101b N_m 0 (nI s) (nI a) (nI t) (nI b) (nI m) (Mo_copy_101 N_m 0 (nI s) (nI a) (nI t) (nI b) (nI m) n') _ _ (nI m) = _
    unfold Mo_copy_101b
    rw [if_pos (nI_le (Nat.le_refl m) (by omega))]
    show Mo_copy_138 N_m 0 (nI s) (nI a) (nI t) (nI b) (nI m) 256 I _ 0 = _
    rw [mcopy_2 ht hb]
    dsimp only
    rw [va_up_at, va_up_of (show (2 : Nat) ≠ 3 by decide)]
/-- the reference's tests of a copy -/
theorem mcopy_t {I : HI} {J : HJ} {s t : Nat} {i j n : Int32} (hs : s < 3) (ht : t < 3) (e1 : ¬ I 1 s = -1) (e2 : ¬ I 1 t = -1) (hz : (I 1 s).toInt ≤ 40) (hz2 : (I 1 t).toInt ≤ 40) : Mo_copy N_m 0 (nI s) i (nI t) j n I J = if (hr (I 1 s) i n && hr (I 1 t) j n) = true then Mo_copy_101 N_m 0 (nI s) i (nI t) j n 256 I J 0 else some (up2 I 0 0 2, J, -12) := by
  unfold Mo_copy Mo_copy_0
  rw [Mo_isSheet_s, bn1_s, inb_nI hs (by decide), if_neg b2i_t, Mo_isSheet_s, bn1_s, inb_nI ht (by decide), if_neg b2i_t, mv_1, gd_of (tm1 hs), nI_clamp (by omega), if_neg e1, mv_1, gd_of (tm1 ht), nI_clamp (by omega), if_neg e2, mv_1, gd_of (tm1 hs), mv_1, gd_of (tm1 ht)]
  have hx : Mo_copy_92 N_m 0 (nI s) i (nI t) j n I J = some (up2 I 0 0 2, J, -12) := rfl
  rw [hx]
  have neg : ∀ {x : Int32}, x < 0 ↔ x.toInt < 0 := fun {x} => by rw [Int32.lt_iff_toInt_lt, i32_0]
  have c1 : ((I 1 s).toInt64 < i.toInt64 + n.toInt64) ↔ (I 1 s).toInt < i.toInt + n.toInt := by rw [Int64.lt_iff_toInt_lt, add64, Int32.toInt_toInt64]
  have c2 : (j.toInt64 + n.toInt64 ≤ (I 1 t).toInt64) ↔ j.toInt + n.toInt ≤ (I 1 t).toInt := by rw [Int64.le_iff_toInt_le, add64, Int32.toInt_toInt64]
  by_cases hh : (hr (I 1 s) i n && hr (I 1 t) j n) = true
  · rw [if_pos hh]
    rw [Bool.and_eq_true] at hh
    have a := of_decide_eq_true hh.1
    have b := of_decide_eq_true hh.2
    rw [if_neg (fun q => by have := neg.mp q; omega), if_neg (fun q => by have := neg.mp q; omega), if_neg (fun q => by have := neg.mp q; omega), if_neg (fun q => by have := c1.mp q; omega), if_pos (c2.mpr (by omega))]
  · rw [if_neg hh]
    by_cases h1 : i < 0
    · rw [if_pos h1]
    · rw [if_neg h1]
      by_cases h2 : j < 0
      · rw [if_pos h2]
      · rw [if_neg h2]
        by_cases h3 : n < 0
        · rw [if_pos h3]
        · rw [if_neg h3]
          by_cases h4 : (I 1 s).toInt64 < i.toInt64 + n.toInt64
          · rw [if_pos h4]
          · rw [if_neg h4]
            by_cases h5 : j.toInt64 + n.toInt64 ≤ (I 1 t).toInt64
            · exfalso
              apply hh
              have g1 : ¬ i.toInt < 0 := fun q => h1 (neg.mpr q)
              have g2 : ¬ j.toInt < 0 := fun q => h2 (neg.mpr q)
              have g3 : ¬ n.toInt < 0 := fun q => h3 (neg.mpr q)
              have g4 : ¬ (I 1 s).toInt < i.toInt + n.toInt := fun q => h4 (c1.mpr q)
              have g5 := c2.mp h5
              rw [Bool.and_eq_true]
              exact ⟨decide_eq_true ⟨by omega, by omega, by omega, by omega⟩, decide_eq_true ⟨by omega, by omega, by omega, by omega⟩⟩
            · rw [if_neg h5]
theorem copy_ok {w : Nat → Bool} {I I2 : HI} {J J2 : HJ} (hS : RS (I 88) (I2 1) (fun s => J (85 + s)) (J2 2)) (hf : I 0 8 = I2 0 0) (p i q j n : Int32) : ∃ (I' : HI) (J' : HJ) (I2' : HI) (J2' : HJ) (r : Int32), Lm_copy (nn w) 0 p i q j n I J = some (I', J', r) ∧ Mo_copy N_m 0 p i q j n I2 J2 = some (I2', J2', r) ∧ RS (I' 88) (I2' 1) (fun s => J' (85 + s)) (J2' 2) ∧ fS I I' J J' I2 I2' J2 J2' := by
  rcases inb_cases p (n := 3) (by decide) with hb | ⟨s, hs, rfl⟩
  · refine ⟨I, J, I2, J2, -2, ?_, ?_, hS, fS_rf hf⟩
    · unfold Lm_copy Lm_copy_0
      rw [nv_0_6, Sh_isSheet_s, bn1_s, hb, if_pos b2i_f]
    · unfold Mo_copy Mo_copy_0
      rw [Mo_isSheet_s, bn1_s, hb, if_pos b2i_f]
  rcases inb_cases q (n := 3) (by decide) with hb | ⟨t, ht, rfl⟩
  · refine ⟨I, J, I2, J2, -2, ?_, ?_, hS, fS_rf hf⟩
    · unfold Lm_copy Lm_copy_0
      rw [nv_0_6, Sh_isSheet_s, bn1_s, inb_nI hs (by decide), if_neg b2i_t, nv_0_6, Sh_isSheet_s, bn1_s, hb, if_pos b2i_f]
    · unfold Mo_copy Mo_copy_0
      rw [Mo_isSheet_s, bn1_s, inb_nI hs (by decide), if_neg b2i_t, Mo_isSheet_s, bn1_s, hb, if_pos b2i_f]
  obtain ⟨a1, a2, a3, a4⟩ := hS s hs
  obtain ⟨b1, b2, b3, b4⟩ := hS t ht
  have hc : Lm_copy (nn w) 0 (nI s) i (nI t) j n I J = if I 88 s = -1 then some (up2 I 0 8 1, J, -11) else if I 88 t = -1 then some (up2 I 0 8 1, J, -11) else if (hr (I 88 s) i n && hr (I 88 t) j n) = true then bn1 (Sh_move I (nn w) 83 (nI s) i (nI t) j n J) (fun J26 => some (I, J26, 1)) else some (up2 I 0 8 2, J, -12) := by
    unfold Lm_copy Lm_copy_0
    rw [nv_0_6, Sh_isSheet_s, bn1_s, inb_nI hs (by decide), if_neg b2i_t, nv_0_6, Sh_isSheet_s, bn1_s, inb_nI ht (by decide), if_neg b2i_t, nv_0_6, Sh_isLost_s hs, bn1_s, nv_0_6, Sh_isLost_s ht, bn1_s, nv_0_6, Sh_hasRun_s hs ⟨a2, a3⟩, bn1_s, nv_0_6, Sh_hasRun_s ht ⟨b2, b3⟩, bn1_s, nv_0_6]
    by_cases e1 : I 88 s = -1
    · rw [if_pos e1, decide_eq_true e1, if_neg b2i_t]; rfl
    · rw [if_neg e1, decide_eq_false e1, if_pos b2i_f]
      by_cases e2 : I 88 t = -1
      · rw [if_pos e2, decide_eq_true e2, if_neg b2i_t]; rfl
      · rw [if_neg e2, decide_eq_false e2, if_pos b2i_f]
        cases hr (I 88 s) i n <;> cases hr (I 88 t) j n <;> rfl
  rw [hc]
  by_cases e1 : I 88 s = -1
  · rw [if_pos e1]
    refine ⟨up2 I 0 8 1, J, up2 I2 0 0 1, J2, -11, rfl, ?_, hS, fS_fd 1⟩
    unfold Mo_copy Mo_copy_0
    rw [Mo_isSheet_s, bn1_s, inb_nI hs (by decide), if_neg b2i_t, Mo_isSheet_s, bn1_s, inb_nI ht (by decide), if_neg b2i_t, mv_1, gd_of (tm1 hs), nI_clamp (by omega), if_pos (a1 ▸ e1)]
    rfl
  rw [if_neg e1]
  have f1 : ¬ I2 1 s = -1 := fun q => e1 (a1.trans q)
  by_cases e2 : I 88 t = -1
  · rw [if_pos e2]
    refine ⟨up2 I 0 8 1, J, up2 I2 0 0 1, J2, -11, rfl, ?_, hS, fS_fd 1⟩
    unfold Mo_copy Mo_copy_0
    rw [Mo_isSheet_s, bn1_s, inb_nI hs (by decide), if_neg b2i_t, Mo_isSheet_s, bn1_s, inb_nI ht (by decide), if_neg b2i_t, mv_1, gd_of (tm1 hs), nI_clamp (by omega), if_neg f1, mv_1, gd_of (tm1 ht), nI_clamp (by omega), if_pos (b1 ▸ e2)]
    rfl
  rw [if_neg e2]
  have f2 : ¬ I2 1 t = -1 := fun q => e2 (b1.trans q)
  rw [mcopy_t hs ht f1 f2 (a1 ▸ a3) (b1 ▸ b3), ← a1, ← b1]
  by_cases hh : (hr (I 88 s) i n && hr (I 88 t) j n) = true
  · rw [if_pos hh, if_pos hh]
    rw [Bool.and_eq_true] at hh
    obtain ⟨a, m, rfl, rfl, c1, c2⟩ := hr_n hh.1 a3
    obtain ⟨b, m', rfl, hm', d1, d2⟩ := hr_n hh.2 b3
    have hmm : m' = m := ((nI_eq (by omega) (by omega)).mp hm').symm
    subst hmm
    unfold Sh_move Sh_move_0
    rw [Sh_isSheet_s, bn1_s, inb_nI hs (by decide), if_neg b2i_t, Sh_isSheet_s, bn1_s, inb_nI ht (by decide), if_neg b2i_t, Sh_hasRun_s hs ⟨a2, a3⟩, bn1_s, hh.1, if_neg b2i_t, Sh_hasRun_s ht ⟨b2, b3⟩, bn1_s, hh.2, if_neg b2i_t, nv_83_0, gd_of (tc84 hs), nI_clamp (show s < 2 ^ 31 by omega), nv84 hs, nv_83_0, gd_of (tc84 ht), nI_clamp (show t < 2 ^ 31 by omega), nv84 ht]
    have l40 : ∀ u, u < 3 → (Tc (85 + u)).2 = 40 := by
      intro u hu
      rcases (show u = 0 ∨ u = 1 ∨ u = 2 by omega) with rfl | rfl | rfl <;> rfl
    have hg : cpb (nI a) (nI b) (nI m') (Tc (85 + s)).2 (Tc (85 + t)).2 = true := by
      unfold cpb
      rw [l40 s hs, l40 t ht, nI_clamp (by omega), nI_clamp (by omega), nI_clamp (by omega), decide_eq_false (nI_pos (by omega)), decide_eq_false (nI_pos (by omega)), decide_eq_false (nI_pos (by omega)), decide_eq_true c1, decide_eq_true d1]
      rfl
    rw [gd_of hg, bd_e, bn1_s, nI_clamp (by omega), nI_clamp (by omega), nI_clamp (by omega), mcopy_1 hs ht c1 d1]
    refine ⟨_, _, _, _, _, rfl, rfl, ?_, ?_⟩
    · intro u hu
      obtain ⟨u1, u2, u3, u4⟩ := hS u hu
      refine ⟨u1, u2, u3, fun k hk => ?_⟩
      show va_up J (85 + t) _ (85 + u) k = _
      rw [va_up_at]
      by_cases eu : u = t
      · subst eu
        rw [va_up_at]
        by_cases hin : b ≤ k ∧ k < b + m'
        · rw [pk_cpy_in hin.1 hin.2, wrs_in (by omega), wrk_lt (by omega), show 40 * u + k - (40 * u + b) = k - b by omega, show 40 * s + a + (k - b) = 40 * s + (a + (k - b)) by omega]
          exact a4 (a + (k - b)) (by omega)
        · rw [pk_cpy_out (by omega), wrs_out (by omega)]
          exact u4 k hk
      · rw [va_up_of (by omega), wrs_out (by omega)]
        exact u4 k hk
    · exact ⟨fun _ _ _ => rfl, fun x hx hy hz => va_up_of (by omega), fun _ _ _ => rfl, fun _ _ => rfl, fun x hx hy => by rw [va_up_of hx, va_up_of hy], hf⟩
  · rw [if_neg hh, if_neg hh]
    exact ⟨up2 I 0 8 2, J, up2 I2 0 0 2, J2, -12, rfl, rfl, hS, fS_fd 2⟩
