/-- sheets of class and reference: the same sizes, the same items below them -/
def RS (z z2 : Nat → Int32) (r : Nat → Nat → Int64) (it : Nat → Int64) : Prop := ∀ s, s < 3 → z s = z2 s ∧ -1 ≤ (z s).toInt ∧ (z s).toInt ≤ 40 ∧ ∀ i : Nat, (i : Int) < (z s).toInt → r s i = it (40 * s + i)
/-- what a call of sheets leaves as it was -/
def fS (I I' : HI) (J J' : HJ) (I2 I2' : HI) (J2 J2' : HJ) : Prop := (∀ a, a ≠ 88 → a ≠ 0 → I' a = I a) ∧ (∀ a, a ≠ 85 → a ≠ 86 → a ≠ 87 → J' a = J a) ∧ (∀ a, a ≠ 0 → a ≠ 1 → I2' a = I2 a) ∧ (∀ k, k ≠ 0 → I2' 0 k = I2 0 k) ∧ (∀ a, a ≠ 2 → a ≠ 3 → J2' a = J2 a) ∧ I' 0 8 = I2' 0 0
theorem fS_rf {I : HI} {J : HJ} {I2 : HI} {J2 : HJ} (h : I 0 8 = I2 0 0) : fS I I J J I2 I2 J2 J2 := ⟨fun _ _ _ => rfl, fun _ _ _ _ => rfl, fun _ _ _ => rfl, fun _ _ => rfl, fun _ _ _ => rfl, h⟩
theorem fS_fd {I : HI} {J : HJ} {I2 : HI} {J2 : HJ} (x : Int32) : fS I (up2 I 0 8 x) J J I2 (up2 I2 0 0 x) J2 J2 := by
  refine ⟨fun a _ h => up2_of h, fun _ _ _ _ => rfl, fun a h _ => up2_of h, fun k h => ?_, fun _ _ _ => rfl, ?_⟩
  · rw [up2_at, va_up_of h]
  · rw [up2_at, va_up_at, up2_at, va_up_at]
theorem b2i_f : b2i false = 0 := rfl
theorem b2i_t : ¬ b2i true = 0 := by decide
theorem n3 {s : Nat} (h : s < 3) : ¬ (3 : Int32) ≤ nI s := nI_ge (a := s) (b := 3) h (by decide)
theorem inb_cases (p : Int32) {n : Nat} (hn : n < 2 ^ 31) : inb p n = false ∨ ∃ s, s < n ∧ p = nI s := by
  cases h : inb p n with
  | false => exact Or.inl rfl
  | true => exact Or.inr (vp_in_of (inb_in h) hn)
theorem Sh_isSheet_s {a : Nat} (p : Int32) : Sh_isSheet a p = some (b2i (inb p 3)) := by
  unfold Sh_isSheet Sh_isSheet_0
  by_cases h0 : p < 0
  · rw [if_pos h0]; unfold inb; rw [decide_eq_true h0]; rfl
  · rw [if_neg h0]
    obtain ⟨j, hj, rfl⟩ := nI_of h0
    by_cases h1 : j < 3
    · rw [if_neg (n3 h1), inb_nI h1 (by decide)]; rfl
    · rw [if_pos (show (3 : Int32) ≤ nI j from nI_le (a := 3) (by omega) hj)]
      unfold inb
      rw [nI_clamp hj, decide_eq_false h1, Bool.and_false]; rfl
theorem Mo_isSheet_s (p : Int32) : Mo_isSheet p = some (b2i (inb p 3)) := by
  unfold Mo_isSheet Mo_isSheet_0
  rw [Mo_in_s, Int32.toInt_toInt64, show (0 : Int64).toInt = 0 from rfl, show (2 : Int64).toInt = ((2 : Nat) : Int) from rfl, in_nI (by decide), bn1_s, gd_of (isB_b _)]
theorem Sh_size_s {w : Nat → Bool} {I : HI} {s : Nat} (h : s < 3) : Sh_size I (nn w) 83 (nI s) = some (I 88 s) := by
  unfold Sh_size Sh_size_0
  rw [Sh_isSheet_s, bn1_s, inb_nI h (by decide), if_neg (by decide), nv_83_1, gd_of (show inb (nI s) (Tc 88).2 = true from inb_nI h (by decide)), nI_clamp (by omega)]
theorem Sh_isLost_s {w : Nat → Bool} {I : HI} {s : Nat} (h : s < 3) : Sh_isLost I (nn w) 83 (nI s) = some (b2i (decide (I 88 s = -1))) := by
  unfold Sh_isLost Sh_isLost_0
  rw [Sh_size_s h, bn1_s]
  by_cases e : I 88 s = -1
  · rw [if_pos e, decide_eq_true e]; rfl
  · rw [if_neg e, decide_eq_false e]; rfl
theorem sr_bad {w : Nat → Bool} {I : HI} {p : Int32} (h : inb p 3 = false) : Lm_sheetRefusal (nn w) 0 p I = some (I, -2) := by
  unfold Lm_sheetRefusal Lm_sheetRefusal_0
  rw [nv_0_6, Sh_isSheet_s, bn1_s, h, if_pos b2i_f]
theorem sr_lost {w : Nat → Bool} {I : HI} {s : Nat} (h : s < 3) (e : I 88 s = -1) : Lm_sheetRefusal (nn w) 0 (nI s) I = some (up2 I 0 8 1, -11) := by
  unfold Lm_sheetRefusal Lm_sheetRefusal_0
  rw [nv_0_6, Sh_isSheet_s, bn1_s, inb_nI h (by decide), if_neg (by decide), nv_0_6, Sh_isLost_s h, bn1_s, decide_eq_true e, if_neg (by decide)]
  rfl
theorem sr_ok {w : Nat → Bool} {I : HI} {s : Nat} (h : s < 3) (e : ¬ I 88 s = -1) : Lm_sheetRefusal (nn w) 0 (nI s) I = some (I, 0) := by
  unfold Lm_sheetRefusal Lm_sheetRefusal_0
  rw [nv_0_6, Sh_isSheet_s, bn1_s, inb_nI h (by decide), if_neg (by decide), nv_0_6, Sh_isLost_s h, bn1_s, decide_eq_false e, if_pos b2i_f]
theorem tm1 {s : Nat} (h : s < 3) : inb (nI s) (Tm 1).2 = true := inb_nI h (by decide)
theorem tc88 {s : Nat} (h : s < 3) : inb (nI s) (Tc 88).2 = true := inb_nI h (by decide)
-- lose
theorem lose_ok {w : Nat → Bool} {I I2 : HI} {J J2 : HJ} (hS : RS (I 88) (I2 1) (fun s => J (85 + s)) (J2 2)) (hf : I 0 8 = I2 0 0) (p : Int32) : ∃ (I' I2' : HI) (r : Int32), Lm_lose (nn w) 0 p I = some (I', r) ∧ Mo_lose N_m 0 p I2 = some (I2', r) ∧ RS (I' 88) (I2' 1) (fun s => J (85 + s)) (J2 2) ∧ fS I I' J J I2 I2' J2 J2 := by
  rcases inb_cases p (n := 3) (by decide) with hb | ⟨s, hs, rfl⟩
  · refine ⟨I, I2, -2, ?_, ?_, hS, fS_rf hf⟩
    · unfold Lm_lose Lm_lose_0
      rw [sr_bad hb, bn2_s, if_neg (by decide)]
    · unfold Mo_lose Mo_lose_0
      rw [Mo_isSheet_s, bn1_s, hb, if_pos b2i_f]
  · by_cases e : I 88 s = -1
    · refine ⟨up2 I 0 8 1, up2 I2 0 0 1, -11, ?_, ?_, hS, fS_fd 1⟩
      · unfold Lm_lose Lm_lose_0
        rw [sr_lost hs e, bn2_s, if_neg (by decide)]
      · unfold Mo_lose Mo_lose_0
        rw [Mo_isSheet_s, bn1_s, inb_nI hs (by decide), if_neg (by decide), mv_1, gd_of (tm1 hs), nI_clamp (by omega), if_pos ((hS s hs).1 ▸ e)]
        rfl
    · refine ⟨up2 I 88 s (-1), up2 I2 1 s (-1), I 88 s, ?_, ?_, ?_, ?_⟩
      · unfold Lm_lose Lm_lose_0 Sh_forget Sh_forget_0
        rw [sr_ok hs e, bn2_s, if_pos rfl, nv_0_6, Sh_size_s hs, bn1_s, nv_0_6, Sh_isSheet_s, inb_nI hs (by decide), bn1_s, if_neg (by decide), nv_83_1, gd_of (tc88 hs), nI_clamp (by omega)]
        rfl
      · unfold Mo_lose Mo_lose_0
        rw [Mo_isSheet_s, bn1_s, inb_nI hs (by decide), if_neg (by decide), mv_1, gd_of (tm1 hs), nI_clamp (by omega), if_neg (fun q => e ((hS s hs).1.trans q)), mv_1, gd_of (tm1 hs), bd_e, mv_1, gd_of (tm1 hs), bd_e, (hS s hs).1]
      · intro t ht
        rw [up2_at, up2_at]
        by_cases et : t = s
        · subst et
          rw [va_up_at, va_up_at]
          exact ⟨rfl, by decide, by decide, fun i hi => absurd hi (by rw [show (-1 : Int32).toInt = -1 from rfl]; omega)⟩
        · rw [va_up_of et, va_up_of et]
          exact hS t ht
      · refine ⟨fun a h _ => up2_of h, fun _ _ _ _ => rfl, fun a _ h => up2_of h, fun k _ => ?_, fun _ _ _ => rfl, ?_⟩
        · rw [up2_of (by decide)]
        · rw [up2_of (by decide), up2_of (by decide)]; exact hf

theorem sub_toInt {a b : Int32} (h1 : -(2 ^ 31 : Int) ≤ a.toInt - b.toInt) (h2 : a.toInt - b.toInt < 2 ^ 31) : (a - b).toInt = a.toInt - b.toInt := by
  rw [Int32.toInt_sub]
  exact Int.bmod_eq_of_le (by omega) (by omega)
theorem ir (x : Int32) : -(2 ^ 31 : Int) ≤ x.toInt ∧ x.toInt < 2 ^ 31 := ⟨Int32.le_toInt x, Int32.toInt_lt x⟩
/-- there are n items from i on, of z -/
def hr (z i n : Int32) : Bool := decide (0 ≤ i.toInt ∧ 0 ≤ n.toInt ∧ n.toInt ≤ 40 ∧ i.toInt + n.toInt ≤ z.toInt)
theorem Sh_hasRun_s {w : Nat → Bool} {I : HI} {s : Nat} (h : s < 3) (hz : -1 ≤ (I 88 s).toInt ∧ (I 88 s).toInt ≤ 40) (i n : Int32) : Sh_hasRun I (nn w) 83 (nI s) i n = some (b2i (hr (I 88 s) i n)) := by
  unfold Sh_hasRun Sh_hasRun_0 hr
  have hi := ir i
  have hn := ir n
  have c40 : (40 : Int32).toInt = 40 := rfl
  by_cases h1 : i < 0
  · have := Int32.lt_iff_toInt_lt.mp h1
    rw [i32_0] at this
    rw [if_pos h1, decide_eq_false (fun q => by omega)]; rfl
  · have h1' : ¬ i.toInt < 0 := fun q => h1 (Int32.lt_iff_toInt_lt.mpr (by rw [i32_0]; exact q))
    rw [if_neg h1]
    by_cases h2 : n < 0
    · have := Int32.lt_iff_toInt_lt.mp h2
      rw [i32_0] at this
      rw [if_pos h2, decide_eq_false (fun q => by omega)]; rfl
    · have h2' : ¬ n.toInt < 0 := fun q => h2 (Int32.lt_iff_toInt_lt.mpr (by rw [i32_0]; exact q))
      rw [if_neg h2]
      by_cases h3 : (40 : Int32) < n
      · have := Int32.lt_iff_toInt_lt.mp h3
        rw [c40] at this
        rw [if_pos h3, decide_eq_false (fun q => by omega)]; rfl
      · have h3' : ¬ 40 < n.toInt := fun q => h3 (Int32.lt_iff_toInt_lt.mpr (by rw [c40]; exact q))
        rw [if_neg h3, Sh_size_s h, bn1_s]
        have hs := sub_toInt (a := I 88 s) (b := n) (by omega) (by omega)
        by_cases h4 : I 88 s - n < i
        · have := Int32.lt_iff_toInt_lt.mp h4
          rw [hs] at this
          rw [if_pos h4, decide_eq_false (fun q => by omega)]; rfl
        · have h4' : ¬ (I 88 s).toInt - n.toInt < i.toInt := fun q => h4 (Int32.lt_iff_toInt_lt.mpr (by rw [hs]; exact q))
          rw [if_neg h4, decide_eq_true ⟨by omega, by omega, by omega, by omega⟩]; rfl
theorem i40 (s k : Nat) : (40 : Int32) * nI s + nI k = nI (40 * s + k) := by
  rw [show (40 : Int32) = nI 40 from rfl, pk_mul, nI_add]
theorem nv84 {R : Type} {w : Nat → Bool} {K : Nat → Option R} {s : Nat} (h : s < 3) : ra Tc nC (nn w 84 s) 2 K = K (85 + s) := by
  rcases (show s = 0 ∨ s = 1 ∨ s = 2 by omega) with rfl | rfl | rfl
  · exact nv_84_0
  · exact nv_84_1
  · exact nv_84_2
theorem tc85 {s k : Nat} (h : s < 3) (hk : k < 40) : inb (nI k) (Tc (85 + s)).2 = true := by
  rcases (show s = 0 ∨ s = 1 ∨ s = 2 by omega) with rfl | rfl | rfl <;> exact inb_nI hk (by decide)
theorem tc84 {s : Nat} (h : s < 3) : inb (nI s) (Tc 84).2 = true := inb_nI h (by decide)
theorem tm2 {k : Nat} (h : k < 120) : inb (nI k) (Tm 2).2 = true := inb_nI h (by decide)
/-- an index of an item: a number below the size -/
theorem hr_1 {z i : Int32} (hz : z.toInt ≤ 40) (h : hr z i 1 = true) : ∃ k : Nat, k < 40 ∧ i = nI k ∧ (k : Int) < z.toInt := by
  unfold hr at h
  have h := of_decide_eq_true h
  rw [show (1 : Int32).toInt = 1 from rfl] at h
  have hn : ¬ i < 0 := fun q => by have := Int32.lt_iff_toInt_lt.mp q; rw [i32_0] at this; omega
  obtain ⟨j, hj, rfl⟩ := nI_of hn
  rw [nI_toInt hj] at h
  exact ⟨j, by omega, rfl, by omega⟩
theorem hr_lt {z : Int32} {k : Nat} (hk : k < 40) (h : (k : Int) < z.toInt) : hr z (nI k) 1 = true := by
  unfold hr
  rw [nI_toInt (by omega), show (1 : Int32).toInt = 1 from rfl]
  exact decide_eq_true ⟨by omega, by omega, by omega, by omega⟩
theorem n40 {k : Nat} (h : k < 40) : ¬ (40 : Int32) ≤ nI k := nI_ge (a := k) (b := 40) h (by decide)
theorem Sh_item_s {w : Nat → Bool} {I : HI} {J : HJ} {s k : Nat} (h : s < 3) (hz : -1 ≤ (I 88 s).toInt ∧ (I 88 s).toInt ≤ 40) (hk : k < 40) (hl : (k : Int) < (I 88 s).toInt) : Sh_item I J (nn w) 83 (nI s) (nI k) = some (J (85 + s) k) := by
  unfold Sh_item Sh_item_0
  rw [Sh_isSheet_s, bn1_s, inb_nI h (by decide), if_neg b2i_t, Sh_hasRun_s h hz, bn1_s, hr_lt hk hl, if_neg b2i_t, if_neg (n40 hk), nv_83_0, gd_of (tc84 h), nI_clamp (by omega), nv84 h, gd_of (tc85 h hk), nI_clamp (by omega)]
theorem Sh_put_s {w : Nat → Bool} {I : HI} {J : HJ} {s k : Nat} {v : Int64} (h : s < 3) (hz : -1 ≤ (I 88 s).toInt ∧ (I 88 s).toInt ≤ 40) (hk : k < 40) (hl : (k : Int) < (I 88 s).toInt) : Sh_put I (nn w) 83 (nI s) (nI k) v J = some (up2 J (85 + s) k v) := by
  unfold Sh_put Sh_put_0
  rw [Sh_isSheet_s, bn1_s, inb_nI h (by decide), if_neg b2i_t, Sh_hasRun_s h hz, bn1_s, hr_lt hk hl, if_neg b2i_t, if_neg (n40 hk), nv_83_0, gd_of (tc84 h), nI_clamp (by omega), nv84 h, gd_of (tc85 h hk), nI_clamp (by omega), bd_e]
theorem ir_bad {w : Nat → Bool} {I : HI} {p i : Int32} (h : inb p 3 = false) : Lm_itemRefusal (nn w) 0 p i I = some (I, -2) := by
  unfold Lm_itemRefusal Lm_itemRefusal_0
  rw [sr_bad h, bn2_s, if_neg (by decide)]
theorem ir_lost {w : Nat → Bool} {I : HI} {s : Nat} {i : Int32} (h : s < 3) (e : I 88 s = -1) : Lm_itemRefusal (nn w) 0 (nI s) i I = some (up2 I 0 8 1, -11) := by
  unfold Lm_itemRefusal Lm_itemRefusal_0
  rw [sr_lost h e, bn2_s, if_neg (by decide)]
theorem ir_out {w : Nat → Bool} {I : HI} {s : Nat} {i : Int32} (h : s < 3) (hz : -1 ≤ (I 88 s).toInt ∧ (I 88 s).toInt ≤ 40) (e : ¬ I 88 s = -1) (hh : hr (I 88 s) i 1 = false) : Lm_itemRefusal (nn w) 0 (nI s) i I = some (up2 I 0 8 2, -12) := by
  unfold Lm_itemRefusal Lm_itemRefusal_0
  rw [sr_ok h e, bn2_s, if_pos rfl, nv_0_6, Sh_hasRun_s h hz, bn1_s, hh, if_pos b2i_f]
  rfl
theorem ir_ok {w : Nat → Bool} {I : HI} {s : Nat} {i : Int32} (h : s < 3) (hz : -1 ≤ (I 88 s).toInt ∧ (I 88 s).toInt ≤ 40) (e : ¬ I 88 s = -1) (hh : hr (I 88 s) i 1 = true) : Lm_itemRefusal (nn w) 0 (nI s) i I = some (I, 0) := by
  unfold Lm_itemRefusal Lm_itemRefusal_0
  rw [sr_ok h e, bn2_s, if_pos rfl, nv_0_6, Sh_hasRun_s h hz, bn1_s, hh, if_neg b2i_t]
/-- the reference's test of an item -/
theorem lk_lost {I : HI} {s : Nat} {i : Int32} (h : s < 3) (e : I 1 s = -1) : Mo_lacks N_m 0 (nI s) i I = some (up2 I 0 0 1, -11) := by
  unfold Mo_lacks Mo_lacks_0
  rw [mv_1, gd_of (tm1 h), nI_clamp (by omega), if_pos e]
  rfl
theorem lk_in {z i : Int32} (hz : -1 ≤ z.toInt ∧ z.toInt ≤ 40) : Mo_in i.toInt64 0 (z - 1).toInt64 = some (b2i (hr z i 1)) := by
  rw [Mo_in_s, Int32.toInt_toInt64, Int32.toInt_toInt64, sub_toInt (by rw [show (1 : Int32).toInt = 1 from rfl]; omega) (by rw [show (1 : Int32).toInt = 1 from rfl]; omega)]
  unfold hr
  rw [show (0 : Int64).toInt = 0 from rfl, show (1 : Int32).toInt = 1 from rfl]
  congr 2
  apply decide_eq_decide.mpr
  omega
theorem lk_out {I : HI} {s : Nat} {i : Int32} (h : s < 3) (hz : -1 ≤ (I 1 s).toInt ∧ (I 1 s).toInt ≤ 40) (e : ¬ I 1 s = -1) (hh : hr (I 1 s) i 1 = false) : Mo_lacks N_m 0 (nI s) i I = some (up2 I 0 0 2, -12) := by
  unfold Mo_lacks Mo_lacks_0
  rw [mv_1, gd_of (tm1 h), nI_clamp (by omega), if_neg e, mv_1, gd_of (tm1 h), lk_in hz, bn1_s, hh, if_pos b2i_f]
  rfl
theorem lk_ok {I : HI} {s : Nat} {i : Int32} (h : s < 3) (hz : -1 ≤ (I 1 s).toInt ∧ (I 1 s).toInt ≤ 40) (e : ¬ I 1 s = -1) (hh : hr (I 1 s) i 1 = true) : Mo_lacks N_m 0 (nI s) i I = some (I, 0) := by
  unfold Mo_lacks Mo_lacks_0
  rw [mv_1, gd_of (tm1 h), nI_clamp (by omega), if_neg e, mv_1, gd_of (tm1 h), lk_in hz, bn1_s, hh, if_neg b2i_t]
/-- one item of class and reference becomes the same -/
theorem RS_put {z z2 : Nat → Int32} {J : HJ} {it : Nat → Int64} {s k : Nat} {v : Int64} (hS : RS z z2 (fun s => J (85 + s)) it) (hs : s < 3) (hk : k < 40) : RS z z2 (fun t => up2 J (85 + s) k v (85 + t)) (va_up it (40 * s + k) v) := by
  intro t ht
  obtain ⟨h1, h2, h3, h4⟩ := hS t ht
  refine ⟨h1, h2, h3, fun i hi => ?_⟩
  show up2 J (85 + s) k v (85 + t) i = _
  by_cases e : t = s
  · subst e
    rw [up2_at]
    by_cases ei : i = k
    · subst ei; rw [va_up_at, va_up_at]
    · rw [va_up_of ei, va_up_of (by omega)]; exact h4 i hi
  · rw [up2_of (by omega), va_up_of (by omega)]; exact h4 i hi
theorem lay_ok {w : Nat → Bool} {I I2 : HI} {J J2 : HJ} (hS : RS (I 88) (I2 1) (fun s => J (85 + s)) (J2 2)) (hf : I 0 8 = I2 0 0) (p i v : Int32) : ∃ (I' : HI) (J' : HJ) (I2' : HI) (J2' : HJ) (r : Int32), Lm_lay (nn w) 0 p i v I J = some (I', J', r) ∧ Mo_lay N_m 0 p i v I2 J2 = some (I2', J2', r) ∧ RS (I' 88) (I2' 1) (fun s => J' (85 + s)) (J2' 2) ∧ fS I I' J J' I2 I2' J2 J2' := by
  unfold Lm_lay Lm_lay_0 Mo_lay Mo_lay_0
  rw [Mo_isSheet_s, bn1_s]
  rcases inb_cases p (n := 3) (by decide) with hb | ⟨s, hs, rfl⟩
  · rw [hb, if_pos b2i_f, ir_bad hb, bn2_s, if_neg (by decide)]
    exact ⟨I, J, I2, J2, -2, rfl, rfl, hS, fS_rf hf⟩
  · obtain ⟨h1, h2, h3, h4⟩ := hS s hs
    rw [inb_nI hs (by decide), if_neg b2i_t]
    by_cases e : I 88 s = -1
    · rw [ir_lost hs e, bn2_s, if_neg (by decide), lk_lost hs (h1 ▸ e), bn2_s, if_neg (by decide)]
      exact ⟨_, J, _, J2, -11, rfl, rfl, hS, fS_fd 1⟩
    · have e2 : ¬ I2 1 s = -1 := fun q => e (h1.trans q)
      cases hh : hr (I 88 s) i 1 with
      | false =>
        rw [ir_out hs ⟨h2, h3⟩ e hh, bn2_s, if_neg (by decide), lk_out hs (h1 ▸ ⟨h2, h3⟩) e2 (h1 ▸ hh), bn2_s, if_neg (by decide)]
        exact ⟨_, J, _, J2, -12, rfl, rfl, hS, fS_fd 2⟩
      | true =>
        obtain ⟨k, hk, rfl, hlt⟩ := hr_1 h3 hh
        rw [ir_ok hs ⟨h2, h3⟩ e hh, bn2_s, if_pos rfl, nv_0_6, Sh_put_s hs ⟨h2, h3⟩ hk hlt, bn1_s, lk_ok hs (h1 ▸ ⟨h2, h3⟩) e2 (h1 ▸ hh), bn2_s, if_pos rfl, mv_2, i40, gd_of (tm2 (by omega)), nI_clamp (by omega), bd_e]
        refine ⟨I, up2 J (85 + s) k v.toInt64, I2, up2 J2 2 (40 * s + k) v.toInt64, 1, rfl, rfl, ?_, ?_⟩
        · rw [up2_at]
          exact RS_put hS hs hk
        · exact ⟨fun _ _ _ => rfl, fun a ha hb hc => up2_of (by omega), fun _ _ _ => rfl, fun _ _ => rfl, fun a ha _ => up2_of ha, hf⟩
