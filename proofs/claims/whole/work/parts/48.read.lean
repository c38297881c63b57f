theorem va_up_comm {α : Type} {f : Nat → α} {a b : Nat} {x y : α} (h : a ≠ b) : va_up (va_up f a x) b y = va_up (va_up f b y) a x := by
  funext c
  by_cases h1 : c = a
  · subst h1; rw [va_up_of h, va_up_at, va_up_at]
  · by_cases h2 : c = b
    · subst h2; rw [va_up_at, va_up_of h1, va_up_at]
    · rw [va_up_of h2, va_up_of h1, va_up_of h1, va_up_of h2]
theorem Pa_putNumber_a {p k : Nat} {w : Nat → Bool} {J : HJ} {v : Int64} (h : isPa p) (hk : k < 7) : Pa_putNumber (nn w) p (nI k) v J = some (va_up J (ab w p + 1) (va_up (J (ab w p + 1)) k v)) := by
  unfold Pa_putNumber Pa_putNumber_0
  rw [if_neg (n7 hk), pa_0 h, Po_put_s (isPa_ab h w), bn1_s, pput_nI hk]
theorem Pa_putNumber_b {p k : Nat} {w : Nat → Bool} {J : HJ} {v : Int64} (h : isPa p) (hk : k < 7) : Pa_putNumber (nn w) p (nI (7 + k)) v J = some (va_up J (be w p + 1) (va_up (J (be w p + 1)) k v)) := by
  unfold Pa_putNumber Pa_putNumber_0
  rw [if_pos (show (7 : Int32) ≤ nI (7 + k) from nI_le (a := 7) (by omega) (by omega)), pa_1' h, show nI (7 + k) - 7 = nI k from (pk_sub (a := 7 + k) (b := 7) (by omega)).trans (by congr 1; omega), Po_put_s (isPa_be h w), bn1_s, pput_nI hk]
/-- all numbers from k on, m of them, may stand in a wish -/
def chk (x : Nat → Int64) : Nat → Nat → Bool
  | 0, _ => true
  | m + 1, k => wn (x k) && chk x m (k + 1)
theorem chk_all {x : Nat → Int64} : ∀ m k, chk x m k = true → ∀ j, k ≤ j → j < k + m → wn (x j) = true := by
  intro m
  induction m with
  | zero => intro k _ j h1 h2; omega
  | succ m ih =>
    intro k h j h1 h2
    have h : (wn (x k) && chk x m (k + 1)) = true := h
    rw [Bool.and_eq_true] at h
    by_cases e : j = k
    · subst e; exact h.1
    · exact ih (k + 1) h.2 j (by omega) (by omega)
theorem n14 {k : Nat} (h : k < 14) : ¬ (14 : Int32) ≤ nI k := nI_ge (a := k) (b := 14) h (by decide)
theorem cread_1 {w : Nat → Bool} {I : HI} {J : HJ} {s a : Nat} (hs : s < 3) (hz : -1 ≤ (I 88 s).toInt ∧ (I 88 s).toInt ≤ 40) (ha : ((a + 14 : Nat) : Int) ≤ (I 88 s).toInt) : ∀ m k n, m + k = 14 → m < n → Lm_read_35 (nn w) 0 (nI s) (nI a) n I J (nI k) = if chk (fun j => J (85 + s) (a + j)) m k = true then Lm_read_72 (nn w) 0 (nI s) (nI a) 256 I J 0 else some (I, J, -2) := by
  intro m
  induction m with
  | zero =>
    intro k n h1 h2
    obtain ⟨n, rfl⟩ : ∃ j, n = j + 1 := ⟨n - 1, by omega⟩
    have : k = 14 := by omega
    subst this
    show Lm_read_35b (nn w) 0 (nI s) (nI a) (Lm_read_35 (nn w) 0 (nI s) (nI a) n) I J _ = _
    unfold Lm_read_35b
    rw [if_pos (by decide)]
    rfl
  | succ m ih =>
    intro k n h1 h2
    obtain ⟨n, rfl⟩ : ∃ j, n = j + 1 := ⟨n - 1, by omega⟩
    show Lm_read_35b (nn w) 0 (nI s) (nI a) (Lm_read_35 (nn w) 0 (nI s) (nI a) n) I J _ = _
    unfold Lm_read_35b
    rw [if_neg (n14 (by omega)), nv_0_6, nI_add, Sh_item_s hs hz (by omega) (by omega), bn1_s, Lm_isWishNumber_s, bn1_s, nI_1, ih (k + 1) n (by omega) (by omega)]
    show _ = if (wn (J (85 + s) (a + k)) && chk (fun j => J (85 + s) (a + j)) m (k + 1)) = true then _ else _
    cases wn (J (85 + s) (a + k)) <;> rfl
theorem mread_1 {I : HI} {J : HJ} {s a : Nat} (hs : s < 3) (ha : a + 14 ≤ 40) : ∀ m k n, m + k = 14 → m < n → Mo_read_55 J N_m 0 (nI s) (nI a) n I (nI k) = if chk (fun j => J 2 (40 * s + (a + j))) m k = true then Mo_read_97 J N_m 0 (nI s) (nI a) 256 I 0 else some (I, -2) := by
  intro m
  induction m with
  | zero =>
    intro k n h1 h2
    obtain ⟨n, rfl⟩ : ∃ j, n = j + 1 := ⟨n - 1, by omega⟩
    have : k = 14 := by omega
    subst this
    show Mo_read_55b J N_m 0 (nI s) (nI a) (Mo_read_55 J N_m 0 (nI s) (nI a) n) I _ = _
    unfold Mo_read_55b
    rw [if_pos (by decide)]
    rfl
  | succ m ih =>
    intro k n h1 h2
    obtain ⟨n, rfl⟩ : ∃ j, n = j + 1 := ⟨n - 1, by omega⟩
    show Mo_read_55b J N_m 0 (nI s) (nI a) (Mo_read_55 J N_m 0 (nI s) (nI a) n) I _ = _
    unfold Mo_read_55b
    rw [if_neg (n14 (by omega)), mv_2, i40, nI_add, gd_of (tm2 (by omega)), nI_clamp (by omega), Mo_in_9, bn1_s, nI_1, ih (k + 1) n (by omega) (by omega), show 40 * s + a + k = 40 * s + (a + k) by omega]
    show _ = if (wn (J 2 (40 * s + (a + k))) && chk (fun j => J 2 (40 * s + (a + j))) m (k + 1)) = true then _ else _
    cases wn (J 2 (40 * s + (a + k))) <;> rfl
theorem chk_congr {x y : Nat → Int64} : ∀ m k, (∀ j, j < k + m → x j = y j) → chk x m k = chk y m k := by
  intro m
  induction m with
  | zero => intro k _; rfl
  | succ m ih =>
    intro k h
    show (wn (x k) && chk x m (k + 1)) = (wn (y k) && chk y m (k + 1))
    rw [h k (by omega), ih (k + 1) (fun j hj => h j (by omega))]
/-- the rows of the wish with k numbers read -/
def rdk (J : HJ) (ra rb k : Nat) (x : Nat → Int64) : HJ := va_up (va_up J ra (wrk (min k 7) (J ra) x)) rb (wrk (k - 7) (J rb) (fun j => x (7 + j)))
theorem cread_2 {w : Nat → Bool} {I : HI} {J : HJ} {s a : Nat} (hs : s < 3) (hz : -1 ≤ (I 88 s).toInt ∧ (I 88 s).toInt ≤ 40) (ha : ((a + 14 : Nat) : Int) ≤ (I 88 s).toInt) : Lm_read_72 (nn w) 0 (nI s) (nI a) 256 I J 0 = some (I, rdk J (ab w 1 + 1) (be w 1 + 1) 14 (fun j => J (85 + s) (a + j)), 14) := by
  have hne : ab w 1 + 1 ≠ be w 1 + 1 := by rcases ab1 (w := w) with ⟨a, b⟩ | ⟨a, b⟩ <;> omega
  have ha3 : ab w 1 + 1 ≤ 5 := by rcases ab1 (w := w) with ⟨a, b⟩ | ⟨a, b⟩ <;> omega
  have hb3 : be w 1 + 1 ≤ 5 := by rcases ab1 (w := w) with ⟨a, b⟩ | ⟨a, b⟩ <;> omega
  have key := up_loop (fun n (S : HI × HJ) x => Lm_read_72 (nn w) 0 (nI s) (nI a) n S.1 S.2 x) (fun k => (I, rdk J (ab w 1 + 1) (be w 1 + 1) k (fun j => J (85 + s) (a + j)))) (some (I, rdk J (ab w 1 + 1) (be w 1 + 1) 14 (fun j => J (85 + s) (a + j)), 14)) 14 (fun n k hk => ?_) (fun n => ?_) 256 0 (by decide) (by decide)
  · have e0 : rdk J (ab w 1 + 1) (be w 1 + 1) 0 (fun j => J (85 + s) (a + j)) = J := by
      unfold rdk
      rw [show min 0 7 = 0 from rfl, show 0 - 7 = 0 from rfl, wrk_0, wrk_0, va_up_id, va_up_id]
    rw [e0] at key
    exact key
  · show Lm_read_72b (nn w) 0 (nI s) (nI a) (Lm_read_72 (nn w) 0 (nI s) (nI a) n) I (rdk J (ab w 1 + 1) (be w 1 + 1) k (fun j => J (85 + s) (a + j))) (nI k) = Lm_read_72 (nn w) 0 (nI s) (nI a) n I (rdk J (ab w 1 + 1) (be w 1 + 1) (k + 1) (fun j => J (85 + s) (a + j))) (nI (k + 1))
    unfold Lm_read_72b
    have er : rdk J (ab w 1 + 1) (be w 1 + 1) k (fun j => J (85 + s) (a + j)) (85 + s) = J (85 + s) := by
      unfold rdk
      rw [va_up_of (by omega), va_up_of (by omega)]
    rw [if_neg (n14 hk), nv_0_0, nv_0_6, nI_add, Sh_item_s hs hz (by omega) (by omega), bn1_s, er, nI_1]
    by_cases h7 : k < 7
    · rw [Pa_putNumber_a pa_1 h7, bn1_s]
      congr 1
      unfold rdk
      rw [show min k 7 = k by omega, show min (k + 1) 7 = k + 1 by omega, show k - 7 = 0 by omega, show k + 1 - 7 = 0 by omega, wrk_0, va_up_of hne, va_up_at, va_up_comm (Ne.symm hne), va_up_va, wrk_s (g := fun j => J (85 + s) (a + j))]
    · obtain ⟨k', rfl⟩ : ∃ k', k = 7 + k' := ⟨k - 7, by omega⟩
      rw [Pa_putNumber_b pa_1 (by omega), bn1_s]
      congr 1
      unfold rdk
      rw [show min (7 + k') 7 = 7 by omega, show min (7 + k' + 1) 7 = 7 by omega, show 7 + k' - 7 = k' by omega, show 7 + k' + 1 - 7 = k' + 1 by omega, va_up_at, va_up_va, wrk_s (g := fun j => J (85 + s) (a + (7 + j)))]
  · show Lm_read_72b (nn w) 0 (nI s) (nI a) (Lm_read_72 (nn w) 0 (nI s) (nI a) n) I _ (nI 14) = _
    unfold Lm_read_72b
    rw [if_pos (by decide)]
theorem mread_2 {I : HI} {J : HJ} {s a : Nat} (hs : s < 3) (ha : a + 14 ≤ 40) : Mo_read_97 J N_m 0 (nI s) (nI a) 256 I 0 = some (va_up I 4 (wrk 14 (I 4) (fun j => (J 2 (40 * s + (a + j))).toInt32)), 14) := by
  have key := up_loop (fun n I x => Mo_read_97 J N_m 0 (nI s) (nI a) n I x) (fun k => va_up I 4 (wrk k (I 4) (fun j => (J 2 (40 * s + (a + j))).toInt32))) (some (va_up I 4 (wrk 14 (I 4) (fun j => (J 2 (40 * s + (a + j))).toInt32)), 14)) 14 (fun n k hk => ?_) (fun n => ?_) 256 0 (by decide) (by decide)
  · rw [wrk_0, va_up_id] at key
    exact key
  · show Mo_read_97b J N_m 0 (nI s) (nI a) (Mo_read_97 J N_m 0 (nI s) (nI a) n) _ (nI k) = _
    unfold Mo_read_97b
    rw [if_neg (n14 hk), mv_4, mv_2, i40, nI_add, gd_of (tm2 (by omega)), tm4, gd_of (inb_nI hk (by decide)), bd_e, nI_clamp (by omega), nI_clamp (by omega), up2_va, nI_1, show 40 * s + a + k = 40 * s + (a + k) by omega, ← wrk_s]
  · show Mo_read_97b J N_m 0 (nI s) (nI a) (Mo_read_97 J N_m 0 (nI s) (nI a) n) _ (nI 14) = _
    unfold Mo_read_97b
    rw [if_pos (by decide)]
theorem wn_32 {x : Int64} (h : wn x = true) : x.toInt32.toInt64 = x ∧ -9 ≤ x.toInt32.toInt ∧ x.toInt32.toInt ≤ 9 := by
  have h := of_decide_eq_true h
  have e : x.toInt32.toInt = x.toInt := by
    rw [Int64.toInt_toInt32]
    exact Int.bmod_eq_of_le (by omega) (by omega)
  refine ⟨?_, by omega, by omega⟩
  apply Int64.toInt_inj.mp
  rw [Int32.toInt_toInt64, e]
/-- what read leaves as it was -/
def fR (I I' : HI) (J J' : HJ) (I2 I2' : HI) : Prop := (∀ a, a ≠ 0 → I' a = I a) ∧ (∀ a, a ≠ 3 → a ≠ 5 → J' a = J a) ∧ (∀ a, a ≠ 0 → a ≠ 4 → I2' a = I2 a) ∧ (∀ k, k ≠ 0 → I2' 0 k = I2 0 k) ∧ I' 0 8 = I2' 0 0
theorem fR_fd {I : HI} {J : HJ} {I2 : HI} (x : Int32) : fR I (up2 I 0 8 x) J J I2 (up2 I2 0 0 x) := by
  refine ⟨fun a h => up2_of h, fun _ _ _ => rfl, fun a h _ => up2_of h, fun k h => ?_, ?_⟩
  · rw [up2_at, va_up_of h]
  · rw [up2_at, va_up_at, up2_at, va_up_at]
theorem fR_rf {I : HI} {J : HJ} {I2 : HI} (h : I 0 8 = I2 0 0) : fR I I J J I2 I2 := ⟨fun _ _ => rfl, fun _ _ _ => rfl, fun _ _ _ => rfl, fun _ _ => rfl, h⟩
theorem read_ok {w : Nat → Bool} {I I2 : HI} {J J2 : HJ} (hW : RW (J (ab w 1 + 1)) (J (be w 1 + 1)) (I2 4)) (hS : RS (I 88) (I2 1) (fun s => J (85 + s)) (J2 2)) (hf : I 0 8 = I2 0 0) (p i : Int32) : ∃ (I' : HI) (J' : HJ) (I2' : HI) (r : Int32), Lm_read (nn w) 0 p i I J = some (I', J', r) ∧ Mo_read J2 N_m 0 p i I2 = some (I2', r) ∧ RW (J' (ab w 1 + 1)) (J' (be w 1 + 1)) (I2' 4) ∧ fR I I' J J' I2 I2' := by
  unfold Lm_read Lm_read_0 Mo_read Mo_read_0
  rw [Mo_isSheet_s, bn1_s]
  rcases inb_cases p (n := 3) (by decide) with hb | ⟨s, hs, rfl⟩
  · rw [hb, if_pos b2i_f, sr_bad hb, bn2_s, if_neg (by decide)]
    exact ⟨I, J, I2, -2, rfl, rfl, hW, fR_rf hf⟩
  · obtain ⟨h1, h2, h3, h4⟩ := hS s hs
    rw [inb_nI hs (by decide), if_neg b2i_t, mv_1, gd_of (tm1 hs), nI_clamp (show s < 2 ^ 31 by omega)]
    by_cases e : I 88 s = -1
    · rw [sr_lost hs e, bn2_s, if_neg (by decide), if_pos (h1 ▸ e)]
      exact ⟨up2 I 0 8 1, J, up2 I2 0 0 1, -11, rfl, rfl, hW, fR_fd 1⟩
    · have e2 : ¬ I2 1 s = -1 := fun q => e (h1.trans q)
      rw [sr_ok hs e, bn2_s, if_pos rfl, nv_0_6, Sh_hasRun_s hs ⟨h2, h3⟩, bn1_s, if_neg e2, mv_1, gd_of (tm1 hs)]
      have c1 : (i.toInt64 + 14 ≤ (I2 1 s).toInt64) ↔ i.toInt + 14 ≤ (I2 1 s).toInt := by
        rw [show (14 : Int64) = (14 : Int32).toInt64 from rfl, Int64.le_iff_toInt_le, add64, Int32.toInt_toInt64]
        rfl
      have cn : i < 0 ↔ i.toInt < 0 := by rw [Int32.lt_iff_toInt_lt, i32_0]
      have c14 : (14 : Int32).toInt = 14 := rfl
      have hx : Mo_read_47 J2 N_m 0 (nI s) i I2 = some (up2 I2 0 0 2, -12) := rfl
      cases hh : hr (I 88 s) i 14 with
      | false =>
        have hn := of_decide_eq_false hh
        rw [c14] at hn
        refine ⟨up2 I 0 8 2, J, up2 I2 0 0 2, -12, ?_, ?_, hW, fR_fd 2⟩
        · rw [if_pos b2i_f]; rfl
        · rw [hx]
          by_cases q : i < 0
          · rw [if_pos q]
          · rw [if_neg q]
            have q' : ¬ i.toInt < 0 := fun z => q (cn.mpr z)
            rw [if_neg (fun z => by have := c1.mp z; rw [← h1] at this; omega)]
      | true =>
        obtain ⟨a, m, rfl, hm, g1, g2⟩ := hr_n hh h3
        have hm14 : m = 14 := ((nI_eq (a := 14) (by decide) (by omega)).mp hm).symm
        subst hm14
        rw [if_neg b2i_t, if_neg (nI_pos (by omega)), if_pos (c1.mpr (by rw [← h1, nI_toInt (by omega)]; omega)), show (0 : Int32) = nI 0 from rfl, cread_1 hs ⟨h2, h3⟩ (by omega) 14 0 256 (by decide) (by decide), mread_1 hs g1 14 0 256 (by decide) (by decide)]
        have hx2 : ∀ j, j < 0 + 14 → J (85 + s) (a + j) = J2 2 (40 * s + (a + j)) := fun j hj => h4 (a + j) (by omega)
        rw [chk_congr (x := fun j => J (85 + s) (a + j)) (y := fun j => J2 2 (40 * s + (a + j))) 14 0 hx2]
        cases hc : chk (fun j => J2 2 (40 * s + (a + j))) 14 0 with
        | false =>
          rw [if_neg (by decide), if_neg (by decide)]
          exact ⟨I, J, I2, -2, rfl, rfl, hW, fR_rf hf⟩
        | true =>
          rw [if_pos rfl, if_pos rfl, cread_2 hs ⟨h2, h3⟩ (by omega), mread_2 hs g1]
          have hall := chk_all 14 0 hc
          have hne : ab w 1 + 1 ≠ be w 1 + 1 := by rcases ab1 (w := w) with ⟨a, b⟩ | ⟨a, b⟩ <;> omega
          refine ⟨_, _, _, _, rfl, rfl, ?_, ?_⟩
          · rw [va_up_at]
            unfold rdk
            rw [va_up_of hne, va_up_at, va_up_at]
            refine ⟨fun j hj => ?_, fun j hj => ?_, fun j hj => ?_⟩
            · rw [wrk_lt (by omega), wrk_lt (by omega), (wn_32 (hall j (by omega) (by omega))).1]
              exact hx2 j (by omega)
            · rw [wrk_lt (by omega), wrk_lt (by omega), (wn_32 (hall (7 + j) (by omega) (by omega))).1]
              exact hx2 (7 + j) (by omega)
            · rw [wrk_lt hj]
              exact (wn_32 (hall j (by omega) (by omega))).2
          · refine ⟨fun _ _ => rfl, fun x h3 h5 => ?_, fun x _ hx => va_up_of hx, fun k _ => ?_, ?_⟩
            · unfold rdk
              rw [va_up_of (by rcases ab1 (w := w) with ⟨a, b⟩ | ⟨a, b⟩ <;> omega), va_up_of (by rcases ab1 (w := w) with ⟨a, b⟩ | ⟨a, b⟩ <;> omega)]
            · rw [va_up_of (by decide)]
            · rw [va_up_of (by decide)]; exact hf
