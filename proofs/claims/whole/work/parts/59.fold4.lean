def apr (f g h : Nat → Int64) : Nat → (Nat → Int64)
  | 0 => f
  | i + 1 => wrs i (7 - i) (apr f g h i) (fun t => apr f g h i (i + t) + g i * h t)
theorem apr_11 {a b c : Nat} {w : Nat → Bool} {J : HJ} {F : Nat → Int64} {K : HJ → Int32 → Option HJ} {i : Nat} (ha : isPo a) (hb : isPo b) (hc : isPo c) (hab : b ≠ a) (hac : c ≠ a) (hi : i < 7) : Po_addProduct_11 (nn w) a b c K 256 (va_up J (a + 1) F) (nI i) 0 = K (va_up J (a + 1) (wrs i (7 - i) F (fun t => F (i + t) + J (b + 1) i * J (c + 1) t))) (nI (i + 1)) := by
  have key := up_loop (fun n (S : HJ) y => Po_addProduct_11 (nn w) a b c K n S (nI i) y) (fun k => va_up J (a + 1) (wrs i k F (fun t => F (i + t) + J (b + 1) i * J (c + 1) t))) (K (va_up J (a + 1) (wrs i (7 - i) F (fun t => F (i + t) + J (b + 1) i * J (c + 1) t))) (nI (i + 1))) (7 - i) (fun n k hk => ?_) (fun n => ?_) 256 0 (by omega) (by omega)
  · rw [wrs_0] at key
    exact key
  · show Po_addProduct_11b (nn w) a b c K (Po_addProduct_11 (nn w) a b c K n) _ (nI i) (nI k) = _
    unfold Po_addProduct_11b
    have e7 : ∀ q, q < 7 → inb (nI q) (Tc (a + 1)).2 = true := fun q hq => by rw [po_ln ha]; exact inb_nI hq (by decide)
    rw [nI_add, if_neg (n7 (by omega)), po_ra ha, gd_of (e7 _ (by omega)), po_ra hb, gd_of (by rw [po_ln hb]; exact inb_nI hi (by decide)), po_ra hc, gd_of (by rw [po_ln hc]; exact inb_nI (by omega) (by decide)), gd_of (e7 _ (by omega)), bd_e, nI_clamp (by omega), nI_clamp (by omega), nI_clamp (by omega), va_up_at, va_up_of (show b + 1 ≠ a + 1 by omega), va_up_of (show c + 1 ≠ a + 1 by omega), up2_va, wrs_out (by omega), nI_1, Nat.add_comm k i, wrs_s (g := fun t => F (i + t) + J (b + 1) i * J (c + 1) t)]
  · show Po_addProduct_11b (nn w) a b c K (Po_addProduct_11 (nn w) a b c K n) _ (nI i) (nI (7 - i)) = _
    unfold Po_addProduct_11b
    rw [nI_add, show 7 - i + i = 7 by omega, if_pos (by decide), nI_1]
def psum (g h : Nat → Int64) (k : Nat) : Nat → Int64
  | 0 => 0
  | n + 1 => psum g h k n + g n * h (k - n)
theorem apr_k {f g h : Nat → Int64} {k : Nat} (hk : k < 7) : ∀ i, i ≤ 7 → apr f g h i k = f k + psum g h k (min i (k + 1))
  | 0, _ => by show f k = f k + psum g h k (min 0 (k + 1)); rw [Nat.zero_min]; exact (Int64.add_zero _).symm
  | i + 1, hi => by
    have ih := apr_k (f := f) (g := g) (h := h) hk i (by omega)
    show wrs i (7 - i) (apr f g h i) (fun t => apr f g h i (i + t) + g i * h t) k = _
    by_cases e : i ≤ k
    · rw [wrs_in (by omega), show i + (k - i) = k by omega, ih, show min i (k + 1) = i by omega, show min (i + 1) (k + 1) = i + 1 by omega]
      show f k + psum g h k i + _ = f k + (psum g h k i + _)
      rw [Int64.add_assoc]
    · rw [wrs_out (by omega), ih, show min i (k + 1) = k + 1 by omega, show min (i + 1) (k + 1) = k + 1 by omega]
theorem Po_addProduct_s {a b c : Nat} {w : Nat → Bool} {J : HJ} (ha : isPo a) (hb : isPo b) (hc : isPo c) (hab : b ≠ a) (hac : c ≠ a) : Po_addProduct (nn w) a b c J = some (va_up J (a + 1) (apr (J (a + 1)) (J (b + 1)) (J (c + 1)) 7)) := by
  have key := up_loop (fun n (S : HJ) y => Po_addProduct_2 (nn w) a b c n S y) (fun k => va_up J (a + 1) (apr (J (a + 1)) (J (b + 1)) (J (c + 1)) k)) (some (va_up J (a + 1) (apr (J (a + 1)) (J (b + 1)) (J (c + 1)) 7))) 7 (fun n k hk => ?_) (fun n => ?_) 256 0 (by decide) (by decide)
  · dsimp only [apr] at key
    rw [va_up_id] at key
    exact key
  · show Po_addProduct_2b (nn w) a b c (Po_addProduct_2 (nn w) a b c n) _ (nI k) = _
    unfold Po_addProduct_2b
    rw [if_neg (n7 hk), apr_11 ha hb hc hab hac hk]
    rfl
  · show Po_addProduct_2b (nn w) a b c (Po_addProduct_2 (nn w) a b c n) _ (nI 7) = _
    unfold Po_addProduct_2b
    rw [if_pos (by decide)]
theorem psum_c3 {g h : Nat → Int64} {k : Nat} (hk : k < 7) (hz : ∀ j, 3 ≤ j → j < 7 → h j = 0) : psum g h k (k + 1) = c3 g h k := by
  have z0 : ∀ x : Int64, 0 + x = x := fun x => Int64.zero_add x
  have z1 : ∀ x : Int64, x + 0 = x := fun x => Int64.add_zero x
  have z2 : ∀ x : Int64, x * 0 = 0 := fun x => Int64.mul_zero
  have h3 := hz 3 (by decide) (by decide)
  have h4 := hz 4 (by decide) (by decide)
  have h5 := hz 5 (by decide) (by decide)
  have h6 := hz 6 (by decide) (by decide)
  rcases (show k = 0 ∨ k = 1 ∨ k = 2 ∨ k = 3 ∨ k = 4 ∨ k = 5 ∨ k = 6 by omega) with rfl | rfl | rfl | rfl | rfl | rfl | rfl <;> simp [psum, c3, h3, h4, h5, h6, z0, z1, z2] <;> ac_rfl
theorem psum_3c {g h : Nat → Int64} {k : Nat} (hk : k < 7) (hz : ∀ j, 3 ≤ j → j < 7 → g j = 0) : psum g h k (k + 1) = c3 h g k := by
  have z0 : ∀ x : Int64, 0 + x = x := fun x => Int64.zero_add x
  have z1 : ∀ x : Int64, x + 0 = x := fun x => Int64.add_zero x
  have z2 : ∀ x : Int64, 0 * x = 0 := fun x => Int64.zero_mul
  have h3 := hz 3 (by decide) (by decide)
  have h4 := hz 4 (by decide) (by decide)
  have h5 := hz 5 (by decide) (by decide)
  have h6 := hz 6 (by decide) (by decide)
  rcases (show k = 0 ∨ k = 1 ∨ k = 2 ∨ k = 3 ∨ k = 4 ∨ k = 5 ∨ k = 6 by omega) with rfl | rfl | rfl | rfl | rfl | rfl | rfl <;> simp [psum, c3, h3, h4, h5, h6, z0, z1, z2] <;> ac_rfl
theorem Pa_load_d {p q : Nat} {w : Nat → Bool} {J : HJ} (h : isPa p) (h2 : isPa q) (hpq : q + 3 < p + 1 ∨ p + 3 < q + 1) : Pa_load (nn w) p q J = some (va_up (va_up J (ab w p + 1) (wrk 7 (J (ab w p + 1)) (J (ab w q + 1)))) (be w p + 1) (wrk 7 (J (be w p + 1)) (J (be w q + 1)))) := by
  have hp := ab_be (w := w) (p := p)
  have hq := ab_be (w := w) (p := q)
  unfold Pa_load Pa_load_0
  rw [pa_0 h, pa_0 h2, Po_load_s (isPa_ab h w) (isPa_ab h2 w) (by omega), bn1_s, pa_1' h, pa_1' h2, Po_load_s (isPa_be h w) (isPa_be h2 w) (by omega), bn1_s, va_up_of (show be w p + 1 ≠ ab w p + 1 by omega), va_up_of (show be w q + 1 ≠ ab w p + 1 by omega)]
/-- what the folder leaves as it was -/
def fD (J J' : HJ) : Prop := ∀ r, r < 17 ∨ 29 < r → J' r = J r
theorem fD_tr {J J' J'' : HJ} (h : fD J J') (h2 : fD J' J'') : fD J J'' := fun a ha => (h2 a ha).trans (h a ha)
theorem cadd_R {w : Nat → Bool} {J : HJ} {a b u d : Nat → Int64} (hR : RR 7 (J (ab w 15 + 1)) (J (be w 15 + 1)) (a, b)) (hU : RR 7 (J (ab w 20 + 1)) (J (be w 20 + 1)) (u, d)) (zu : ∀ j, 3 ≤ j → u j = 0) (zd : ∀ j, 3 ≤ j → d j = 0) : ∃ J' : HJ, Fo_addArm (nn w) 14 J = some J' ∧ RR 7 (J' (ab w 15 + 1)) (J' (be w 15 + 1)) (sA u d a b, c3 b d) ∧ fD J J' := by
  have q1 := ab_be (w := w) (p := 15)
  have q2 := ab_be (w := w) (p := 20)
  have q3 := ab_be (w := w) (p := 25)
  unfold Fo_addArm Fo_addArm_0
  rw [nv_14_2, pa_0 pa_25, Po_clear_s (isPa_ab pa_25 w), bn1_s, nv_14_2, pa_0 pa_25, nv_14_0, pa_0 pa_15, nv_14_1, pa_1' pa_20, Po_addProduct_s (isPa_ab pa_25 w) (isPa_ab pa_15 w) (isPa_be pa_20 w) (by omega) (by omega), bn1_s, nv_14_2, pa_0 pa_25, nv_14_1, pa_0 pa_20, nv_14_0, pa_1' pa_15, Po_addProduct_s (isPa_ab pa_25 w) (isPa_ab pa_20 w) (isPa_be pa_15 w) (by omega) (by omega), bn1_s, nv_14_2, pa_1' pa_25, Po_clear_s (isPa_be pa_25 w), bn1_s, nv_14_2, pa_1' pa_25, nv_14_0, pa_1' pa_15, nv_14_1, pa_1' pa_20, Po_addProduct_s (isPa_be pa_25 w) (isPa_be pa_15 w) (isPa_be pa_20 w) (by omega) (by omega), bn1_s, nv_14_0, nv_14_2, Pa_load_d pa_15 pa_25 (by omega), bn1_s]
  refine ⟨_, rfl, ⟨fun k hk => ?_, fun k hk => ?_⟩, fun r hr => ?_⟩
  · rw [va_up_of (show ab w 15 + 1 ≠ be w 15 + 1 by omega), va_up_at, wrk_lt hk]
    simp only [va_up_va, va_up_at]
    rw [va_up_of (show ab w 25 + 1 ≠ be w 25 + 1 by omega), va_up_at, apr_k hk 7 (by omega), apr_k hk 7 (by omega), wrk_lt hk, show min 7 (k + 1) = k + 1 by omega]
    rw [va_up_of (show ab w 15 + 1 ≠ ab w 25 + 1 by omega), va_up_of (show be w 20 + 1 ≠ ab w 25 + 1 by omega), va_up_of (show ab w 20 + 1 ≠ ab w 25 + 1 by omega), va_up_of (show be w 15 + 1 ≠ ab w 25 + 1 by omega)]
    rw [psum_c3 hk (fun j h1 h2 => (hU.2 j h2).trans (zd j h1)), psum_3c hk (fun j h1 h2 => (hU.1 j h2).trans (zu j h1)), Int64.zero_add]
    exact sA_congr hk hR.1 hR.2 (fun j hj => hU.1 j (by omega)) (fun j hj => hU.2 j (by omega))
  · rw [va_up_at, wrk_lt hk]
    simp only [va_up_va, va_up_at]
    rw [apr_k hk 7 (by omega), wrk_lt hk, show min 7 (k + 1) = k + 1 by omega]
    rw [va_up_of (show be w 15 + 1 ≠ be w 25 + 1 by omega), va_up_of (show be w 20 + 1 ≠ be w 25 + 1 by omega), va_up_of (show be w 15 + 1 ≠ ab w 25 + 1 by omega), va_up_of (show be w 20 + 1 ≠ ab w 25 + 1 by omega)]
    rw [psum_c3 hk (fun j h1 h2 => (hU.2 j h2).trans (zd j h1)), Int64.zero_add]
    exact c3_congr hk hR.2 (fun j hj => hU.2 j (by omega))
  · rw [va_up_of (by omega), va_up_of (by omega), va_up_of (by omega), va_up_of (by omega), va_up_of (by omega), va_up_of (by omega), va_up_of (by omega)]
