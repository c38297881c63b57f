/-- way 0 reads the wish as it stands, way 1 from its end -/
def sg (p : Nat) (k : Nat) : Nat := if p = 0 then k else 6 - k
theorem mdiv_2 {I : HI} {J : HJ} {p : Nat} (hp : p < 2) : Mo_divides N_m 0 (nI p) I J = Mo_divides_2b N_m 0 (nI p) (fun _ _ _ => none) I (va_up (va_up J 7 (wrk 7 (J 7) (fun k => wA (I 4) (sg p k)))) 8 (wrk 7 (J 8) (fun k => wB (I 4) (sg p k)))) (nI 7) := by
  unfold Mo_divides Mo_divides_0
  have key := up_loop (fun n (S : HJ) y => Mo_divides_2 N_m 0 (nI p) n I S y) (fun k => va_up (va_up J 7 (wrk k (J 7) (fun k => wA (I 4) (sg p k)))) 8 (wrk k (J 8) (fun k => wB (I 4) (sg p k)))) (Mo_divides_2b N_m 0 (nI p) (fun _ _ _ => none) I (va_up (va_up J 7 (wrk 7 (J 7) (fun k => wA (I 4) (sg p k)))) 8 (wrk 7 (J 8) (fun k => wB (I 4) (sg p k)))) (nI 7)) 7 (fun n k hk => ?_) (fun n => ?_) 256 0 (by decide) (by decide)
  · rw [wrk_0, wrk_0, va_up_id, va_up_id] at key
    exact key
  · show Mo_divides_2b N_m 0 (nI p) (Mo_divides_2 N_m 0 (nI p) n) I _ (nI k) = _
    have go : ∀ t, t < 7 → t = sg p k → Mo_divides_20 N_m 0 (nI p) (Mo_divides_2 N_m 0 (nI p) n) I (va_up (va_up J 7 (wrk k (J 7) (fun k => wA (I 4) (sg p k)))) 8 (wrk k (J 8) (fun k => wB (I 4) (sg p k)))) (nI k) (nI t) = Mo_divides_2 N_m 0 (nI p) n I (va_up (va_up J 7 (wrk (k + 1) (J 7) (fun k => wA (I 4) (sg p k)))) 8 (wrk (k + 1) (J 8) (fun k => wB (I 4) (sg p k)))) (nI (k + 1)) := by
      intro t ht et
      unfold Mo_divides_20
      rw [mv_11, mv_4, gd_of (tm4i (by omega)), gd_of (tm7 hk), bd_e, mv_12, mv_4, s7, gd_of (tm4i (by omega)), gd_of (tm8 hk), bd_e, nI_clamp (by omega), nI_clamp (by omega), nI_clamp (by omega), up2_skip (by decide), up2_va, nI_1]
      have e1 : va_up (wrk k (J 7) (fun k => wA (I 4) (sg p k))) k (I 4 t).toInt64 = wrk (k + 1) (J 7) (fun k => wA (I 4) (sg p k)) := by
        rw [← wrk_s (i := k), ← et]; rfl
      have e2 : va_up (wrk k (J 8) (fun k => wB (I 4) (sg p k))) k (I 4 (7 + t)).toInt64 = wrk (k + 1) (J 8) (fun k => wB (I 4) (sg p k)) := by
        rw [← wrk_s (i := k), ← et]; rfl
      rw [e1, e2]
    unfold Mo_divides_2b
    rw [if_neg (n7 hk)]
    rcases (show p = 0 ∨ p = 1 by omega) with rfl | rfl
    · rw [if_pos (by decide)]
      exact go k hk rfl
    · rw [if_neg (by decide), show (6 : Int32) - nI k = nI (6 - k) from nI_sub (a := 6) (by omega)]
      exact go (6 - k) (by omega) rfl
  · show Mo_divides_2b N_m 0 (nI p) (Mo_divides_2 N_m 0 (nI p) n) I _ (nI 7) = _
    unfold Mo_divides_2b
    rw [if_pos (by decide), if_pos (by decide)]
