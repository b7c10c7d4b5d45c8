/-! the told text's letters -/
theorem cat_lo {t s : Nat → Int} {n j : Nat} (h : j < n) : catI t n s j = t j := if_pos h
theorem cat_hi {t s : Nat → Int} {n j i : Nat} (h : j = n + i) : catI t n s j = s i := by
  subst h
  unfold catI
  rw [if_neg (by omega), Nat.add_sub_cancel_left]
theorem lets_at {t : Nat → Int} {n j d : Nat} (hj : j < n) (h : t j = (d : Int)) : lets t n j = d := by
  have e : wch t n j = (d : Int) := (if_pos hj).trans h
  exact (congrArg Int.toNat e).trans rfl
theorem lets_bl {t : Nat → Int} {n j : Nat} (hj : n ≤ j) : lets t n j = 32 := by
  have e : wch t n j = 32 := if_neg (by omega)
  exact (congrArg Int.toNat e).trans rfl
theorem bgn_eq (N H K T : Nat) : bgnT N H K T = 5 + 1 + sb_dg N + 1 + sb_dg H + 1 + sb_dg K + 1 + sb_dg T + 1 := by
  unfold bgnT
  rw [show zsLen.getD 10 0 = 6 by decide, show zsLen.getD 11 0 = 1 by decide, show zsLen.getD 12 0 = 1 by decide]
theorem bgt_ch (N H K T : Nat) : (∀ j, j < 6 → bgtT N H K T j = zsb 10 j) ∧ (∀ j, j < sb_dg N → bgtT N H K T (5 + 1 + j) = ((sb_dec N j : Nat) : Int)) ∧ bgtT N H K T (5 + 1 + sb_dg N) = ((32 : Nat) : Int) ∧ (∀ j, j < sb_dg H → bgtT N H K T (5 + 1 + sb_dg N + 1 + j) = ((sb_dec H j : Nat) : Int)) ∧ bgtT N H K T (5 + 1 + sb_dg N + 1 + sb_dg H) = ((32 : Nat) : Int) ∧ (∀ j, j < sb_dg K → bgtT N H K T (5 + 1 + sb_dg N + 1 + sb_dg H + 1 + j) = ((sb_dec K j : Nat) : Int)) ∧ bgtT N H K T (5 + 1 + sb_dg N + 1 + sb_dg H + 1 + sb_dg K) = ((32 : Nat) : Int) ∧ (∀ j, j < sb_dg T → bgtT N H K T (5 + 1 + sb_dg N + 1 + sb_dg H + 1 + sb_dg K + 1 + j) = ((sb_dec T j : Nat) : Int)) ∧ bgtT N H K T (5 + 1 + sb_dg N + 1 + sb_dg H + 1 + sb_dg K + 1 + sb_dg T) = ((59 : Nat) : Int) := by
  have zA : zsb 11 0 = ((32 : Nat) : Int) := by decide +kernel
  have zB : zsb 12 0 = ((59 : Nat) : Int) := by decide +kernel
  unfold bgtT
  rw [show zsLen.getD 10 0 = 6 by decide, show zsLen.getD 11 0 = 1 by decide]
  refine ⟨fun j hj => ?_, fun j hj => ?_, ?_, fun j hj => ?_, ?_, fun j hj => ?_, ?_, fun j hj => ?_, ?_⟩
  · rw [cat_lo (by omega), cat_lo (by omega), cat_lo (by omega), cat_lo (by omega), cat_lo (by omega), cat_lo (by omega), cat_lo (by omega), cat_lo (by omega), cat_hi (i := j) (by omega)]
  · rw [cat_lo (by omega), cat_lo (by omega), cat_lo (by omega), cat_lo (by omega), cat_lo (by omega), cat_lo (by omega), cat_lo (by omega), cat_hi (i := j) (by omega)]
    rfl
  · rw [cat_lo (by omega), cat_lo (by omega), cat_lo (by omega), cat_lo (by omega), cat_lo (by omega), cat_lo (by omega), cat_hi (i := 0) (by omega)]
    exact zA
  · rw [cat_lo (by omega), cat_lo (by omega), cat_lo (by omega), cat_lo (by omega), cat_lo (by omega), cat_hi (i := j) (by omega)]
    rfl
  · rw [cat_lo (by omega), cat_lo (by omega), cat_lo (by omega), cat_lo (by omega), cat_hi (i := 0) (by omega)]
    exact zA
  · rw [cat_lo (by omega), cat_lo (by omega), cat_lo (by omega), cat_hi (i := j) (by omega)]
    rfl
  · rw [cat_lo (by omega), cat_lo (by omega), cat_hi (i := 0) (by omega)]
    exact zA
  · rw [cat_lo (by omega), cat_hi (i := j) (by omega)]
    rfl
  · rw [cat_hi (i := 0) (by omega)]
    exact zB
theorem dg_lt {w : Nat} (h : w < 1000000) : w < 10 ^ sb_dg w := by
  unfold sb_dg
  (repeat' split) <;> omega
theorem wm_of {b : Nat → Nat} {s u : Nat} : ∀ k i, (∀ j, i ≤ j → j < i + k → (b (s + j) : Int) = zsb u j) → wmF b s u k i = true
  | 0, _, _ => rfl
  | k + 1, i, h => by
    show (decide ((b (s + i) : Int) = zsb u i) && wmF b s u k (i + 1)) = true
    rw [decide_eq_true (h i (by omega) (by omega)), Bool.true_and]
    exact wm_of k (i + 1) (fun j h1 h2 => h j (by omega) (by omega))
theorem zz_10 : ∀ j, j < 5 → ltr (zsb 10 j).toNat = true ∧ (((zsb 10 j).toNat : Nat) : Int) = zsb 1 j ∧ zsb 10 j = (((zsb 10 j).toNat : Nat) : Int) := by decide +kernel
theorem told_t {N H K T L : Nat} (hN : N < 1000000) (hH : 7 ≤ H ∧ H ≤ 10) (hK : K ≤ 20) (hT : 20 ≤ T ∧ T ≤ 500) (hL : bgnT N H K T ≤ L) : told L (lets (bgtT N H K T) (bgnT N H K T)) N H K T := by
  obtain ⟨q0, q1, q2, q3, q4, q5, q6, q7, q8⟩ := bgt_ch N H K T
  have d1 := dg_le (w := N) (k := 6) (by omega)
  have d2 := dg_le (w := H) (k := 2) (by omega)
  have d3 := dg_le (w := K) (k := 2) (by omega)
  have d4 := dg_le (w := T) (k := 3) (by omega)
  have l1 := dg_lt (w := N) (by omega)
  have l2 := dg_lt (w := H) (by omega)
  have l3 := dg_lt (w := K) (by omega)
  have l4 := dg_lt (w := T) (by omega)
  have hn := bgn_eq N H K T
  have hbl : ∀ j, bgnT N H K T ≤ j → lets (bgtT N H K T) (bgnT N H K T) j = 32 := fun j hj => lets_bl hj
  have a0 : ∀ j, j < 5 → lets (bgtT N H K T) (bgnT N H K T) j = (zsb 10 j).toNat := fun j hj => lets_at (by omega) ((q0 j (by omega)).trans (zz_10 j hj).2.2)
  have a5 : lets (bgtT N H K T) (bgnT N H K T) 5 = 32 := lets_at (by omega) ((q0 5 (by omega)).trans (show zsb 10 5 = ((32 : Nat) : Int) by decide +kernel))
  have a1 : ∀ j, j < sb_dg N → lets (bgtT N H K T) (bgnT N H K T) (5 + 1 + j) = 48 + N / 10 ^ (sb_dg N - 1 - j) % 10 := fun j hj => lets_at (by omega) (q1 j hj)
  have b1 : lets (bgtT N H K T) (bgnT N H K T) (5 + 1 + sb_dg N) = 32 := lets_at (by omega) q2
  have a2 : ∀ j, j < sb_dg H → lets (bgtT N H K T) (bgnT N H K T) (5 + 1 + sb_dg N + 1 + j) = 48 + H / 10 ^ (sb_dg H - 1 - j) % 10 := fun j hj => lets_at (by omega) (q3 j hj)
  have b2 : lets (bgtT N H K T) (bgnT N H K T) (5 + 1 + sb_dg N + 1 + sb_dg H) = 32 := lets_at (by omega) q4
  have a3 : ∀ j, j < sb_dg K → lets (bgtT N H K T) (bgnT N H K T) (5 + 1 + sb_dg N + 1 + sb_dg H + 1 + j) = 48 + K / 10 ^ (sb_dg K - 1 - j) % 10 := fun j hj => lets_at (by omega) (q5 j hj)
  have b3 : lets (bgtT N H K T) (bgnT N H K T) (5 + 1 + sb_dg N + 1 + sb_dg H + 1 + sb_dg K) = 32 := lets_at (by omega) q6
  have a4 : ∀ j, j < sb_dg T → lets (bgtT N H K T) (bgnT N H K T) (5 + 1 + sb_dg N + 1 + sb_dg H + 1 + sb_dg K + 1 + j) = 48 + T / 10 ^ (sb_dg T - 1 - j) % 10 := fun j hj => lets_at (by omega) (q7 j hj)
  have b4 : lets (bgtT N H K T) (bgnT N H K T) (5 + 1 + sb_dg N + 1 + sb_dg H + 1 + sb_dg K + 1 + sb_dg T) = 59 := lets_at (by omega) q8
  generalize lets (bgtT N H K T) (bgnT N H K T) = b at *
  clear q0 q1 q2 q3 q4 q5 q6 q7 q8
  have n32 : ¬ fig 32 = true := by decide
  have n59 : ¬ fig 59 = true := by decide
  have m32 : ¬ ltr 32 = true := by decide
  refine ⟨5 + 1 + sb_dg N, 5 + 1 + sb_dg N + 1 + sb_dg H, 5 + 1 + sb_dg N + 1 + sb_dg H + 1 + sb_dg K, 5 + 1 + sb_dg N + 1 + sb_dg H + 1 + sb_dg K + 1 + sb_dg T, 5 + 1 + sb_dg N + 1 + sb_dg H + 1 + sb_dg K + 1 + sb_dg T + 1, _, _, _, _, _, ?_, tok_num ⟨d1.1, by omega⟩ l1 (by omega) a5 a1 (by rw [b1]; exact n32), tok_num ⟨d2.1, by omega⟩ l2 (by omega) b1 a2 (by rw [b2]; exact n32), tok_num ⟨d3.1, by omega⟩ l3 (by omega) b2 a3 (by rw [b3]; exact n32), tok_num ⟨d4.1, by omega⟩ l4 (by omega) b3 a4 (by rw [b4]; exact n59), tok_semi (by omega) b4, tok_end (by omega) (fun j h1 _ => hbl j (by omega)), by omega, by omega, ?_, by omega, hH, hK, hT⟩
  · exact tok_word (by omega) (by omega) (fun j hj => by rw [a0 j hj]; exact (zz_10 j hj).1) (by rw [a5]; exact m32)
  · exact wm_of (zsLen.getD 1 0) 0 (fun j _ h2 => by
      have hj : j < 5 := h2
      rw [Nat.zero_add, a0 j hj]
      exact (zz_10 j hj).2.1)
