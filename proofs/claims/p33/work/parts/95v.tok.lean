/-! a number's token -/
theorem skV_dec {b : Nat → Nat} {s w d : Nat} (hd : d ≤ 9) (hb : ∀ j, j < d → b (s + j) = 48 + w / 10 ^ (d - 1 - j) % 10) (he : ¬ fig (b (s + d)) = true) : ∀ r k, r ≤ d → r < k → skV b s k (s + (d - r)) (w / 10 ^ r) = (s + d, w)
  | 0, k, _, hk => by
    obtain ⟨q, rfl⟩ : ∃ q, k = q + 1 := ⟨k - 1, by omega⟩
    show (if fig (b (s + (d - 0))) = true then _ else _) = _
    rw [Nat.sub_zero, if_neg he, Nat.pow_zero, Nat.div_one]
  | r + 1, k, hr, hk => by
    obtain ⟨q, rfl⟩ : ∃ q, k = q + 1 := ⟨k - 1, by omega⟩
    have h1 := hb (d - (r + 1)) (by omega)
    rw [show d - 1 - (d - (r + 1)) = r by omega] at h1
    have h2 : w / 10 ^ r % 10 < 10 := Nat.mod_lt _ (by omega)
    have h3 : w / 10 ^ (r + 1) = w / 10 ^ r / 10 := by rw [Nat.pow_succ, Nat.div_div_eq_div_mul]
    have ih := skV_dec hd hb he r q (by omega) (by omega)
    have hf : fig (b (s + (d - (r + 1)))) = true := by
      rw [h1]
      unfold fig
      simp
      omega
    show (if fig (b (s + (d - (r + 1)))) = true then (if 9 ≤ s + (d - (r + 1)) - s then _ else skV b s q (s + (d - (r + 1)) + 1) (w / 10 ^ (r + 1) * 10 + (b (s + (d - (r + 1))) - 48))) else _) = _
    rw [if_pos hf, if_neg (by omega), h1, h3, show s + (d - (r + 1)) + 1 = s + (d - r) by omega, show w / 10 ^ r / 10 * 10 + (48 + w / 10 ^ r % 10 - 48) = w / 10 ^ r by omega]
    exact ih
theorem tok_num {L a w d : Nat} {b : Nat → Nat} (hd : 1 ≤ d ∧ d ≤ 9) (hw : w < 10 ^ d) (hL : a + 1 + d < L) (h0 : b a = 32) (hb : ∀ j, j < d → b (a + 1 + j) = 48 + w / 10 ^ (d - 1 - j) % 10) (he : ¬ fig (b (a + 1 + d)) = true) : tok L b a = (a + 1 + d, a + 1, 2, w) := by
  have h1 := hb 0 (by omega)
  have h2 : w / 10 ^ (d - 1 - 0) % 10 < 10 := Nat.mod_lt _ (by omega)
  rw [Nat.add_zero] at h1
  have e1 : skT blk b (L - a) a = a + 1 := by
    obtain ⟨q, hq⟩ : ∃ q, L - a = q + 1 + 1 := ⟨L - a - 2, by omega⟩
    rw [hq, skT_1 (by rw [h0]; rfl), skT_0 (by rw [h1]; unfold blk; simp; omega)]
  have hv : skV b (a + 1) (L - (a + 1)) (a + 1) 0 = (a + 1 + d, w) := by
    have := skV_dec (s := a + 1) hd.2 hb he d (L - (a + 1)) (Nat.le_refl _) (by omega)
    rw [Nat.sub_self, Nat.add_zero, Nat.div_eq_of_lt hw] at this
    exact this
  unfold tok
  rw [e1, if_neg (by omega), if_neg (by rw [h1]; unfold ltr; simp; omega), if_pos (by rw [h1]; unfold fig; simp; omega), hv]
  show (a + 1 + d, a + 1, (if 9 < a + 1 + d - (a + 1) then 4 else 2), w) = _
  rw [if_neg (by omega)]
