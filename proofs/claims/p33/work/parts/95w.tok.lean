/-! the other tokens of the text -/
theorem skT_all {p : Nat → Bool} {b : Nat → Nat} : ∀ (k a n : Nat), k ≤ n → (∀ j, j < k → p (b (a + j)) = true) → (k = n ∨ ¬ p (b (a + k)) = true) → skT p b n a = a + k
  | 0, a, n, _, _, h => by
    cases n with
    | zero => rfl
    | succ n => exact skT_0 (by
        rcases h with h | h
        · omega
        · exact h)
  | k + 1, a, n, hn, h1, h2 => by
    obtain ⟨q, rfl⟩ : ∃ q, n = q + 1 := ⟨n - 1, by omega⟩
    rw [skT_1 (show p (b a) = true from h1 0 (by omega)), skT_all k (a + 1) q (by omega) (fun j hj => by rw [show a + 1 + j = a + (j + 1) by omega]; exact h1 (j + 1) (by omega)) (by
      rcases h2 with h | h
      · exact .inl (by omega)
      · exact .inr (by rw [show a + 1 + k = a + (k + 1) by omega]; exact h))]
    omega
theorem tok_end {L a : Nat} {b : Nat → Nat} (ha : a ≤ L) (h : ∀ j, a ≤ j → j < L → b j = 32) : tok L b a = (L, L, 0, 0) := by
  unfold tok
  rw [skT_all (L - a) a (L - a) (Nat.le_refl _) (fun j hj => by rw [h _ (by omega) (by omega)]; rfl) (.inl rfl), if_pos (by omega)]
theorem tok_word {L k : Nat} {b : Nat → Nat} (hk : 1 ≤ k) (hL : k < L) (h : ∀ j, j < k → ltr (b j) = true) (he : ¬ ltr (b k) = true) : tok L b 0 = (k, 0, 1, 0) := by
  have h0 := h 0 (by omega)
  have e1 : skT blk b (L - 0) 0 = 0 := by
    rw [skT_all 0 0 (L - 0) (by omega) (fun j hj => by omega) (.inr (by
      show ¬ blk (b 0) = true
      unfold ltr at h0
      unfold blk
      simp at h0 ⊢
      omega))]
  unfold tok
  rw [e1, if_neg (by omega), if_pos h0, skT_all k 0 (L - 0) (by omega) (fun j hj => by rw [Nat.zero_add]; exact h j hj) (.inr (by rw [Nat.zero_add]; exact he)), Nat.zero_add]
theorem tok_semi {L a : Nat} {b : Nat → Nat} (ha : a < L) (h : b a = 59) : tok L b a = (a + 1, a, 3, 0) := by
  have e1 : skT blk b (L - a) a = a := by
    rw [skT_all 0 a (L - a) (by omega) (fun j hj => by omega) (.inr (by rw [Nat.add_zero, h]; decide)), Nat.add_zero]
  unfold tok
  rw [e1, h, if_neg (by omega), if_neg (by decide), if_neg (by decide)]
  rfl
