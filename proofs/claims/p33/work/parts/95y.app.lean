/-! twenty letters appended -/
theorem TBc_c {σ : Mm} {L : Nat} {b t : Nat → Nat} (h : TBc σ L b) (e : ∀ i, i < L → t i = b i) : TBc σ L t := ⟨h.1, h.2.1, fun i hi => by rw [e i hi]; exact h.2.2 i hi⟩
theorem four_t {σ : Mm} {L : Nat} {t : Nat → Nat} (h : TBc σ L t) (hL : L + 4 ≤ 500) (ht : ∀ j, j < 4 → t (L + j) < 128) : ∃ σ', x_X3_writeFour σ ((wd4 (t L) (t (L + 1)) (t (L + 2)) (t (L + 3)) : Nat) : Int) = some σ' ∧ TBc σ' (L + 4) t := by
  obtain ⟨σ', e1, e2⟩ := four_let h hL (ht 0 (by omega)) (ht 1 (by omega)) (ht 2 (by omega)) (ht 3 (by omega))
  refine ⟨σ', e1, TBc_c e2 (fun i hi => ?_)⟩
  by_cases w3 : i = L + 3
  · rw [if_pos w3, w3]
  · rw [if_neg w3]
    by_cases w2 : i = L + 2
    · rw [if_pos w2, w2]
    · rw [if_neg w2]
      by_cases w1 : i = L + 1
      · rw [if_pos w1, w1]
      · rw [if_neg w1]
        by_cases w0 : i = L
        · rw [if_pos w0, w0]; rfl
        · rw [if_neg w0]
theorem app_t {c : Mm} {L : Nat} {t : Nat → Nat} (h : TBc (zb zl_41 c) L t) (hL : L + 20 ≤ 500) (ht : ∀ j, j < 20 → t (L + j) < 128) (w : Nat → Int) (hw : ∀ k, k < 5 → w k = ((wd4 (t (L + 4 * k)) (t (L + 4 * k + 1)) (t (L + 4 * k + 2)) (t (L + 4 * k + 3)) : Nat) : Int)) : ∃ c' v, x_X6_append c (w 0) (w 1) (w 2) (w 3) (w 4) = some (c', v) ∧ TBc (zb zl_41 c') (L + 20) t := by
  obtain ⟨s1, a1, b1⟩ := four_t h (by omega) (fun j hj => ht j (by omega))
  have b1 : TBc (zb zl_41 (zj zl_41 c s1)) (L + 4) t := b1
  obtain ⟨s2, a2, b2⟩ := four_t b1 (by omega) (fun j hj => by rw [Nat.add_assoc]; exact ht _ (by omega))
  have b2 : TBc (zb zl_41 (zj zl_41 (zj zl_41 c s1) s2)) (L + 8) t := b2
  obtain ⟨s3, a3, b3⟩ := four_t b2 (by omega) (fun j hj => by rw [Nat.add_assoc]; exact ht _ (by omega))
  have b3 : TBc (zb zl_41 (zj zl_41 (zj zl_41 (zj zl_41 c s1) s2) s3)) (L + 12) t := b3
  obtain ⟨s4, a4, b4⟩ := four_t b3 (by omega) (fun j hj => by rw [Nat.add_assoc]; exact ht _ (by omega))
  have b4 : TBc (zb zl_41 (zj zl_41 (zj zl_41 (zj zl_41 (zj zl_41 c s1) s2) s3) s4)) (L + 16) t := b4
  obtain ⟨s5, a5, b5⟩ := four_t b4 (by omega) (fun j hj => by rw [Nat.add_assoc]; exact ht _ (by omega))
  have w0 : w 0 = ((wd4 (t L) (t (L + 1)) (t (L + 2)) (t (L + 3)) : Nat) : Int) := hw 0 (by omega)
  have w1 : w 1 = ((wd4 (t (L + 4)) (t (L + 4 + 1)) (t (L + 4 + 2)) (t (L + 4 + 3)) : Nat) : Int) := hw 1 (by omega)
  have w2 : w 2 = ((wd4 (t (L + 8)) (t (L + 8 + 1)) (t (L + 8 + 2)) (t (L + 8 + 3)) : Nat) : Int) := hw 2 (by omega)
  have w3 : w 3 = ((wd4 (t (L + 12)) (t (L + 12 + 1)) (t (L + 12 + 2)) (t (L + 12 + 3)) : Nat) : Int) := hw 3 (by omega)
  have w4 : w 4 = ((wd4 (t (L + 16)) (t (L + 16 + 1)) (t (L + 16 + 2)) (t (L + 16 + 3)) : Nat) : Int) := hw 4 (by omega)
  have e74 : c 74 1 = (L : Int) := h.2.1
  unfold x_X6_append
  rw [e74, show (L : Int) + 20 = ((L + 20 : Nat) : Int) by omega, if_pos (by rw [zwn (by omega), zw_eq (x := (500 : Int)) (by omega) (by omega)]; omega), w0, w1, w2, w3, w4, a1, Option.bind_some, bnd_eq, a2, Option.bind_some, bnd_eq, a3, Option.bind_some, bnd_eq, a4, Option.bind_some, bnd_eq, a5, Option.bind_some, bnd_eq]
  exact ⟨_, _, rfl, b5⟩
