/-! Sums over a rising row -/
def sumN (g : Nat → Nat) : Nat → Nat
  | 0 => 0
  | i + 1 => sumN g i + g i
theorem sumN_congr {g h : Nat → Nat} : ∀ {n : Nat}, (∀ k, k < n → g k = h k) → sumN g n = sumN h n
  | 0, _ => rfl
  | n + 1, e => by
    show sumN g n + g n = sumN h n + h n
    rw [sumN_congr (fun k hk => e k (by omega)), e n (by omega)]
def inH (H : Nat → Nat) (i d : Nat) : Bool := (List.range i).any (fun k => H k == d)
theorem inH_iff {H : Nat → Nat} {i d : Nat} : inH H i d = true ↔ ∃ k, k < i ∧ H k = d := by
  unfold inH
  rw [List.any_eq_true]
  constructor
  · rintro ⟨k, h1, h2⟩
    exact ⟨k, List.mem_range.mp h1, by simpa using h2⟩
  · rintro ⟨k, h1, h2⟩
    exact ⟨k, List.mem_range.mpr h1, by simpa using h2⟩
theorem sum_H {H : Nat → Nat} {f : Nat → Nat} {q : Nat → Bool} {n : Nat} (h1 : ∀ i j, i < j → j < n → H i < H j) (h2 : ∀ i, i < n → H i < 52) : ∀ i, i ≤ n → psum f (fun d => inH H i d && q d) 52 = sumN (fun k => if q (H k) = true then f (H k) else 0) i := by
  intro i
  induction i with
  | zero =>
    intro _
    exact psum_zero (fun c _ => by rw [show inH H 0 c = false from rfl]; rfl)
  | succ i ih =>
    intro hi
    have ih := ih (by omega)
    show _ = sumN _ i + (if q (H i) = true then f (H i) else 0)
    rw [← ih]
    by_cases c : q (H i) = true
    · rw [if_pos c, psum_one (k := H i) (by rw [inH_iff.mpr ⟨i, by omega, rfl⟩, c]; rfl) (h2 i (by omega)), Nat.add_comm]
      congr 1
      refine psum_congr (fun d _ => ?_)
      apply Bool.eq_iff_iff.mpr
      rw [Bool.and_eq_true, Bool.and_eq_true, Bool.and_eq_true, inH_iff, inH_iff, decide_eq_true_eq]
      constructor
      · rintro ⟨⟨⟨k, k1, k2⟩, k3⟩, k4⟩
        refine ⟨⟨k, ?_, k2⟩, k3⟩
        by_cases e : k = i
        · subst e; exact absurd k2.symm k4
        · omega
      · rintro ⟨⟨k, k1, k2⟩, k3⟩
        refine ⟨⟨⟨k, by omega, k2⟩, k3⟩, fun e => ?_⟩
        have := h1 k i k1 (by omega)
        omega
    · rw [if_neg c, Nat.add_zero]
      refine psum_congr (f := f) (S := fun d => inH H (i + 1) d && q d) (T := fun d => inH H i d && q d) (n := 52) (fun d _ => ?_)
      show (inH H (i + 1) d && q d) = (inH H i d && q d)
      apply Bool.eq_iff_iff.mpr
      rw [Bool.and_eq_true, Bool.and_eq_true, inH_iff, inH_iff]
      constructor
      · rintro ⟨⟨k, k1, k2⟩, k3⟩
        refine ⟨⟨k, ?_, k2⟩, k3⟩
        by_cases e : k = i
        · subst e; rw [k2] at c; exact absurd k3 c
        · omega
      · rintro ⟨⟨k, k1, k2⟩, k3⟩
        exact ⟨⟨k, by omega, k2⟩, k3⟩
theorem cnt_52 {P : Int64} (h : cw P) : cnt (bs P) 64 = psum (fun _ => 1) (bs P) 52 := by
  rw [cnt_psum]
  exact psum_up (by decide) (fun c h1 _ => h c h1)
theorem sum_P {H : Nat → Nat} {f : Nat → Nat} {q : Nat → Bool} {P Q : Int64} (h1 : ∀ i j, i < j → j < cnt (bs P) 64 → H i < H j) (h2 : ∀ i, i < cnt (bs P) 64 → H i < 52) (h3 : ∀ d, bs P d = true ↔ ∃ i, i < cnt (bs P) 64 ∧ H i = d) (hq : ∀ d, bs Q d = (bs P d && q d)) : psum f (bs Q) 52 = sumN (fun k => if q (H k) = true then f (H k) else 0) (cnt (bs P) 64) := by
  rw [← sum_H h1 h2 _ (Nat.le_refl _)]
  refine psum_congr (fun d _ => ?_)
  rw [hq d]
  congr 1
  apply Bool.eq_iff_iff.mpr
  rw [h3 d, inH_iff]
/-! the place of a card among melds -/
def ixC (F : List Int64) (k : Nat) : Option Nat := ixF (fun x => bs x k) F 0
theorem ixF_none {p : Int64 → Bool} : ∀ {l : List Int64} {i : Nat}, ixF p l i = none ↔ ∀ x ∈ l, p x = false
  | [], i => by unfold ixF; simp
  | x :: l, i => by
    unfold ixF
    by_cases e : p x = true
    · rw [if_pos e]
      constructor
      · intro h; cases h
      · intro h
        have := h x (List.mem_cons_self)
        rw [e] at this; cases this
    · rw [if_neg e, ixF_none]
      constructor
      · intro h y hy
        rcases List.mem_cons.mp hy with rfl | hy
        · exact Bool.eq_false_iff.mpr e
        · exact h y hy
      · intro h y hy
        exact h y (List.mem_cons_of_mem _ hy)
theorem ixF_some {p : Int64 → Bool} : ∀ {l : List Int64} {i j : Nat}, ixF p l i = some j → i ≤ j ∧ ∃ x, l[j - i]? = some x ∧ p x = true
  | [], i, j, h => by cases h
  | x :: l, i, j, h => by
    unfold ixF at h
    by_cases e : p x = true
    · rw [if_pos e] at h
      cases h
      exact ⟨Nat.le_refl _, x, by rw [Nat.sub_self]; rfl, e⟩
    · rw [if_neg e] at h
      obtain ⟨h1, y, h2, h3⟩ := ixF_some h
      refine ⟨by omega, y, ?_, h3⟩
      rw [show j - i = (j - (i + 1)) + 1 by omega]
      exact h2
theorem ixF_at {p : Int64 → Bool} : ∀ {l : List Int64} {i k : Nat} {x : Int64}, l[k]? = some x → p x = true → (∀ k' y, k' < k → l[k']? = some y → p y = false) → ixF p l i = some (i + k)
  | [], i, k, x, h, _, _ => by simp at h
  | z :: l, i, 0, x, h, hp, _ => by
    cases h
    unfold ixF
    rw [if_pos hp]
    rfl
  | z :: l, i, k + 1, x, h, hp, hb => by
    unfold ixF
    rw [if_neg (by rw [hb 0 z (by omega) rfl]; decide)]
    have := ixF_at (i := i + 1) (show l[k]? = some x from h) hp (fun k' y hk hy => hb (k' + 1) y (by omega) hy)
    rw [this]
    congr 1
    omega
theorem fam_u : ∀ {F : List Int64} {u : Int64}, fam F u → ∀ x ∈ F, ∀ d, bs x d = true → bs u d = false
  | [], u, _, x, hx, _, _ => by cases hx
  | m :: F, u, h, x, hx, d, hd => by
    obtain ⟨h1, h2⟩ := h
    rcases List.mem_cons.mp hx with rfl | hx
    · have e : bs (x &&& u) d = false := by rw [h1]; exact bs_0 d
      rw [bs_and, hd] at e
      simpa using e
    · have e := fam_u h2 x hx d hd
      rw [bs_or] at e
      simp only [Bool.or_eq_false_iff] at e
      exact e.1
theorem fam_dk : ∀ {F : List Int64} {u : Int64} {i j : Nat} {x y : Int64}, fam F u → i < j → F[i]? = some x → F[j]? = some y → ∀ d, bs y d = true → bs x d = false
  | [], u, i, j, x, y, _, _, hx, _, _, _ => by simp at hx
  | m :: F, u, 0, j + 1, x, y, h, _, hx, hy, d, hd => by
    cases hx
    have e := fam_u h.2 y (List.mem_of_getElem? (show F[j]? = some y from hy)) d hd
    rw [bs_or] at e
    simp only [Bool.or_eq_false_iff] at e
    exact e.2
  | m :: F, u, i + 1, j + 1, x, y, h, hij, hx, hy, d, hd => fam_dk h.2 (by omega) (show F[i]? = some x from hx) (show F[j]? = some y from hy) d hd
theorem bs_dl : ∀ (F : List Int64) (P : Int64) (d : Nat), bs (dl P F) d = (bs P d && F.all (fun x => !bs x d))
  | [], P, d => by
    show bs P d = _
    simp
  | x :: F, P, d => by
    show bs (dl (dif P x) F) d = _
    rw [bs_dl F, bs_dif2]
    simp only [List.all_cons]
    cases bs P d <;> cases bs x d <;> simp
theorem ixC_dl {F : List Int64} {P : Int64} (d : Nat) : bs (dl P F) d = (bs P d && decide (ixC F d = none)) := by
  rw [bs_dl]
  congr 1
  apply Bool.eq_iff_iff.mpr
  rw [decide_eq_true_eq, List.all_eq_true]
  unfold ixC
  rw [ixF_none]
  constructor
  · intro h x hx
    have := h x hx
    simpa using this
  · intro h x hx
    simpa using h x hx
theorem ixC_at {F : List Int64} {P : Int64} (hf : fam F 0) (hs : ∀ x ∈ F, sb x P) {j : Nat} {x : Int64} (hx : F[j]? = some x) (d : Nat) : bs x d = (bs P d && decide (ixC F d = some j)) := by
  apply Bool.eq_iff_iff.mpr
  rw [Bool.and_eq_true, decide_eq_true_eq]
  constructor
  · intro h
    refine ⟨(sb_iff _ _).mp (hs x (List.mem_of_getElem? hx)) d h, ?_⟩
    have := ixF_at (p := fun x => bs x d) (i := 0) hx h (fun k' y hk hy => fam_dk hf hk hy hx d h)
    rw [Nat.zero_add] at this
    exact this
  · rintro ⟨-, h⟩
    obtain ⟨-, y, h1, h2⟩ := ixF_some h
    rw [Nat.sub_zero, hx] at h1
    cases h1
    exact h2
