/-! dealing on both sides -/
def dlt (D : Nat → Nat) (a : Nat) : Nat → Int64
  | 0 => 0
  | n + 1 => dlt D a n ||| one (D (a + n))
theorem dlt_bs {D : Nat → Nat} (hD : PM D) {a : Nat} (c : Nat) : ∀ {n : Nat}, a + n ≤ 52 → (bs (dlt D a n) c = true ↔ ∃ i, i < n ∧ D (a + i) = c)
  | 0, _ => by
    constructor
    · intro h
      have : bs 0 c = true := h
      rw [bs_0] at this; cases this
    · rintro ⟨i, h, -⟩; omega
  | n + 1, h => by
    have hlt := hD.1 (a + n) (by omega)
    show bs (dlt D a n ||| one (D (a + n))) c = true ↔ _
    rw [bs_add _ (by omega), Bool.or_eq_true_iff, dlt_bs hD c (by omega), decide_eq_true_eq]
    constructor
    · rintro (⟨i, i1, i2⟩ | z)
      · exact ⟨i, by omega, i2⟩
      · exact ⟨n, by omega, z.symm⟩
    · rintro ⟨i, i1, i2⟩
      by_cases e : i = n
      · subst e; exact .inr i2.symm
      · exact .inl ⟨i, by omega, i2⟩
theorem dlt_cw {D : Nat → Nat} (hD : PM D) {a n : Nat} (h : a + n ≤ 52) : cw (dlt D a n) := fun c hc => by
  cases e : bs (dlt D a n) c
  · rfl
  · obtain ⟨i, i1, i2⟩ := (dlt_bs hD c h).mp e
    have := hD.1 (a + i) (by omega)
    omega
theorem dlt_cnt {D : Nat → Nat} (hD : PM D) {a : Nat} : ∀ {n : Nat}, a + n ≤ 52 → cnt (bs (dlt D a n)) 64 = n
  | 0, _ => by
    rw [cnt_psum]
    exact psum_zero (fun c _ => bs_0 c)
  | n + 1, h => by
    have hlt := hD.1 (a + n) (by omega)
    show cnt (bs (dlt D a n ||| one (D (a + n)))) 64 = _
    rw [cnt_add (by omega), dlt_cnt hD (by omega)]
    cases e : bs (dlt D a n) (D (a + n))
    · rfl
    · obtain ⟨i, i1, i2⟩ := (dlt_bs hD _ (by omega)).mp e
      have := hD.2.1 _ _ (by omega) (by omega) i2
      omega
theorem X2_deckAt {μ : Mm} {D : Nat → Nat} (hd : ∀ j, j < 52 → μ 3 j = (D j : Int)) {j : Nat} (hj : j < 52) : x_X2_deckAt μ (j : Int) = some (D j : Int) := by
  unfold x_X2_deckAt
  rw [if_neg (nlt0 (by omega)), if_neg (nle_l (by omega) (by omega)), if_pos (zin_i (by omega) (by omega) (by omega)), zix_nat (by omega), hd j hj]
/-- one player's cards are dealt -/
theorem X2_deal1 {σ : Mm} {D : Nat → Nat} {h p : Nat} (hD : PM D) (hd : ∀ j, j < 52 → σ 3 j = (D j : Int)) (hh : σ 0 0 = (h : Int)) (h10 : h ≤ 10) (hp : p < 2) : ∃ σ', x_X2_dealOut_b2 σ (p : Int) = some (.inl (σ', (p : Int) + 1)) ∧ (∀ c, c ≠ 2 → σ' c = σ c) ∧ (∀ q, q ≠ p → σ' 2 q = σ 2 q) ∧ zL (σ' 2 p) = dlt D (p * h) h := by
  have hph : p * h + h ≤ 20 := by
    have : p = 0 ∨ p = 1 := by omega
    rcases this with e | e <;> subst e <;> omega
  obtain ⟨σ1, a1, a2, a3, a4⟩ := lup_for (f := fun (s10 : Mm × Int) => x_X2_dealOut_b16 (p : Int) s10.1 s10.2) (fun i s => s.2 = (i : Int) ∧ (∀ c, c ≠ 2 → s.1 c = σ c) ∧ (∀ q, q ≠ p → s.1 2 q = σ 2 q) ∧ zL (s.1 2 p) = dlt D (p * h) i) (fun e => (∀ c, c ≠ 2 → e c = σ c) ∧ (∀ q, q ≠ p → e 2 q = σ 2 q) ∧ zL (e 2 p) = dlt D (p * h) h) h (fun i s hi hs => by
    obtain ⟨τ, u⟩ := s
    obtain ⟨e1, e2, e3, e4⟩ := hs
    simp only at e1 e2 e3 e4
    subst e1
    have hi52 : p * h + i < 52 := by omega
    have hlt := hD.1 _ hi52
    have hq : (p : Int) * (h : Int) + (i : Int) = ((p * h + i : Nat) : Int) := by rw [← Int.natCast_mul]; omega
    refine ⟨(zu τ 2 p (Int64.toInt (dlt D (p * h) (i + 1))), (i : Int) + 1), ?_, by show (i : Int) + 1 = _; omega, fun c hc => ?_, fun q hq => ?_, ?_⟩
    · show x_X2_dealOut_b16 (p : Int) τ (i : Int) = _
      unfold x_X2_dealOut_b16
      rw [e2 0 (by omega), hh, if_neg (by rw [zwn (by omega), zwn (by omega)]; omega), if_pos (zin_i (by omega) (by omega) (by omega)), hq, X2_deckAt (D := D) (fun j hj => by rw [e2 3 (by omega)]; exact hd j hj) hi52, Option.bind_some, X6_bitOf hlt, Option.bind_some, if_pos (zin_i (by omega) (by omega) (by omega)), zix_nat (n := p) (by omega), e4, bnd_eq, bnd_eq]
      rfl
    · show zu τ 2 p _ c = _
      unfold zu
      rw [if_neg hc]; exact e2 c hc
    · show zu τ 2 p _ 2 q = _
      rw [zu_miss _ _ _ _ (fun _ => hq)]; exact e3 q hq
    · show zL (zu τ 2 p _ 2 p) = _
      rw [zu_hit, zL_toInt]) (fun s hs => by
    obtain ⟨τ, u⟩ := s
    obtain ⟨e1, e2, e3, e4⟩ := hs
    simp only at e1 e2 e3 e4
    subst e1
    refine ⟨τ, ?_, e2, e3, e4⟩
    show x_X2_dealOut_b16 (p : Int) τ _ = _
    unfold x_X2_dealOut_b16
    rw [e2 0 (by omega), hh, if_pos (Int.le_refl _)]) (s := (zu σ 2 p (Int64.toInt 0), 0)) ⟨rfl, fun c hc => by
      show zu σ 2 p _ c = _
      unfold zu
      rw [if_neg hc], fun q hq => by
      show zu σ 2 p (Int64.toInt 0) 2 q = _
      exact zu_miss _ _ _ _ (fun _ => hq), by
      show zL (zu σ 2 p (Int64.toInt 0) 2 p) = _
      rw [zu_hit, zL_toInt]; rfl⟩
  refine ⟨σ1, ?_, a2, a3, a4⟩
  unfold x_X2_dealOut_b2
  rw [if_neg (nle_l (by omega) (by omega)), if_pos (zin_i (by omega) (by omega) (by omega)), zix_nat (n := p) (by omega), bnd_eq, a1, Option.bind_some, bnd_eq]
theorem zand_1 {a : Nat} (h : a < 2147483648) : zand (a : Int) 1 = ((a % 2 : Nat) : Int) := by
  have := zand_nat (a := a) (b := 1) h (by omega)
  rw [Nat.and_one_is_mod] at this
  exact this
theorem X2_dealOut {σ : Mm} {D : Nat → Nat} {h rd : Nat} (hD : PM D) (hd : ∀ j, j < 52 → σ 3 j = (D j : Int)) (hh : σ 0 0 = (h : Int)) (h10 : h ≤ 10) (hr : σ 0 4 = (rd : Int)) (hr2 : rd < 2147483648) : ∃ σ', x_X2_dealOut σ = some σ' ∧ (∀ k, k < 5 → σ' 0 k = σ 0 k) ∧ σ' 0 5 = ((rd % 2 : Nat) : Int) ∧ σ' 0 6 = 0 ∧ σ' 0 7 = -1 ∧ σ' 0 8 = 0 ∧ σ' 0 9 = σ 0 9 ∧ σ' 0 10 = σ 0 10 ∧ σ' 0 14 = 2 * (h : Int) + 1 ∧ σ' 0 16 = 1 ∧ σ' 1 = σ 1 ∧ σ' 3 = σ 3 ∧ σ' 4 0 = (D (2 * h) : Int) ∧ ∀ p, p < 2 → zL (σ' 2 p) = dlt D (p * h) h := by
  obtain ⟨σ1, a1, a2, a3, a4⟩ := X2_deal1 hD hd hh h10 (p := 0) (by omega)
  obtain ⟨σ2, b1, b2, b3, b4⟩ := X2_deal1 (σ := σ1) hD (fun j hj => by rw [a2 3 (by omega)]; exact hd j hj) (by rw [a2 0 (by omega)]; exact hh) h10 (p := 1) (by omega)
  have hl : lup (fun (s15 : Mm × Int) => x_X2_dealOut_b2 s15.1 s15.2) (σ, (0 : Int)) = some σ2 := by
    have a1 : x_X2_dealOut_b2 σ (0 : Int) = some (.inl (σ1, 1)) := a1
    have b1 : x_X2_dealOut_b2 σ1 (1 : Int) = some (.inl (σ2, 2)) := b1
    rw [lup_inl (f := fun (s15 : Mm × Int) => x_X2_dealOut_b2 s15.1 s15.2) (s := (σ, (0 : Int))) a1, lup_inl (f := fun (s15 : Mm × Int) => x_X2_dealOut_b2 s15.1 s15.2) (s := (σ1, (1 : Int))) b1]
    refine lup_inr ?_
    show x_X2_dealOut_b2 σ2 2 = _
    unfold x_X2_dealOut_b2
    rw [if_pos (by decide)]
  have c0 : ∀ c, c ≠ 2 → σ2 c = σ c := fun c hc => (b2 c hc).trans (a2 c hc)
  have hh2 : σ2 0 0 = (h : Int) := by rw [c0 0 (by omega)]; exact hh
  have hr4 : σ2 0 4 = (rd : Int) := by rw [c0 0 (by omega)]; exact hr
  have hdk := X2_deckAt (μ := σ2) (D := D) (fun j hj => by rw [c0 3 (by omega)]; exact hd j hj) (j := 2 * h) (by omega)
  have q1 : (2 : Int) * (h : Int) = ((2 * h : Nat) : Int) := by omega
  have e14 : zu (zu (zu σ2 4 0 (D (2 * h) : Int)) 0 16 1) 0 14 (2 * (h : Int) + 1) 0 4 = (rd : Int) := hr4
  have hpl : ∀ p, p < 2 → zL (σ2 2 p) = dlt D (p * h) h := fun p hp => by
    by_cases e : p = 0
    · subst e
      rw [b3 0 (by omega)]; exact a4
    · have : p = 1 := by omega
      subst this; exact b4
  unfold x_X2_dealOut
  rw [hl, Option.bind_some, hh2, q1, hdk, Option.bind_some, if_pos (by decide), show zix (0 : Int) = 0 by decide, bnd_eq, bnd_eq]
  have e00 : zu (zu σ2 4 0 (D (2 * h) : Int)) 0 16 1 0 0 = (h : Int) := hh2
  rw [e00, bnd_eq, e14, zand_1 hr2]
  have hm : rd % 2 = 0 ∨ rd % 2 = 1 := by omega
  rcases hm with e | e
  · rw [e, if_neg (by decide), bnd_eq, bnd_eq, bnd_eq, bnd_eq]
    refine ⟨_, rfl, fun k hk => ?_, rfl, rfl, rfl, rfl, by show σ2 0 9 = _; rw [c0 0 (by omega)], by show σ2 0 10 = _; rw [c0 0 (by omega)], rfl, rfl, c0 1 (by omega), c0 3 (by omega), rfl, hpl⟩
    rw [zu_miss _ _ _ _ (fun _ => by omega), zu_miss _ _ _ _ (fun _ => by omega), zu_miss _ _ _ _ (fun _ => by omega), zu_miss _ _ _ _ (fun _ => by omega), zu_miss _ _ _ _ (fun _ => by omega), zu_miss _ _ _ _ (fun _ => by omega), zu_miss _ _ _ _ (fun z => by omega), c0 0 (by omega)]
  · rw [e, if_pos (by decide), bnd_eq, bnd_eq, bnd_eq, bnd_eq]
    refine ⟨_, rfl, fun k hk => ?_, rfl, rfl, rfl, rfl, by show σ2 0 9 = _; rw [c0 0 (by omega)], by show σ2 0 10 = _; rw [c0 0 (by omega)], rfl, rfl, c0 1 (by omega), c0 3 (by omega), rfl, hpl⟩
    rw [zu_miss _ _ _ _ (fun _ => by omega), zu_miss _ _ _ _ (fun _ => by omega), zu_miss _ _ _ _ (fun _ => by omega), zu_miss _ _ _ _ (fun _ => by omega), zu_miss _ _ _ _ (fun _ => by omega), zu_miss _ _ _ _ (fun _ => by omega), zu_miss _ _ _ _ (fun z => by omega), c0 0 (by omega)]
/-- where the card at the place i goes -/
def toN (h i : Nat) : Nat := if i < h then 0 else if i < 2 * h then 1 else if i = 2 * h then 2 else 3
theorem X7_dealOut {σ : Mm} {D : Nat → Nat} {h rd : Nat} (hD : PM D) (hd : ∀ j, j < 52 → σ 1 (15 + j) = (D j : Int)) (hh : σ 1 0 = (h : Int)) (h10 : h ≤ 10) (hr : σ 1 3 = (rd : Int)) (hr2 : rd < 2147483648) : ∃ σ', x_X7_dealOut σ = some σ' ∧ RW σ σ' ∧ (∀ k, k < 4 → σ' 1 k = σ 1 k) ∧ σ' 1 4 = ((rd % 2 : Nat) : Int) ∧ σ' 1 5 = 0 ∧ σ' 1 6 = 0 ∧ σ' 1 7 = -1 ∧ (∀ k, 8 ≤ k → k < 13 → σ' 1 k = σ 1 k) ∧ σ' 1 13 = 2 * (h : Int) + 1 ∧ σ' 1 14 = 1 ∧ (∀ j, j < 52 → σ' 1 (15 + j) = (D j : Int)) ∧ σ' 1 67 = (D (2 * h) : Int) ∧ ∀ i, i < 52 → σ' 1 (119 + D i) = (toN h i : Int) := by
  obtain ⟨σ1, a1, a2, a3, a4⟩ := lup_for (f := fun (s11 : Mm × Int) => x_X7_dealOut_b9 (h : Int) s11.1 s11.2) (fun i s => s.2 = (i : Int) ∧ RW σ s.1 ∧ (∀ j, j < 119 → s.1 1 j = σ 1 j) ∧ ∀ j, j < i → s.1 1 (119 + D j) = (toN h j : Int)) (fun e => RW σ e ∧ (∀ j, j < 119 → e 1 j = σ 1 j) ∧ ∀ j, j < 52 → e 1 (119 + D j) = (toN h j : Int)) 52 (fun i s hi hs => by
    obtain ⟨τ, u⟩ := s
    obtain ⟨e1, e2, e3, e4⟩ := hs
    simp only at e1 e2 e3 e4
    subst e1
    have hlt := hD.1 i hi
    have hj : ∀ w : Nat, x_X7_dealOut_j47_9 (h : Int) τ (i : Int) (w : Int) = some (.inl (zu τ 1 (119 + D i) (w : Int), (i : Int) + 1)) := fun w => by
      unfold x_X7_dealOut_j47_9
      rw [show (15 : Int) + (i : Int) = ((15 + i : Nat) : Int) by omega, if_pos (zin_i (by omega) (by omega) (by omega)), zix_nat (n := 15 + i) (by omega), e3 _ (by omega), hd i hi, show (119 : Int) + (D i : Int) = ((119 + D i : Nat) : Int) by omega, if_pos (zin_i (by omega) (by omega) (by omega)), zix_nat (n := 119 + D i) (by omega), bnd_eq, bnd_eq]
    refine ⟨(zu τ 1 (119 + D i) (toN h i : Int), (i : Int) + 1), ?_, by show (i : Int) + 1 = _; omega, RW_t e2 (RW_u _ _ _), fun j hj => ?_, fun j hj => ?_⟩
    · show x_X7_dealOut_b9 (h : Int) τ (i : Int) = _
      unfold x_X7_dealOut_b9 toN
      rw [if_neg (by rw [zw_eq (x := (52 : Int)) (by omega) (by omega), zwn (by omega)]; omega), show (2 : Int) * (h : Int) = ((2 * h : Nat) : Int) by omega, zwn (n := h) (by omega), zwn (n := i) (by omega), zwn (n := 2 * h) (by omega)]
      by_cases c1 : i < h
      · rw [if_neg (by omega), if_pos c1]; exact hj 0
      · rw [if_pos (by omega), if_neg c1]
        by_cases c2 : i < 2 * h
        · rw [if_neg (by omega), if_pos c2]; exact hj 1
        · rw [if_pos (by omega), if_neg c2]
          by_cases c3 : i = 2 * h
          · rw [if_neg (by omega), if_pos c3]; exact hj 2
          · rw [if_pos (by omega), if_neg c3]; exact hj 3
    · show zu τ 1 (119 + D i) _ 1 j = _
      rw [zu_miss _ _ _ _ (fun _ => by omega)]; exact e3 j hj
    · show zu τ 1 (119 + D i) _ 1 (119 + D j) = _
      by_cases w : j = i
      · rw [w, zu_hit]
      · have : D j ≠ D i := fun z => w (hD.2.1 _ _ (by omega) hi z)
        rw [zu_miss _ _ _ _ (fun _ => by omega)]; exact e4 j (by omega)) (fun s hs => by
    obtain ⟨τ, u⟩ := s
    obtain ⟨e1, e2, e3, e4⟩ := hs
    simp only at e1 e2 e3 e4
    subst e1
    refine ⟨τ, ?_, e2, e3, e4⟩
    show x_X7_dealOut_b9 (h : Int) τ _ = _
    unfold x_X7_dealOut_b9
    rw [if_pos (by show zw 52 ≤ zw ((52 : Nat) : Int); decide)]) (s := (σ, 0)) ⟨rfl, RW_r σ, fun _ _ => rfl, fun j hj => by omega⟩
  have q2 : (2 : Int) * (h : Int) = ((2 * h : Nat) : Int) := by omega
  have q15 : (15 : Int) + ((2 * h : Nat) : Int) = ((15 + 2 * h : Nat) : Int) := by omega
  have e15 : σ1 1 (15 + 2 * h) = (D (2 * h) : Int) := by rw [a3 _ (by omega)]; exact hd _ (by omega)
  have e3 : zu (zu (zu σ1 1 67 (D (2 * h) : Int)) 1 14 1) 1 13 (((2 * h : Nat) : Int) + 1) 1 3 = (rd : Int) := (a3 3 (by omega)).trans hr
  have hr' : ∀ j, zu (zu (zu (zu (zu (zu (zu σ1 1 67 (D (2 * h) : Int)) 1 14 1) 1 13 (((2 * h : Nat) : Int) + 1)) 1 4 ((rd % 2 : Nat) : Int)) 1 5 0) 1 6 0) 1 7 (-1) 1 j = if j = 7 then -1 else if j = 6 then 0 else if j = 5 then 0 else if j = 4 then ((rd % 2 : Nat) : Int) else if j = 13 then ((2 * h : Nat) : Int) + 1 else if j = 14 then 1 else if j = 67 then (D (2 * h) : Int) else σ1 1 j := fun j => by
    rw [zu_at, zu_at, zu_at, zu_at, zu_at, zu_at, zu_at]
    simp only [true_and]
  have no : ∀ j, j ≠ 7 → j ≠ 6 → j ≠ 5 → j ≠ 4 → j ≠ 13 → j ≠ 14 → j ≠ 67 → zu (zu (zu (zu (zu (zu (zu σ1 1 67 (D (2 * h) : Int)) 1 14 1) 1 13 (((2 * h : Nat) : Int) + 1)) 1 4 ((rd % 2 : Nat) : Int)) 1 5 0) 1 6 0) 1 7 (-1) 1 j = σ1 1 j := fun j n1 n2 n3 n4 n5 n6 n7 => by
    rw [hr', if_neg n1, if_neg n2, if_neg n3, if_neg n4, if_neg n5, if_neg n6, if_neg n7]
  unfold x_X7_dealOut
  rw [if_pos (by decide), show zix (0 : Int) = 0 by decide, hh, bnd_eq, a1, Option.bind_some, q2, q15, if_pos (zin_i (by omega) (by omega) (by omega)), if_pos (by decide), zix_nat (n := 15 + 2 * h) (by omega), e15, show zix (67 : Int) = 67 by decide, bnd_eq, if_pos (by decide), show zix (14 : Int) = 14 by decide, bnd_eq, if_pos (by decide), show zix (13 : Int) = 13 by decide, bnd_eq, if_pos (by decide), if_pos (by decide), show zix (3 : Int) = 3 by decide, e3, show zix (4 : Int) = 4 by decide, show zrem (rd : Int) 2 = ((rd % 2 : Nat) : Int) from zrem_nat (b := 2) hr2 (by omega) (by omega), bnd_eq, if_pos (by decide), show zix (5 : Int) = 5 by decide, bnd_eq, if_pos (by decide), show zix (6 : Int) = 6 by decide, bnd_eq, if_pos (by decide), show zix (7 : Int) = 7 by decide, bnd_eq]
  refine ⟨_, rfl, RW_t a2 (RW_t (RW_u _ _ _) (RW_t (RW_u _ _ _) (RW_t (RW_u _ _ _) (RW_t (RW_u _ _ _) (RW_t (RW_u _ _ _) (RW_t (RW_u _ _ _) (RW_u _ _ _))))))), fun k hk => ?_, rfl, rfl, rfl, rfl, fun k k1 k2 => ?_, ?_, rfl, fun j hj => ?_, rfl, fun i hi => ?_⟩
  · rw [no k (by omega) (by omega) (by omega) (by omega) (by omega) (by omega) (by omega)]; exact a3 k (by omega)
  · rw [no k (by omega) (by omega) (by omega) (by omega) (by omega) (by omega) (by omega)]; exact a3 k (by omega)
  · show ((2 * h : Nat) : Int) + 1 = _
    omega
  · rw [no _ (by omega) (by omega) (by omega) (by omega) (by omega) (by omega) (by omega), a3 _ (by omega)]; exact hd j hj
  · rw [no _ (by omega) (by omega) (by omega) (by omega) (by omega) (by omega) (by omega)]; exact a4 i hi
/-- a dealt row is good, and the class's match agrees with it -/
theorem dealt {N h rd n : Nat} {D : Nat → Nat} {μ : Mm} {r : Nat → Int} (hD : PM D) (h7 : 7 ≤ h) (h10 : h ≤ 10) (r0 : r 0 = (h : Int)) (r1 : 0 ≤ r 1 ∧ r 1 ≤ 20) (r2 : 20 ≤ r 2 ∧ r 2 ≤ 500) (r3 : r 3 = (rd : Int)) (hN : rd ≤ N) (r4 : r 4 = ((rd % 2 : Nat) : Int)) (r5 : r 5 = 0) (r6 : r 6 = 0) (r7 : r 7 = -1) (r12 : r 12 = (n : Int)) (hn : n < 2147483648) (r13 : r 13 = 2 * (h : Int) + 1) (r14 : r 14 = 1) (rd15 : ∀ j, j < 52 → r (15 + j) = (D j : Int)) (r67 : r 67 = (D (2 * h) : Int)) (rw' : ∀ i, i < 52 → r (119 + D i) = (toN h i : Int))
    (m0 : μ 0 0 = r 0 ∧ μ 0 1 = r 1 ∧ μ 0 2 = r 2 ∧ zL (μ 0 3) = zi2l (r 12) ∧ μ 0 4 = r 3) (m5 : μ 0 5 = ((rd % 2 : Nat) : Int) ∧ μ 0 6 = 0 ∧ μ 0 7 = -1 ∧ μ 0 8 = 0 ∧ μ 0 9 = r 10 ∧ μ 0 10 = r 11 ∧ μ 0 14 = 2 * (h : Int) + 1 ∧ μ 0 16 = 1) (ms : μ 1 0 = r 8 ∧ μ 1 1 = r 9) (md : ∀ j, j < 52 → μ 3 j = (D j : Int)) (mp : μ 4 0 = (D (2 * h) : Int)) (mh : ∀ p, p < 2 → zL (μ 2 p) = dlt D (p * h) h) : V N r ∧ MR μ r := by
  have hph : ∀ p, p < 2 → p * h + h ≤ 52 := fun p hp => by
    have : p = 0 ∨ p = 1 := by omega
    rcases this with e | e <;> subst e <;> omega
  have hwh : ∀ p c, p < 2 → c < 52 → bs (dlt D (p * h) h) c = decide (r (119 + c) = (p : Int)) := fun p c hp hc => by
    obtain ⟨i, i1, i2⟩ := hD.2.2 c hc
    subst i2
    rw [rw' i i1]
    have hp2 : p = 0 ∨ p = 1 := by omega
    cases e : bs (dlt D (p * h) h) (D i)
    · symm
      apply decide_eq_false
      intro z
      have : i - p * h < h ∧ p * h + (i - p * h) = i := by
        unfold toN at z
        rcases hp2 with q | q <;> subst q
        · by_cases c1 : i < h
          · omega
          · rw [if_neg c1] at z
            split at z
            · omega
            · split at z <;> omega
        · by_cases c1 : i < h
          · rw [if_pos c1] at z; omega
          · rw [if_neg c1] at z
            split at z
            · omega
            · split at z <;> omega
      have := (dlt_bs hD (D i) (hph p hp)).mpr ⟨i - p * h, this.1, by rw [this.2]⟩
      rw [e] at this; cases this
    · symm
      apply decide_eq_true
      obtain ⟨j, j1, j2⟩ := (dlt_bs hD (D i) (hph p hp)).mp e
      have := hD.2.1 _ _ (by have := hph p hp; omega) i1 j2
      subst this
      unfold toN
      rcases hp2 with q | q <;> subst q
      · rw [if_pos (by omega)]
      · rw [if_neg (by omega), if_pos (by omega)]
  refine ⟨⟨?_, ⟨fun i hi => ⟨D i, hD.1 i hi, rd15 i hi⟩, fun i j hi hj e => ?_, fun c hc => ?_⟩, ⟨fun j hj => ?_, fun i j hi hj e => by omega⟩, fun c hc => ?_, fun p hp => ?_, .inl r7⟩, ?_⟩
  · unfold NBr
    rw [r0, r3, r4, r5, r6, r12, r13, r14]
    omega
  · rw [rd15 i hi, rd15 j hj] at e
    exact hD.2.1 i j hi hj (by omega)
  · obtain ⟨i, i1, i2⟩ := hD.2.2 c hc
    exact ⟨i, i1, by rw [rd15 i i1, i2]⟩
  · have : j = 0 := by omega
    subst this
    exact ⟨D (2 * h), hD.1 _ (by omega), r67⟩
  · obtain ⟨i, i1, i2⟩ := hD.2.2 c hc
    subst i2
    rw [rw' i i1]
    have ht : toN h i = 0 ∨ toN h i = 1 ∨ (toN h i = 2 ∧ i = 2 * h) ∨ (toN h i = 3 ∧ 2 * h < i) := by
      unfold toN
      split
      · exact .inl rfl
      · split
        · exact .inr (.inl rfl)
        · split
          · exact .inr (.inr (.inl ⟨rfl, by omega⟩))
          · exact .inr (.inr (.inr ⟨rfl, by omega⟩))
    have ht2 : 2 * h < i → toN h i = 3 := fun z => by
      unfold toN
      rw [if_neg (by omega), if_neg (by omega), if_neg (by omega)]
    have ht3 : i = 2 * h → toN h i = 2 := fun z => by
      unfold toN
      rw [if_neg (by omega), if_neg (by omega), if_pos z]
    refine ⟨by omega, ⟨fun z => ⟨i, by omega, i1, by rw [rd15 i i1]⟩, ?_⟩, ⟨fun z => ⟨0, by omega, ?_⟩, ?_⟩⟩
    · rintro ⟨k, k1, k2, k3⟩
      rw [rd15 k k2] at k3
      have := hD.2.1 k i k2 i1 (by omega)
      subst this
      rw [ht2 (by omega)]; rfl
    · have : i = 2 * h := by omega
      rw [this]; exact r67
    · rintro ⟨k, k1, k2⟩
      have : k = 0 := by omega
      subst this
      have k2 : r 67 = (D i : Int) := k2
      rw [r67] at k2
      have := hD.2.1 _ i (by omega) i1 (show D (2 * h) = D i by omega)
      rw [ht3 this.symm]; rfl
  · rw [r5, if_neg (by omega), r0]
    obtain ⟨q, q1, q2⟩ : ∃ q : Nat, q < 2 ∧ p = (q : Int) := by
      rcases hp with z | z
      · exact ⟨0, by omega, z⟩
      · exact ⟨1, by omega, z⟩
    subst q2
    have : cnt (fun c => decide (r (119 + c) = (q : Int))) 52 = h := by
      rw [← cnt_congr (fun c hc => hwh q c q1 hc), ← cnt52 (dlt_cw hD (hph q q1)), dlt_cnt hD (hph q q1)]
    rw [this]; omega
  · obtain ⟨m00, m01, m02, m03, m04⟩ := m0
    obtain ⟨m05, m06, m07, m08, m09, m10, m14, m16⟩ := m5
    refine ⟨⟨m00, m01, m02, m03, m04, m05.trans r4.symm, m06.trans r5.symm, m07.trans r7.symm, m08.trans r6.symm, m09, m10, m14.trans r13.symm, m16.trans r14.symm⟩, ms, fun j hj => (md j hj).trans (rd15 j hj).symm, fun j hj => ?_, fun p hp => ?_⟩
    · have : j = 0 := by omega
      subst this
      exact mp.trans r67.symm
    · rw [mh p hp]
      exact ⟨dlt_cw hD (hph p hp), fun c hc => hwh p c hp hc⟩
/-- the next round on both sides -/
theorem deal_sim {N : Nat} {μ σ : Mm} (h : V N (σ 1)) (hN : N < 100000) (hM : MR μ (σ 1)) : ∃ (μ' σ' : Mm), x_X2_beginNextRound μ = some μ' ∧ x_X7_dealIt σ = some (σ', σ' 1 3) ∧ μ' 0 4 = σ' 1 3 ∧ V (N + 1) (σ' 1) ∧ MR μ' (σ' 1) ∧ RW σ σ' := by
  obtain ⟨⟨v0, v1, v2, v3, v4, v5, v6, v12, v13, v14, v15⟩, -⟩ := h
  obtain ⟨⟨a0, a1, a2, a3, a4, a5, a6, a7, a8, a9, a10, a11, a12⟩, ⟨s0, s1⟩, md, mp, mh⟩ := hM
  obtain ⟨rd, hrd⟩ : ∃ rd : Nat, σ 1 3 = (rd : Int) := ⟨(σ 1 3).toNat, by omega⟩
  obtain ⟨n, hn⟩ : ∃ n : Nat, σ 1 12 = (n : Int) := ⟨(σ 1 12).toNat, by omega⟩
  obtain ⟨hh, hhd⟩ : ∃ hh : Nat, σ 1 0 = (hh : Int) := ⟨(σ 1 0).toNat, by omega⟩
  have hn2 : n < 2147483648 := by omega
  obtain ⟨hPM, hlt⟩ := shuf_PM (k := 51) (n := n) (by omega) PM_id hn2
  generalize hμ1 : zu μ 0 4 (((rd + 1 : Nat) : Int)) = μ1
  have q1 : (rd : Int) + 1 = ((rd + 1 : Nat) : Int) := by omega
  obtain ⟨μ2, b1, b2, b3, b4, b5⟩ := X2_shuffle μ1 hn2 (by rw [← hμ1]; show zL (μ 0 3) = _; rw [a3, hn])
  have u04 : μ1 0 4 = ((rd + 1 : Nat) : Int) := by rw [← hμ1, zu_hit]
  have u0 : ∀ k, k ≠ 4 → μ1 0 k = μ 0 k := fun k hk => by rw [← hμ1, zu_miss _ _ _ _ (fun _ => hk)]
  have uc : ∀ c, c ≠ 0 → μ1 c = μ c := fun c hc => by rw [← hμ1]; unfold zu; rw [if_neg hc]
  obtain ⟨μ3, c1, c2, c3, c4, c5, c6, c7, c8, c9, c10, c11, c12, c13, c14⟩ := X2_dealOut (σ := μ2) (h := hh) (rd := rd + 1) hPM b3 (by rw [b5 0 (by omega), u0 0 (by omega), a0, hhd]) (by omega) (by rw [b5 4 (by omega), u04]) (by omega)
  generalize hσ1 : zu σ 1 3 (((rd + 1 : Nat) : Int)) = σ1
  have w03 : σ1 1 3 = ((rd + 1 : Nat) : Int) := by rw [← hσ1, zu_hit]
  have w0 : ∀ k, k ≠ 3 → σ1 1 k = σ 1 k := fun k hk => by rw [← hσ1, zu_miss _ _ _ _ (fun _ => hk)]
  have wr : RW σ σ1 := by rw [← hσ1]; exact RW_u _ _ _
  obtain ⟨σ2, d1, d2, d3, d4, d5⟩ := X7_shuffle σ1 hn2 (by rw [w0 12 (by omega), hn])
  obtain ⟨σ3, e1, e2, e3, e4, e5, e6, e7, e8, e9, e10, e11, e12, e13⟩ := X7_dealOut (σ := σ2) (h := hh) (rd := rd + 1) hPM d3 (by rw [d5 0 (by omega) (by omega), w0 0 (by omega), hhd]) (by omega) (by rw [d5 3 (by omega) (by omega), w03]) (by omega)
  have r3 : σ3 1 3 = ((rd + 1 : Nat) : Int) := by rw [e3 3 (by omega), d5 3 (by omega) (by omega), w03]
  have hdl := dealt (N := N + 1) (h := hh) (rd := rd + 1) (μ := μ3) (r := σ3 1) hPM (by omega) (by omega) (by rw [e3 0 (by omega), d5 0 (by omega) (by omega), w0 0 (by omega), hhd]) (by rw [e3 1 (by omega), d5 1 (by omega) (by omega), w0 1 (by omega)]; exact v1) (by rw [e3 2 (by omega), d5 2 (by omega) (by omega), w0 2 (by omega)]; exact v2) r3 (by omega) e4 e5 e6 e7 (by rw [e8 12 (by omega) (by omega)]; exact d2) hlt e9 e10 e11 e12 e13
    ⟨by rw [c2 0 (by omega), b5 0 (by omega), u0 0 (by omega), a0, e3 0 (by omega), d5 0 (by omega) (by omega), w0 0 (by omega)], by rw [c2 1 (by omega), b5 1 (by omega), u0 1 (by omega), a1, e3 1 (by omega), d5 1 (by omega) (by omega), w0 1 (by omega)], by rw [c2 2 (by omega), b5 2 (by omega), u0 2 (by omega), a2, e3 2 (by omega), d5 2 (by omega) (by omega), w0 2 (by omega)], by rw [c2 3 (by omega), b2, e8 12 (by omega) (by omega), d2], by rw [c2 4 (by omega), b5 4 (by omega), u04, r3]⟩
    ⟨c3, c4, c5, c6, by rw [c7, b5 9 (by omega), u0 9 (by omega), a9, e8 10 (by omega) (by omega), d5 10 (by omega) (by omega), w0 10 (by omega)], by rw [c8, b5 10 (by omega), u0 10 (by omega), a10, e8 11 (by omega) (by omega), d5 11 (by omega) (by omega), w0 11 (by omega)], c9, c10⟩
    ⟨by rw [c11, b4 1 (by omega) (by omega), uc 1 (by omega), s0, e8 8 (by omega) (by omega), d5 8 (by omega) (by omega), w0 8 (by omega)], by rw [c11, b4 1 (by omega) (by omega), uc 1 (by omega), s1, e8 9 (by omega) (by omega), d5 9 (by omega) (by omega), w0 9 (by omega)]⟩
    (by rw [c12]; exact b3) c13 c14
  refine ⟨μ3, σ3, ?_, ?_, by rw [c2 4 (by omega), b5 4 (by omega), u04, r3], hdl.1, hdl.2, RW_t wr (RW_t d4 e2)⟩
  · unfold x_X2_beginNextRound
    rw [a4, hrd, q1, bnd_eq, hμ1, b1, Option.bind_some, c1, Option.bind_some]
  · unfold x_X7_dealIt
    rw [if_pos (by decide), if_pos (by decide), show zix (3 : Int) = 3 by decide, hrd, q1, bnd_eq, hσ1, d1, Option.bind_some, e1, Option.bind_some, if_pos (by decide)]
