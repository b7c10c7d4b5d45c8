/-! drawing, dropping, knocking on both sides -/
/-- all but the moved cards stay -/
def KP (r r' : Nat → Int) (c : Nat) : Prop := (∀ k : Nat, k < 4 → r' k = r k) ∧ r' 12 = r 12 ∧ (∀ i : Nat, i < 52 → r' (15 + i) = r (15 + i)) ∧ ∀ d : Nat, d < 52 → d ≠ c → r' (119 + d) = r (119 + d)
theorem V_draw {N : Nat} {r r' : Nat → Int} {c : Nat} (h : V N r) (h6 : r 6 = 0) (h5 : r 5 = 0) (hc : c < 52) (hk : KP r r' c) (e4 : r' 4 = r 4) (e5 : r' 5 = 1) (e6 : r' 6 = 0) (ep : ∀ j : Nat, j < 52 → r' (67 + j) = r (67 + j)) (ec : r' (119 + c) = r 4) (hcase : (r' 7 = -1 ∧ r' 14 = r 14 ∧ r' 13 = r 13 + 1 ∧ ∃ t : Nat, r 13 = (t : Int) ∧ r (15 + t) = (c : Int)) ∨ (r' 7 = (c : Int) ∧ r' 13 = r 13 ∧ r' 14 = r 14 - 1 ∧ ∃ p : Nat, r 14 = ((p + 1 : Nat) : Int) ∧ r (67 + p) = (c : Int))) : V N r' := by
  obtain ⟨t0, p0, v1, v2, v3, v4, v5⟩ := V_pile h
  have hm := V_m h
  obtain ⟨⟨a, b, c', d, e, f, g, k, l, m, n⟩, ⟨d1, d2, d3⟩, ⟨p1, p2⟩, w, ct, fp⟩ := h
  obtain ⟨k1, k2, k3, k4⟩ := hk
  have hw := w c hc
  have ht52 := n h6 h5
  have hwc : r (119 + c) = 3 ∨ r (119 + c) = 2 := by
    rcases hcase with ⟨q1, q2, q3, t, q4, q5⟩ | ⟨q1, q2, q3, p, q4, q5⟩
    · exact .inl (hw.2.1.mpr ⟨t, by omega, by omega, q5⟩)
    · exact .inr (hw.2.2.mpr ⟨p, by omega, q5⟩)
  refine ⟨?_, ⟨fun i hi => ?_, fun i j hi hj hij => ?_, fun c hc => ?_⟩, ⟨fun j hj => ?_, fun i j hi hj hij => ?_⟩, fun d hd => ?_, fun p hp => ?_, ?_⟩
  · unfold NBr
    rw [k1 0 (by omega), k1 1 (by omega), k1 2 (by omega), k1 3 (by omega), e4, e5, e6, k2]
    refine ⟨a, b, c', d, e, .inr rfl, .inl rfl, k, ?_, ?_, fun _ z => by omega⟩
    · rcases hcase with ⟨q1, q2, q3, t, q4, q5⟩ | ⟨q1, q2, q3, p, q4, q5⟩ <;> omega
    · rcases hcase with ⟨q1, q2, q3, t, q4, q5⟩ | ⟨q1, q2, q3, p, q4, q5⟩ <;> omega
  · rw [k3 i hi]; exact d1 i hi
  · rw [k3 i hi, k3 j hj] at hij; exact d2 i j hi hj hij
  · obtain ⟨i, i1, i2⟩ := d3 c hc
    exact ⟨i, i1, by rw [k3 i i1]; exact i2⟩
  · have hj' : (j : Int) < r 14 := by rcases hcase with ⟨q1, q2, q3, t, q4, q5⟩ | ⟨q1, q2, q3, p, q4, q5⟩ <;> omega
    rw [ep j (by omega)]; exact p1 j hj'
  · have hi' : (i : Int) < r 14 ∧ (j : Int) < r 14 := by rcases hcase with ⟨q1, q2, q3, t, q4, q5⟩ | ⟨q1, q2, q3, p, q4, q5⟩ <;> omega
    rw [ep i (by omega), ep j (by omega)] at hij; exact p2 i j hi'.1 hi'.2 hij
  · by_cases e : d = c
    · subst e
      rw [ec]
      have hm2 : r 4 ≠ 2 := by rcases hm with y | y <;> rw [y] <;> decide
      have hm3 : r 4 ≠ 3 := by rcases hm with y | y <;> rw [y] <;> decide
      refine ⟨hm.elim .inl (fun z => .inr (.inl z)), ⟨fun z => absurd z hm3, ?_⟩, ⟨fun z => absurd z hm2, ?_⟩⟩
      · rintro ⟨i, i1, i2, i3⟩
        rw [k3 i i2] at i3
        rcases hcase with ⟨q1, q2, q3, t, q4, q5⟩ | ⟨q1, q2, q3, p, q4, q5⟩
        · have := d2 i t i2 (by omega) (by rw [i3, q5])
          omega
        · have z3 := hw.2.1.mpr ⟨i, by omega, i2, i3⟩
          have z2 := hw.2.2.mpr ⟨p, by omega, q5⟩
          omega
      · rintro ⟨j, j1, j2⟩
        have hj' : (j : Int) < r 14 := by rcases hcase with ⟨q1, q2, q3, t, q4, q5⟩ | ⟨q1, q2, q3, p, q4, q5⟩ <;> omega
        rw [ep j (by omega)] at j2
        rcases hcase with ⟨q1, q2, q3, t, q4, q5⟩ | ⟨q1, q2, q3, p, q4, q5⟩
        · have z3 := hw.2.1.mpr ⟨t, by omega, by omega, q5⟩
          have z2 := hw.2.2.mpr ⟨j, hj', j2⟩
          omega
        · have := p2 j p hj' (by omega) (by rw [j2, q5])
          omega
    · rw [k4 d hd e]
      obtain ⟨w1, w2, w3⟩ := w d hd
      refine ⟨w1, w2.trans ⟨?_, ?_⟩, w3.trans ⟨?_, ?_⟩⟩
      · rintro ⟨i, i1, i2, i3⟩
        refine ⟨i, ?_, i2, by rw [k3 i i2]; exact i3⟩
        rcases hcase with ⟨q1, q2, q3, t, q4, q5⟩ | ⟨q1, q2, q3, p, q4, q5⟩
        · have : i ≠ t := fun z => by rw [z, q5] at i3; omega
          omega
        · omega
      · rintro ⟨i, i1, i2, i3⟩
        refine ⟨i, ?_, i2, by rw [k3 i i2] at i3; exact i3⟩
        rcases hcase with ⟨q1, q2, q3, t, q4, q5⟩ | ⟨q1, q2, q3, p, q4, q5⟩ <;> omega
      · rintro ⟨j, j1, j2⟩
        refine ⟨j, ?_, by rw [ep j (by omega)]; exact j2⟩
        rcases hcase with ⟨q1, q2, q3, t, q4, q5⟩ | ⟨q1, q2, q3, p, q4, q5⟩
        · omega
        · have : j ≠ p := fun z => by rw [z, q5] at j2; omega
          omega
      · rintro ⟨j, j1, j2⟩
        have hj' : (j : Int) < r 14 := by rcases hcase with ⟨q1, q2, q3, t, q4, q5⟩ | ⟨q1, q2, q3, p, q4, q5⟩ <;> omega
        exact ⟨j, hj', by rw [ep j (by omega)] at j2; exact j2⟩
  · have hp0 := ct p hp
    rw [k1 0 (by omega), e4, e5]
    rw [h5, if_neg (by omega)] at hp0
    by_cases e : r 4 = p
    · rw [if_pos ⟨e, rfl⟩, ← Int.add_zero (r 0), ← hp0, cnt_ins (S := fun c => decide (r (119 + c) = p)) hc (by rw [ec]; exact decide_eq_true e) (decide_eq_false (by omega)) (fun d hd hdc => by rw [k4 d hd hdc])]
      omega
    · rw [if_neg (fun z => e z.1), ← hp0]
      congr 1
      refine cnt_congr (fun d hd => ?_)
      by_cases w : d = c
      · rw [w, ec]
        exact (decide_eq_false e).trans (decide_eq_false (by omega)).symm
      · rw [k4 d hd w]
  · rcases hcase with ⟨q1, q2, q3, t, q4, q5⟩ | ⟨q1, q2, q3, p, q4, q5⟩
    · exact .inl q1
    · exact .inr ⟨e5, c, hc, q1, by rw [ec, e4]⟩
theorem V_put {N : Nat} {r r' : Nat → Int} {c : Nat} (h : V N r) (h5 : r 5 = 1) (hc : c < 52) (hcm : r (119 + c) = r 4) (hk : KP r r' c) (e4 : r' 4 = 0 ∨ r' 4 = 1) (e5 : r' 5 = 0) (e6 : (r' 6 = 0 ∧ r 13 < 52) ∨ r' 6 = 1) (e7 : r' 7 = -1) (e13 : r' 13 = r 13) (e14 : r' 14 = r 14 + 1) (ep : ∀ j : Nat, (j : Int) < r 14 → r' (67 + j) = r (67 + j)) (epc : ∀ p : Nat, r 14 = (p : Int) → r' (67 + p) = (c : Int)) (ec : r' (119 + c) = 2) : V N r' := by
  obtain ⟨t0, p0, v1, v2, v3, v4, v5⟩ := V_pile h
  have hm := V_m h
  obtain ⟨⟨a, b, c', d, e, f, g, k, l, m, n⟩, ⟨d1, d2, d3⟩, ⟨p1, p2⟩, w, ct, fp⟩ := h
  obtain ⟨k1, k2, k3, k4⟩ := hk
  have hw := w c hc
  have epc0 := epc p0 v3
  refine ⟨?_, ⟨fun i hi => ?_, fun i j hi hj hij => ?_, fun c hc => ?_⟩, ⟨fun j hj => ?_, fun i j hi hj hij => ?_⟩, fun d hd => ?_, fun p hp => ?_, .inl e7⟩
  · unfold NBr
    rw [k1 0 (by omega), k1 1 (by omega), k1 2 (by omega), k1 3 (by omega), e5, k2, e13, e14]
    exact ⟨a, b, c', d, e4, .inl rfl, e6.elim (fun z => .inl z.1) .inr, k, l, by clear hw; omega, fun z _ => by
      rcases e6 with y | y
      · exact y.2
      · rw [y] at z; cases z⟩
  · rw [k3 i hi]; exact d1 i hi
  · rw [k3 i hi, k3 j hj] at hij; exact d2 i j hi hj hij
  · obtain ⟨i, i1, i2⟩ := d3 c hc
    exact ⟨i, i1, by rw [k3 i i1]; exact i2⟩
  · by_cases e : j = p0
    · rw [e, epc0]; exact ⟨c, hc, rfl⟩
    · rw [ep j (by omega)]; exact p1 j (by omega)
  · have inj : ∀ j : Nat, (j : Int) < r 14 → r (67 + j) ≠ (c : Int) := fun j hj z => by
      have := hw.2.2.mpr ⟨j, hj, z⟩
      omega
    by_cases e : i = p0 <;> by_cases e2 : j = p0
    · omega
    · rw [e, epc0, ep j (by omega)] at hij
      exact absurd hij.symm (inj j (by omega))
    · rw [e2, epc0, ep i (by omega)] at hij
      exact absurd hij (inj i (by omega))
    · rw [ep i (by omega), ep j (by omega)] at hij
      exact p2 i j (by omega) (by omega) hij
  · by_cases e : d = c
    · subst e
      rw [ec]
      refine ⟨.inr (.inr (.inl rfl)), ⟨fun z => by omega, ?_⟩, ⟨fun _ => ⟨p0, by omega, epc0⟩, fun _ => rfl⟩⟩
      rintro ⟨i, i1, i2, i3⟩
      rw [k3 i i2] at i3
      have z3 := hw.2.1.mpr ⟨i, by omega, i2, i3⟩
      omega
    · rw [k4 d hd e]
      obtain ⟨w1, w2, w3⟩ := w d hd
      refine ⟨w1, w2.trans ⟨?_, ?_⟩, w3.trans ⟨?_, ?_⟩⟩
      · rintro ⟨i, i1, i2, i3⟩
        exact ⟨i, by omega, i2, by rw [k3 i i2]; exact i3⟩
      · rintro ⟨i, i1, i2, i3⟩
        exact ⟨i, by omega, i2, by rw [k3 i i2] at i3; exact i3⟩
      · rintro ⟨j, j1, j2⟩
        exact ⟨j, by omega, by rw [ep j j1]; exact j2⟩
      · rintro ⟨j, j1, j2⟩
        by_cases e2 : j = p0
        · rw [e2, epc0] at j2; omega
        · exact ⟨j, by omega, by rw [ep j (by omega)] at j2; exact j2⟩
  · have hp0 := ct p hp
    rw [k1 0 (by omega), e5, if_neg (by omega), Int.add_zero]
    rw [h5] at hp0
    by_cases e : r 4 = p
    · rw [if_pos ⟨e, rfl⟩, cnt_ins (S := fun c => decide (r' (119 + c) = p)) hc (decide_eq_true (by rw [hcm]; exact e)) (decide_eq_false (by omega)) (fun d hd hdc => by rw [k4 d hd hdc])] at hp0
      omega
    · rw [if_neg (fun z => e z.1), Int.add_zero] at hp0
      rw [← hp0]
      congr 1
      refine cnt_congr (fun d hd => ?_)
      by_cases w : d = c
      · rw [w, ec, hcm]
        exact (decide_eq_false (by omega)).trans (decide_eq_false e).symm
      · rw [k4 d hd w]
/-! the model's side -/
/-- only the row changes -/
def RW (σ σ' : Mm) : Prop := ∀ k, k ≠ 1 → σ' k = σ k
theorem RW_t {σ σ' σ'' : Mm} (h : RW σ σ') (h2 : RW σ' σ'') : RW σ σ'' := fun k hk => (h2 k hk).trans (h k hk)
theorem RW_r (σ : Mm) : RW σ σ := fun _ _ => rfl
theorem RW_u (σ : Mm) (j : Nat) (v : Int) : RW σ (zu σ 1 j v) := fun k hk => by unfold zu; rw [if_neg hk]
theorem X7_drawIt0 {N : Nat} {σ : Mm} {p : Int} (hp : zw p = 0) (h : V N (σ 1)) (h6 : σ 1 6 = 0) (h5 : σ 1 5 = 0) : ∃ (c : Nat) (σ' : Mm), c < 52 ∧ x_X7_drawIt σ p = some (σ', (c : Int)) ∧ RW σ σ' ∧ KP (σ 1) (σ' 1) c ∧ σ' 1 4 = σ 1 4 ∧ σ' 1 5 = 1 ∧ σ' 1 6 = 0 ∧ (∀ j : Nat, j < 52 → σ' 1 (67 + j) = σ 1 (67 + j)) ∧ σ' 1 (119 + c) = σ 1 4 ∧ σ' 1 7 = -1 ∧ σ' 1 14 = σ 1 14 ∧ σ' 1 13 = σ 1 13 + 1 ∧ (∀ k : Nat, 8 ≤ k → k < 12 → σ' 1 k = σ 1 k) ∧ ∃ t : Nat, t < 52 ∧ σ 1 13 = (t : Int) ∧ σ 1 (15 + t) = (c : Int) := by
  obtain ⟨t0, p0, v1, v2, v3, v4, v5⟩ := V_pile h
  obtain ⟨⟨a, b, c', d, e, f, g, k, l, m, n⟩, ⟨d1, d2, d3⟩, -⟩ := h
  have ht := n h6 h5
  obtain ⟨c, c1, c2⟩ := d1 t0 (by omega)
  have q1 : (15 : Int) + (t0 : Int) = ((15 + t0 : Nat) : Int) := by omega
  have q2 : (119 : Int) + (c : Int) = ((119 + c : Nat) : Int) := by omega
  have hr : ∀ j, zu (zu (zu (zu σ 1 13 ((t0 : Int) + 1)) 1 (119 + c) (σ 1 4)) 1 5 1) 1 7 (-1) 1 j = if j = 7 then -1 else if j = 5 then 1 else if j = 119 + c then σ 1 4 else if j = 13 then (t0 : Int) + 1 else σ 1 j := fun j => by
    rw [zu_at, zu_at, zu_at, zu_at]
    simp only [true_and]
  refine ⟨c, zu (zu (zu (zu σ 1 13 ((t0 : Int) + 1)) 1 (119 + c) (σ 1 4)) 1 5 1) 1 7 (-1), c1, ?_, RW_t (RW_u _ _ _) (RW_t (RW_u _ _ _) (RW_t (RW_u _ _ _) (RW_u _ _ _))), ⟨fun k hk => ?_, ?_, fun i hi => ?_, fun d hd hdc => ?_⟩, ?_, rfl, ?_, fun j hj => ?_, ?_, rfl, ?_, ?_, fun k k1 k2 => ?_, t0, by omega, v1, c2⟩
  · unfold x_X7_drawIt
    rw [if_pos hp, if_pos (by decide), show zix (13 : Int) = 13 by decide, v1, q1, if_pos (zin_i (by omega) (by omega) (by omega)), zix_nat (by omega), c2]
    unfold x_X7_drawIt_j26
    rw [if_pos hp, if_pos (by decide), show zix (13 : Int) = 13 by decide, if_pos (by decide), bnd_eq, v1]
    unfold x_X7_drawIt_j56
    rw [if_pos (by decide), q2, if_pos (zin_i (by omega) (by omega) (by omega)), zix_nat (by omega), show zix (4 : Int) = 4 by decide, bnd_eq, if_pos (by decide), show zix (5 : Int) = 5 by decide, bnd_eq, if_pos hp, if_pos (by decide), show zix (7 : Int) = 7 by decide, bnd_eq]
    rfl
  · rw [hr, if_neg (by omega), if_neg (by omega), if_neg (by omega), if_neg (by omega)]
  · rw [hr, if_neg (by omega), if_neg (by omega), if_neg (by omega), if_neg (by omega)]
  · rw [hr, if_neg (by omega), if_neg (by omega), if_neg (by omega), if_neg (by omega)]
  · rw [hr, if_neg (by omega), if_neg (by omega), if_neg (by omega), if_neg (by omega)]
  · rw [hr, if_neg (by omega), if_neg (by omega), if_neg (by omega), if_neg (by omega)]
  · rw [hr, if_neg (by omega), if_neg (by omega), if_neg (by omega), if_neg (by omega)]; exact h6
  · rw [hr, if_neg (by omega), if_neg (by omega), if_neg (by omega), if_neg (by omega)]
  · rw [hr, if_neg (by omega), if_neg (by omega), if_pos rfl]
  · rw [hr, if_neg (by omega), if_neg (by omega), if_neg (by omega), if_neg (by omega)]
  · rw [hr, if_neg (by omega), if_neg (by omega), if_neg (by omega), if_pos rfl, v1]
  · rw [hr, if_neg (by omega), if_neg (by omega), if_neg (by omega), if_neg (by omega)]
theorem X7_drawIt1 {N : Nat} {σ : Mm} {p : Int} (hp : zw p ≠ 0) (h : V N (σ 1)) (h6 : σ 1 6 = 0) (h5 : σ 1 5 = 0) : ∃ (c : Nat) (σ' : Mm), c < 52 ∧ x_X7_drawIt σ p = some (σ', (c : Int)) ∧ RW σ σ' ∧ KP (σ 1) (σ' 1) c ∧ σ' 1 4 = σ 1 4 ∧ σ' 1 5 = 1 ∧ σ' 1 6 = 0 ∧ (∀ j : Nat, j < 52 → σ' 1 (67 + j) = σ 1 (67 + j)) ∧ σ' 1 (119 + c) = σ 1 4 ∧ σ' 1 7 = (c : Int) ∧ σ' 1 13 = σ 1 13 ∧ σ' 1 14 = σ 1 14 - 1 ∧ (∀ k : Nat, 8 ≤ k → k < 12 → σ' 1 k = σ 1 k) ∧ ∃ q : Nat, σ 1 14 = ((q + 1 : Nat) : Int) ∧ σ 1 (67 + q) = (c : Int) := by
  obtain ⟨t0, p0, v1, v2, v3, v4, v5⟩ := V_pile h
  have htop := X7_top h
  have hp1 := v5 h5
  rcases htop with ⟨z1, -⟩ | ⟨q, c, z1, z2, c1, c2, z3⟩
  · omega
  have q2 : (119 : Int) + (c : Int) = ((119 + c : Nat) : Int) := by omega
  have hr : ∀ j, zu (zu (zu (zu σ 1 14 (((q + 1 : Nat) : Int) - 1)) 1 (119 + c) (σ 1 4)) 1 5 1) 1 7 (c : Int) 1 j = if j = 7 then (c : Int) else if j = 5 then 1 else if j = 119 + c then σ 1 4 else if j = 14 then ((q + 1 : Nat) : Int) - 1 else σ 1 j := fun j => by
    rw [zu_at, zu_at, zu_at, zu_at]
    simp only [true_and]
  refine ⟨c, zu (zu (zu (zu σ 1 14 (((q + 1 : Nat) : Int) - 1)) 1 (119 + c) (σ 1 4)) 1 5 1) 1 7 (c : Int), c1, ?_, RW_t (RW_u _ _ _) (RW_t (RW_u _ _ _) (RW_t (RW_u _ _ _) (RW_u _ _ _))), ⟨fun k hk => ?_, ?_, fun i hi => ?_, fun d hd hdc => ?_⟩, ?_, rfl, ?_, fun j hj => ?_, ?_, rfl, ?_, ?_, fun k k1 k2 => ?_, q, z1, c2⟩
  · unfold x_X7_drawIt
    rw [if_neg hp, z3, Option.bind_some]
    unfold x_X7_drawIt_j26
    rw [if_neg hp, if_pos (by decide), show zix (14 : Int) = 14 by decide, if_pos (by decide), bnd_eq, z1]
    unfold x_X7_drawIt_j56
    rw [if_pos (by decide), q2, if_pos (zin_i (by omega) (by omega) (by omega)), zix_nat (by omega), show zix (4 : Int) = 4 by decide, bnd_eq, if_pos (by decide), show zix (5 : Int) = 5 by decide, bnd_eq, if_neg hp, if_pos (by decide), show zix (7 : Int) = 7 by decide, bnd_eq]
    rfl
  · rw [hr, if_neg (by omega), if_neg (by omega), if_neg (by omega), if_neg (by omega)]
  · rw [hr, if_neg (by omega), if_neg (by omega), if_neg (by omega), if_neg (by omega)]
  · rw [hr, if_neg (by omega), if_neg (by omega), if_neg (by omega), if_neg (by omega)]
  · rw [hr, if_neg (by omega), if_neg (by omega), if_neg (by omega), if_neg (by omega)]
  · rw [hr, if_neg (by omega), if_neg (by omega), if_neg (by omega), if_neg (by omega)]
  · rw [hr, if_neg (by omega), if_neg (by omega), if_neg (by omega), if_neg (by omega)]; exact h6
  · rw [hr, if_neg (by omega), if_neg (by omega), if_neg (by omega), if_neg (by omega)]
  · rw [hr, if_neg (by omega), if_neg (by omega), if_pos rfl]
  · rw [hr, if_neg (by omega), if_neg (by omega), if_neg (by omega), if_neg (by omega)]
  · rw [hr, if_neg (by omega), if_neg (by omega), if_neg (by omega), if_pos rfl, z1]
  · rw [hr, if_neg (by omega), if_neg (by omega), if_neg (by omega), if_neg (by omega)]
/-- the class's cards behind a draw -/
theorem hand_add {μ : Mm} {r r' : Nat → Int} {m c : Nat} (hm : m < 2) (hr4 : r 4 = (m : Int)) (hc : c < 52) (hcn : r (119 + c) = 3 ∨ r (119 + c) = 2) (hk : KP r r' c) (ec : r' (119 + c) = r 4) (mh : ∀ p : Nat, p < 2 → cw (zL (μ 2 p)) ∧ ∀ c : Nat, c < 52 → bs (zL (μ 2 p)) c = decide (r (119 + c) = (p : Int))) (p : Nat) (hp : p < 2) : cw (zL (zu μ 2 m (Int64.toInt (zL (μ 2 m) ||| one c)) 2 p)) ∧ ∀ d : Nat, d < 52 → bs (zL (zu μ 2 m (Int64.toInt (zL (μ 2 m) ||| one c)) 2 p)) d = decide (r' (119 + d) = (p : Int)) := by
  by_cases e : p = m
  · rw [e, zu_hit, zL_toInt]
    refine ⟨cw_add hc (mh m hm).1, fun d hd => ?_⟩
    rw [bs_add _ (by omega), (mh m hm).2 d hd]
    by_cases w : d = c
    · rw [w, ec, hr4]; simp
    · rw [hk.2.2.2 d hd w]; simp [w]
  · rw [zu_miss _ _ _ _ (fun _ => e)]
    refine ⟨(mh p hp).1, fun d hd => ?_⟩
    rw [(mh p hp).2 d hd]
    by_cases w : d = c
    · rw [w, ec, hr4]
      exact (decide_eq_false (by omega)).trans (decide_eq_false (by omega)).symm
    · rw [hk.2.2.2 d hd w]
theorem hand_sub {μ : Mm} {r r' : Nat → Int} {m c : Nat} (hm : m < 2) (hc : c < 52) (hcm : r (119 + c) = (m : Int)) (hk : KP r r' c) (ec : r' (119 + c) = 2) (mh : ∀ p : Nat, p < 2 → cw (zL (μ 2 p)) ∧ ∀ c : Nat, c < 52 → bs (zL (μ 2 p)) c = decide (r (119 + c) = (p : Int))) (p : Nat) (hp : p < 2) : cw (zL (zu μ 2 m (Int64.toInt (dif (zL (μ 2 m)) (one c))) 2 p)) ∧ ∀ d : Nat, d < 52 → bs (zL (zu μ 2 m (Int64.toInt (dif (zL (μ 2 m)) (one c))) 2 p)) d = decide (r' (119 + d) = (p : Int)) := by
  by_cases e : p = m
  · rw [e, zu_hit, zL_toInt]
    refine ⟨cw_dif _ (mh m hm).1, fun d hd => ?_⟩
    rw [bs_dif2, bs_one2 (by omega), (mh m hm).2 d hd]
    by_cases w : d = c
    · rw [w, ec]
      have : ¬ (2 : Int) = (m : Int) := by omega
      simp [this]
    · rw [hk.2.2.2 d hd w]; simp [w]
  · rw [zu_miss _ _ _ _ (fun _ => e)]
    refine ⟨(mh p hp).1, fun d hd => ?_⟩
    rw [(mh p hp).2 d hd]
    by_cases w : d = c
    · rw [w, ec, hcm]
      exact (decide_eq_false (by omega)).trans (decide_eq_false (by omega)).symm
    · rw [hk.2.2.2 d hd w]
/-- drawing on both sides -/
theorem draw_sim {N : Nat} {μ σ : Mm} {p : Int} (h : V N (σ 1)) (hM : MR μ (σ 1)) (h6 : σ 1 6 = 0) (h5 : σ 1 5 = 0) : ∃ (c : Nat) (μ' σ' : Mm), x_X2_takeCard μ p = some (μ', (c : Int)) ∧ x_X7_drawIt σ p = some (σ', (c : Int)) ∧ V N (σ' 1) ∧ MR μ' (σ' 1) ∧ RW σ σ' := by
  obtain ⟨m, m1, m2, -⟩ := V_mv h
  by_cases hp : zw p = 0
  · obtain ⟨c, σ', c1, c2, c3, c4, c5, c6, c7, c8, c9, c10, c11, c12, c13, t, t1, t2, t3⟩ := X7_drawIt0 hp h h6 h5
    have hV := V_draw h h6 h5 c1 c4 c5 c6 c7 c8 c9 (.inl ⟨c10, c11, c12, t, t2, t3⟩)
    obtain ⟨⟨a0, a1, a2, a3, a4, a5, a6, a7, a8, a9, a10, a11, a12⟩, ⟨s0, s1⟩, md, mp, mh⟩ := hM
    have hwc := (h.2.2.2.1 c c1).2.1.mpr ⟨t, by omega, t1, t3⟩
    have hf : σ 1 7 = -1 := by
      rcases h.2.2.2.2.2 with z | ⟨z, -⟩
      · exact z
      · omega
    obtain ⟨k1, k2, k3, k4⟩ := c4
    refine ⟨c, zu (zu (zu μ 0 14 ((t : Int) + 1)) 2 m (Int64.toInt (zL (μ 2 m) ||| one c))) 0 6 1, σ', ?_, c2, hV, ⟨⟨a0.trans (k1 0 (by omega)).symm, a1.trans (k1 1 (by omega)).symm, a2.trans (k1 2 (by omega)).symm, by rw [k2]; exact a3, a4.trans (k1 3 (by omega)).symm, a5.trans c5.symm, c6.symm, (a7.trans hf).trans c10.symm, (a8.trans h6).trans c7.symm, a9.trans (c13 10 (by omega) (by omega)).symm, a10.trans (c13 11 (by omega) (by omega)).symm, by rw [c12, t2]; rfl, a12.trans c11.symm⟩, ⟨s0.trans (c13 8 (by omega) (by omega)).symm, s1.trans (c13 9 (by omega) (by omega)).symm⟩, fun j hj => ?_, fun j hj => ?_, fun p hp => ?_⟩, c3⟩
    · unfold x_X2_takeCard
      rw [if_pos hp, a11, t2]
      have hd : x_X2_deckAt μ (t : Int) = some (c : Int) := by
        unfold x_X2_deckAt
        rw [if_neg (nlt0 (by omega)), if_neg (nle_l (by omega) (by omega)), if_pos (zin_i (by omega) (by omega) (by omega)), zix_nat (by omega), md t t1, t3]
      rw [hd, Option.bind_some]
      unfold x_X2_takeCard_j19
      rw [if_pos (by rw [zwn (by omega), zw_eq (x := (-1 : Int)) (by omega) (by omega)]; omega), if_pos hp, a11, t2, bnd_eq]
      unfold x_X2_takeCard_j59
      have e5 : zu μ 0 14 ((t : Int) + 1) 0 5 = (m : Int) := a5.trans m2
      rw [e5, zand_p m1, if_pos (zin_i (by omega) (by omega) (by omega)), X6_bitOf c1, Option.bind_some, if_pos (zin_i (by omega) (by omega) (by omega)), zix_nat (by omega), bnd_eq, bnd_eq]
      rfl
    · rw [k3 j hj]; exact md j hj
    · rw [c11] at hj
      have := V_pile h
      obtain ⟨t0, p0, v1, v2, v3, v4, v5⟩ := V_pile h
      rw [c8 j (by omega)]; exact mp j hj
    · exact hand_add m1 m2 c1 (.inl hwc) ⟨k1, k2, k3, k4⟩ c9 mh p hp
  · obtain ⟨c, σ', c1, c2, c3, c4, c5, c6, c7, c8, c9, c10, c11, c12, c13, q, t2, t3⟩ := X7_drawIt1 hp h h6 h5
    have hV := V_draw h h6 h5 c1 c4 c5 c6 c7 c8 c9 (.inr ⟨c10, c11, c12, q, t2, t3⟩)
    have htop := X2_top h hM
    obtain ⟨t0, p0, v1, v2, v3, v4, v5⟩ := V_pile h
    obtain ⟨⟨a0, a1, a2, a3, a4, a5, a6, a7, a8, a9, a10, a11, a12⟩, ⟨s0, s1⟩, md, mp, mh⟩ := hM
    have hwc := (h.2.2.2.1 c c1).2.2.mpr ⟨q, by omega, t3⟩
    obtain ⟨k1, k2, k3, k4⟩ := c4
    rcases htop with ⟨z1, -⟩ | ⟨q', c', z1, z2, z4, z5, z3⟩
    · omega
    have hqq : q' = q := by omega
    subst hqq
    have hcc : c' = c := by rw [t3] at z5; omega
    subst hcc
    refine ⟨c', zu (zu (zu (zu μ 0 16 (((q' + 1 : Nat) : Int) - 1)) 0 7 (c' : Int)) 2 m (Int64.toInt (zL (μ 2 m) ||| one c'))) 0 6 1, σ', ?_, c2, hV, ⟨⟨a0.trans (k1 0 (by omega)).symm, a1.trans (k1 1 (by omega)).symm, a2.trans (k1 2 (by omega)).symm, by rw [k2]; exact a3, a4.trans (k1 3 (by omega)).symm, a5.trans c5.symm, c6.symm, c10.symm, (a8.trans h6).trans c7.symm, a9.trans (c13 10 (by omega) (by omega)).symm, a10.trans (c13 11 (by omega) (by omega)).symm, a11.trans c11.symm, by rw [c12, t2]; rfl⟩, ⟨s0.trans (c13 8 (by omega) (by omega)).symm, s1.trans (c13 9 (by omega) (by omega)).symm⟩, fun j hj => ?_, fun j hj => ?_, fun p hp => ?_⟩, c3⟩
    · unfold x_X2_takeCard
      rw [if_neg hp, z3, Option.bind_some]
      unfold x_X2_takeCard_j19
      rw [if_pos (by rw [zwn (by omega), zw_eq (x := (-1 : Int)) (by omega) (by omega)]; omega), if_neg hp, a12, t2, bnd_eq, bnd_eq]
      unfold x_X2_takeCard_j59
      have e5 : zu (zu μ 0 16 (((q' + 1 : Nat) : Int) - 1)) 0 7 (c' : Int) 0 5 = (m : Int) := a5.trans m2
      rw [e5, zand_p m1, if_pos (zin_i (by omega) (by omega) (by omega)), X6_bitOf c1, Option.bind_some, if_pos (zin_i (by omega) (by omega) (by omega)), zix_nat (by omega), bnd_eq, bnd_eq]
      rfl
    · rw [k3 j hj]; exact md j hj
    · rw [c12] at hj
      rw [c8 j (by omega)]; exact mp j (by omega)
    · exact hand_add m1 m2 c1 (.inr hwc) ⟨k1, k2, k3, k4⟩ c9 mh p hp
