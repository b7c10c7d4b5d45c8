/-! The model's layOutOf, restWithoutCard, leastBehind -/
/-- the hand of a player, by the model's row -/
def hnd (σ : Mm) (p : Int) (P : Int64) : Prop := cw P ∧ ∀ c, c < 52 → bs P c = decide (zw (σ 1 (119 + c)) = zw p)
theorem sel_1 {σ : Mm} {p : Int} {P : Int64} (h : hnd σ p P) : ∀ c, c < 52 → bs P c = selB σ p (-1) (-1) c := fun c hc => by
  unfold selB
  have e : ¬ zw (c : Int) = zw (-1) := by rw [zwn (by omega), zw_eq (x := (-1 : Int)) (by omega) (by omega)]; omega
  rw [decide_eq_true e, decide_eq_false e, h.2 c hc]
  simp
theorem X7_layOutOf {σ : Mm} {p : Int} {P : Int64} (h : hnd σ p P) (h11 : cnt (bs P) 64 ≤ 11) : ∃ (σ' : Mm) (H : Nat → Nat), x_X7_layOutOf σ p = some σ' ∧ LM σ' P (Lay P) ∧ HP σ' (cnt (bs P) 64) H P ∧ SC σ σ' := by
  obtain ⟨σ1, H, a1, a2, a3⟩ := X7_takeHand σ p (-1) (-1) h.1 h11 (sel_1 h)
  obtain ⟨σ2, b1, b2, b3, b4⟩ := X7_layOut a2
  unfold x_X7_layOutOf
  rw [a1, Option.bind_some, b1, Option.bind_some]
  exact ⟨σ2, H, rfl, b2, b3, SC_t a3 b4⟩
/-- the least rest without one of the cards, but not one that must stay -/
def lsb (P : Int64) (x : Int) (v : Nat) : Prop := (∃ c, bs P c = true ∧ ¬ zw (c : Int) = zw x ∧ v = RR P (dif P (one c))) ∧ ∀ c, bs P c = true → ¬ zw (c : Int) = zw x → v ≤ RR P (dif P (one c))
theorem lsb_u {P : Int64} {x : Int} {v w : Nat} (h : lsb P x v) (h2 : lsb P x w) : v = w := by
  obtain ⟨⟨c, c1, c2, c3⟩, c4⟩ := h
  obtain ⟨⟨d, d1, d2, d3⟩, d4⟩ := h2
  have := c4 d d1 d2
  have := d4 c c1 c2
  omega
theorem co_but {n : Nat} {H : Nat → Nat} {P : Int64} (h : hOk n H) (hP : ∀ c, bs P c = true ↔ ∃ i, i < n ∧ H i = c) {i : Nat} (hi : i < n) : co H (ndif (2 ^ n - 1) (2 ^ i)) n = dif P (one (H i)) := by
  rw [co_dif h, co_one h hi]
  congr 1
  apply bs_ext
  intro c _
  cases e : bs (co H (2 ^ n - 1) n) c
  · symm
    cases e2 : bs P c
    · rfl
    · obtain ⟨i, i1, i2⟩ := (hP c).mp e2
      rw [(co_bs c h.2.1).mpr ⟨i, i1, by rw [Nat.testBit_two_pow_sub_one]; simp [i1], i2⟩] at e; cases e
  · exact ((sb_iff _ _).mp (co_sbP h hP _) c e).symm
theorem place_but {n i : Nat} (hn : n ≤ 11) (hi : i < n) : zand ((zshl (1 : Int) (n : Int)) - (1 : Int)) (zxor (zshl (1 : Int) (i : Int)) (-1 : Int)) = ((ndif (2 ^ n - 1) (2 ^ i) : Nat) : Int) ∧ ndif (2 ^ n - 1) (2 ^ i) < 2 ^ n ∧ ndif (2 ^ n - 1) (2 ^ i) < 2048 := by
  have hpn : 2 ^ n ≤ 2048 := Nat.pow_le_pow_right (n := 2) (j := 11) (by decide) hn
  have hp0 : 0 < 2 ^ n := Nat.two_pow_pos n
  have hpi : 2 ^ i < 2147483648 := Nat.pow_lt_pow_right (a := 2) (n := 31) (by decide) (by omega)
  have hle := ndif_le (2 ^ n - 1) (2 ^ i)
  have ea : ((2 ^ n : Nat) : Int) - 1 = ((2 ^ n - 1 : Nat) : Int) := by omega
  refine ⟨?_, by omega, by omega⟩
  rw [zsh1 (by omega), zsh1 (by omega), ea, zdif (by omega) hpi]
theorem X7_leastBehind {σ : Mm} {n : Nat} {H : Nat → Nat} {P : Int64} (x : Int) (hH : HP σ n H P) (hx : ∃ c, bs P c = true ∧ ¬ zw (c : Int) = zw x) : ∃ (σ' : Mm) (v : Nat) (N : List Nat), x_X7_leastBehind σ x = some (σ', (v : Int)) ∧ lsb P x v ∧ v ≤ 520 ∧ RS σ' n H P N ∧ (∀ a, a < 2 ^ n → σ' 22 a = ((RR P (co H a n) : Nat) : Int)) ∧ SC σ σ' := by
  obtain ⟨σ1, N, a1, a2, a3, a4⟩ := X7_findRests hH
  obtain ⟨⟨hD, h, hn, hP⟩, hNS, hO, hmem, hl⟩ := a2
  have h1 := h.1
  have hcw : cw P := cw_P ⟨hD, h, hn, hP⟩
  have h11 : cnt (bs P) 64 ≤ 11 := by omega
  unfold x_X7_leastBehind
  rw [a1, Option.bind_some, un2_eq]
  obtain ⟨e9, b1, b2⟩ := lup_for (f := fun (s12 : Int × Int) => x_X7_leastBehind_b12 σ1 x s12.1 s12.2) (fun i s => s.2 = (i : Int) ∧ ((s.1 = 2147483647 ∧ ∀ j, j < i → zw (H j : Int) = zw x) ∨ ∃ v : Nat, s.1 = (v : Int) ∧ v ≤ 520 ∧ (∃ j, j < i ∧ ¬ zw (H j : Int) = zw x ∧ v = RR P (dif P (one (H j)))) ∧ ∀ j, j < i → ¬ zw (H j : Int) = zw x → v ≤ RR P (dif P (one (H j))))) (fun e => ∃ v : Nat, e = (v : Int) ∧ lsb P x v ∧ v ≤ 520) n (fun i s hi hs => by
    obtain ⟨lv, u⟩ := s
    obtain ⟨hu, hv⟩ := hs
    simp only at hu hv
    subst hu
    have h52 := h.2.1 i hi
    obtain ⟨p1, p2, p3⟩ := place_but h1 hi
    have hle := RR_le hcw h11 (sb_dif P (one (H i)))
    show ∃ s', x_X7_leastBehind_b12 σ1 x lv (i : Int) = _ ∧ _
    unfold x_X7_leastBehind_b12
    rw [hD.1, if_neg (by rw [zwn (by omega), zwn (by omega)]; omega), p1, if_pos (zin_i (by omega) (by omega) (by omega)), bnd_eq, zix_nat (n := ndif (2 ^ n - 1) (2 ^ i)) (by omega), a3 _ p2, co_but h hP hi, if_pos (zin_i (by omega) (by omega) (by omega)), zix_nat (n := i) (by omega), hD.2 i hi]
    by_cases c : zw (H i : Int) = zw x
    · rw [if_pos c, bnd_eq]
      refine ⟨_, rfl, by show (i : Int) + 1 = _; omega, ?_⟩
      rcases hv with ⟨z1, z2⟩ | ⟨v, v1, v2, ⟨j, j1, j2, j3⟩, v4⟩
      · refine .inl ⟨z1, fun j hj => ?_⟩
        by_cases e : j = i
        · rw [e]; exact c
        · exact z2 j (by omega)
      · refine .inr ⟨v, v1, v2, ⟨j, by omega, j2, j3⟩, fun j hj hj2 => ?_⟩
        by_cases e : j = i
        · rw [e] at hj2; exact absurd c hj2
        · exact v4 j (by omega) hj2
    · rw [if_neg c]
      rcases hv with ⟨z1, z2⟩ | ⟨v, v1, v2, ⟨j, j1, j2, j3⟩, v4⟩
      · subst z1
        rw [if_neg (by rw [zwn (by omega), zw_eq (x := (2147483647 : Int)) (by omega) (by omega)]; omega), bnd_eq]
        refine ⟨_, rfl, by show (i : Int) + 1 = _; omega, .inr ⟨RR P (dif P (one (H i))), rfl, hle, ⟨i, by omega, c, rfl⟩, fun j hj hj2 => ?_⟩⟩
        by_cases e : j = i
        · rw [e]; exact Nat.le_refl _
        · exact absurd (z2 j (by omega)) hj2
      · subst v1
        by_cases c2 : v ≤ RR P (dif P (one (H i)))
        · rw [if_pos (by rw [zwn (by omega), zwn (by omega)]; omega), bnd_eq]
          refine ⟨_, rfl, by show (i : Int) + 1 = _; omega, .inr ⟨v, rfl, v2, ⟨j, by omega, j2, j3⟩, fun j hj hj2 => ?_⟩⟩
          by_cases e : j = i
          · rw [e]; exact c2
          · exact v4 j (by omega) hj2
        · rw [if_neg (by rw [zwn (by omega), zwn (by omega)]; omega), bnd_eq]
          refine ⟨_, rfl, by show (i : Int) + 1 = _; omega, .inr ⟨RR P (dif P (one (H i))), rfl, hle, ⟨i, by omega, c, rfl⟩, fun j hj hj2 => ?_⟩⟩
          by_cases e : j = i
          · rw [e]; exact Nat.le_refl _
          · have := v4 j (by omega) hj2
            omega) (fun s hs => by
    obtain ⟨lv, u⟩ := s
    obtain ⟨hu, hv⟩ := hs
    simp only at hu hv
    subst hu
    refine ⟨lv, ?_, ?_⟩
    · show x_X7_leastBehind_b12 σ1 x _ _ = _
      unfold x_X7_leastBehind_b12
      rw [hD.1, if_pos (Int.le_refl _)]
    · rcases hv with ⟨z1, z2⟩ | ⟨v, v1, v2, ⟨j, j1, j2, j3⟩, v4⟩
      · obtain ⟨c, c1, c2⟩ := hx
        obtain ⟨i, i1, i2⟩ := (hP c).mp c1
        exact absurd (by rw [← i2]; exact z2 i i1) c2
      · refine ⟨v, v1, ⟨⟨H j, (hP _).mpr ⟨j, j1, rfl⟩, j2, j3⟩, fun c c1 c2 => ?_⟩, v2⟩
        obtain ⟨i, i1, i2⟩ := (hP c).mp c1
        subst i2
        exact v4 i i1 c2) (s := (2147483647, 0)) ⟨rfl, .inl ⟨rfl, fun j hj => by omega⟩⟩
  obtain ⟨v, v1, v2, v3⟩ := b2
  subst v1
  rw [b1, Option.bind_some]
  exact ⟨σ1, v, N, rfl, v2, v3, ⟨⟨hD, h, hn, hP⟩, hNS, hO, hmem, hl⟩, a3, a4⟩
/-- the class's rest behind a drop is that -/
theorem X1_lsb (σ : Mm) {P : Int64} {x : Int} (hp : cw P) (h11 : cnt (bs P) 64 ≤ 11) (hx : ∃ c, bs P c = true ∧ ¬ zw (c : Int) = zw x) : ∃ (σ' : Mm) (v : Nat), x_X1_restBehindDrop σ P x = some (σ', (v : Int)) ∧ lsb P x v := by
  have key : ∃ b, x_X6_bitOf x = some b ∧ ∀ c, bs (dif P b) c = true ↔ (bs P c = true ∧ ¬ zw (c : Int) = zw x) := by
    by_cases e : 0 ≤ zw x ∧ zw x < 52
    · obtain ⟨k, hk⟩ : ∃ k : Nat, zw x = (k : Int) := ⟨(zw x).toNat, by omega⟩
      have hk52 : k < 52 := by omega
      refine ⟨one k, ?_, fun c => ?_⟩
      · unfold x_X6_bitOf
        rw [zw_eq (x := (52 : Int)) (by omega) (by omega), if_neg (by omega), if_neg (by omega)]
        unfold one zlshl
        have : zJ x = zJ (k : Int) := (zJ_eq _ _).mpr (by rw [hk, zwn (by omega)])
        rw [this]
      · rw [bs_dif2, bs_one2 (by omega), Bool.and_eq_true]
        constructor
        · rintro ⟨h1, h2⟩
          have := cw_lt hp h1
          refine ⟨h1, ?_⟩
          rw [zwn (by omega), hk]
          intro z
          have : c = k := by omega
          rw [this] at h2; simp at h2
        · rintro ⟨h1, h2⟩
          have := cw_lt hp h1
          rw [zwn (by omega), hk] at h2
          have : c ≠ k := fun z => h2 (by rw [z])
          exact ⟨h1, by simp [this]⟩
    · refine ⟨0, X6_bitOf_out e, fun c => ?_⟩
      rw [dif_0]
      constructor
      · intro h
        have := cw_lt hp h
        refine ⟨h, ?_⟩
        rw [zwn (by omega)]
        omega
      · exact fun h => h.1
  obtain ⟨b, hb, hiff⟩ := key
  obtain ⟨c0, c1, c2⟩ := hx
  obtain ⟨σ', v, h1, ⟨c, h2, h3⟩, h4⟩ := X1_rbd σ hb hp h11 ⟨c0, (hiff c0).mpr ⟨c1, c2⟩⟩
  refine ⟨σ', v, h1, ⟨c, ((hiff c).mp h2).1, ((hiff c).mp h2).2, h3⟩, fun d d1 d2 => h4 d ((hiff d).mpr ⟨d1, d2⟩)⟩
