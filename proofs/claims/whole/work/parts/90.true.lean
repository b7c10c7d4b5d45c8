/-! the law's function comes to its end -/
theorem q_76 : ∀ c, c < 129 → zq zl_76 c = if 26 ≤ c ∧ c < 127 then some (c - 26) else none := by decide +kernel
theorem q_77 : ∀ c, c < 129 → zq zl_77 c = if c < 26 then some c else none := by decide +kernel
theorem law_true (xs : Nat → Int32) {L : Nat} (hL : L ≤ 3072) : x_L_law (fun _ j => (xs j).toInt) L (fun _ _ => 0) = some () := by
  obtain ⟨c, m, h1, h2, h3⟩ := init_both
  unfold x_L_law
  rw [h1, Option.bind_some, bnd_eq, h2, Option.bind_some, bnd_eq, bnd_eq, bnd_eq]
  have hx : ∀ j, zw ((xs j).toInt) = (xs j).toInt := fun j => by
    unfold zw zJ
    rw [Int32.ofInt_toInt]
  generalize hσ1 : zu (zj zl_76 (fun _ _ => 0) c) 200 0 1 = σ1
  generalize hσ2 : zu (zj zl_77 σ1 m) 200 1 1 = σ2
  generalize hσ3 : zu (zj [127] σ2 (fun _ _ => 0)) 200 2 1 = σ3
  generalize hσ4 : zu (zj [128] σ3 (fun _ _ => 0)) 200 3 1 = σ4
  have q0 : ∀ l : List Nat, zq l 200 = none → ∀ σ ρ : Mm, zj l σ ρ 200 = σ 200 := fun l hl σ ρ => by rw [zj_q _ _ _ _ hl]; rfl
  have e77 : zq zl_77 200 = none := by decide +kernel
  have e127 : zq [127] 200 = none := by decide +kernel
  have e128 : zq [128] 200 = none := by decide +kernel
  have g0 : σ4 200 0 = 1 := by
    rw [← hσ4, zu_miss _ _ _ _ (fun _ => by decide), q0 _ e128, ← hσ3, zu_miss _ _ _ _ (fun _ => by decide), q0 _ e127, ← hσ2, zu_miss _ _ _ _ (fun _ => by decide), q0 _ e77, ← hσ1, zu_hit]
  have g1 : σ4 200 1 = 1 := by
    rw [← hσ4, zu_miss _ _ _ _ (fun _ => by decide), q0 _ e128, ← hσ3, zu_miss _ _ _ _ (fun _ => by decide), q0 _ e127, ← hσ2, zu_hit]
  have g2 : σ4 200 2 = 1 := by
    rw [← hσ4, zu_miss _ _ _ _ (fun _ => by decide), q0 _ e128, ← hσ3, zu_hit]
  have g3 : σ4 200 3 = 1 := by rw [← hσ4, zu_hit]
  have hg : ∀ g ∈ ([(200, 0), (200, 1), (200, 2), (200, 3)] : List (Nat × Nat)), σ4 g.1 g.2 ≠ 0 := fun g hgm => by
    rcases List.mem_cons.mp hgm with rfl | hgm
    · show σ4 200 0 ≠ 0
      rw [g0]; decide
    rcases List.mem_cons.mp hgm with rfl | hgm
    · show σ4 200 1 ≠ 0
      rw [g1]; decide
    rcases List.mem_cons.mp hgm with rfl | hgm
    · show σ4 200 2 ≠ 0
      rw [g2]; decide
    rcases List.mem_cons.mp hgm with rfl | hgm
    · show σ4 200 3 ≠ 0
      rw [g3]; decide
    cases hgm
  rw [if_pos hg]
  -- both lie in the law's memory
  have f4 : ∀ i, i < 127 → σ4 i = zj zl_77 σ1 m i := fun i hi => by
    have n1 : zq [128] i = none := by
      show (if 128 = i then some 0 else none) = none
      rw [if_neg (by omega)]
    have n2 : zq [127] i = none := by
      show (if 127 = i then some 0 else none) = none
      rw [if_neg (by omega)]
    rw [← hσ4]
    show zu (zj [128] σ3 (fun _ _ => 0)) 200 3 1 i = _
    unfold zu
    rw [if_neg (by omega), zj_q _ _ _ _ n1]
    show σ3 i = _
    rw [← hσ3]
    unfold zu
    rw [if_neg (by omega), zj_q _ _ _ _ n2]
    show σ2 i = _
    rw [← hσ2]
    unfold zu
    rw [if_neg (by omega)]
  have hLR : LR 0 σ4 := by
    have k2 : ∀ i, i < 101 → zb zl_72 σ4 i = c i := fun i hi => by
      show σ4 (zp zl_72 i) = _
      rw [p_72 i hi, f4 _ (by omega), zj_q _ _ _ _ (q_77 (26 + i) (by omega)), if_neg (by omega)]
      show σ1 (26 + i) = _
      rw [← hσ1]
      unfold zu
      rw [if_neg (by omega), zj_q _ _ _ _ (q_76 (26 + i) (by omega)), if_pos (by omega)]
      show c (26 + i - 26) = _
      rw [Nat.add_sub_cancel_left]
    have k3 : ∀ i, i < 26 → zb zl_73 σ4 i = m i := fun i hi => by
      show σ4 (zp zl_73 i) = _
      rw [p_73 i hi, f4 _ (by omega), zj_q _ _ _ _ (q_77 i (by omega)), if_pos hi]; rfl
    exact REL_eq h3 ⟨fun i _ b _ => k2 i b, by rw [k2 74 (by omega)]⟩ ⟨fun i _ b _ => k3 i (by omega), by rw [k3 0 (by omega)], by rw [k3 0 (by omega)], by rw [k3 0 (by omega)]⟩
  have hl : ∃ e, lup (fun (s : Mm × Int) => x_L_law_b28 (fun _ j => (xs j).toInt) L s.1 s.2) (σ4, 0) = some e ∧ True := by
    refine lup_ind (fun i s => s.2 = ((6 * i : Nat) : Int) ∧ LR (500 + i) s.1 ∧ 6 * i ≤ L + 6) (fun _ => True) (L / 6 + 1) (fun i s hs => ?_) 0 (show (0 : Int) = ((6 * 0 : Nat) : Int) ∧ LR (500 + 0) σ4 ∧ 6 * 0 ≤ L + 6 from ⟨rfl, REL_up (M := 500 + 0) hLR (by omega), by omega⟩)
    obtain ⟨τ, u⟩ := s
    obtain ⟨s1, s2, s3⟩ := hs
    simp only at s1 s2
    subst s1
    by_cases e : 6 * i + 6 ≤ L
    · left
      obtain ⟨σ', r1, r2⟩ := law_step (M := 500 + (i + 1)) (n := 6 * i) s2 (xs := fun _ j => (xs j).toInt) hx hL e (by omega) (by omega) (by omega)
      exact ⟨(σ', ((6 * i : Nat) : Int) + 6), r1, by omega, by show ((6 * i : Nat) : Int) + 6 = ((6 * (i + 1) : Nat) : Int); omega, r2, by omega⟩
    · right
      refine ⟨τ, ?_, trivial⟩
      show x_L_law_b28 _ L τ ((6 * i : Nat) : Int) = _
      unfold x_L_law_b28
      have hlt : zw ((L : Int) - (6 : Int)) < zw ((6 * i : Nat) : Int) := by
        rw [zw_eq (x := (L : Int) - 6) (by omega) (by omega), zwn (by omega)]; omega
      rw [if_pos hlt]
  obtain ⟨e, he, -⟩ := hl
  rw [he, Option.bind_some]
