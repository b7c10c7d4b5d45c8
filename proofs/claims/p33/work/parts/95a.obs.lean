/-! What the class answers, told by the row -/
theorem REL_c {M : Nat} {c c' m : Mm} (h : REL M c m) (e : ∀ i, i < 101 → c' i = c i) : REL M c' m := REL_eq h ⟨fun i _ b _ => e i b, by rw [e 74 (by omega)]⟩ (ME_r _)
theorem zpl_lo {i : Nat} (h : i < 101) : zp zl_101 i = i := by
  revert i
  decide +kernel
theorem REL_zb {M : Nat} {c m : Mm} (h : REL M c m) : REL M (zb zl_101 c) m := REL_c h (fun i hi => by
  show c (zp zl_101 i) = c i
  rw [zpl_lo hi])
theorem REL_zj {M : Nat} {c c' m : Mm} (h : REL M c' m) : REL M (zj zl_101 c c') m := REL_c h (fun i hi => zjl_lo _ _ hi)
theorem v_match {N : Nat} {c m : Mm} (h : REL N c m) : x_X6_match c 0 = some (.inl (m 1 0)) ∧ x_X6_match c 4 = some (.inl (m 1 4)) ∧ x_X6_match c 5 = some (.inl (m 1 5)) ∧ x_X6_match c 6 = some (.inl (m 1 6)) ∧ x_X6_match c 8 = some (.inl (52 - m 1 13)) ∧ x_X6_match c 9 = some (.inl (m 1 14)) := by
  have hM := R_now h
  obtain ⟨⟨a0, a1, a2, a3, a4, a5, a6, a7, a8, a9, a10, a11, a12⟩, ⟨s0, s1⟩, -⟩ := id hM
  have a0 : c 1 0 = m 1 0 := a0
  have a5 : c 1 5 = m 1 4 := a5
  have a6 : c 1 6 = m 1 5 := a6
  have a8 : c 1 8 = m 1 6 := a8
  have a11 : c 1 14 = m 1 13 := a11
  have a12 : c 1 16 = m 1 14 := a12
  have hd := V_d h.1
  have ho := V_o h.1
  refine ⟨?_, ?_, ?_, ?_, ?_, ?_⟩
  · unfold x_X6_match
    rw [wi_ok (l := 0) (h := 16) (by decide) (by decide) (by decide) (by decide), Option.bind_some, req_1, Option.bind_some]
    show inlO _ = _
    rw [if_pos (by decide)]
    exact congrArg (fun z => some (Sum.inl z)) a0
  · unfold x_X6_match
    rw [wi_ok (l := 0) (h := 16) (by decide) (by decide) (by decide) (by decide), Option.bind_some, req_1, Option.bind_some]
    show inlO _ = _
    rw [if_neg (by decide), if_neg (by decide), if_neg (by decide), if_neg (by decide), if_pos (by decide)]
    exact congrArg (fun z => some (Sum.inl z)) a5
  · unfold x_X6_match
    rw [wi_ok (l := 0) (h := 16) (by decide) (by decide) (by decide) (by decide), Option.bind_some, req_1, Option.bind_some]
    show inlO _ = _
    rw [if_neg (by decide), if_neg (by decide), if_neg (by decide), if_neg (by decide), if_neg (by decide), if_pos (by decide)]
    rw [a6]
    show inlO (if zw (m 1 5) = 0 then _ else _) = _
    have hd : m 1 5 = 0 ∨ m 1 5 = 1 := hd
    rcases hd with w | w <;> rw [w] <;> rfl
  · unfold x_X6_match
    rw [wi_ok (l := 0) (h := 16) (by decide) (by decide) (by decide) (by decide), Option.bind_some, req_1, Option.bind_some]
    show inlO _ = _
    rw [if_neg (by decide), if_neg (by decide), if_neg (by decide), if_neg (by decide), if_neg (by decide), if_neg (by decide), if_pos (by decide)]
    rw [a8]
    show inlO (if zw (m 1 6) = 0 then _ else _) = _
    have ho : m 1 6 = 0 ∨ m 1 6 = 1 := ho
    rcases ho with w | w <;> rw [w] <;> rfl
  · unfold x_X6_match
    rw [wi_ok (l := 0) (h := 16) (by decide) (by decide) (by decide) (by decide), Option.bind_some, req_1, Option.bind_some]
    show inlO _ = _
    rw [if_neg (by decide), if_neg (by decide), if_neg (by decide), if_neg (by decide), if_neg (by decide), if_neg (by decide), if_neg (by decide), if_neg (by decide), if_pos (by decide)]
    show inlO (some (52 - c 1 14)) = _
    rw [a11]
    rfl
  · unfold x_X6_match
    rw [wi_ok (l := 0) (h := 16) (by decide) (by decide) (by decide) (by decide), Option.bind_some, req_1, Option.bind_some]
    show inlO _ = _
    rw [if_neg (by decide), if_neg (by decide), if_neg (by decide), if_neg (by decide), if_neg (by decide), if_neg (by decide), if_neg (by decide), if_neg (by decide), if_neg (by decide), if_pos (by decide)]
    exact congrArg (fun z => some (Sum.inl z)) a12
theorem v_where {N : Nat} {c m : Mm} (h : REL N c m) {k : Nat} (hk : k < 52) : x_X6_where c (k : Int) = some (.inl (m 1 (119 + k))) := by
  unfold x_X6_where
  rw [wi_ok (l := 0) (h := 51) (by decide) (by decide) (zwn (by omega)) (by omega), Option.bind_some, req_1, Option.bind_some]
  show inlO _ = _
  rw [X2_placeOf h.1 (R_now h) (by omega)]
  rfl
/-- a player's hand, in rising order -/
theorem v_card {N : Nat} {c m : Mm} (h : REL N c m) {p : Nat} (hp : p < 2) : ∃ (P : Int64) (H : Nat → Nat), x_X2_handOf (zb zl_47 c) (p : Int) = some P ∧ cw P ∧ cnt (bs P) 64 ≤ 11 ∧ (((cnt (bs P) 64 : Nat) : Int) = m 1 0 + (if m 1 4 = (p : Int) ∧ m 1 5 = 1 then 1 else 0)) ∧ (∀ d : Nat, d < 52 → bs P d = decide (m 1 (119 + d) = (p : Int))) ∧ (∀ i j, i < j → j < cnt (bs P) 64 → H i < H j) ∧ (∀ i, i < cnt (bs P) 64 → H i < 52 ∧ bs P (H i) = true ∧ x_X6_card c (p : Int) (i : Int) = some (.inl ((H i : Nat) : Int))) ∧ ∀ d, bs P d = true ↔ ∃ i, i < cnt (bs P) 64 ∧ H i = d := by
  obtain ⟨P, p1, p2, p3, p4⟩ := R_hand h hp
  obtain ⟨σ4, H, t1, ⟨hD, hO, hn, hP⟩, t3⟩ := X7_takeHand m (p : Int) (-1) (-1) p2.1 p3 (sel_1 p2)
  have hex : zw (p : Int) = (p : Int) := zwn (by omega)
  refine ⟨P, H, p1, p2.1, p3, p4, fun d hd => ?_, hO.2.2, fun i hi => ⟨hO.2.1 i hi, (hP _).mpr ⟨i, hi, rfl⟩, ?_⟩, hP⟩
  · rw [p2.2 d hd]
    have hw := (h.1.2.2.2.1 d hd).1
    have hw2 : zw (m 1 (119 + d)) = m 1 (119 + d) := zw_eq (by omega) (by omega)
    rw [hw2, hex]
  · unfold x_X6_card
    rw [pl_ok hex (by omega), Option.bind_some, req_1, Option.bind_some]
    show inlO _ = _
    rw [p1, Option.bind_some]
    generalize hnn : cnt (bs P) 64 = n at *
    have h11 := hO.1
    have w' : ¬ zw (i : Int) < 0 := by rw [zwn (by omega)]; omega
    have v' : zw (i : Int) < zw (n : Int) := by rw [zwn (by omega), zwn (by omega)]; omega
    rw [if_neg w', bitCount_eq, Option.bind_some, hnn, if_pos v']
    obtain ⟨x, k1, k2⟩ := lup_for (f := fun (s8 : Int64 × Int) => x_X6_card_b33 c (i : Int) s8.1 s8.2) (fun k s => s.2 = (k : Int) ∧ ∀ d, bs s.1 d = true ↔ ∃ j, k ≤ j ∧ j < n ∧ H j = d) (fun e => ∀ d, bs e d = true ↔ ∃ j, i ≤ j ∧ j < n ∧ H j = d) i (fun k s hk hs => by
      obtain ⟨x, u⟩ := s
      obtain ⟨z1, z2⟩ := hs
      simp only at z1 z2
      subst z1
      have hl : isLow x (H k) := by
        refine ⟨(z2 _).mpr ⟨k, Nat.le_refl k, by omega, rfl⟩, fun d hd => ?_⟩
        cases q : bs x d
        · rfl
        · obtain ⟨j, j1, j2, j3⟩ := (z2 d).mp q
          by_cases w : j = k
          · rw [w] at j3; omega
          · have := hO.2.2 k j (by omega) j2
            omega
      refine ⟨(x &&& (x - 1), (k : Int) + 1), ?_, by show (k : Int) + 1 = _; omega, fun d => ?_⟩
      · show x_X6_card_b33 c (i : Int) x (k : Int) = _
        unfold x_X6_card_b33
        rw [if_neg (nle_n (by omega) (by omega)), if_neg (nle_l (by omega) (by omega)), bnd_eq, bnd_eq]
      · show bs (x &&& (x - 1)) d = true ↔ _
        rw [bs_clr hl, Bool.and_eq_true, decide_eq_true_eq, z2 d]
        constructor
        · rintro ⟨⟨j, j1, j2, j3⟩, q⟩
          exact ⟨j, by
            have : j ≠ k := fun z => q (by rw [← j3, z])
            omega, j2, j3⟩
        · rintro ⟨j, j1, j2, j3⟩
          refine ⟨⟨j, by omega, j2, j3⟩, fun q => ?_⟩
          have := hO.2.2 k j (by omega) j2
          omega) (fun s hs => by
      obtain ⟨x, u⟩ := s
      obtain ⟨z1, z2⟩ := hs
      simp only at z1 z2
      subst z1
      refine ⟨x, ?_, z2⟩
      show x_X6_card_b33 c (i : Int) x (i : Int) = _
      unfold x_X6_card_b33
      rw [if_pos (Int.le_refl _)]) (s := (P, 0)) ⟨rfl, fun d => by
        rw [hP d]
        exact ⟨fun ⟨j, j1, j2⟩ => ⟨j, by omega, j1, j2⟩, fun ⟨j, _, j1, j2⟩ => ⟨j, j1, j2⟩⟩⟩
    have hl : isLow x (H i) := by
      refine ⟨(k2 _).mpr ⟨i, Nat.le_refl i, hi, rfl⟩, fun d hd => ?_⟩
      cases q : bs x d
      · rfl
      · obtain ⟨j, j1, j2, j3⟩ := (k2 d).mp q
        by_cases w : j = i
        · rw [w] at j3; omega
        · have := hO.2.2 i j (by omega) j2
          omega
    rw [k1, Option.bind_some, X6_lowestOf hl, Option.bind_some]
    rfl
/-- a player's numbers -/
theorem v_player {N : Nat} {c m : Mm} (h : REL N c m) {p : Nat} (hp : p < 2) {P : Int64} (hP : x_X2_handOf (zb zl_47 c) (p : Int) = some P) : ∃ c', REL N c' m ∧ (∀ P', x_X2_handOf (zb zl_47 c) (p : Int) = some P' → P' = P) ∧ x_X6_player c (p : Int) 0 = some (.inl (c', ((cnt (bs P) 64 : Nat) : Int))) ∧ x_X6_player c (p : Int) 1 = some (.inl (c', ((RR P P : Nat) : Int))) ∧ x_X6_player c (p : Int) 2 = some (.inl (c', ((Lay P).length : Int))) ∧ x_X6_player c (p : Int) 3 = some (.inl (c', ((cnt (bs (dl P (Lay P))) 64 : Nat) : Int))) ∧ x_X6_player c (p : Int) 4 = some (.inl (c', (Lay P).foldl (gKd 1) 0)) ∧ x_X6_player c (p : Int) 6 = some (.inl (c', ((lW P : Nat) : Int))) := by
  have hex : zw (p : Int) = (p : Int) := zwn (by omega)
  obtain ⟨P0, p1, p2, p3, -⟩ := R_hand h hp
  have e0 : P0 = P := Option.some.inj (p1.symm.trans hP)
  subst e0
  obtain ⟨σ1, s1, ⟨y1, y2, y3, y4⟩, s3⟩ := R_lay h p2.1 p3
  obtain ⟨l1, l2, l3, l4⟩ := Lay_ok p2.1 p3
  have hm : ∀ x ∈ Lay P0, mld x := fun x hx => (l2 x hx).2
  have g10 : zj zl_54 c σ1 77 10 = ((RR P0 P0 : Nat) : Int) := by rw [← l3]; exact y4
  have g7 : zj zl_54 c σ1 77 7 = ((Lay P0).length : Int) := y1
  have g9 : zL (zj zl_54 c σ1 77 9) = dl P0 (Lay P0) := y3
  have gKd' : ∀ k, k < 3 → x_X1_countKind (zb zl_54 (zj zl_54 c σ1)) ((k : Nat) : Int) = some ((Lay P0).foldl (gKd k) 0) := fun k hk => X1_countKind (σ := zb zl_54 (zj zl_54 c σ1)) y1 y2 (by omega) (fun x hx => mld_cw (hm x hx)) hk
  refine ⟨zj zl_54 c σ1, s3, fun P' hP' => Option.some.inj (hP'.symm.trans hP), ?_, ?_, ?_, ?_, ?_, ?_⟩
  all_goals
    unfold x_X6_player x_X6_player_j21 x_X6_player_j22
    rw [pl_ok hex (by omega), Option.bind_some, if_neg d10, wi_ok (l := 0) (h := 7) (by decide) (by decide) (by decide) (by decide), Option.bind_some, if_neg d10, req_1, Option.bind_some]
    show inlO _ = _
    rw [p1, Option.bind_some, s1, Option.bind_some, bnd_eq, g10, g7, g9]
  · rw [if_pos d00, bitCount_eq]; rfl
  · rw [if_neg (by decide), if_pos (by decide)]; rfl
  · rw [if_neg (by decide), if_neg (by decide), if_pos (by decide)]; rfl
  · rw [if_neg (by decide), if_neg (by decide), if_neg (by decide), if_pos (by decide), bitCount_eq]; rfl
  · rw [if_neg (by decide), if_neg (by decide), if_neg (by decide), if_neg (by decide), if_pos (by decide), show (1 : Int) = ((1 : Nat) : Int) from rfl, gKd' 1 (by omega)]; rfl
  · rw [if_neg (by decide), if_neg (by decide), if_neg (by decide), if_neg (by decide), if_neg (by decide), if_neg (by decide), if_pos (by decide), lW_cw p2.1]; rfl
