/-! isLaid holds -/
theorem v_ends {N : Nat} {c m : Mm} (h : REL N c m) {p : Nat} (hp : p < 2) {P : Int64} (hP : HND m p P) : ∃ c', REL N c' m ∧ x_X6_player c (p : Int) 5 = some (.inl (c', (Lay P).foldl (gKd 2) 0)) ∧ x_X6_meld c (p : Int) ((Lay P).length : Int) 0 = some (.inl (c', -1)) ∧ x_X6_card c (p : Int) ((cnt (bs P) 64 : Nat) : Int) = some (.inl (-1)) := by
  have hex : zw (p : Int) = (p : Int) := zwn (by omega)
  obtain ⟨p1, p3, -⟩ := HND_in h hp hP
  obtain ⟨σ1, s1, ⟨y1, y2, y3, y4⟩, s3⟩ := R_lay h hP.1 p3
  obtain ⟨l1, l2, l3, l4⟩ := Lay_ok hP.1 p3
  have hm : ∀ x ∈ Lay P, mld x := fun x hx => (l2 x hx).2
  have g10 : zj zl_54 c σ1 77 10 = ((RR P P : Nat) : Int) := by rw [← l3]; exact y4
  have g7 : zj zl_54 c σ1 77 7 = ((Lay P).length : Int) := y1
  have g9 : zL (zj zl_54 c σ1 77 9) = dl P (Lay P) := y3
  have gKd' : ∀ k, k < 3 → x_X1_countKind (zb zl_54 (zj zl_54 c σ1)) ((k : Nat) : Int) = some ((Lay P).foldl (gKd k) 0) := fun k hk => X1_countKind (σ := zb zl_54 (zj zl_54 c σ1)) y1 y2 (by omega) (fun x hx => mld_cw (hm x hx)) hk
  refine ⟨zj zl_54 c σ1, s3, ?_, ?_, ?_⟩
  · unfold x_X6_player x_X6_player_j21 x_X6_player_j22
    rw [pl_ok hex (by omega), Option.bind_some, if_neg d10, wi_ok (l := 0) (h := 7) (by decide) (by decide) (by decide) (by decide), Option.bind_some, if_neg d10, req_1, Option.bind_some]
    show inlO _ = _
    rw [p1, Option.bind_some, s1, Option.bind_some, bnd_eq, g10, g7, g9]
    rw [if_neg (by decide), if_neg (by decide), if_neg (by decide), if_neg (by decide), if_neg (by decide), if_pos (by decide), show (2 : Int) = ((2 : Nat) : Int) from rfl, gKd' 2 (by omega)]; rfl
  · unfold x_X6_meld x_X6_meld_j20 x_X6_meld_j21
    rw [pl_ok hex (by omega), Option.bind_some, if_neg d10, wi_ok (l := 0) (h := 3) (by decide) (by decide) (by decide) (by decide), Option.bind_some, if_neg d10, req_1, Option.bind_some]
    show inlO _ = _
    rw [p1, Option.bind_some, s1, Option.bind_some, bnd_eq, g7, if_neg (by rw [zwn (by omega)]; omega), if_neg (by omega)]
    rfl
  · unfold x_X6_card
    rw [pl_ok hex (by omega), Option.bind_some, req_1, Option.bind_some]
    show inlO _ = _
    rw [p1, Option.bind_some, if_neg (by rw [zwn (by omega)]; omega), bitCount_eq, Option.bind_some, if_neg (by omega)]
    rfl
theorem l_points {d : Nat} (h : d < 52) : x_L_points (d : Int) = some ((pts d : Nat) : Int) := by
  unfold x_L_points pts zmin
  rw [zrem13 (by omega), show ((d % 13 : Nat) : Int) + 1 = ((d % 13 + 1 : Nat) : Int) by omega, zwn (by omega), show zw 10 = 10 from by decide]
  by_cases c : ((d % 13 + 1 : Nat) : Int) < 10
  · rw [if_pos c, Nat.min_eq_left (by omega)]
  · rw [if_neg c, Nat.min_eq_right (by omega)]
    rfl
