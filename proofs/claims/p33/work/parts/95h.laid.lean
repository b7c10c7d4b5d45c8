/-! isLaid answers 1 -/
theorem l_player {N : Nat} {σ m : Mm} (hR : REL N σ m) {p : Nat} (hp : p < 2) {P : Int64} (hP : HND m p P) : ∃ c', REL N (zj zl_101 σ c') m ∧ (∀ i j, 101 ≤ i → zj zl_101 σ c' i j = σ i j) ∧ x_L_player (zb zl_101 σ) (p : Int) 0 = some (c', ((cnt (bs P) 64 : Nat) : Int)) ∧ x_L_player (zb zl_101 σ) (p : Int) 1 = some (c', ((RR P P : Nat) : Int)) ∧ x_L_player (zb zl_101 σ) (p : Int) 2 = some (c', ((Lay P).length : Int)) ∧ x_L_player (zb zl_101 σ) (p : Int) 3 = some (c', ((cnt (bs (dl P (Lay P))) 64 : Nat) : Int)) ∧ x_L_player (zb zl_101 σ) (p : Int) 4 = some (c', (Lay P).foldl (gKd 1) 0) ∧ x_L_player (zb zl_101 σ) (p : Int) 6 = some (c', ((lW P : Nat) : Int)) := by
  obtain ⟨q1, -, -⟩ := HND_in (REL_zb hR) hp hP
  obtain ⟨c', r, -, a0, a1, a2, a3, a4, a6⟩ := v_player (REL_zb hR) hp q1
  exact ⟨c', REL_zj r, fun i j hi => by rw [zjl_hi _ _ hi], h_player a0, h_player a1, h_player a2, h_player a3, h_player a4, h_player a6⟩
theorem l_ends {N : Nat} {σ m : Mm} (hR : REL N σ m) {p : Nat} (hp : p < 2) {P : Int64} (hP : HND m p P) : ∃ c', REL N (zj zl_101 σ c') m ∧ x_L_player (zb zl_101 σ) (p : Int) 5 = some (c', (Lay P).foldl (gKd 2) 0) ∧ x_L_meld (zb zl_101 σ) (p : Int) ((Lay P).length : Int) 0 = some (c', -1) ∧ x_L_card (zb zl_101 σ) (p : Int) ((cnt (bs P) 64 : Nat) : Int) = some (-1) := by
  obtain ⟨c', r, a0, a1, a2⟩ := v_ends (REL_zb hR) hp hP
  exact ⟨c', REL_zj r, h_player a0, h_meld a1, h_card a2⟩
theorem zj1_ne {a c : Nat} (σ τ : Mm) (h : c ≠ a) : zj [a] σ τ c = σ c := by
  refine zj_none σ τ ?_
  unfold zq
  simp [zqi, Ne.symm h, h]
theorem zj1_at {a : Nat} (σ τ : Mm) : zj [a] σ τ a = τ 0 := by
  refine zj_some σ τ ?_
  unfold zq
  simp [zqi]
set_option maxHeartbeats 4000000 in
theorem t_isLaid {N : Nat} {σ m : Mm} (hR : REL N σ m) {p : Nat} (hp : p < 2) : ∃ σ', x_L_isLaid σ (p : Int) = some (σ', 1) ∧ REL N σ' m := by
  obtain ⟨P, hP⟩ := HND_ex hR hp
  obtain ⟨-, h11, -⟩ := HND_in hR hp hP
  obtain ⟨H, h1, h2, h3, h4⟩ := v_cardsH hR hp hP
  have hmld : ∀ x ∈ Lay P, kK x = 1 ∨ kK x = 2 := fun x hx => by
    rcases ((Lay_ok hP.1 h11).2.1 x hx).2 with h | h
    · exact .inl (so_set h).2
    · exact .inr (so_run h).2
  have R0 : REL N (zf0 σ) m := REL_c hR (fun i hi => by unfold zf0; rw [if_neg (by omega)])
  generalize hσ0 : zf0 σ = σ0 at R0
  obtain ⟨c1, R1, -, e1, -⟩ := l_player R0 hp hP
  generalize hσ3 : zj zl_101 σ0 c1 = σ3 at R1
  obtain ⟨c2, R2, -, -, -, e2, -⟩ := l_player R1 hp hP
  generalize hσ6 : zj zl_101 σ3 c2 = σ6 at R2
  obtain ⟨σ8, hσ8⟩ : ∃ σ8, σ8 = zu (zj [102] (zu (zj [101] σ6 (fun _ _ => 0)) 200 0 1) (fun _ _ => 0)) 200 1 1 := ⟨_, rfl⟩
  have R8 : REL N σ8 m := by
    refine REL_c R2 (fun i hi => ?_)
    rw [hσ8, zu_ne _ _ _ (by omega), zj1_ne _ _ (by omega), zu_ne _ _ _ (by omega), zj1_ne _ _ (by omega)]
  have z1 : ∀ j, σ8 101 j = 0 := fun j => by
    rw [hσ8, zu_ne _ _ _ (by decide), zj1_ne _ _ (by decide), zu_ne _ _ _ (by decide), zj1_at]
  have z2 : ∀ j, σ8 102 j = 0 := fun j => by
    rw [hσ8, zu_ne _ _ _ (by decide), zj1_at]
  have g1 : ∀ g ∈ ([(200, 0), (200, 1)] : List (Nat × Nat)), σ8 g.1 g.2 ≠ 0 := fun g hg => by
    have e1 : σ8 200 0 = 1 := by
      rw [hσ8, zu_miss _ _ _ _ (fun _ => by decide), zj1_ne _ _ (by decide), zu_hit]
    have e2 : σ8 200 1 = 1 := by
      rw [hσ8, zu_hit]
    rcases List.mem_cons.mp hg with h | h
    · rw [h]
      show σ8 200 0 ≠ 0
      rw [e1]
      decide
    · rw [List.mem_singleton.mp h]
      show σ8 200 1 ≠ 0
      rw [e2]
      decide
  obtain ⟨e, l1, σ37, rfl, R37, hz⟩ := loop41 hp hP h11 h1 h2 h3 h4 R8 (fun j _ => z1 j) (fun j _ => z2 j)
  obtain ⟨e, l2, σ64, rfl, R64⟩ := loop166 (v2 := ((cnt (bs P) 64 : Nat) : Int)) (a1 := ((cnt (bs (dl P (Lay P))) 64 : Nat) : Int)) (a2 := ((RR P P : Nat) : Int)) (a3 := ((lW P : Nat) : Int)) hp hP h11 R37 hz
  obtain ⟨c3, R3, -, -, -, -, e3, -⟩ := l_player R64 hp hP
  generalize hσ68 : zj zl_101 σ64 c3 = σ68 at R3
  obtain ⟨c4, R4, -, -, e4, -⟩ := l_player R3 hp hP
  generalize hσ71 : zj zl_101 σ68 c4 = σ71 at R4
  obtain ⟨c5, R5, -, -, -, -, -, -, e5⟩ := l_player R4 hp hP
  generalize hσ74 : zj zl_101 σ71 c5 = σ74 at R5
  obtain ⟨c6, R6, -, -, -, -, -, e6, -⟩ := l_player R5 hp hP
  generalize hσ77 : zj zl_101 σ74 c6 = σ77 at R6
  obtain ⟨c7, R7, e7, -, -⟩ := l_ends R6 hp hP
  generalize hσ80 : zj zl_101 σ77 c7 = σ80 at R7
  obtain ⟨c8, R8', -, e8, e9⟩ := l_ends R7 hp hP
  have hs : ((Lay P).length : Int) - (Lay P).foldl (gKd 1) 0 = (Lay P).foldl (gKd 2) 0 := by
    have := gKd_12 (Lay P) 0 0 hmld
    omega
  refine ⟨zj zl_101 σ80 c8, ?_, R8'⟩
  unfold x_L_isLaid
  rw [e102, e104]
  rw [bnd_eq, hσ0, e1, Option.bind_some, un2_mk, bnd_eq, hσ3, e2, Option.bind_some, un2_mk, bnd_eq, hσ6, bnd_eq, bnd_eq, ← hσ8, if_pos g1, l1, Option.bind_some]
  show ((lup _ (σ37, (0 : Int), (0 : Int))).bind _) = _
  rw [l2, Option.bind_some]
  show ((x_L_player (zb zl_101 σ64) (p : Int) (3 : Int)).bind _) = _
  rw [e3, Option.bind_some, un2_mk, bnd_eq, hσ68, if_neg (fun z => z rfl), e4, Option.bind_some, un2_mk, bnd_eq, hσ71, if_neg (fun z => z rfl), e5, Option.bind_some, un2_mk, bnd_eq, hσ74, if_neg (fun z => z rfl), e6, Option.bind_some, un2_mk, bnd_eq, hσ77, if_neg (fun z => z rfl), e7, Option.bind_some, un2_mk, bnd_eq, hσ80, hs, if_neg (fun z => z rfl), e9, Option.bind_some, if_neg (fun z => z rfl), e8, Option.bind_some, un2_mk, bnd_eq, if_neg (fun z => z rfl)]
