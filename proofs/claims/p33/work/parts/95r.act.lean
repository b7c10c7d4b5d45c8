/-! act -/
theorem ite_ex {α : Type} {C : Prop} [Decidable C] {A B : Option α} {P : α → Prop} (h1 : C → ∃ s, A = some s ∧ P s) (h2 : ¬ C → ∃ s, B = some s ∧ P s) : ∃ s, (if C then A else B) = some s ∧ P s := by
  by_cases c : C
  · rw [if_pos c]; exact h1 c
  · rw [if_neg c]; exact h2 c
theorem upN {N : Nat} {x : Option Mm} (h : ∃ s, x = some s ∧ ∃ m', REL N s m') : ∃ s, x = some s ∧ ∃ m', REL (N + 1) s m' := by
  obtain ⟨s, h1, m', h2⟩ := h
  exact ⟨s, h1, m', REL_up h2 (by omega)⟩
set_option maxHeartbeats 4000000 in
theorem t_act {N : Nat} {σ m : Mm} (hR : REL N σ m) (hN : N < 100000) (xs : Mm) {L : Nat} (hL : L ≤ 260) (k : Nat) (hk : k < 900) : ∃ σ', x_L_act σ xs L (k : Int) = some σ' ∧ ∃ m', REL (N + 1) σ' m' := by
  obtain ⟨v1, e1⟩ := cell_ok xs hL (k + 1) (by omega)
  obtain ⟨u, u1, u2⟩ := zand_31 v1
  obtain ⟨-, a4, -⟩ := v_match (REL_zb hR)
  have a4 := h_match a4
  obtain ⟨nb0, nb1, nb2, nb3, nb4, nb5, nb6, -⟩ := hR.1.1
  obtain ⟨p, hp, hp4⟩ : ∃ p : Nat, p < 2 ∧ m 1 4 = (p : Int) := ⟨(m 1 4).toNat, by omega, by omega⟩
  rw [hp4] at a4
  obtain ⟨P, hP⟩ := HND_ex hR hp
  obtain ⟨c1, R6, -, e2, -⟩ := l_player hR hp hP
  generalize hσ6 : zj zl_101 σ c1 = σ6 at R6
  obtain ⟨-, h11, hn⟩ := HND_in R6 hp hP
  have hn7 : 7 ≤ cnt (bs P) 64 := by
    have : (0 : Int) ≤ (if m 1 4 = (p : Int) ∧ m 1 5 = 1 then 1 else 0) := by split <;> omega
    omega
  obtain ⟨H, -, h2, -⟩ := v_cards (REL_zb R6) hp hP
  generalize hcn : cnt (bs P) 64 = n at *
  have hmod : u % n < n := Nat.mod_lt _ (by omega)
  obtain ⟨d1, d2, d3⟩ := h2 (u % n) hmod
  have d3 := h_card d3
  have hheld : ∃ j : Nat, ((H (u % n) : Nat) : Int) = (j : Int) ∧ j < 52 ∧ m 1 (119 + j) = (p : Int) := ⟨_, rfl, d1, of_decide_eq_true ((hP.2 _ d1).symm.trans d2)⟩
  generalize ((H (u % n) : Nat) : Int) = v7 at d3 hheld
  obtain ⟨σ8, v9, e3, R8, hv9⟩ := t_bestDrop R6 hp hp4
  obtain ⟨w, w1, w2⟩ := of_ok xs hL k (by omega) 0 (b := 12) (by omega) (by omega)
  have w2 : x_L_of xs L (k : Int) 0 12 = some (0 + (w : Int)) := w2
  generalize (0 : Int) + (w : Int) = v10 at w2
  have hb : ¬ zw v9 = zw (-1) → ∃ j : Nat, v9 = (j : Int) ∧ j < 52 ∧ m 1 (119 + j) = (p : Int) := fun z => by
    rcases hv9 with q | q
    · exact absurd (by rw [q]) z
    · exact q
  have D := fun q : Int => upN (l_draw R8 q)
  have dr := fun (a : Int) (ha : ∃ j : Nat, a = (j : Int) ∧ j < 52 ∧ m 1 (119 + j) = (p : Int)) => upN (l_drop R8 hp hp4 ha)
  have kn := fun (a : Int) (ha : ∃ j : Nat, a = (j : Int) ∧ j < 52 ∧ m 1 (119 + j) = (p : Int)) => upN (l_knock R8 hp hp4 ha)
  have hq4 : zdiv (u : Int) 4 = ((u / 4 : Nat) : Int) := zdiv_nat (b := 4) u1 (by omega) (by omega)
  have hu4 : u / 4 ≤ u := Nat.div_le_self _ _
  have hs0 : zrem (zdiv (u : Int) 4) 21 = ((u / 4 % 21 : Nat) : Int) := by rw [hq4]; exact zrem_nat (b := 21) (by omega) (by omega) (by omega)
  have hs1 : zrem (zdiv (u : Int) 4) 481 = ((u / 4 % 481 : Nat) : Int) := by rw [hq4]; exact zrem_nat (b := 481) (by omega) (by omega) (by omega)
  have hm0 : u / 4 % 21 < 21 := Nat.mod_lt _ (by omega)
  have hm1 : u / 4 % 481 < 481 := Nat.mod_lt _ (by omega)
  have hdd := ite_ex (C := zw (zrem (u : Int) (3 : Int)) ≠ 0) (fun _ => D 0) (fun _ => D 1)
  have hdr := ite_ex (C := zw v9 = zw (-1 : Int)) (fun _ => dr v7 hheld) (fun z => ite_ex (C := zw (zrem (u : Int) (4 : Int)) ≠ 0) (fun _ => dr v9 (hb z)) (fun _ => dr v7 hheld))
  have hkn := ite_ex (C := zw v9 = zw (-1 : Int)) (fun _ => kn v7 hheld) (fun z => ite_ex (C := zw (zrem (u : Int) (4 : Int)) ≠ 0) (fun _ => kn v9 (hb z)) (fun _ => kn v7 hheld))
  unfold x_L_act
  rw [show (k : Int) + 1 = ((k + 1 : Nat) : Int) by omega, e1, Option.bind_some, u2, bnd_eq, a4, Option.bind_some, e2, Option.bind_some, un2_mk, bnd_eq, hσ6, if_neg (by rw [zwn (by omega)]; omega), zrem_nat u1 (by omega) (by omega), d3, Option.bind_some, e3, Option.bind_some, un2_mk, w2, Option.bind_some]
  refine ite_ex (fun _ => hdd) (fun _ => ite_ex (fun _ => hdd) (fun _ => ite_ex (fun _ => hdd) (fun _ => ite_ex (fun _ => hdd) (fun _ => ite_ex (fun _ => hdr) (fun _ => ite_ex (fun _ => hdr) (fun _ => ite_ex (fun _ => hdr) (fun _ => ite_ex (fun _ => dr v7 hheld) (fun _ => ite_ex (fun _ => hkn) (fun _ => ite_ex (fun _ => hkn) (fun _ => ite_ex (fun _ => l_deal R8 hN) (fun _ => ?_)))))))))))
  refine ite_ex (fun z => ?_) (fun z => ?_)
  · rw [if_pos z]
    exact upN (l_set R8 (.inl ⟨rfl, by rw [hs0]; omega, by rw [hs0]; omega⟩))
  · rw [if_neg z]
    exact upN (l_set R8 (.inr ⟨rfl, by rw [hs1]; omega, by rw [hs1]; omega⟩))
