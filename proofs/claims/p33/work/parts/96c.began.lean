/-! the beginning, and the law -/
theorem t_began (xs : Mm) {L : Nat} (hL : L ≤ 260) {σ m : Mm} (hR : REL 0 σ m) (h8 : m 0 8 = 0) : ∃ σ' v m', x_L_began σ xs L = some (σ', v) ∧ 7 ≤ zw v ∧ REL 500 σ' m' := by
  obtain ⟨w1, g1, e1⟩ := of_ok xs hL 0 (by omega) 0 (b := 1000000) (by omega) (by omega)
  obtain ⟨w2, g2, e2⟩ := of_ok xs hL 1 (by omega) 7 (b := 4) (by omega) (by omega)
  obtain ⟨w3, g3, e3⟩ := of_ok xs hL 2 (by omega) 0 (b := 21) (by omega) (by omega)
  obtain ⟨w4, g4, e4⟩ := of_ok xs hL 3 (by omega) 20 (b := 300) (by omega) (by omega)
  rw [show (0 : Int) + (w1 : Int) = ((w1 : Nat) : Int) by omega] at e1
  rw [show (7 : Int) + (w2 : Int) = ((7 + w2 : Nat) : Int) by omega] at e2
  rw [show (0 : Int) + (w3 : Int) = ((w3 : Nat) : Int) by omega] at e3
  rw [show (20 : Int) + (w4 : Int) = ((20 + w4 : Nat) : Int) by omega] at e4
  have e1 : x_L_of xs L 0 0 1000000 = some ((w1 : Nat) : Int) := e1
  have e2 : x_L_of xs L 1 7 4 = some ((7 + w2 : Nat) : Int) := e2
  have e3 : x_L_of xs L 2 0 21 = some ((w3 : Nat) : Int) := e3
  have e4 : x_L_of xs L 3 20 300 = some ((20 + w4 : Nat) : Int) := e4
  have tn : ∀ n : Nat, ((n : Nat) : Int).toNat = n := fun _ => rfl
  unfold x_L_began
  rw [e1, Option.bind_some, e2, Option.bind_some, e3, Option.bind_some, e4, Option.bind_some, if_pos (by omega), tn, tn, tn, tn]
  clear e1 e2 e3 e4 tn
  obtain ⟨Lt, t1, t2, t3, -⟩ := hR.2.2.2.2.1
  have hT0 : TBc (zb zl_41 σ) 0 (lets (bgtT w1 (7 + w2) w3 (20 + w4)) (bgnT w1 (7 + w2) w3 (20 + w4))) := ⟨by omega, by
    show σ 74 1 = _
    omega, fun i hi => by omega⟩
  have h14 := bgnT_14 (N := w1) (H := 7 + w2) (K := w3) (T := 20 + w4) (by omega)
  obtain ⟨σ1, m1, L1, c1, c2, c3, c4, c5⟩ := bgL_t hR (asc_bgtT w1 (7 + w2) w3 (20 + w4)) hT0 (by omega)
  rw [c1, Option.bind_some]
  obtain ⟨c', v, m', x1, x2, x3⟩ := text_load (M := 500) (REL_zb c2) (by omega) (by omega) (TBc_A c3 rfl rfl) (told_t (by omega) (by omega) (by omega) (by omega) c4)
  rw [x1, Option.bind_some, un2_mk]
  exact ⟨_, v, m', rfl, x2, REL_zj x3⟩
theorem law_true (tv : Nat → Nat) (L : Nat) (hL : L ≤ 260) : x_L_law (zsc tv) L = some () := by
  obtain ⟨σ1, m1, e1, r1, z1⟩ := t_start
  obtain ⟨σ2, m2, e2, r2, z2⟩ := t_chk r1
  obtain ⟨σ3, v, m3, e3, h7, r3⟩ := t_began (zsc tv) hL (REL_zb r2) (z2.trans z1)
  unfold x_L_law
  rw [e1, Option.bind_some, e2, Option.bind_some, e3, Option.bind_some, un2_mk, if_pos h7]
  exact t_lp (zsc tv) hL 20 4 500 _ m3 (REL_zj r3) (by omega) (by omega)
