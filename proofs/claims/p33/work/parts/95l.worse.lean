/-! a card drawn, and taken back -/
theorem u_back {m m2 m' : Mm} {k : Nat} {Pf : Nat → Nat} (hk : m 0 3 = (k : Int)) (hk10 : k ≤ 10) (hp : ∀ i, i < 10 → m 2 i = ((3 + Pf i : Nat) : Int) ∧ Pf i < 10) (hinj : ∀ i j, i < 10 → j < 10 → Pf i = Pf j → i = j) (h1 : x_X7_keepPast_w m = some m2) (h2 : RW m2 m') : ∃ m4 v, x_X7_undo m' = some (m4, v) ∧ (∀ j, j < 171 → m4 1 j = m 1 j) ∧ m4 0 8 = m 0 8 := by
  obtain ⟨σ', Pf', a1, a2, a3, a4, a5, a6, a7, a8⟩ := X7_keepPast_w m k Pf hk hk10 hp hinj
  have e0 : σ' = m2 := Option.some.inj (a1.symm.trans h1)
  subst e0
  obtain ⟨K, hK⟩ : ∃ K, min (k + 1) 10 = K + 1 := ⟨min (k + 1) 10 - 1, by omega⟩
  have hK9 : K < 10 := by omega
  rw [hK] at a2 a7
  obtain ⟨q1, q2⟩ := a4 K hK9
  have a7 : ∀ j, j < 171 → σ' (3 + Pf' K) j = m 1 j := a7
  have b3 : m' 0 3 = ((K + 1 : Nat) : Int) := by rw [h2 0 (by decide)]; exact a2
  have b2 : m' 2 K = ((3 + Pf' K : Nat) : Int) := by rw [h2 2 (by decide)]; exact q1
  have b7 : ∀ j, j < 171 → m' (3 + Pf' K) j = m 1 j := fun j hj => by rw [h2 _ (by omega)]; exact a7 j hj
  generalize hq : Pf' K = q at *
  unfold x_X7_undo
  have e1 : zu m' 0 0 0 0 3 = ((K + 1 : Nat) : Int) := by rw [zu_miss _ _ _ _ (fun _ => by decide)]; exact b3
  have e03 : ((K + 1 : Nat) : Int) - 1 = (K : Int) := by omega
  rw [bnd_eq, e1, if_pos (by rw [zwn (by omega)]; omega), e03, bnd_eq]
  generalize hm2 : zu (zu m' 0 0 0) 0 3 (K : Int) = m5
  have d3 : m5 0 3 = (K : Int) := by rw [← hm2, zu_hit]
  have dc : ∀ i, i ≠ 0 → m5 i = m' i := fun i hi => by rw [← hm2]; unfold zu; rw [if_neg hi, if_neg hi]
  have d2 : m5 2 K = ((3 + q : Nat) : Int) := by rw [dc 2 (by omega)]; exact b2
  obtain ⟨m3, f1, f2, f3⟩ := X7_copy2 m5 (a := 3 + q) (b := 1) (by omega)
  rw [d3, if_pos (zin_i (by omega) (by omega) (by omega)), zix_nat (n := K) (by omega), d2, if_pos (by omega), if_pos (by omega), show Int.toNat ((3 + q : Nat) : Int) = 3 + q from rfl, f1, Option.bind_some, bnd_eq]
  refine ⟨_, _, rfl, fun j hj => by rw [f3 j hj, dc _ (by omega)]; exact b7 j hj, ?_⟩
  rw [f2 0 (by omega), ← hm2, zu_miss _ _ _ _ (fun _ => by decide), zu_miss _ _ _ _ (fun _ => by decide), h2 0 (by decide)]
  exact a3 8 (by decide)
theorem t_draw {N : Nat} {c m : Mm} (h : REL N c m) (h6 : m 1 6 = 0) (h5 : m 1 5 = 0) : ∃ (c' m' : Mm) (k : Nat), x_X6_draw c 0 = some (c', (k : Int)) ∧ k < 52 ∧ REL N c' m' ∧ m' 1 4 = m 1 4 ∧ m' 1 5 = 1 ∧ m' 1 6 = 0 ∧ m' 1 7 = -1 ∧ m' 1 (119 + k) = m 1 4 ∧ m 1 (119 + k) = 3 ∧ (∀ d : Nat, d < 52 → d ≠ k → m' 1 (119 + d) = m 1 (119 + d)) ∧ ∀ c3, REL N c3 m' → ∃ c4 m4 v, x_X6_undo c3 = some (c4, v) ∧ REL N c4 m4 ∧ (∀ j, j < 171 → m4 1 j = m 1 j) ∧ m4 0 8 = m 0 8 := by
  obtain ⟨c', m', v, x1, x2, x3⟩ := c_draw h 0
  have h0 := REL_eq h (CE_r c) (ME_0 m 0)
  obtain ⟨σ2, m2, -, a2, a3, a4, -⟩ := push_all h0
  have z1 : m2 1 6 = 0 := by rw [a4]; exact h6
  have z2 : m2 1 5 = 0 := by rw [a4]; exact h5
  obtain ⟨k, σ', c1, c2, c3, ⟨k1, k2, k3, k4⟩, c5, c6, c7, c8, c9, c10, c11, c12, c13, t, t1, t2, t3⟩ := X7_drawIt0 (p := 0) (by decide) a3.1 z1 z2
  have hm : x_X7_draw m 0 = some (σ', (k : Int)) := by
    unfold x_X7_draw
    rw [bnd_eq, X7_noDraw h0.1, Option.bind_some, show ndR (zu m 0 0 0 1) = 0 by unfold ndR; rw [show zu m 0 0 0 1 6 = 0 from h6, show zu m 0 0 0 1 5 = 0 from h5]; rfl, if_pos (by decide), a2, Option.bind_some, c2, Option.bind_some, un2_mk]
  rw [hm] at x2
  have e := Option.some.inj x2
  have e1 : σ' = m' := congrArg Prod.fst e
  have e2 : (k : Int) = v := congrArg Prod.snd e
  subst e1 e2
  have hrow : ∀ j, m2 1 j = m 1 j := fun j => by rw [a4]; rfl
  refine ⟨c', σ', k, x1, c1, x3, by rw [c5, hrow], c6, c7, c10, by rw [c9, hrow], ?_, fun d hd hne => ?_, fun c3' hc3 => ?_⟩
  · rw [← hrow]
    exact (a3.1.2.2.2.1 k c1).2.1.mpr ⟨t, by omega, t1, t3⟩
  · rw [k4 d hd hne, hrow]
  · obtain ⟨c4, m4, v, y1, y2, y3⟩ := cl_undo hc3
    obtain ⟨e, kk, Pf, g1, g2, g3, g4, g5, g6, g7, -⟩ := h0.2.2.1
    obtain ⟨m5, w, w1, w2, w3⟩ := u_back g4 g5 g6 g7 a2 c3
    rw [w1] at y2
    have e5 : m5 = m4 := congrArg Prod.fst (Option.some.inj y2)
    subst e5
    exact ⟨c4, m5, v, y1, y3, w2, w3⟩
