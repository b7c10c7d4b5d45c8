/-! dropping and knocking on both sides -/
theorem X7_put {N : Nat} {σ : Mm} {c : Nat} (h : V N (σ 1)) (hc : c < 52) : ∃ (p : Nat) (σ' : Mm), σ 1 14 = (p : Int) ∧ p ≤ 38 ∧ x_X7_putOnPile σ (c : Int) = some σ' ∧ RW σ σ' ∧ KP (σ 1) (σ' 1) c ∧ σ' 1 5 = 0 ∧ σ' 1 7 = -1 ∧ σ' 1 14 = σ 1 14 + 1 ∧ (∀ j : Nat, (j : Int) < σ 1 14 → σ' 1 (67 + j) = σ 1 (67 + j)) ∧ σ' 1 (67 + p) = (c : Int) ∧ σ' 1 (119 + c) = 2 ∧ σ' 1 4 = σ 1 4 ∧ σ' 1 6 = σ 1 6 ∧ σ' 1 13 = σ 1 13 ∧ ∀ k : Nat, 8 ≤ k → k < 12 → σ' 1 k = σ 1 k := by
  obtain ⟨t0, p0, v1, v2, v3, v4, v5⟩ := V_pile h
  have q2 : (119 : Int) + (c : Int) = ((119 + c : Nat) : Int) := by omega
  have q1 : (67 : Int) + (p0 : Int) = ((67 + p0 : Nat) : Int) := by omega
  have hr : ∀ j, zu (zu (zu (zu (zu σ 1 (119 + c) 2) 1 (67 + p0) (c : Int)) 1 14 ((p0 : Int) + 1)) 1 5 0) 1 7 (-1) 1 j = if j = 7 then -1 else if j = 5 then 0 else if j = 14 then (p0 : Int) + 1 else if j = 67 + p0 then (c : Int) else if j = 119 + c then 2 else σ 1 j := fun j => by
    rw [zu_at, zu_at, zu_at, zu_at, zu_at]
    simp only [true_and]
  refine ⟨p0, zu (zu (zu (zu (zu σ 1 (119 + c) 2) 1 (67 + p0) (c : Int)) 1 14 ((p0 : Int) + 1)) 1 5 0) 1 7 (-1), v3, v4, ?_, RW_t (RW_u _ _ _) (RW_t (RW_u _ _ _) (RW_t (RW_u _ _ _) (RW_t (RW_u _ _ _) (RW_u _ _ _)))), ⟨fun k hk => ?_, ?_, fun i hi => ?_, fun d hd hdc => ?_⟩, rfl, rfl, ?_, fun j hj => ?_, ?_, ?_, ?_, ?_, ?_, fun k k1 k2 => ?_⟩
  · have e14 : zu σ 1 (119 + c) 2 1 14 = (p0 : Int) := (zu_miss _ _ _ _ (fun _ => by omega)).trans v3
    have e14b : zu (zu σ 1 (119 + c) 2) 1 (67 + p0) (c : Int) 1 14 = (p0 : Int) := (zu_miss _ _ _ _ (fun _ => by omega)).trans e14
    unfold x_X7_putOnPile
    rw [q2, if_pos (zin_i (by omega) (by omega) (by omega)), zix_nat (n := 119 + c) (by omega), bnd_eq, if_pos (by decide), show zix (14 : Int) = 14 by decide, e14, q1, if_pos (zin_i (by omega) (by omega) (by omega)), zix_nat (n := 67 + p0) (by omega), bnd_eq, if_pos (by decide), if_pos (by decide), e14b, bnd_eq, if_pos (by decide), show zix (5 : Int) = 5 by decide, bnd_eq, if_pos (by decide), show zix (7 : Int) = 7 by decide, bnd_eq]
  · rw [hr, if_neg (by omega), if_neg (by omega), if_neg (by omega), if_neg (by omega), if_neg (by omega)]
  · rw [hr, if_neg (by omega), if_neg (by omega), if_neg (by omega), if_neg (by omega), if_neg (by omega)]
  · rw [hr, if_neg (by omega), if_neg (by omega), if_neg (by omega), if_neg (by omega), if_neg (by omega)]
  · rw [hr, if_neg (by omega), if_neg (by omega), if_neg (by omega), if_neg (by omega), if_neg (by omega)]
  · rw [hr, if_neg (by omega), if_neg (by omega), if_pos rfl, v3]
  · rw [hr, if_neg (by omega), if_neg (by omega), if_neg (by omega), if_neg (by omega), if_neg (by omega)]
  · rw [hr, if_neg (by omega), if_neg (by omega), if_neg (by omega), if_pos rfl]
  · rw [hr, if_neg (by omega), if_neg (by omega), if_neg (by omega), if_neg (by omega), if_pos rfl]
  · rw [hr, if_neg (by omega), if_neg (by omega), if_neg (by omega), if_neg (by omega), if_neg (by omega)]
  · rw [hr, if_neg (by omega), if_neg (by omega), if_neg (by omega), if_neg (by omega), if_neg (by omega)]
  · rw [hr, if_neg (by omega), if_neg (by omega), if_neg (by omega), if_neg (by omega), if_neg (by omega)]
  · rw [hr, if_neg (by omega), if_neg (by omega), if_neg (by omega), if_neg (by omega), if_neg (by omega)]
theorem X2_put {N : Nat} {μ : Mm} {r : Nat → Int} {c m p : Nat} (h : V N r) (hM : MR μ r) (hc : c < 52) (hm : m < 2) (hr4 : r 4 = (m : Int)) (hp : r 14 = (p : Int)) (hp2 : p ≤ 38) : x_X2_putDown μ (c : Int) = some (zu (zu (zu (zu (zu μ 2 m (Int64.toInt (dif (zL (μ 2 m)) (one c)))) 4 p (c : Int)) 0 16 ((p : Int) + 1)) 0 6 0) 0 7 (-1)) := by
  obtain ⟨⟨a0, a1, a2, a3, a4, a5, a6, a7, a8, a9, a10, a11, a12⟩, -⟩ := hM
  have e16 : zu μ 2 m (Int64.toInt (dif (zL (μ 2 m)) (one c))) 0 16 = (p : Int) := a12.trans hp
  have e16b : zu (zu μ 2 m (Int64.toInt (dif (zL (μ 2 m)) (one c)))) 4 p (c : Int) 0 16 = (p : Int) := e16
  unfold x_X2_putDown
  rw [a5, hr4, zand_p hm, if_pos (zin_i (by omega) (by omega) (by omega)), X6_bitOf hc, Option.bind_some, if_pos (zin_i (by omega) (by omega) (by omega)), zix_nat (n := m) (by omega), bnd_eq]
  rw [show (zL (μ 2 m)) &&& ((zlshl (1 : Int64) (c : Int)) ^^^ (-1 : Int64)) = dif (zL (μ 2 m)) (one c) from rfl]
  rw [e16, if_neg (nlt0 (by omega)), if_neg (nle_l (by omega) (by omega))]
  rw [if_pos (zin_i (by omega) (by omega) (by omega)), zix_nat (n := p) (by omega), bnd_eq, e16b, bnd_eq, bnd_eq, bnd_eq]
/-- the relation behind a card put onto the pile -/
theorem MR_put {N : Nat} {μ μ' : Mm} {r r' : Nat → Int} {c m p : Nat} (h : V N r) (hM : MR μ r) (hc : c < 52) (hm : m < 2) (hr4 : r 4 = (m : Int)) (hcm : r (119 + c) = r 4) (hp : r 14 = (p : Int)) (hp2 : p ≤ 38) (hk : KP r r' c) (e5 : r' 5 = 0) (e7 : r' 7 = -1) (e13 : r' 13 = r 13) (e14 : r' 14 = r 14 + 1) (ep : ∀ j : Nat, (j : Int) < r 14 → r' (67 + j) = r (67 + j)) (epc : r' (67 + p) = (c : Int)) (ec : r' (119 + c) = 2)
    (f0 : μ' 0 0 = μ 0 0 ∧ μ' 0 1 = μ 0 1 ∧ μ' 0 2 = μ 0 2 ∧ μ' 0 3 = μ 0 3 ∧ μ' 0 4 = μ 0 4 ∧ μ' 0 14 = μ 0 14) (f1 : μ' 0 5 = r' 4 ∧ μ' 0 6 = 0 ∧ μ' 0 7 = -1 ∧ μ' 0 8 = r' 6 ∧ μ' 0 9 = r' 10 ∧ μ' 0 10 = r' 11 ∧ μ' 0 16 = (p : Int) + 1) (f2 : μ' 1 0 = r' 8 ∧ μ' 1 1 = r' 9) (f3 : μ' 3 = μ 3) (f4 : μ' 4 = zr (μ 4) p (c : Int)) (f5 : μ' 2 = zr (μ 2) m (Int64.toInt (dif (zL (μ 2 m)) (one c)))) : MR μ' r' := by
  obtain ⟨⟨a0, a1, a2, a3, a4, a5, a6, a7, a8, a9, a10, a11, a12⟩, ⟨s0, s1⟩, md, mp, mh⟩ := hM
  obtain ⟨k1, k2, k3, k4⟩ := hk
  obtain ⟨g0, g1, g2, g3, g4, g5⟩ := f0
  obtain ⟨u0, u1, u2, u3, u4, u5, u6⟩ := f1
  refine ⟨⟨(g0.trans a0).trans (k1 0 (by omega)).symm, (g1.trans a1).trans (k1 1 (by omega)).symm, (g2.trans a2).trans (k1 2 (by omega)).symm, by rw [g3, k2]; exact a3, (g4.trans a4).trans (k1 3 (by omega)).symm, u0, u1.trans e5.symm, u2.trans e7.symm, u3, u4, u5, (g5.trans a11).trans e13.symm, by rw [u6, e14, hp]⟩, f2, fun j hj => ?_, fun j hj => ?_, fun q hq => ?_⟩
  · rw [f3, k3 j hj]; exact md j hj
  · rw [f4]
    show (if j = p then (c : Int) else μ 4 j) = _
    by_cases e : j = p
    · rw [if_pos e, e, epc]
    · rw [if_neg e, ep j (by omega)]
      exact mp j (by omega)
  · have := hand_sub (r := r) hm hc (hcm.trans hr4) ⟨k1, k2, k3, k4⟩ ec mh q hq
    rw [f5]
    rw [zu_self] at this
    exact this
/-- dropping on both sides -/
theorem drop_sim {N : Nat} {μ σ : Mm} {c : Nat} (h : V N (σ 1)) (hM : MR μ (σ 1)) (h6 : σ 1 6 = 0) (h5 : σ 1 5 = 1) (hc : c < 52) (hcm : σ 1 (119 + c) = σ 1 4) : ∃ (v : Int) (μ' σ' : Mm), x_X2_endTurn μ (c : Int) = some μ' ∧ x_X7_dropIt σ (c : Int) = some (σ', v) ∧ v = 52 - μ' 0 14 ∧ V N (σ' 1) ∧ MR μ' (σ' 1) ∧ RW σ σ' := by
  obtain ⟨m, m1, m2, m3⟩ := V_mv h
  obtain ⟨t0, p0, v1, v2, v3, v4, v5⟩ := V_pile h
  obtain ⟨p, σ1, b1, b2, b3, b4, b5, b6, b7, b8, b9, b10, b11, b12, b13, b14, b15⟩ := X7_put h hc
  have hput := X2_put h hM hc m1 m2 b1 b2
  obtain ⟨⟨a0, a1, a2, a3, a4, a5, a6, a7, a8, a9, a10, a11, a12⟩, ⟨s0, s1⟩, md, mp, mh⟩ := hM
  generalize hμ1 : zu (zu (zu (zu (zu μ 2 m (Int64.toInt (dif (zL (μ 2 m)) (one c)))) 4 p (c : Int)) 0 16 ((p : Int) + 1)) 0 6 0) 0 7 (-1) = μ1 at hput
  have f0 : μ1 0 0 = μ 0 0 ∧ μ1 0 1 = μ 0 1 ∧ μ1 0 2 = μ 0 2 ∧ μ1 0 3 = μ 0 3 ∧ μ1 0 4 = μ 0 4 ∧ μ1 0 14 = μ 0 14 := by subst hμ1; exact ⟨rfl, rfl, rfl, rfl, rfl, rfl⟩
  have g5 : μ1 0 5 = μ 0 5 := by subst hμ1; rfl
  have g6 : μ1 0 6 = 0 := by subst hμ1; rfl
  have g7 : μ1 0 7 = -1 := by subst hμ1; rfl
  have g8 : μ1 0 8 = μ 0 8 ∧ μ1 0 9 = μ 0 9 ∧ μ1 0 10 = μ 0 10 ∧ μ1 0 16 = (p : Int) + 1 := by subst hμ1; exact ⟨rfl, rfl, rfl, rfl⟩
  have gs : μ1 1 = μ 1 := by subst hμ1; rfl
  have f3 : μ1 3 = μ 3 := by subst hμ1; rfl
  have f4 : μ1 4 = zr (μ 4) p (c : Int) := by subst hμ1; rfl
  have f5 : μ1 2 = zr (μ 2) m (Int64.toInt (dif (zL (μ 2 m)) (one c))) := by subst hμ1; rfl
  have hst : (52 : Int) - μ1 0 14 = 52 - (t0 : Int) := by rw [f0.2.2.2.2.2, a11, v1]
  have hst7 : x_X7_stocked σ1 = some (52 - (t0 : Int)) := by rw [X7_stock, b14, v1]
  unfold x_X2_endTurn x_X7_dropIt
  rw [hput, Option.bind_some, X2_stock, Option.bind_some, b3, Option.bind_some, hst7, Option.bind_some, hst]
  by_cases e : t0 = 52
  · subst e
    rw [if_pos (by decide), if_neg (by decide), bnd_eq, bnd_eq, bnd_eq]
    have hend : x_X7_endRound σ1 (0 : Int) (-1 : Int) = some (zu (zu (zu σ1 1 6 1) 1 10 0) 1 11 (-1)) := by
      unfold x_X7_endRound
      rw [if_pos (by decide), show zix (6 : Int) = 6 by decide, bnd_eq, if_pos (by decide), show zix (10 : Int) = 10 by decide, bnd_eq, if_pos (by decide), show zix (11 : Int) = 11 by decide, bnd_eq, if_pos rfl]
    rw [hend, Option.bind_some, X7_stock, Option.bind_some]
    have hr : ∀ j, zu (zu (zu σ1 1 6 1) 1 10 0) 1 11 (-1) 1 j = if j = 11 then -1 else if j = 10 then 0 else if j = 6 then 1 else σ1 1 j := fun j => by
      rw [zu_at, zu_at, zu_at]
      simp only [true_and]
    have hk : KP (σ 1) (zu (zu (zu σ1 1 6 1) 1 10 0) 1 11 (-1) 1) c := by
      obtain ⟨k1, k2, k3, k4⟩ := b5
      refine ⟨fun k hk => ?_, k2, fun i hi => ?_, fun d hd hdc => ?_⟩
      · rw [hr, if_neg (by omega), if_neg (by omega), if_neg (by omega)]; exact k1 k hk
      · rw [hr, if_neg (by omega), if_neg (by omega), if_neg (by omega)]; exact k3 i hi
      · rw [hr, if_neg (by omega), if_neg (by omega), if_neg (by omega)]; exact k4 d hd hdc
    have hep : ∀ j : Nat, (j : Int) < σ 1 14 → zu (zu (zu σ1 1 6 1) 1 10 0) 1 11 (-1) 1 (67 + j) = σ 1 (67 + j) := fun j hj => by
      rw [hr, if_neg (by omega), if_neg (by omega), if_neg (by omega)]; exact b9 j hj
    have hpc : zu (zu (zu σ1 1 6 1) 1 10 0) 1 11 (-1) 1 (67 + p) = (c : Int) := by
      rw [hr, if_neg (by omega), if_neg (by omega), if_neg (by omega)]; exact b10
    have hcc : zu (zu (zu σ1 1 6 1) 1 10 0) 1 11 (-1) 1 (119 + c) = 2 := by
      rw [hr, if_neg (by omega), if_neg (by omega), if_neg (by omega)]; exact b11
    refine ⟨_, _, _, rfl, rfl, ?_, ?_, ?_, RW_t b4 (RW_t (RW_u _ _ _) (RW_t (RW_u _ _ _) (RW_u _ _ _)))⟩
    · show 52 - σ1 1 13 = 52 - μ1 0 14
      rw [b14, f0.2.2.2.2.2, a11]
    · exact V_put h h5 hc hcm hk (by show σ1 1 4 = 0 ∨ σ1 1 4 = 1; rw [b12]; exact V_m h) b6 (.inr rfl) b7 b14 b8 hep (fun q hq => by rw [show q = p by omega]; exact hpc) hcc
    · refine MR_put h ⟨⟨a0, a1, a2, a3, a4, a5, a6, a7, a8, a9, a10, a11, a12⟩, ⟨s0, s1⟩, md, mp, mh⟩ hc m1 m2 hcm b1 b2 hk b6 b7 b14 b8 hep hpc hcc f0 ⟨?_, g6, g7, rfl, rfl, rfl, g8.2.2.2⟩ ⟨?_, ?_⟩ f3 f4 f5
      · show μ1 0 5 = σ1 1 4
        rw [g5, a5, b12]
      · show μ1 1 0 = σ1 1 8
        rw [gs, s0, b15 8 (by omega) (by omega)]
      · show μ1 1 1 = σ1 1 9
        rw [gs, s1, b15 9 (by omega) (by omega)]
  · have hz : zw (52 - (t0 : Int)) = 52 - (t0 : Int) := zw_eq (by omega) (by omega)
    rw [hz, if_neg (by omega), if_pos (by omega), bnd_eq, if_pos (by decide), if_pos (by decide), show zix (4 : Int) = 4 by decide, bnd_eq, X7_stock, Option.bind_some]
    have hr : ∀ j, zu σ1 1 4 (1 - σ1 1 4) 1 j = if j = 4 then 1 - σ1 1 4 else σ1 1 j := fun j => by
      rw [zu_at]
      simp only [true_and]
    have hk : KP (σ 1) (zu σ1 1 4 (1 - σ1 1 4) 1) c := by
      obtain ⟨k1, k2, k3, k4⟩ := b5
      refine ⟨fun k hk => ?_, k2, fun i hi => ?_, fun d hd hdc => ?_⟩
      · rw [hr, if_neg (by omega)]; exact k1 k hk
      · rw [hr, if_neg (by omega)]; exact k3 i hi
      · rw [hr, if_neg (by omega)]; exact k4 d hd hdc
    have hep : ∀ j : Nat, (j : Int) < σ 1 14 → zu σ1 1 4 (1 - σ1 1 4) 1 (67 + j) = σ 1 (67 + j) := fun j hj => by
      rw [hr, if_neg (by omega)]; exact b9 j hj
    have hpc : zu σ1 1 4 (1 - σ1 1 4) 1 (67 + p) = (c : Int) := by
      rw [hr, if_neg (by omega)]; exact b10
    have hcc : zu σ1 1 4 (1 - σ1 1 4) 1 (119 + c) = 2 := by
      rw [hr, if_neg (by omega)]; exact b11
    have h4 : zu σ1 1 4 (1 - σ1 1 4) 1 4 = 1 - σ 1 4 := by rw [zu_hit, b12]
    have hM' : MR μ (σ 1) := ⟨⟨a0, a1, a2, a3, a4, a5, a6, a7, a8, a9, a10, a11, a12⟩, ⟨s0, s1⟩, md, mp, mh⟩
    refine ⟨_, _, _, rfl, rfl, ?_, ?_, ?_, RW_t b4 (RW_u _ _ _)⟩
    · show 52 - σ1 1 13 = 52 - μ1 0 14
      rw [b14, f0.2.2.2.2.2, a11]
    · exact V_put h h5 hc hcm hk (by rw [h4]; rcases V_m h with z | z <;> rw [z] <;> decide) b6 (.inl ⟨by show σ1 1 6 = 0; rw [b13]; exact h6, by omega⟩) b7 b14 b8 hep (fun q hq => by rw [show q = p by omega]; exact hpc) hcc
    · refine MR_put h hM' hc m1 m2 hcm b1 b2 hk b6 b7 b14 b8 hep hpc hcc f0 ⟨?_, g6, g7, ?_, ?_, ?_, g8.2.2.2⟩ ⟨?_, ?_⟩ f3 f4 f5
      · show 1 - μ1 0 5 = _
        rw [h4, g5, a5]
      · show μ1 0 8 = σ1 1 6
        rw [g8.1, a8, b13]
      · show μ1 0 9 = σ1 1 10
        rw [g8.2.1, a9, b15 10 (by omega) (by omega)]
      · show μ1 0 10 = σ1 1 11
        rw [g8.2.2.1, a10, b15 11 (by omega) (by omega)]
      · show μ1 1 0 = σ1 1 8
        rw [gs, s0, b15 8 (by omega) (by omega)]
      · show μ1 1 1 = σ1 1 9
        rw [gs, s1, b15 9 (by omega) (by omega)]
/-- ending a round by a knock on both sides: g are the points -/
theorem end_sim {N : Nat} {μ σ : Mm} {c : Nat} {g : Int} (h : V N (σ 1)) (hM : MR μ (σ 1)) (h5 : σ 1 5 = 1) (hc : c < 52) (hcm : σ 1 (119 + c) = σ 1 4) (hg : -2000 ≤ g ∧ g ≤ 2000) : ∃ (μ' σ1 σ' : Mm), x_X2_endRound μ (c : Int) g = some μ' ∧ x_X7_putOnPile σ (c : Int) = some σ1 ∧ RW σ σ1 ∧ x_X7_knockIt_j62 σ1 g = some (σ', g) ∧ V N (σ' 1) ∧ MR μ' (σ' 1) ∧ RW σ σ' := by
  obtain ⟨m, m1, m2, m3⟩ := V_mv h
  obtain ⟨t0, p0, v1, v2, v3, v4, v5⟩ := V_pile h
  obtain ⟨p, σ1, b1, b2, b3, b4, b5, b6, b7, b8, b9, b10, b11, b12, b13, b14, b15⟩ := X7_put h hc
  have hput := X2_put h hM hc m1 m2 b1 b2
  have hM' := hM
  obtain ⟨⟨a0, a1, a2, a3, a4, a5, a6, a7, a8, a9, a10, a11, a12⟩, ⟨s0, s1⟩, md, mp, mh⟩ := hM
  generalize hμ1 : zu (zu (zu (zu (zu μ 2 m (Int64.toInt (dif (zL (μ 2 m)) (one c)))) 4 p (c : Int)) 0 16 ((p : Int) + 1)) 0 6 0) 0 7 (-1) = μ1 at hput
  have f0 : μ1 0 0 = μ 0 0 ∧ μ1 0 1 = μ 0 1 ∧ μ1 0 2 = μ 0 2 ∧ μ1 0 3 = μ 0 3 ∧ μ1 0 4 = μ 0 4 ∧ μ1 0 14 = μ 0 14 := by subst hμ1; exact ⟨rfl, rfl, rfl, rfl, rfl, rfl⟩
  have g5 : μ1 0 5 = (m : Int) := by subst hμ1; exact a5.trans m2
  have g6 : μ1 0 6 = 0 := by subst hμ1; rfl
  have g7 : μ1 0 7 = -1 := by subst hμ1; rfl
  have g16 : μ1 0 16 = (p : Int) + 1 := by subst hμ1; rfl
  have gs : μ1 1 = μ 1 := by subst hμ1; rfl
  have f3 : μ1 3 = μ 3 := by subst hμ1; rfl
  have f4 : μ1 4 = zr (μ 4) p (c : Int) := by subst hμ1; rfl
  have f5 : μ1 2 = zr (μ 2) m (Int64.toInt (dif (zL (μ 2 m)) (one c))) := by subst hμ1; rfl
  have hzg : zw g = g := zw_eq (by omega) (by omega)
  -- with the winner w and the points q
  have key : ∀ (w : Nat) (q : Int), w < 2 → ∃ (μ' σ' : Mm), μ' = zu (zu (zu (zu μ1 0 8 1) 0 9 q) 0 10 (w : Int)) 1 w (μ1 1 w + q) ∧ x_X7_endRound σ1 q (w : Int) = some σ' ∧ V N (σ' 1) ∧ MR μ' (σ' 1) ∧ RW σ σ' := fun w q hw => by
    have q8 : (8 : Int) + (w : Int) = ((8 + w : Nat) : Int) := by omega
    have e8 : zu (zu (zu σ1 1 6 1) 1 10 q) 1 11 (w : Int) 1 (8 + w) = σ1 1 (8 + w) := by
      rw [zu_miss _ _ _ _ (fun _ => by omega), zu_miss _ _ _ _ (fun _ => by omega), zu_miss _ _ _ _ (fun _ => by omega)]
    have hr : ∀ j, zu (zu (zu (zu σ1 1 6 1) 1 10 q) 1 11 (w : Int)) 1 (8 + w) (σ1 1 (8 + w) + q) 1 j = if j = 8 + w then σ1 1 (8 + w) + q else if j = 11 then (w : Int) else if j = 10 then q else if j = 6 then 1 else σ1 1 j := fun j => by
      rw [zu_at, zu_at, zu_at, zu_at]
      simp only [true_and]
    refine ⟨_, zu (zu (zu (zu σ1 1 6 1) 1 10 q) 1 11 (w : Int)) 1 (8 + w) (σ1 1 (8 + w) + q), rfl, ?_, ?_, ?_, RW_t b4 (RW_t (RW_u _ _ _) (RW_t (RW_u _ _ _) (RW_t (RW_u _ _ _) (RW_u _ _ _))))⟩
    · unfold x_X7_endRound
      rw [if_pos (by decide), show zix (6 : Int) = 6 by decide, bnd_eq, if_pos (by decide), show zix (10 : Int) = 10 by decide, bnd_eq, if_pos (by decide), show zix (11 : Int) = 11 by decide, bnd_eq, if_neg (by rw [zwn (by omega), zw_eq (x := (-1 : Int)) (by omega) (by omega)]; omega), q8, if_pos (zin_i (by omega) (by omega) (by omega)), if_pos (zin_i (by omega) (by omega) (by omega)), zix_nat (n := 8 + w) (by omega), e8, bnd_eq]
    · refine V_put h h5 hc hcm ⟨fun k hk => ?_, ?_, fun i hi => ?_, fun d hd hdc => ?_⟩ ?_ ?_ (.inr ?_) ?_ ?_ ?_ (fun j hj => ?_) (fun z hz => ?_) ?_
      · rw [hr, if_neg (by omega), if_neg (by omega), if_neg (by omega), if_neg (by omega)]; exact b5.1 k hk
      · rw [hr, if_neg (by omega), if_neg (by omega), if_neg (by omega), if_neg (by omega)]; exact b5.2.1
      · rw [hr, if_neg (by omega), if_neg (by omega), if_neg (by omega), if_neg (by omega)]; exact b5.2.2.1 i hi
      · rw [hr, if_neg (by omega), if_neg (by omega), if_neg (by omega), if_neg (by omega)]; exact b5.2.2.2 d hd hdc
      · rw [hr, if_neg (by omega), if_neg (by omega), if_neg (by omega), if_neg (by omega), b12]; exact V_m h
      · rw [hr, if_neg (by omega), if_neg (by omega), if_neg (by omega), if_neg (by omega)]; exact b6
      · rw [hr, if_neg (by omega), if_neg (by omega), if_neg (by omega), if_pos rfl]
      · rw [hr, if_neg (by omega), if_neg (by omega), if_neg (by omega), if_neg (by omega)]; exact b7
      · rw [hr, if_neg (by omega), if_neg (by omega), if_neg (by omega), if_neg (by omega)]; exact b14
      · rw [hr, if_neg (by omega), if_neg (by omega), if_neg (by omega), if_neg (by omega)]; exact b8
      · rw [hr, if_neg (by omega), if_neg (by omega), if_neg (by omega), if_neg (by omega)]; exact b9 j hj
      · rw [hr, if_neg (by omega), if_neg (by omega), if_neg (by omega), if_neg (by omega), show z = p by omega]; exact b10
      · rw [hr, if_neg (by omega), if_neg (by omega), if_neg (by omega), if_neg (by omega)]; exact b11
    · refine MR_put h hM' hc m1 m2 hcm b1 b2 ⟨fun k hk => ?_, ?_, fun i hi => ?_, fun d hd hdc => ?_⟩ ?_ ?_ ?_ ?_ (fun j hj => ?_) ?_ ?_ f0 ⟨?_, g6, g7, ?_, ?_, ?_, g16⟩ ⟨?_, ?_⟩ f3 f4 f5
      · rw [hr, if_neg (by omega), if_neg (by omega), if_neg (by omega), if_neg (by omega)]; exact b5.1 k hk
      · rw [hr, if_neg (by omega), if_neg (by omega), if_neg (by omega), if_neg (by omega)]; exact b5.2.1
      · rw [hr, if_neg (by omega), if_neg (by omega), if_neg (by omega), if_neg (by omega)]; exact b5.2.2.1 i hi
      · rw [hr, if_neg (by omega), if_neg (by omega), if_neg (by omega), if_neg (by omega)]; exact b5.2.2.2 d hd hdc
      · rw [hr, if_neg (by omega), if_neg (by omega), if_neg (by omega), if_neg (by omega)]; exact b6
      · rw [hr, if_neg (by omega), if_neg (by omega), if_neg (by omega), if_neg (by omega)]; exact b7
      · rw [hr, if_neg (by omega), if_neg (by omega), if_neg (by omega), if_neg (by omega)]; exact b14
      · rw [hr, if_neg (by omega), if_neg (by omega), if_neg (by omega), if_neg (by omega)]; exact b8
      · rw [hr, if_neg (by omega), if_neg (by omega), if_neg (by omega), if_neg (by omega)]; exact b9 j hj
      · rw [hr, if_neg (by omega), if_neg (by omega), if_neg (by omega), if_neg (by omega)]; exact b10
      · rw [hr, if_neg (by omega), if_neg (by omega), if_neg (by omega), if_neg (by omega)]; exact b11
      · rw [hr, if_neg (by omega), if_neg (by omega), if_neg (by omega), if_neg (by omega), b12, m2]
        exact g5
      · rw [hr, if_neg (by omega), if_neg (by omega), if_neg (by omega), if_pos rfl]; rfl
      · rw [hr, if_neg (by omega), if_neg (by omega), if_pos rfl]; rfl
      · rw [hr, if_neg (by omega), if_pos rfl]; rfl
      · rw [hr, zu_at]
        show (if 1 = 1 ∧ 0 = w then μ1 1 w + q else μ1 1 0) = _
        by_cases e : w = 0
        · subst e
          rw [if_pos ⟨rfl, rfl⟩, if_pos (by omega), gs, s0, b15 8 (by omega) (by omega)]
        · rw [if_neg (fun z => e z.2.symm), if_neg (by omega), if_neg (by omega), if_neg (by omega), if_neg (by omega), gs, s0, b15 8 (by omega) (by omega)]
      · rw [hr, zu_at]
        show (if 1 = 1 ∧ 1 = w then μ1 1 w + q else μ1 1 1) = _
        by_cases e : w = 1
        · subst e
          rw [if_pos ⟨rfl, rfl⟩, if_pos (by omega), gs, s1, b15 9 (by omega) (by omega)]
        · rw [if_neg (fun z => e z.2.symm), if_neg (by omega), if_neg (by omega), if_neg (by omega), if_neg (by omega), gs, s1, b15 9 (by omega) (by omega)]
  have hmw : (1 : Int) - (m : Int) = ((1 - m : Nat) : Int) := by omega
  have hcls : ∀ (w : Nat) (q : Int), w < 2 → zabs g = q → (zw g ≤ 0 ∧ w = 1 - m) ∨ (¬ zw g ≤ 0 ∧ w = m) → x_X2_endRound μ (c : Int) g = some (zu (zu (zu (zu μ1 0 8 1) 0 9 q) 0 10 (w : Int)) 1 w (μ1 1 w + q)) := fun w q hw hq hcase => by
    unfold x_X2_endRound
    rw [hput, Option.bind_some, bnd_eq, hq, bnd_eq]
    have e5 : zu (zu μ1 0 8 1) 0 9 q 0 5 = (m : Int) := g5
    have fin : ∀ τ : Mm, τ = zu (zu (zu μ1 0 8 1) 0 9 q) 0 10 (w : Int) → (if zin (zand (τ 0 10) (1 : Int)) 2 then (if zin (zand (τ 0 10) (1 : Int)) 2 then bnd (zu τ 1 (zix (zand (τ 0 10) (1 : Int))) ((τ 1 (zix (zand (τ 0 10) (1 : Int)))) + (τ 0 9))) fun σ6 => some σ6 else none) else none) = some (zu τ 1 w (μ1 1 w + q)) := fun τ hτ => by
      have t10 : τ 0 10 = (w : Int) := by rw [hτ]; rfl
      have t9 : τ 0 9 = q := by rw [hτ]; rfl
      have t1 : τ 1 w = μ1 1 w := by rw [hτ]; rfl
      rw [t10, zand_p hw, if_pos (zin_i (by omega) (by omega) (by omega)), if_pos (zin_i (by omega) (by omega) (by omega)), zix_nat (n := w) (by omega), t9, t1, bnd_eq]
    rcases hcase with ⟨z1, z2⟩ | ⟨z1, z2⟩
    · rw [if_pos z1, e5, hmw, ← z2, bnd_eq]
      exact fin _ rfl
    · rw [if_neg z1, e5, ← z2, bnd_eq]
      exact fin _ rfl
  have h14 : σ1 1 4 = (m : Int) := b12.trans m2
  by_cases e : g ≤ 0
  · obtain ⟨μ', σ', k1, k2, k3, k4, k5⟩ := key (1 - m) (-g) (by omega)
    refine ⟨μ', σ1, σ', ?_, b3, b4, ?_, k3, k4, k5⟩
    · rw [k1]
      exact hcls (1 - m) (-g) (by omega) (by unfold zabs; rw [hzg]; split <;> omega) (.inl ⟨by omega, rfl⟩)
    · unfold x_X7_knockIt_j62 x_X7_knockIt_j72 x_X7_knockIt_j84
      rw [if_pos (by omega), if_pos (by decide), if_pos (by decide), if_pos (by decide), show zix (4 : Int) = 4 by decide, h14, hmw, k2]
      rfl
  · obtain ⟨μ', σ', k1, k2, k3, k4, k5⟩ := key m g m1
    refine ⟨μ', σ1, σ', ?_, b3, b4, ?_, k3, k4, k5⟩
    · rw [k1]
      exact hcls m g m1 (by unfold zabs; rw [hzg]; split <;> omega) (.inr ⟨by omega, rfl⟩)
    · unfold x_X7_knockIt_j62 x_X7_knockIt_j72 x_X7_knockIt_j84
      rw [if_neg (by omega), if_neg (by decide), if_neg (by decide), if_pos (by decide), show zix (4 : Int) = 4 by decide, h14, k2]
      rfl
