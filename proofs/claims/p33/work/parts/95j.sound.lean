/-! isSound answers 1 -/
theorem gap0 {N : Nat} {c m : Mm} (h : REL N c m) : ∃ c', x_X6_gap c = some (c', 0) ∧ REL N c' m := by
  obtain ⟨P, p1, p2, p3, p4⟩ := R_hand h (p := 0) (by omega)
  obtain ⟨Q, q1, q2, q3, q4⟩ := R_hand h (p := 1) (by omega)
  obtain ⟨c1, a1, a2⟩ := X6_gap1 h (p := 0) (by omega)
  obtain ⟨c2, b1, b2⟩ := X6_gap1 a2 (p := 1) (by omega)
  obtain ⟨n0, n1, n2, n3, n4, n5, n6, n12, n13, n14, n15⟩ := h.1.1
  have hc14 : c 1 14 = m 1 13 := h.2.1.1.2.2.2.2.2.2.2.2.2.2.2.1
  have hc16 : c 1 16 = m 1 14 := h.2.1.1.2.2.2.2.2.2.2.2.2.2.2.2
  have hsum : ((cnt (bs P) 64 : Nat) : Int) + ((cnt (bs Q) 64 : Nat) : Int) = 2 * m 1 0 + m 1 5 := by
    rw [p4, q4]
    rcases n4 with w | w <;> rcases n5 with w2 | w2 <;> rw [w, w2] <;> simp <;> omega
  have p1' : x_X2_handOf (zb zl_47 c) (0 : Int) = some P := p1
  have q1' : x_X2_handOf (zb zl_47 c) (1 : Int) = some Q := q1
  have hst : x_X2_stockCount (zb zl_47 c) = some (52 - c 1 14) := rfl
  unfold x_X6_gap
  rw [p1', Option.bind_some, bitCount_eq, Option.bind_some, q1', Option.bind_some, bitCount_eq, Option.bind_some, bnd_eq, hst, Option.bind_some, hc14, hc16, show (52 : Int) - (((cnt (bs P) 64 : Nat) : Int) + ((cnt (bs Q) 64 : Nat) : Int)) - (52 - m 1 13) - m 1 14 = 0 by omega, show zabs 0 = 0 by decide, bnd_eq]
  have hl : lup (fun (s19 : Mm × Int × Int) => x_X6_gap_b50 s19.1 s19.2.1 s19.2.2) (c, (0 : Int), (0 : Int)) = some (c2, 0) := by
    have a1 : x_X6_gap_b50 c 0 0 = some (.inl (c1, 0, 1)) := a1
    have b1 : x_X6_gap_b50 c1 0 1 = some (.inl (c2, 0, 2)) := b1
    rw [lup_inl (f := fun (s19 : Mm × Int × Int) => x_X6_gap_b50 s19.1 s19.2.1 s19.2.2) (s := (c, (0 : Int), (0 : Int))) a1, lup_inl (f := fun (s19 : Mm × Int × Int) => x_X6_gap_b50 s19.1 s19.2.1 s19.2.2) (s := (c1, (0 : Int), (1 : Int))) b1]
    refine lup_inr ?_
    show x_X6_gap_b50 c2 0 2 = _
    unfold x_X6_gap_b50
    rw [if_pos (by decide)]
  rw [hl, Option.bind_some, un2_mk]
  exact ⟨_, rfl, REL_eq b2 (CE_r _) (ME_r _)⟩
theorem l_laid {N : Nat} {σ m : Mm} (hR : REL N σ m) {p : Nat} (hp : p < 2) : ∃ c', x_L_isLaid (zb zl_101 σ) (p : Int) = some (c', 1) ∧ REL N (zj zl_101 σ c') m := by
  obtain ⟨c', r, h⟩ := t_isLaid (REL_zb hR) hp
  exact ⟨c', r, REL_zj h⟩
set_option maxHeartbeats 4000000 in
theorem t_isSound {N : Nat} {σ m : Mm} (hR : REL N σ m) : ∃ σ', x_L_isSound σ = some (σ', 1) ∧ REL N σ' m := by
  obtain ⟨P, hP⟩ := HND_ex hR (p := 0) (by omega)
  obtain ⟨Q, hQ⟩ := HND_ex hR (p := 1) (by omega)
  have hcP := plc_p hR.1 (p := 0) (by omega)
  have hcQ := plc_p hR.1 (p := 1) (by omega)
  have hc2 := plc_2 hR.1
  have hc3 := plc_3 hR.1
  obtain ⟨-, -, hP3⟩ := HND_in hR (by omega) hP
  obtain ⟨-, -, hQ3⟩ := HND_in hR (by omega) hQ
  rw [← hcP] at hP3
  rw [← hcQ] at hQ3
  obtain ⟨nb0, nb1, nb2, nb3, nb4, nb5, nb6, nb7, nb8, nb9, nb10⟩ := hR.1.1
  have R0 : REL N (zf0 σ) m := REL_c hR (fun i hi => by unfold zf0; rw [if_neg (by omega)])
  generalize hσ0 : zf0 σ = σ0 at R0
  obtain ⟨c1, e1, r1⟩ := gap0 (REL_zb R0)
  have R1 := REL_zj (c := σ0) r1
  generalize hσ3 : zj zl_101 σ0 c1 = σ3 at R1
  obtain ⟨σ4, hσ4⟩ : ∃ σ4, σ4 = zu (zj [101] σ3 (fun _ _ => 0)) 200 0 1 := ⟨_, rfl⟩
  have R4 : REL N σ4 m := by
    refine REL_c R1 (fun i hi => ?_)
    rw [hσ4, zu_ne _ _ _ (by omega), zj1_ne _ _ (by omega)]
  have g1 : ∀ g ∈ ([(200, 0)] : List (Nat × Nat)), σ4 g.1 g.2 ≠ 0 := fun g hg => by
    rw [List.mem_singleton.mp hg]
    show σ4 200 0 ≠ 0
    rw [hσ4, zu_hit]
    decide
  obtain ⟨σ13, l1, R13, hz⟩ := loop15 R4 (fun j _ => by
    rw [hσ4, zu_ne _ _ _ (by decide), zj1_at])
  have z0 := hz 0 (by omega)
  have z1 := hz 1 (by omega)
  have z2 := hz 2 (by omega)
  have z3 := hz 3 (by omega)
  obtain ⟨a0, a4, -, -, -, -⟩ := v_match (REL_zb R13)
  have a0 := h_match a0
  have a4 := h_match a4
  obtain ⟨c2, R2, k2, e2, -⟩ := l_player R13 (p := 0) (by omega) hP
  generalize hσ19 : zj zl_101 σ13 c2 = σ19 at R2 k2
  obtain ⟨c3, R3, k3, e3, -⟩ := l_player R2 (p := 1) (by omega) hQ
  generalize hσ23 : zj zl_101 σ19 c3 = σ23 at R3 k3
  obtain ⟨-, -, b5, b6, b8, b9⟩ := v_match (REL_zb R3)
  have b5 := h_match b5
  have b6 := h_match b6
  have b8 := h_match b8
  have b9 := h_match b9
  obtain ⟨c4, e4, R4'⟩ := l_laid R3 (p := 0) (by omega)
  generalize hσ32 : zj zl_101 σ23 c4 = σ32 at R4'
  obtain ⟨c5, e5, R5⟩ := l_laid R4' (p := 1) (by omega)
  have e2 : x_L_player (zb zl_101 σ13) (0 : Int) 0 = some (c2, ((cnt (bs P) 64 : Nat) : Int)) := e2
  have e3 : x_L_player (zb zl_101 σ19) (1 : Int) 0 = some (c3, ((cnt (bs Q) 64 : Nat) : Int)) := e3
  have e4 : x_L_isLaid (zb zl_101 σ23) (0 : Int) = some (c4, 1) := e4
  have e5 : x_L_isLaid (zb zl_101 σ32) (1 : Int) = some (c5, 1) := e5
  have s0 : σ13 101 (zix 0) = ((cnt (bs P) 64 : Nat) : Int) := z0.trans hP3.symm
  have s1 : σ19 101 (zix 1) = ((cnt (bs Q) 64 : Nat) : Int) := by rw [k2 _ _ (by omega)]; exact z1.trans hQ3.symm
  have s2 : σ23 101 (zix 2) = m 1 14 := by rw [k3 _ _ (by omega), k2 _ _ (by omega)]; exact z2.trans hc2
  have s3 : σ23 101 (zix 3) = 52 - m 1 13 := by rw [k3 _ _ (by omega), k2 _ _ (by omega)]; exact z3.trans hc3
  have t0 : σ23 101 (zix 0) = m 1 0 + (if m 1 4 = 0 ∧ m 1 5 = 1 then 1 else 0) := by rw [k3 _ _ (by omega), k2 _ _ (by omega)]; exact z0.trans hcP
  have t1 : σ23 101 (zix 1) = m 1 0 + (if m 1 4 = 1 ∧ m 1 5 = 1 then 1 else 0) := by rw [k3 _ _ (by omega), k2 _ _ (by omega)]; exact z1.trans hcQ
  refine ⟨zj zl_101 σ32 c5, ?_, R5⟩
  have hd : zin (1 - m 1 4) 4 ∧ σ23 101 (zix (1 - m 1 4)) = m 1 0 ∧ zin (m 1 4) 4 ∧ σ23 101 (zix (m 1 4)) = m 1 0 + m 1 5 := by
    rcases nb4 with w | w
    · rw [w] at t0 t1 ⊢
      refine ⟨by decide, ?_, by decide, ?_⟩
      · show σ23 101 (zix 1) = _
        rw [t1, if_neg (by simp)]; omega
      · rw [t0]
        rcases nb5 with w2 | w2 <;> rw [w2] <;> simp
    · rw [w] at t0 t1 ⊢
      refine ⟨by decide, ?_, by decide, ?_⟩
      · show σ23 101 (zix 0) = _
        rw [t0, if_neg (by simp)]; omega
      · rw [t1]
        rcases nb5 with w2 | w2 <;> rw [w2] <;> simp
  obtain ⟨d1, d2, d3, d4⟩ := hd
  unfold x_L_isSound
  rw [e106, e108]
  rw [bnd_eq, hσ0, e1, Option.bind_some, un2_mk, bnd_eq, hσ3, if_pos (by decide), bnd_eq, ← hσ4, if_pos g1, l1, Option.bind_some, a0, Option.bind_some, a4, Option.bind_some, if_pos (by decide), e2, Option.bind_some, un2_mk, bnd_eq, hσ19, s0, if_neg (fun z => z rfl), if_pos (by decide), e3, Option.bind_some, un2_mk, bnd_eq, hσ23, s1, if_neg (fun z => z rfl), if_pos (by decide), b9, Option.bind_some, s2, if_neg (fun z => z rfl), if_pos (by decide), b8, Option.bind_some, s3, if_pos rfl, if_pos d1, d2, if_neg (fun z => z rfl), b6, Option.bind_some]
  by_cases q : zw (m 1 6) ≠ 0
  · rw [if_pos q, e4, Option.bind_some, un2_mk, bnd_eq, hσ32, if_neg (by decide), e5, Option.bind_some, un2_mk, bnd_eq, if_neg (by decide)]
  · rw [if_neg q, if_pos d3, b5, Option.bind_some, d4, if_pos rfl, e4, Option.bind_some, un2_mk, bnd_eq, hσ32, if_neg (by decide), e5, Option.bind_some, un2_mk, bnd_eq, if_neg (by decide)]
