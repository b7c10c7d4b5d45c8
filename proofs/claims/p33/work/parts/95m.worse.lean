/-! isNotWorse answers 1 -/
theorem HND_hnd {N : Nat} {c m : Mm} (h : REL N c m) {p : Nat} (hp : p < 2) {P Q : Int64} (hP : HND m p P) (hQ : hnd m (p : Int) Q) : Q = P := by
  apply bs_ext
  intro d hd
  by_cases e : d < 52
  · rw [hP.2 d e, hQ.2 d e]
    obtain ⟨hw, -⟩ := h.1.2.2.2.1 d e
    have : zw (m 1 (119 + d)) = m 1 (119 + d) := by rcases hw with z | z | z | z <;> rw [z] <;> decide
    rw [this, zwn (by omega)]
  · rw [hP.1 d (by omega), hQ.1 d (by omega)]
theorem t_restWithout {N : Nat} {c m : Mm} (h : REL N c m) {p : Nat} (hp : p < 2) (h4 : m 1 4 = (p : Int)) {P : Int64} (hP : HND m p P) {k : Nat} (hk : bs P k = true) : ∃ c', x_X6_restWithout c (k : Int) = some (.inl (c', ((RR (dif P (one k)) (dif P (one k)) : Nat) : Int))) ∧ REL N c' m := by
  have k52 := cw_52 hP.1 hk
  have hm5 : c 1 5 = (p : Int) := (h.2.1.1.2.2.2.2.2.1).trans h4
  have hown : m 1 (119 + k) = (p : Int) := of_decide_eq_true ((hP.2 k k52).symm.trans hk)
  unfold x_X6_restWithout
  rw [hm5]
  rcases held_all h hp (a := (k : Int)) (zwn (by omega)) with ⟨k', k1, k2, k3, k4, k5⟩ | ⟨k4, k5⟩
  · have : k = k' := by omega
    subst this
    rw [k4, Option.bind_some]
    show ∃ c', inlO _ = _ ∧ _
    obtain ⟨P', Q, p1, p2, p3, p4, p5, p6, p7⟩ := knock_hands h hp h4 k2
    have e : P' = P := HND_hnd h hp hP (h4 ▸ p3)
    subst e
    have hcw := cw_dif (one k) p3.1
    have h11 := Nat.le_trans (cnt_rm_le (P := P') k) p6
    obtain ⟨σ1, s1, ⟨y1, y2, y3, y4⟩, s3⟩ := R_lay h hcw h11
    obtain ⟨l1, l2, l3, l4⟩ := Lay_ok hcw h11
    have g10 : zj zl_54 c σ1 77 10 = ((RR (dif P' (one k)) (dif P' (one k)) : Nat) : Int) := by rw [← l3]; exact y4
    rw [p1, Option.bind_some, s1, Option.bind_some, bnd_eq, g10]
    exact ⟨_, rfl, s3⟩
  · exfalso
    rw [X7_owns m (p : Int) k52] at k5
    rw [hown, if_pos rfl] at k5
    exact absurd (Option.some.inj k5) (by decide)
theorem h_restWithout {σ c' : Mm} {a v : Int} (h : x_X6_restWithout σ a = some (.inl (c', v))) : x_L_restWithout σ a = some (c', v) := by
  unfold x_L_restWithout
  rw [h]
  rfl
theorem t_needed {N : Nat} {c m : Mm} (h : REL N c m) {p : Nat} (hp : p < 2) (h4 : m 1 4 = (p : Int)) (h5 : m 1 5 = 1) (h6 : m 1 6 = 0) (h7 : m 1 7 = -1) {P : Int64} (hP : HND m p P) {k : Nat} (hk : bs P k = true) : ∃ (c' : Mm) (v : Nat), x_X6_needed c = some (c', (v : Int)) ∧ REL N c' m ∧ v ≤ RR P (dif P (one k)) := by
  have k52 := cw_52 hP.1 hk
  have hm5 : c 1 5 = (p : Int) := (h.2.1.1.2.2.2.2.2.1).trans h4
  have e7 : c 1 7 = -1 := (h.2.1.1.2.2.2.2.2.2.2.1).trans h7
  obtain ⟨q1, q2, -⟩ := HND_in h hp hP
  have hz : ¬ zw (k : Int) = zw (-1) := by rw [zwn (by omega), neg1]; omega
  obtain ⟨σ1, v, a1, a2⟩ := X1_lsb (zb zl_54 c) (x := -1) hP.1 q2 ⟨k, hk, hz⟩
  unfold x_X6_needed
  rw [X2_canDrop h.1 (R_now h), Option.bind_some, show cdR (m 1) = 1 by unfold cdR; rw [if_pos ⟨h6, h5⟩], if_neg (by decide), hm5, q1, Option.bind_some, e7, a1, Option.bind_some, un2_mk, bnd_eq]
  exact ⟨_, _, rfl, REL_eq h (CE_54 c σ1) (ME_r m), a2.2 k hk hz⟩
set_option maxHeartbeats 4000000 in
theorem t_isNotWorse {N : Nat} {σ m : Mm} (hR : REL N σ m) : ∃ σ' m', x_L_isNotWorse σ = some (σ', 1) ∧ REL N σ' m' ∧ m' 0 8 = m 0 8 := by
  obtain ⟨-, b4, b5, b6, -, -⟩ := v_match (REL_zb hR)
  have b4 := h_match b4
  have b5 := h_match b5
  have b6 := h_match b6
  obtain ⟨nb0, nb1, nb2, nb3, nb4, nb5, nb6, -⟩ := hR.1.1
  unfold x_L_isNotWorse
  rw [b6, Option.bind_some]
  rcases nb6 with z6 | z6
  · rcases nb5 with z5 | z5
    · obtain ⟨p, hp, hp4⟩ : ∃ p : Nat, p < 2 ∧ m 1 4 = (p : Int) := ⟨(m 1 4).toNat, by omega, by omega⟩
      rw [hp4] at b4
      obtain ⟨P, hP⟩ := HND_ex hR hp
      obtain ⟨c1, R6, -, -, e1, -⟩ := l_player hR hp hP
      generalize hσ6 : zj zl_101 σ c1 = σ6 at R6
      obtain ⟨c2, m', k, d1, d2, d3, d4, d5, d6, d7, d8, d9, d10, d11⟩ := t_draw (REL_zb R6) z6 z5
      have R9 := REL_zj (c := σ6) d3
      generalize hσ9 : zj zl_101 σ6 c2 = σ9 at R9
      rw [hp4] at d4 d8
      obtain ⟨Q, hQ⟩ := HND_ex R9 hp
      have hQk : bs Q k = true := by rw [hQ.2 k d2, d8]; simp
      have hdif : dif Q (one k) = P := by
        apply bs_ext
        intro d hd
        rw [bs_dif2, bs_one2 (by omega)]
        by_cases e : d < 52
        · rw [hQ.2 d e, hP.2 d e]
          by_cases w : d = k
          · subst w
            rw [d9]
            simp
            omega
          · rw [d10 d e w]
            simp [w]
        · rw [hQ.1 d (by omega), hP.1 d (by omega)]; rfl
      obtain ⟨-, h11, -⟩ := HND_in R9 hp hQ
      obtain ⟨-, g11, -⟩ := HND_in hR hp hP
      have hr110 := RR_110 hP.1 g11
      have hw := h_where (v_where (REL_zb R9) d2)
      rw [d8] at hw
      obtain ⟨c3, e3, r3⟩ := t_restWithout (REL_zb R9) hp d4 hQ hQk
      have e3 := h_restWithout e3
      rw [hdif] at e3
      have R13 := REL_zj (c := σ9) r3
      generalize hσ13 : zj zl_101 σ9 c3 = σ13 at R13
      obtain ⟨σ14, v, e4, R14, hv⟩ := t_needed R13 hp d4 d5 d6 d7 hQ hQk
      rw [RR_sub hQ.1 h11 (sb_dif Q (one k)), hdif] at hv
      obtain ⟨c5, R18, -, -, e5, -⟩ := l_player R14 hp hQ
      generalize hσ18 : zj zl_101 σ14 c5 = σ18 at R18
      have hone := RR_one hQ.1 h11 hQk
      rw [hdif] at hone
      have hQ110 := RR_110 hQ.1 h11
      obtain ⟨σ20, m4, w, e6, R20, hrow, htxt⟩ := d11 _ R18
      have hP4 : HND m4 p P := ⟨hP.1, fun d hd => by rw [hP.2 d hd, hrow _ (by omega)]⟩
      obtain ⟨c7, R24, -, -, e7, -⟩ := l_player R20 hp hP4
      have hpk : pts k ≤ 10 := pts_le k
      refine ⟨zj zl_101 σ20 c7, m4, ?_, R24, htxt⟩
      rw [z6, if_neg (by decide), b5, Option.bind_some, z5, if_pos (by decide), b4, Option.bind_some, e1, Option.bind_some, un2_mk, bnd_eq, hσ6, d1, Option.bind_some, un2_mk, bnd_eq, hσ9, if_neg (by rw [zwn (by omega)]; omega), hw, Option.bind_some, if_neg (fun z => z rfl), e3, Option.bind_some, un2_mk, bnd_eq, hσ13, if_neg (fun z => z rfl), e4, Option.bind_some, un2_mk, if_pos (by rw [zwn (by omega), zwn (by omega)]; omega), e5, Option.bind_some, un2_mk, bnd_eq, hσ18, l_points d2, Option.bind_some, if_pos (by rw [show ((RR P P : Nat) : Int) + ((pts k : Nat) : Int) = ((RR P P + pts k : Nat) : Int) by omega, zwn (by omega), zwn (by omega)]; omega), e6, Option.bind_some, un2_mk, e7, Option.bind_some, un2_mk, bnd_eq, if_neg (fun z => z rfl)]
    · exact ⟨σ, m, by rw [z6, if_neg (by decide), b5, Option.bind_some, z5, if_neg (by decide)], hR, rfl⟩
  · exact ⟨σ, m, by rw [z6, if_pos rfl], hR, rfl⟩
