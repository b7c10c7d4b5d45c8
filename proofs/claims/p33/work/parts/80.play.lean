/-! a told move on both sides -/
theorem w0n : ¬ zw (1 : Int) = 0 := by decide
theorem w1p : zw (1 : Int) ≠ 0 := by decide
noncomputable def aDraw (q : Int) (m : Mm) : Option Mm := (x_X7_drawIt m q).bind fun o => un2 o fun σ6 _ => some σ6
noncomputable def aDrop (k : Int) (m : Mm) : Option Mm := (x_X7_dropIt m k).bind fun o => un2 o fun σ6 _ => some σ6
noncomputable def aKnock (k : Int) (m : Mm) : Option Mm := (x_X7_knockIt m k).bind fun o => un2 o fun σ6 _ => some σ6
noncomputable def aDeal (m : Mm) : Option Mm := (x_X7_dealIt m).bind fun o => un2 o fun σ6 _ => some σ6
theorem MR_19 {σ5 : Mm} {r : Nat → Int} (hM : MR (fun c => σ5 (3 + c)) r) : MR (zb zl_19 (zb zl_23 σ5)) r := MR_cells (fun c hc => b23 σ5 hc) hM
theorem MR_z19 {σ ρ : Mm} {r : Nat → Int} (hM : MR ρ r) : MR (zj zl_19 σ ρ) r := MR_cells (fun c hc => by rw [z19, if_pos hc]) hM
theorem play_1 {N : Nat} {σ5 m : Mm} {v3 q : Int} (hv : (v3 = 1 ∧ q = 0) ∨ (v3 = 2 ∧ q = 1)) (hV : V N (m 1)) (hM : MR (fun c => σ5 (3 + c)) (m 1)) : (ndR (m 1) = 0 ∧ ∃ π m5, x_X3_play (zb zl_23 σ5) v3 (-1) = some (π, 1) ∧ aDraw q m = some m5 ∧ KA m m5 ∧ V N (m5 1) ∧ MR π (m5 1)) ∨ (ndR (m 1) ≠ 0 ∧ ∃ π, x_X3_play (zb zl_23 σ5) v3 (-1) = some (π, 0)) := by
  have hM' := MR_19 hM
  have hn := X2_noDraw hV hM'
  by_cases e : ndR (m 1) = 0
  · left
    obtain ⟨z1, z2⟩ := ndR_0.1 e
    obtain ⟨c, μ', σ', a1, a2, a3, a4, a5⟩ := draw_sim (p := q) hV hM' ((V_o hV).elim (fun z => z) (fun z => absurd z z1)) ((V_d hV).elim (fun z => z) (fun z => absurd z z2))
    refine ⟨e, zj zl_19 (zb zl_23 σ5) μ', σ', ?_, ?_, KA_R a5, a3, MR_z19 a4⟩
    · unfold x_X3_play
      rw [hn, Option.bind_some, e]
      rcases hv with ⟨rfl, rfl⟩ | ⟨rfl, rfl⟩
      · rw [if_neg (by decide), if_neg (by decide), if_neg (by decide), if_neg z0n, if_pos (by decide), a1, Option.bind_some, un2_mk, bnd_eq, if_neg z0n]
      · rw [if_neg (by decide), if_neg (by decide), if_neg (by decide), if_neg z0n, if_neg (by decide), a1, Option.bind_some, un2_mk, bnd_eq, if_neg z0n]
    · unfold aDraw
      rw [a2, Option.bind_some, un2_mk]
  · right
    refine ⟨e, zb zl_23 σ5, ?_⟩
    have e' : zw (ndR (m 1)) ≠ 0 := by rw [ndR_0.2]; exact e
    unfold x_X3_play
    rw [hn, Option.bind_some, if_pos e', if_pos e']
    rcases hv with ⟨rfl, rfl⟩ | ⟨rfl, rfl⟩
    · rw [if_neg (by decide), if_neg (by decide), if_neg (by decide)]
    · rw [if_neg (by decide), if_neg (by decide), if_neg (by decide)]
theorem play_5 {N : Nat} {σ5 m : Mm} (hN : N < 100000) (hV : V N (m 1)) (hM : MR (fun c => σ5 (3 + c)) (m 1)) : (neR (m 1) = 0 ∧ ∃ π m5, x_X3_play (zb zl_23 σ5) 5 (-1) = some (π, 1) ∧ aDeal m = some m5 ∧ KA m m5 ∧ V (N + 1) (m5 1) ∧ MR π (m5 1)) ∨ (neR (m 1) ≠ 0 ∧ ∃ π, x_X3_play (zb zl_23 σ5) 5 (-1) = some (π, 0)) := by
  have hM' := MR_19 hM
  have hn := X2_noDeal hV hM'
  by_cases e : neR (m 1) = 0
  · left
    obtain ⟨μ', σ', a1, a2, a3, a4, a5, a6⟩ := deal_sim hV hN hM'
    refine ⟨e, zj zl_19 (zb zl_23 σ5) μ', σ', ?_, ?_, KA_R a6, a4, MR_z19 a5⟩
    · unfold x_X3_play
      rw [if_neg (by decide), if_neg (by decide), if_pos (by decide), hn, Option.bind_some, e, if_neg z0n, a1, Option.bind_some, bnd_eq, if_neg z0n]
    · unfold aDeal
      rw [a2, Option.bind_some, un2_mk]
  · right
    refine ⟨e, zb zl_23 σ5, ?_⟩
    have e' : zw (neR (m 1)) ≠ 0 := by rw [neR_0]; exact e
    unfold x_X3_play
    rw [if_neg (by decide), if_neg (by decide), if_pos (by decide), hn, Option.bind_some, if_pos e', if_pos e']
theorem play_3 {N k : Nat} {σ5 m : Mm} (hV : V N (m 1)) (hM : MR (fun c => σ5 (3 + c)) (m 1)) (hk : k < 52) (hcm : m 1 (119 + k) = m 1 4) : (ntR (m 1) (k : Int) = 0 ∧ ∃ π m5, x_X3_play (zb zl_23 σ5) 3 (k : Int) = some (π, 1) ∧ aDrop (k : Int) m = some m5 ∧ KA m m5 ∧ V N (m5 1) ∧ MR π (m5 1)) ∨ (ntR (m 1) (k : Int) ≠ 0 ∧ ∃ π, x_X3_play (zb zl_23 σ5) 3 (k : Int) = some (π, 0)) := by
  have hM' := MR_19 hM
  have hn := X2_noTurn hV hM' (k : Int)
  by_cases e : ntR (m 1) (k : Int) = 0
  · left
    obtain ⟨z1, z2⟩ := ntR_0.1 e
    obtain ⟨v, μ', σ', a1, a2, a3, a4, a5, a6⟩ := drop_sim hV hM' ((V_o hV).elim (fun z => z) (fun z => absurd z z1)) ((V_d hV).elim (fun z => absurd z z2) (fun z => z)) hk hcm
    refine ⟨e, zj zl_19 (zb zl_23 σ5) μ', σ', ?_, ?_, KA_R a6, a4, MR_z19 a5⟩
    · unfold x_X3_play
      rw [if_pos (by decide), hn, Option.bind_some, e, if_neg z0n, a1, Option.bind_some, bnd_eq, if_neg z0n]
    · unfold aDrop
      rw [a2, Option.bind_some, un2_mk]
  · right
    refine ⟨e, zb zl_23 σ5, ?_⟩
    have e' : zw (ntR (m 1) (k : Int)) ≠ 0 := by rw [ntR_0.2]; exact e
    unfold x_X3_play
    rw [if_pos (by decide), hn, Option.bind_some, if_pos e', if_pos e']
theorem knock_hands2 {N : Nat} {μ m : Mm} (hV : V N (m 1)) (hM : MR μ (m 1)) {mv k : Nat} (m1 : mv < 2) (m2 : m 1 4 = (mv : Int)) (hk : k < 52) : ∃ P Q : Int64, x_X2_handWithout μ (k : Int) = some (dif P (one k)) ∧ x_X2_otherHand μ = some Q ∧ hnd m (m 1 4) P ∧ hnd m (1 - m 1 4) Q ∧ P &&& Q = 0 ∧ cnt (bs P) 64 ≤ 11 ∧ cnt (bs Q) 64 ≤ 11 := by
  have h5 : μ 0 5 = (mv : Int) := (hM.1.2.2.2.2.2.1).trans m2
  obtain ⟨q1, q2, q3, q4⟩ := hnd_of hV hM m1
  obtain ⟨p1, p2, p3, p4⟩ := hnd_of hV hM (show 1 - mv < 2 by omega)
  refine ⟨zL (μ 2 mv), zL (μ 2 (1 - mv)), X2_handWithout m1 h5 hk, X2_otherHand m1 h5, ⟨q1, fun j hj => by rw [q2 j hj, m2]⟩, ⟨p1, fun j hj => by rw [p2 j hj, m2, show (1 : Int) - (mv : Int) = ((1 - mv : Nat) : Int) by omega]⟩, hnd_dj (N := N) hM m1 (by omega) (by omega), q4, p4⟩
/-- a knock: the model's reason first -/
theorem play_4 {N k : Nat} {m : Mm} (hV : V N (m 1)) (hk : k < 52) (hcm : m 1 (119 + k) = m 1 4) (hX : ∃ μ, MR μ (m 1)) : ∃ (r : Int) (m' : Mm), x_X7_noKnock m (k : Int) = some (m', r) ∧ SC m m' ∧ zw r = r ∧ ∀ σ5, MR (fun c => σ5 (3 + c)) (m 1) → (r = 0 ∧ ∃ π m5, x_X3_play (zb zl_23 σ5) 4 (k : Int) = some (π, 1) ∧ aKnock (k : Int) m' = some m5 ∧ KA m' m5 ∧ V N (m5 1) ∧ MR π (m5 1)) ∨ (r ≠ 0 ∧ ∃ π, x_X3_play (zb zl_23 σ5) 4 (k : Int) = some (π, 0)) := by
  obtain ⟨mv, m1, m2, m3⟩ := V_mv hV
  obtain ⟨μ0, hμ0⟩ := hX
  obtain ⟨P, Q, -, -, p3, p4, p5, p6, p7⟩ := knock_hands2 hV hμ0 m1 m2 hk
  obtain ⟨m4, t1, t2⟩ := X7_noKnock hV p3 hk p6
  have hR := RR_le (cw_dif (one k) p3.1) (Nat.le_trans (cnt_rm_le k) p6) (sb_self (dif P (one k)))
  have hO := lW_520 (sho (dif P (one k)) Q).1
  have w1 : m4 1 = m 1 := t2.1 1 (by omega) (by omega)
  refine ⟨_, m4, t1, t2, nkR_0, fun σ5 hM => ?_⟩
  have hM' := MR_19 hM
  obtain ⟨P', Q', q1, q2, q3, q4, q5, q6, q7⟩ := knock_hands2 hV hM' m1 m2 hk
  -- the same hands
  have eP : P' = P := bs_ext (fun c hc => by
    by_cases w : c < 52
    · rw [q3.2 c w, p3.2 c w]
    · rw [q3.1 c (by omega), p3.1 c (by omega)])
  have eQ : Q' = Q := bs_ext (fun c hc => by
    by_cases w : c < 52
    · rw [q4.2 c w, p4.2 c w]
    · rw [q4.1 c (by omega), p4.1 c (by omega)])
  rw [eP] at q1
  rw [eQ] at q2
  obtain ⟨σ3, s1, s2, s3, s4⟩ := X5_settle (zb zl_20 (zb zl_23 σ5)) (cw_dif (one k) p3.1) p4.1 (Nat.le_trans (cnt_rm_le k) p6) p7
  have o5 : zj zl_20 (zb zl_23 σ5) σ3 5 = σ3 0 := by rw [z20, if_pos (by omega)]
  have hM2 : MR (zb zl_19 (zj zl_20 (zb zl_23 σ5) σ3)) (m 1) := MR_cells (fun c hc => by
    rcases (show c = 0 ∨ c = 1 ∨ c = 2 ∨ c = 3 ∨ c = 4 by omega) with rfl | rfl | rfl | rfl | rfl <;> rfl) hM'
  have hnk : x_X2_reasonAgainstKnock (zb zl_19 (zj zl_20 (zb zl_23 σ5) σ3)) (k : Int) (zj zl_20 (zb zl_23 σ5) σ3 5 2) = some (nkR (m 1) (k : Int) (RR (dif P (one k)) (dif P (one k)))) := by
    rw [o5, s2]
    exact X2_noKnock hV hM2 (k : Int) hR
  by_cases e : nkR (m 1) (k : Int) (RR (dif P (one k)) (dif P (one k))) = 0
  · left
    have e' : ntR (m 1) (k : Int) = 0 := by
      unfold nkR at e
      by_cases w : ntR (m 1) (k : Int) = 0
      · exact w
      · rw [if_neg w] at e; exact e
    obtain ⟨z1, z2⟩ := ntR_0.1 e'
    have z2' : m 1 5 = 1 := (V_d hV).elim (fun z => absurd z z2) (fun z => z)
    have hg : x_X5_gain (zb zl_20 (zj zl_20 (zb zl_23 σ5) σ3)) = some (gnN (RR (dif P (one k)) (dif P (one k))) (lW (sho (dif P (one k)) Q).1)) := by
      refine X5_gain ?_ ?_ hR hO
      · show zj zl_20 (zb zl_23 σ5) σ3 5 2 = _
        rw [o5]; exact s2
      · show zj zl_20 (zb zl_23 σ5) σ3 5 3 = _
        rw [o5]; exact s3
    have hP' : hnd m4 (m4 1 4) P := by rw [w1]; exact ⟨p3.1, fun j hj => by rw [w1]; exact p3.2 j hj⟩
    have hQ' : hnd m4 (1 - m4 1 4) Q := by rw [w1]; exact ⟨p4.1, fun j hj => by rw [w1]; exact p4.2 j hj⟩
    obtain ⟨m5, f1, f2, f3, f4, f5⟩ := X7_findKnock hP' hQ' p5 hk p6 p7
    have w3 : m5 1 = m 1 := (f5.1 1 (by omega) (by omega)).trans w1
    obtain ⟨μ', σ1, σ', b1, b2, b3, b4, b5, b6, b7⟩ := end_sim (μ := zb zl_19 (zj zl_20 (zb zl_23 σ5) σ3)) (σ := m5) (g := gnN (RR (dif P (one k)) (dif P (one k))) (lW (sho (dif P (one k)) Q).1)) (by rw [w3]; exact hV) (by rw [w3]; exact hM2) (by rw [w3]; exact z2') hk (by rw [w3]; exact hcm) (gnN_b hR hO)
    have hkn : x_X7_knockIt m4 (k : Int) = some (σ', gnN (RR (dif P (one k)) (dif P (one k))) (lW (sho (dif P (one k)) Q).1)) := by
      unfold x_X7_knockIt
      rw [f1, Option.bind_some, b2, Option.bind_some, b3 0 (by omega), f2, f3, zwn (n := RR (dif P (one k)) (dif P (one k))) (by omega), zwn (n := lW (sho (dif P (one k)) Q).1) (by omega), ← b4]
      unfold gnN
      by_cases q : RR (dif P (one k)) (dif P (one k)) = 0
      · rw [if_neg (by omega), if_pos q]
      · rw [if_pos (by omega), if_neg q]
        by_cases q2 : RR (dif P (one k)) (dif P (one k)) < lW (sho (dif P (one k)) Q).1
        · rw [if_neg (by omega), if_pos q2]
        · rw [if_pos (by omega), if_neg q2]
    refine ⟨e, zj zl_19 (zj zl_20 (zb zl_23 σ5) σ3) μ', σ', ?_, ?_, KA_t (KA_S f5) (KA_R b7), b5, MR_z19 b6⟩
    · unfold x_X3_play
      rw [if_neg (by decide), if_pos (by decide), q1, Option.bind_some, q2, Option.bind_some, s1, Option.bind_some, bnd_eq, hnk, Option.bind_some, e, if_neg z0n, hg, Option.bind_some, b1, Option.bind_some, bnd_eq, if_neg z0n]
    · unfold aKnock
      rw [hkn, Option.bind_some, un2_mk]
  · right
    refine ⟨e, zj zl_20 (zb zl_23 σ5) σ3, ?_⟩
    have e' : zw (nkR (m 1) (k : Int) (RR (dif P (one k)) (dif P (one k)))) ≠ 0 := by rw [nkR_0]; exact e
    unfold x_X3_play
    rw [if_neg (by decide), if_pos (by decide), q1, Option.bind_some, q2, Option.bind_some, s1, Option.bind_some, bnd_eq, hnk, Option.bind_some, if_pos e', if_pos e']
/-- the card that a move names -/
theorem held_step {N : Nat} {σ m : Mm} {L : Nat} {b : Nat → Nat} {p : Nat} (hA : AH σ m L b p) (hV : V N (m 1)) (hM : MR (fun c => σ (3 + c)) (m 1)) : (∃ (k p1 : Nat) (τ m' : Mm), k < 52 ∧ x_X3_readHeldCard (zb zl_22 σ) = some (τ, 0) ∧ zj zl_22 σ τ 0 5 = (k : Int) ∧ x_X7_cardHere m = some (m', (k : Int)) ∧ AH (zj zl_22 σ τ) m' L b p1 ∧ p ≤ p1 ∧ m 1 (119 + k) = m 1 4 ∧ AF σ (zj zl_22 σ τ) ∧ NF m m') ∨ ∃ (E : Nat) (τ m' : Mm), 0 < E ∧ E < 10000 ∧ x_X3_readHeldCard (zb zl_22 σ) = some (τ, (E : Int)) ∧ x_X7_cardHere m = some (m', 0) ∧ m' 0 31 = (E : Int) ∧ AF σ (zj zl_22 σ τ) ∧ NE2 m m' := by
  obtain ⟨mv, m1, m2, m3⟩ := V_mv hV
  have h31 := hA.1
  have hA2 : AH (zb zl_13 (zb zl_22 σ)) m L b p := AH_eq hA rfl (fun _ _ _ => rfl) rfl rfl (fun _ _ _ => rfl)
  obtain ⟨ρ, a, s, t, k1, k2, k3, k4⟩ := AH_x hA2
  have hsa : s ≤ a := k3.2.2.2.2.2.1
  have haL : a ≤ L := k3.2.2.2.2.2.2.1
  have hL := k3.1.1
  have f1 : AF (zb zl_22 σ) (zj zl_13 (zb zl_22 σ) ρ) := AF_13 k2
  have b22 : ∀ c, c < 8 → zb zl_22 σ c = σ c := fun c hc => by
    rcases (show c = 0 ∨ c = 1 ∨ c = 2 ∨ c = 3 ∨ c = 4 ∨ c = 5 ∨ c = 6 ∨ c = 7 by omega) with rfl | rfl | rfl | rfl | rfl | rfl | rfl | rfl <;> rfl
  have f2 : AF σ (zj zl_22 σ (zj zl_13 (zb zl_22 σ) ρ)) := ⟨fun c hc => by
    rw [z22]
    by_cases w : c < 8
    · rw [if_pos w, f1.1 c hc, b22 c w]
    · rw [if_neg w], fun j hj => by
    rw [z22, if_pos (by omega), f1.2 j hj]; rfl⟩
  have e0 : zj zl_22 σ (zj zl_13 (zb zl_22 σ) ρ) 0 = ρ 0 := by rw [z22, if_pos (by omega), z13, if_pos (by omega)]
  have e1 : zj zl_22 σ (zj zl_13 (zb zl_22 σ) ρ) 1 = ρ 1 := by rw [z22, if_pos (by omega), z13, if_pos (by omega)]
  have g0 : zj zl_13 (zb zl_22 σ) ρ 0 = ρ 0 := by rw [z13, if_pos (by omega)]
  rcases num_check (lo := 0) (hi := 51) k3 h31 (by omega) (by omega) with ⟨v, q1, q2, q3, q4, q5, q6, q7, q8, q9⟩ | ⟨E, q1, q2, q3, q4, q5⟩
  · have hnum : x_X3_readNumber (zb zl_13 (zb zl_22 σ)) (0 : Int) (51 : Int) = some (ρ, 0) := by
      unfold x_X3_readNumber
      rw [k1, Option.bind_some]
      exact q7
    have hb : x_X7_bounds m (0 : Int) (51 : Int) = some m := q9
    have g35 : zj zl_13 (zb zl_22 σ) ρ 3 5 = (mv : Int) := by
      rw [z13, if_neg (by omega)]
      exact (hM.1.2.2.2.2.2.1).trans m2
    have hv52 : v < 52 := by omega
    obtain ⟨w1, w2, w3, w4⟩ := hnd_of hV hM m1
    have hhand : x_X2_handOf (zb zl_15 (zj zl_13 (zb zl_22 σ) ρ)) (mv : Int) = some (zL (σ 5 mv)) := by
      rw [X2_handOf _ m1]
      show some (zL (zj zl_13 (zb zl_22 σ) ρ 5 mv)) = _
      rw [z13, if_neg (by omega)]; rfl
    have hcls : x_X3_readHeldCard (zb zl_22 σ) = (if zw (if bs (zL (σ 5 mv)) v = true then (1 : Int) else 0) ≠ 0 then some (zj zl_13 (zb zl_22 σ) ρ, (0 : Int)) else (x_X3_errorAs (zb zl_13 (zj zl_13 (zb zl_22 σ) ρ)) (3 : Int)).bind fun v6 => some (zj zl_13 (zb zl_22 σ) ρ, v6)) := by
      unfold x_X3_readHeldCard
      rw [hnum, Option.bind_some, un2_mk, bnd_eq, if_neg z0n, g35, hhand, Option.bind_some, g0, q5, X6_has _ hv52, Option.bind_some]
    have hmod : x_X7_cardHere m = (if zw (if zw (m 1 (119 + v)) = zw (m 1 4) then (1 : Int) else 0) ≠ 0 then bnd ((m 0 30)) fun v7 => (x_X7_goOn m).bind fun σ8 => (if zw (σ8 0 31) ≠ 0 then some (σ8, (0 : Int)) else some (σ8, v7)) else (x_X7_wrong m (3 : Int)).bind fun σ10 => bnd ((σ10 0 30)) fun v11 => (x_X7_goOn σ10).bind fun σ12 => (if zw (σ12 0 31) ≠ 0 then some (σ12, (0 : Int)) else some (σ12, v11))) := by
      unfold x_X7_cardHere
      rw [hb, Option.bind_some, h31, if_neg z0n, if_pos zc4, zx4, q6, X7_owns m (m 1 4) hv52, Option.bind_some]
    have hdec : bs (zL (σ 5 mv)) v = decide (zw (m 1 (119 + v)) = zw (mv : Int)) := w2 v hv52
    rw [hcls, hmod, hdec, m2]
    by_cases w : zw (m 1 (119 + v)) = zw (mv : Int)
    · left
      obtain ⟨m', y1, y2, y3⟩ := SY_AH k3 h31
      rw [if_pos (decide_eq_true w), if_pos w1p, if_pos w, if_pos w1p, goOn_0 h31, y1, bnd_eq, Option.bind_some, y2.1, if_neg z0n, q6]
      refine ⟨v, a, _, m', hv52, rfl, by rw [e0]; exact q5, rfl, AH_eq y2 e1 (fun j _ _ => by rw [e0]) rfl rfl (fun _ _ _ => rfl), by omega, ?_, f2, y3⟩
      obtain ⟨hw, -⟩ := hV.2.2.2.1 v hv52
      have : zw (m 1 (119 + v)) = m 1 (119 + v) := by rcases hw with z | z | z | z <;> rw [z] <;> decide
      rw [this, zwn (by omega)] at w
      exact w
    · right
      have hE : 0 < 8 * s + 3 ∧ 8 * s + 3 < 10000 := by omega
      have ec : x_X3_errorAs (zb zl_13 (zj zl_13 (zb zl_22 σ) ρ)) (3 : Int) = some ((8 * s + 3 : Nat) : Int) := err_at (σ := zb zl_13 (zj zl_13 (zb zl_22 σ) ρ)) (by
        show zj zl_13 (zb zl_22 σ) ρ 0 3 = _
        rw [g0]; exact k3.2.2.2.1) 3
      have ew : x_X7_wrong m (3 : Int) = some (zu m 0 31 ((8 * s + 3 : Nat) : Int)) := wrong_0 h31 k3.2.2.2.2.1 3
      rw [if_neg (show ¬ decide (zw (m 1 (119 + v)) = zw (mv : Int)) = true by rw [decide_eq_true_eq]; exact w), if_neg z0n, if_neg w, if_neg z0n, ec, ew, Option.bind_some, Option.bind_some, bnd_eq, goOn_d (zu_hit _ _ _ _) hE, Option.bind_some, zu_hit, if_pos (E_ne hE)]
      exact ⟨8 * s + 3, _, _, hE.1, hE.2, rfl, rfl, zu_hit _ _ _ _, f2, NE2_u _ _⟩
  · right
    have hE : 0 < E ∧ E < 10000 := ⟨q1, q2⟩
    have hnum : x_X3_readNumber (zb zl_13 (zb zl_22 σ)) (0 : Int) (51 : Int) = some (ρ, (E : Int)) := by
      unfold x_X3_readNumber
      rw [k1, Option.bind_some]
      exact q3
    have hb : x_X7_bounds m (0 : Int) (51 : Int) = some (zu m 0 31 (E : Int)) := q5
    refine ⟨E, zj zl_13 (zb zl_22 σ) ρ, zu m 0 31 (E : Int), q1, q2, ?_, ?_, zu_hit _ _ _ _, f2, NE2_u _ _⟩
    · unfold x_X3_readHeldCard
      rw [hnum, Option.bind_some, un2_mk, bnd_eq, if_pos (E_ne hE)]
    · unfold x_X7_cardHere
      rw [hb, Option.bind_some, zu_hit, if_pos (E_ne hE), bnd_eq, goOn_d (zu_hit _ _ _ _) hE, Option.bind_some, zu_hit, if_pos (E_ne hE)]
