/-! reasons and what would be: restWithout, needed, restByPile, helping, ifKnock -/
theorem ex_other {P : Int64} (hw : cw P) (h : 2 ≤ cnt (bs P) 64) (x : Int) : ∃ c, bs P c = true ∧ ¬ zw (c : Int) = zw x := by
  false_or_by_contra
  rename_i z
  have hall : ∀ c, bs P c = true → zw (c : Int) = zw x := fun c hc => by
    false_or_by_contra
    rename_i w
    exact z ⟨c, hc, w⟩
  have hnz : P ≠ 0 := fun w => by rw [cnt_z.mpr w] at h; omega
  have hl := lo_spec hnz
  have h52 := cw_lt hw hl.1
  have : cnt (bs P) 64 = if bs P (lo P) = true then 1 else 0 := cnt_sing (fun c _ hc => by
    have h1 := hall c hc
    have h2 := hall _ hl.1
    have h3 := cw_lt hw hc
    rw [zwn (by omega)] at h1 h2
    omega) (by omega)
  rw [this, if_pos hl.1] at h
  omega
theorem R_mover {N : Nat} {c m : Mm} (h : REL N c m) : ∃ mv : Nat, mv < 2 ∧ m 1 4 = (mv : Int) ∧ c 1 5 = (mv : Int) := by
  obtain ⟨mv, m1, m2, -⟩ := V_mv h.1
  exact ⟨mv, m1, m2, (h.2.1.1.2.2.2.2.2.1).trans m2⟩
theorem c_restWithout {N : Nat} {c m : Mm} (h : REL N c m) {a : Int} (ha : zw a = a) : OK2 N [(1, 1)] c (x_X6_restWithout c a) (x_X7_restWithout m a) := by
  have h0 := REL_eq h (CE_r c) (ME_0 m 0)
  obtain ⟨mv, m1, m2, hm5⟩ := R_mover h0
  unfold x_X6_restWithout x_X7_restWithout
  rw [bnd_eq, noCard_eq, m2, hm5]
  rcases held_all h0 m1 ha with ⟨k, k1, k2, k3, k4, k5⟩ | ⟨k4, k5⟩
  · subst k1
    rw [k4, k5, Option.bind_some, Option.bind_some, if_pos (by decide), Option.bind_some, un2_mk, if_pos d00]
    show OK2 N _ c (inlO _) _
    obtain ⟨P, Q, p1, p2, p3, p4, p5, p6, p7⟩ := knock_hands h0 m1 m2 k2
    have hcw := cw_dif (one k) p3.1
    have h11 := Nat.le_trans (cnt_rm_le (P := P) k) p6
    obtain ⟨σ1, s1, ⟨y1, y2, y3, y4⟩, s3⟩ := R_lay h0 hcw h11
    obtain ⟨l1, l2, l3, l4⟩ := Lay_ok hcw h11
    obtain ⟨m', t1, t2⟩ := X7_restW p3 k2 p6
    have g10 : zj zl_54 c σ1 77 10 = ((RR (dif P (one k)) (dif P (one k)) : Nat) : Int) := by rw [← l3]; exact y4
    rw [p1, Option.bind_some, s1, Option.bind_some, bnd_eq, g10, t1, Option.bind_some, un2_mk]
    exact .inl ⟨_, _, _, rfl, rfl, by rw [t2.2 0 (by omega)]; rfl, REL_eq s3 (CE_r _) (ME_SK (SK_of t2))⟩
  · rw [k4, k5, Option.bind_some, Option.bind_some, if_neg (by decide), bnd_eq, Option.bind_some, un2_mk, if_neg d10]
    exact .inr ⟨1, 1, _, _, .head _, rfl, rfl, rfl, REL_eq h0 (CE_r c) (ME_0 _ 1)⟩
theorem cdR_01 (r : Nat → Int) : (cdR r = 1 ∧ r 6 = 0 ∧ r 5 = 1) ∨ cdR r = 0 := by
  unfold cdR
  by_cases e : r 6 = 0 ∧ r 5 = 1
  · rw [if_pos e]; exact .inl ⟨rfl, e⟩
  · rw [if_neg e]; exact .inr rfl
/-- the least rest behind a drop, on both sides: of the cards Q, of which x stays -/
theorem both_lsb {N : Nat} {c m m1 : Mm} {Q : Int64} {n : Nat} {H : Nat → Nat} (x : Int) (h : REL N c m) (hs : SC m m1) (hH : HP m1 n H Q) (h11 : cnt (bs Q) 64 ≤ 11) (h2 : 2 ≤ cnt (bs Q) 64) : ∃ (σ1 m2 : Mm) (v : Nat), x_X1_restBehindDrop (zb zl_54 c) Q x = some (σ1, (v : Int)) ∧ x_X7_leastBehind m1 x = some (m2, (v : Int)) ∧ lsb Q x v ∧ v ≤ 520 ∧ REL N (zj zl_54 c σ1) m2 ∧ SC m m2 := by
  have hcw := cw_P hH
  have hx := ex_other hcw h2 x
  obtain ⟨σ1, v, a1, a2⟩ := X1_lsb (zb zl_54 c) (x := x) hcw h11 hx
  obtain ⟨m2, w, Nl, b1, b2, b3, b4, b5, b6⟩ := X7_leastBehind x hH hx
  have : v = w := lsb_u a2 b2
  subst this
  exact ⟨σ1, m2, v, a1, b1, a2, b3, REL_eq h (CE_54 c σ1) (ME_SK (SK_of (SC_t hs b6))), SC_t hs b6⟩
theorem R_handm {N : Nat} {c m : Mm} (h : REL N c m) : ∃ P : Int64, x_X2_handOf (zb zl_47 c) (c 1 5) = some P ∧ hnd m (m 1 4) P ∧ cnt (bs P) 64 ≤ 11 ∧ 7 ≤ cnt (bs P) 64 ∧ (m 1 5 = 0 → cnt (bs P) 64 ≤ 10) := by
  obtain ⟨mv, m1, m2, hm5⟩ := R_mover h
  obtain ⟨P, p1, p2, p3, p4⟩ := R_hand h m1
  have hb := h.1.1.1
  rw [hm5, m2]
  refine ⟨P, p1, p2, p3, ?_, fun z => ?_⟩
  · have : (0 : Int) ≤ (if m 1 4 = (mv : Int) ∧ m 1 5 = 1 then 1 else 0) := by split <;> omega
    omega
  · rw [if_neg (by omega)] at p4
    omega
theorem c_needed {N : Nat} {c m : Mm} (h : REL N c m) : OK1 N (x_X6_needed c) (x_X7_needed m) := by
  have h0 := REL_eq h (CE_r c) (ME_0 m 0)
  unfold x_X6_needed x_X7_needed
  rw [bnd_eq, X7_canDrop h0.1, X2_canDrop h0.1 (R_now h0), Option.bind_some, Option.bind_some]
  rcases cdR_01 (zu m 0 0 0 1) with ⟨e, e6, e5⟩ | e
  · rw [e, if_neg d10, if_pos (show zw (1 : Int) ≠ 0 by decide)]
    obtain ⟨P, p1, p2, p3, p4, -⟩ := R_handm h0
    obtain ⟨σ4, H, t1, t2, t3⟩ := X7_takeHand (zu m 0 0 0) (zu m 0 0 0 1 4) (-1) (-1) p2.1 p3 (sel_1 p2)
    have e7 : c 1 7 = zu m 0 0 0 1 7 := h0.2.1.1.2.2.2.2.2.2.2.1
    obtain ⟨σ1, m2, v, a1, a2, a3, a4, a5, a6⟩ := both_lsb (c 1 7) h0 t3 t2 p3 (by omega)
    rw [p1, Option.bind_some, a1, Option.bind_some, un2_mk, bnd_eq, if_pos zc4, zx4, t1, Option.bind_some, if_pos zc7, zx7, t3.1 1 (by omega) (by omega), ← e7, a2, Option.bind_some, un2_mk]
    exact ⟨_, _, _, rfl, rfl, a5⟩
  · rw [e, if_pos d00, if_neg (show ¬ zw (0 : Int) ≠ 0 by decide)]
    exact ⟨_, _, _, rfl, rfl, h0⟩
theorem sel_3 {σ : Mm} {p : Int} {P : Int64} (h : hnd σ p P) {k : Nat} (hk : k < 52) : ∀ c, c < 52 → bs (P ||| one k) c = selB σ p (-1) (k : Int) c := fun c hc => by
  unfold selB
  have e : ¬ zw (c : Int) = zw (-1) := by rw [zwn (by omega), zw_eq (x := (-1 : Int)) (by omega) (by omega)]; omega
  rw [decide_eq_true e, bs_add P (by omega), h.2 c hc, Bool.true_and]
  congr 1
  rw [zwn (by omega), zwn (by omega)]
  by_cases w : c = k
  · simp [w]
  · have : ¬ (c : Int) = (k : Int) := by omega
    simp [w, this]
/-- the hand with one card more, on both sides -/
theorem more_hand {m : Mm} {P : Int64} {k : Nat} (p : Int) (hP : hnd m p P) (hk : k < 52) (hn : bs P k = false) (h10 : cnt (bs P) 64 ≤ 10) : ∃ (m1 : Mm) (H : Nat → Nat), x_X7_takeHand m p (-1) (k : Int) = some m1 ∧ HP m1 (cnt (bs (P ||| one k)) 64) H (P ||| one k) ∧ SC m m1 ∧ cnt (bs (P ||| one k)) 64 = cnt (bs P) 64 + 1 := by
  have hc := cnt_add (by omega) hn
  obtain ⟨m1, H, a1, a2, a3⟩ := X7_takeHand m p (-1) (k : Int) (cw_add hk hP.1) (by omega) (sel_3 hP hk)
  exact ⟨m1, H, a1, a2, a3, hc⟩
theorem c_restByPile {N : Nat} {c m : Mm} (h : REL N c m) : OK1 N (x_X6_restByPile c) (x_X7_restByPile m) := by
  have h0 := REL_eq h (CE_r c) (ME_0 m 0)
  unfold x_X6_restByPile x_X7_restByPile
  have e6 : c 1 6 = zu m 0 0 0 1 5 := h0.2.1.1.2.2.2.2.2.2.1
  have e8 : c 1 8 = zu m 0 0 0 1 6 := h0.2.1.1.2.2.2.2.2.2.2.2.1
  have hd := V_d h0.1
  have ho := V_o h0.1
  rw [bnd_eq, X7_noDraw h0.1, Option.bind_some, ndR_0.2, e6, e8]
  obtain ⟨t0, p0, v1, v2, v3, v4, v5⟩ := V_pile h0.1
  rcases X2_top h0.1 (R_now h0) with ⟨z1, z2⟩ | ⟨q, k, z1, z2, z3, z4, z5⟩
  · -- no pile: then a card was drawn
    have hd1 : zu m 0 0 0 1 5 = 1 := by
      rcases hd with w | w
      · have := v5 w; omega
      · exact w
    rw [z2, Option.bind_some, hd1, if_pos (show zw (1 : Int) ≠ 0 by decide)]
    have hn : ndR (zu m 0 0 0 1) ≠ 0 := fun z => (ndR_0.1 z).2 hd1
    rw [if_pos hn]
    exact ⟨_, _, _, rfl, rfl, h0⟩
  · rw [z5, Option.bind_some]
    rcases hd with w | w
    · rcases ho with w2 | w2
      · have hn : ¬ ndR (zu m 0 0 0 1) ≠ 0 := fun z => z (by unfold ndR; rw [w, w2]; rfl)
        have hk0 : zw (k : Int) ≠ zw (-1 : Int) := by rw [zwn (by omega), zw_eq (x := (-1 : Int)) (by omega) (by omega)]; omega
        rw [w, w2, if_neg (show ¬ zw (0 : Int) ≠ 0 by decide), if_neg (show ¬ zw (0 : Int) ≠ 0 by decide), if_pos hk0, if_neg hn, if_pos zc14, zx14, z1, if_pos (show zw ((q + 1 : Nat) : Int) ≠ 0 by rw [zwn (by omega)]; omega), if_pos zc4, zx4]
        obtain ⟨P, p1, p2, p3, p4, p5⟩ := R_handm h0
        have hbk : bs P k = false := by
          have hw2 := (h0.1.2.2.2.1 k z3).2.2.mpr ⟨q, by omega, z4⟩
          rw [p2.2 k z3]
          apply decide_eq_false
          rw [hw2]
          rcases V_m h0.1 with y | y <;> rw [y] <;> decide
        obtain ⟨m1, H, t1, t2, t3, t4⟩ := more_hand (zu m 0 0 0 1 4) p2 z3 hbk (p5 w)
        have hV1 : V N (m1 1) := by rw [t3.1 1 (by omega) (by omega)]; exact h0.1
        have htop7 : x_X7_topOfPile (zu m 0 0 0) = some (k : Int) := by
          rcases X7_top h0.1 with ⟨y1, y2⟩ | ⟨p', k', y1, y2, y3, y4, y5⟩
          · omega
          · have hp : p' = q := by omega
            subst hp
            rw [y5]
            congr 1
            rw [z4] at y4; omega
        have htop8 : x_X7_topOfPile m1 = some (k : Int) := by
          rcases X7_top hV1 with ⟨y1, y2⟩ | ⟨p', k', y1, y2, y3, y4, y5⟩
          · rw [t3.1 1 (by omega) (by omega)] at y1
            omega
          · rw [t3.1 1 (by omega) (by omega)] at y1 y4
            have hp : p' = q := by omega
            subst hp
            rw [y5]
            congr 1
            rw [z4] at y4; omega
        obtain ⟨σ1, m2, v, a1, a2, a3, a4, a5, a6⟩ := both_lsb (k : Int) h0 t3 t2 (by have := p5 w; omega) (by omega)
        rw [p1, Option.bind_some, X6_bitOf z3, Option.bind_some, htop7, Option.bind_some, t1, Option.bind_some, htop8, Option.bind_some, a2, Option.bind_some, un2_mk]
        show OK1 N ((x_X1_restBehindDrop (zb zl_54 c) (P ||| one k) (k : Int)).bind _) _
        rw [a1, Option.bind_some, un2_mk, bnd_eq]
        exact ⟨_, _, _, rfl, rfl, a5⟩
      · have hn : ndR (zu m 0 0 0 1) ≠ 0 := fun z => (ndR_0.1 z).1 w2
        rw [w, w2, if_neg (show ¬ zw (0 : Int) ≠ 0 by decide), if_pos (show zw (1 : Int) ≠ 0 by decide), if_pos hn]
        exact ⟨_, _, _, rfl, rfl, h0⟩
    · have hn : ndR (zu m 0 0 0 1) ≠ 0 := fun z => (ndR_0.1 z).2 w
      rw [w, if_pos (show zw (1 : Int) ≠ 0 by decide), if_pos hn]
      exact ⟨_, _, _, rfl, rfl, h0⟩
noncomputable def LV (Q : Int64) (x : Int) : Nat := @dite _ (∃ v, lsb Q x v) (Classical.propDecidable _) (fun h => h.choose) (fun _ => 0)
theorem LV_eq {Q : Int64} {x : Int} {v : Nat} (h : lsb Q x v) : LV Q x = v := by
  unfold LV
  have hx : ∃ v, lsb Q x v := ⟨v, h⟩
  rw [dif_pos hx]
  exact lsb_u hx.choose_spec h
/-- how many cards below i would help -/
noncomputable def hlp (P : Int64) (R : Nat) : Nat → Nat
  | 0 => 0
  | i + 1 => hlp P R i + if bs P i = false ∧ LV (P ||| one i) (i : Int) < R then 1 else 0
theorem hlp_le (P : Int64) (R : Nat) : ∀ i, hlp P R i ≤ i
  | 0 => Nat.le_refl 0
  | i + 1 => by
    have := hlp_le P R i
    unfold hlp
    split <;> omega
theorem c_helping {N : Nat} {c m : Mm} (h : REL N c m) {a : Int} (ha : zw a = a) : OK2 N [(0, 1)] c (x_X6_helping c a) (x_X7_helping m a) := by
  have h0 := REL_eq h (CE_r c) (ME_0 m 0)
  unfold x_X6_helping x_X7_helping
  rw [bnd_eq]
  by_cases e : 0 ≤ a ∧ a ≤ 1
  · rw [pl_ok ha e, Option.bind_some, req_1, Option.bind_some, np_ok ha e, Option.bind_some, un2_mk, if_pos d00]
    show OK2 N _ c (inlO _) _
    obtain ⟨p, hp, hap⟩ := pl_nat e
    subst hap
    obtain ⟨P, p1, p2, p3, p4⟩ := R_hand h0 hp
    obtain ⟨σ4, H, t1, t2, t3⟩ := X7_takeHand (zu m 0 0 0) (p : Int) (-1) (-1) p2.1 p3 (sel_1 p2)
    have hR4 : REL N c σ4 := REL_eq h0 (CE_r c) (ME_SK (SK_of t3))
    have h00 : σ4 0 0 = 0 := by rw [t3.2 0 (by omega)]; rfl
    have e10 : c 1 0 = zu m 0 0 0 1 0 := h0.2.1.1.1
    have e40 : σ4 1 0 = zu m 0 0 0 1 0 := by rw [t3.1 1 (by omega) (by omega)]
    have hb := h0.1.1.1
    have hz0 : zw (zu m 0 0 0 1 0) = zu m 0 0 0 1 0 := zw_eq (by omega) (by omega)
    rw [p1, Option.bind_some, bitCount_eq, Option.bind_some, t1, Option.bind_some, if_pos zc0, zx0, e10, e40, t2.1.1, hz0, zwn (by omega)]
    have hge : (0 : Int) ≤ (if zu m 0 0 0 1 4 = (p : Int) ∧ zu m 0 0 0 1 5 = 1 then 1 else 0) := by split <;> omega
    by_cases w : ((cnt (bs P) 64 : Nat) : Int) = zu m 0 0 0 1 0
    · rw [if_pos w, if_pos (by omega)]
      obtain ⟨σ1, s1, ⟨y1, y2, y3, y4⟩, s3⟩ := R_lay hR4 p2.1 p3
      obtain ⟨l1, l2, l3, l4⟩ := Lay_ok p2.1 p3
      obtain ⟨m6, Nl, f1, f2, f3, f4⟩ := X7_findRests t2
      have hRR := RR_le p2.1 p3 (sb_self P)
      have g10 : zj zl_54 c σ1 77 10 = ((RR P P : Nat) : Int) := by rw [← l3]; exact y4
      rw [s1, Option.bind_some, bnd_eq, g10, bnd_eq, f1, Option.bind_some, un2_mk]
      have hR6 : REL N (zj zl_54 c σ1) m6 := REL_eq s3 (CE_r _) (ME_SK (SK_of f4))
      have hC : cnt (bs P) 64 ≤ 10 := by omega
      have hC7 : 7 ≤ cnt (bs P) 64 := by omega
      -- one step on both sides
      have step : ∀ (i : Nat) (τ υ : Mm), i < 52 → REL N τ υ → SC (zu m 0 0 0) υ → ∃ τ' υ' : Mm, REL N τ' υ' ∧ SC (zu m 0 0 0) υ' ∧ x_X6_helping_b55 P ((RR P P : Nat) : Int) τ ((hlp P (RR P P) i : Nat) : Int) (i : Int) = some (.inl (τ', ((hlp P (RR P P) (i + 1) : Nat) : Int), ((i + 1 : Nat) : Int))) ∧ x_X7_helping_b47 (p : Int) ((RR P P : Nat) : Int) υ ((hlp P (RR P P) i : Nat) : Int) (i : Int) = some (.inl (υ', ((hlp P (RR P P) (i + 1) : Nat) : Int), ((i + 1 : Nat) : Int))) := fun i τ υ hi hτ hυ => by
        have hPυ : hnd υ (p : Int) P := ⟨p2.1, fun j hj => by rw [hυ.1 1 (by omega) (by omega)]; exact p2.2 j hj⟩
        have ei : (i : Int) + 1 = ((i + 1 : Nat) : Int) := by omega
        unfold x_X6_helping_b55 x_X7_helping_b47
        rw [if_neg (nle_l (by omega) (by omega)), if_neg (nle_l (by omega) (by omega)), X6_has P hi, Option.bind_some, X7_owns υ (p : Int) hi, Option.bind_some]
        have hq := hPυ.2 i hi
        cases hbi : bs P i
        · have hne : ¬ zw (υ 1 (119 + i)) = zw (p : Int) := by
            rw [hbi] at hq
            exact of_decide_eq_false hq.symm
          obtain ⟨m1, H1, k1, k2, k3, k4⟩ := more_hand (p : Int) hPυ hi hbi hC
          obtain ⟨σ2, m2, v, a1, a2, a3, a4, a5, a6⟩ := both_lsb (i : Int) hτ k3 k2 (by omega) (by omega)
          have hLV := LV_eq a3
          have hh : hlp P (RR P P) (i + 1) = hlp P (RR P P) i + if bs P i = false ∧ LV (P ||| one i) (i : Int) < RR P P then 1 else 0 := rfl
          refine ⟨zj zl_54 τ σ2, m2, a5, SC_t hυ a6, ?_, ?_⟩
          · rw [if_neg (by decide), X6_bitOf hi, Option.bind_some]
            show ((x_X1_restBehindDrop (zb zl_54 τ) (P ||| one i) (i : Int)).bind _) = _
            rw [a1, Option.bind_some, un2_mk, bnd_eq, zwn (n := RR P P) (by omega), zwn (n := v) (by omega), hh, hLV, hbi]
            by_cases y : v < RR P P
            · rw [if_neg (by omega), if_pos ⟨rfl, y⟩, bnd_eq, bnd_eq, ei]; rfl
            · rw [if_pos (by omega), if_neg (fun z => y z.2), bnd_eq, ei]; rfl
          · rw [if_neg hne, if_neg (by decide), k1, Option.bind_some, a2, Option.bind_some, un2_mk, zwn (n := RR P P) (by omega), zwn (n := v) (by omega), hh, hLV, hbi]
            by_cases y : v < RR P P
            · rw [if_neg (by omega), if_pos ⟨rfl, y⟩, bnd_eq, bnd_eq, ei]; rfl
            · rw [if_pos (by omega), if_neg (fun z => y z.2), bnd_eq, bnd_eq, ei, Int.add_zero]; rfl
        · have hne : zw (υ 1 (119 + i)) = zw (p : Int) := by
            rw [hbi] at hq
            exact of_decide_eq_true hq.symm
          have hh : hlp P (RR P P) (i + 1) = hlp P (RR P P) i := by
            show hlp P (RR P P) i + (if bs P i = false ∧ LV (P ||| one i) (i : Int) < RR P P then 1 else 0) = _
            rw [hbi, if_neg (fun z => by cases z.1)]
            omega
          refine ⟨τ, υ, hτ, hυ, ?_, ?_⟩
          · rw [if_pos rfl, if_pos (by decide), bnd_eq, ei, hh]
          · rw [if_pos hne, if_pos (by decide), bnd_eq, ei, hh]
      have loop : ∀ (k i : Nat) (τ υ : Mm), i + k = 52 → REL N τ υ → SC (zu m 0 0 0) υ → ∃ τ' υ' : Mm, REL N τ' υ' ∧ SC (zu m 0 0 0) υ' ∧ lup (fun (s19 : Mm × Int × Int) => x_X6_helping_b55 P ((RR P P : Nat) : Int) s19.1 s19.2.1 s19.2.2) (τ, ((hlp P (RR P P) i : Nat) : Int), (i : Int)) = some (τ', ((hlp P (RR P P) 52 : Nat) : Int)) ∧ lup (fun (s20 : Mm × Int × Int) => x_X7_helping_b47 (p : Int) ((RR P P : Nat) : Int) s20.1 s20.2.1 s20.2.2) (υ, ((hlp P (RR P P) i : Nat) : Int), (i : Int)) = some (υ', ((hlp P (RR P P) 52 : Nat) : Int)) := by
        intro k
        induction k with
        | zero =>
          intro i τ υ hi hτ hυ
          have : i = 52 := by omega
          subst this
          refine ⟨τ, υ, hτ, hυ, lup_inr ?_, lup_inr ?_⟩
          · show x_X6_helping_b55 P _ τ _ _ = _
            unfold x_X6_helping_b55
            rw [if_pos (by show zw 52 ≤ zw ((52 : Nat) : Int); decide)]
          · show x_X7_helping_b47 _ _ υ _ _ = _
            unfold x_X7_helping_b47
            rw [if_pos (by show zw 52 ≤ zw ((52 : Nat) : Int); decide)]
        | succ k ih =>
          intro i τ υ hi hτ hυ
          obtain ⟨τ1, υ1, q1, q2, q3, q4⟩ := step i τ υ (by omega) hτ hυ
          rw [lup_inl (f := fun (s19 : Mm × Int × Int) => x_X6_helping_b55 P ((RR P P : Nat) : Int) s19.1 s19.2.1 s19.2.2) (s := (τ, ((hlp P (RR P P) i : Nat) : Int), (i : Int))) q3, lup_inl (f := fun (s20 : Mm × Int × Int) => x_X7_helping_b47 (p : Int) ((RR P P : Nat) : Int) s20.1 s20.2.1 s20.2.2) (s := (υ, ((hlp P (RR P P) i : Nat) : Int), (i : Int))) q4]
          exact ih (i + 1) τ1 υ1 (by omega) q1 q2
      obtain ⟨τ', υ', q1, q2, q3, q4⟩ := loop 52 0 (zj zl_54 c σ1) m6 (by omega) hR6 (SC_t t3 f4)
      have q3 : lup (fun (s19 : Mm × Int × Int) => x_X6_helping_b55 P ((RR P P : Nat) : Int) s19.1 s19.2.1 s19.2.2) (zj zl_54 c σ1, (0 : Int), (0 : Int)) = _ := q3
      have q4 : lup (fun (s20 : Mm × Int × Int) => x_X7_helping_b47 (p : Int) ((RR P P : Nat) : Int) s20.1 s20.2.1 s20.2.2) (m6, (0 : Int), (0 : Int)) = _ := q4
      rw [q3, q4, Option.bind_some, Option.bind_some, un2_mk, un2_mk]
      exact .inl ⟨_, _, _, rfl, rfl, by rw [q2.2 0 (by omega)]; rfl, q1⟩
    · rw [if_neg w, if_neg (by omega)]
      exact .inl ⟨_, _, _, rfl, rfl, h00, hR4⟩
  · rw [pl_no ha e, Option.bind_some, req_0, Option.bind_some, np_no ha e, Option.bind_some, un2_mk, if_neg d10]
    exact .inr ⟨0, 1, _, _, .head _, rfl, rfl, rfl, REL_eq h0 (CE_r c) (ME_0 _ 1)⟩
theorem c_ifKnock {N : Nat} {c m : Mm} (h : REL N c m) {a b : Int} (ha : zw a = a) (hb : zw b = b) : OK2 N [(1, 1), (0, 2)] c (x_X6_ifKnock c a b) (x_X7_ifKnock m a b) := by
  have h0 := REL_eq h (CE_r c) (ME_0 m 0)
  obtain ⟨mv, m1, m2, hm5⟩ := R_mover h0
  unfold x_X6_ifKnock x_X7_ifKnock
  rw [bnd_eq, noCard_eq, m2, hm5]
  rcases held_all h0 m1 ha with ⟨k, k1, k2, k3, k4, k5⟩ | ⟨k4, k5⟩
  · subst k1
    rw [k4, k5, Option.bind_some, Option.bind_some, if_pos (show zw (1 : Int) ≠ 0 by decide), Option.bind_some, un2_mk, if_neg (show ¬ zw (0 : Int) ≠ 0 by decide)]
    show OK2 N _ c ((x_X6_isWithin b 0 3).bind _) _
    by_cases e : 0 ≤ b ∧ b ≤ 3
    · rw [wi_ok (l := 0) (h := 3) (by decide) (by decide) hb e, Option.bind_some, req_1, Option.bind_some, bad_ok (l := 0) (h := 3) (by decide) (by decide) hb e, Option.bind_some, un2_mk, if_pos d00]
      show OK2 N _ c (inlO _) _
      obtain ⟨P, Q, p1, p2, p3, p4, p5, p6, p7⟩ := knock_hands h0 m1 m2 k2
      have hcw := cw_dif (one k) p3.1
      have h11 := Nat.le_trans (cnt_rm_le (P := P) k) p6
      obtain ⟨σ3, s1, s2, s3, s4⟩ := X5_settle (zb zl_49 c) hcw p4.1 h11 p7
      have hR := RR_le hcw h11 (sb_self (dif P (one k)))
      have hR3 : REL N (zj zl_49 c σ3) (zu m 0 0 0) := REL_eq h0 (CE_49 c σ3) (ME_r _)
      rw [p1, Option.bind_some, p2, Option.bind_some, s1, Option.bind_some, bnd_eq]
      have g2 : zj zl_49 c σ3 84 2 = ((RR (dif P (one k)) (dif P (one k)) : Nat) : Int) := s2
      have g3 : zj zl_49 c σ3 84 3 = ((lW (sho (dif P (one k)) Q).1 : Nat) : Int) := s3
      have g4 : zj zl_49 c σ3 84 4 = (((sho (dif P (one k)) Q).2 : Nat) : Int) := s4
      have fin : ∀ (x y : Option (Mm × Int)) (m' : Mm) (v : Int), x = some (zj zl_49 c σ3, v) → y = some (m', v) → SK (zu m 0 0 0) m' → OK2 N [(1, 1), (0, 2)] c (inlO x) y := fun x y m' v hx hy hs => .inl ⟨_, m', v, by rw [hx]; rfl, hy, by rw [hs.2 0 (by omega)]; rfl, REL_eq hR3 (CE_r _) (ME_SK hs)⟩
      by_cases eb : b = 0
      · subst eb
        obtain ⟨m4, t1, t2⟩ := X7_noKnock h0.1 p3 k2 p6
        rw [if_neg (show ¬ zw (0 : Int) ≠ 0 by decide), if_neg (show ¬ zw (0 : Int) ≠ 0 by decide)]
        refine fin _ _ m4 (nkR (zu m 0 0 0 1) (k : Int) (RR (dif P (one k)) (dif P (one k)))) ?_ ?_ (SK_of t2)
        · rw [g2, X2_noKnock hR3.1 (R_now hR3) (k : Int) hR]; rfl
        · rw [t1]; rfl
      · have eb' : zw b ≠ 0 := by rw [hb]; exact eb
        rw [if_pos eb', if_pos eb', X7_canDrop h0.1, X2_canDrop hR3.1 (R_now hR3), Option.bind_some, Option.bind_some]
        rcases cdR_01 (zu m 0 0 0 1) with ⟨q, -, -⟩ | q
        · rw [q, if_pos (show zw (1 : Int) ≠ 0 by decide), if_pos (show zw (1 : Int) ≠ 0 by decide)]
          obtain ⟨m5, f1, f2, f3, f4, f5⟩ := X7_findKnock p3 p4 p5 k2 p6 p7
          rw [f1, Option.bind_some, g2, g3, g4, f2, f3, f4]
          have hcase : b = 1 ∨ b = 2 ∨ b = 3 := by omega
          rcases hcase with y | y | y <;> subst y
          · exact fin _ _ m5 _ (by rw [if_pos (by decide)]) (by rw [if_neg (by decide)]) f5
          · exact fin _ _ m5 _ (by rw [if_neg (by decide), if_pos (by decide)]) (by rw [if_pos (by decide), if_neg (by decide)]) f5
          · exact fin _ _ m5 _ (by rw [if_neg (by decide), if_neg (by decide)]) (by rw [if_pos (by decide), if_pos (by decide)]) f5
        · rw [q, if_neg (show ¬ zw (0 : Int) ≠ 0 by decide), if_neg (show ¬ zw (0 : Int) ≠ 0 by decide)]
          exact fin _ _ _ (-1) rfl rfl (SK_r _)
    · rw [wi_no (l := 0) (h := 3) (by decide) (by decide) hb e, Option.bind_some, req_0, Option.bind_some, bad_no (l := 0) (h := 3) (by decide) (by decide) hb e, Option.bind_some, un2_mk, if_neg d10]
      exact .inr ⟨0, 2, _, _, .tail _ (.head _), rfl, rfl, rfl, REL_eq h0 (CE_r c) (ME_0 _ 2)⟩
  · rw [k4, k5, Option.bind_some, Option.bind_some, if_neg (show ¬ zw (0 : Int) ≠ 0 by decide), bnd_eq, Option.bind_some, un2_mk, if_pos (show zw (1 : Int) ≠ 0 by decide)]
    exact .inr ⟨1, 1, _, _, .head _, rfl, rfl, rfl, REL_eq h0 (CE_r c) (ME_0 _ 1)⟩
