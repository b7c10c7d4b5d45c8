/-! the calls that change the match, on both sides -/
/-- both answer v and agree behind it -/
def OK1 (N : Nat) (x y : Option (Mm × Int)) : Prop := ∃ (c' m' : Mm) (v : Int), x = some (c', v) ∧ y = some (m', v) ∧ REL N c' m'
/-- both answer v, or the class throws e where the model has k: (e, k) is in T -/
def OK2 (N : Nat) (T : List (Nat × Int)) (c : Mm) (x : Option ((Mm × Int) ⊕ Nat)) (y : Option (Mm × Int)) : Prop := (∃ (c' m' : Mm) (v : Int), x = some (.inl (c', v)) ∧ y = some (m', v) ∧ m' 0 0 = 0 ∧ REL N c' m') ∨ ∃ (e : Nat) (k v : Int) (m' : Mm), (e, k) ∈ T ∧ x = some (.inr e) ∧ y = some (m', v) ∧ m' 0 0 = k ∧ REL N c m'
/-- the same of a call that changes nothing in the class -/
def OK3 (N : Nat) (T : List (Nat × Int)) (c : Mm) (x : Option (Int ⊕ Nat)) (y : Option (Mm × Int)) : Prop := (∃ (m' : Mm) (v : Int), x = some (.inl v) ∧ y = some (m', v) ∧ m' 0 0 = 0 ∧ REL N c m') ∨ ∃ (e : Nat) (k v : Int) (m' : Mm), (e, k) ∈ T ∧ x = some (.inr e) ∧ y = some (m', v) ∧ m' 0 0 = k ∧ REL N c m'
theorem OK1_up {N M : Nat} {x y : Option (Mm × Int)} (h : OK1 N x y) (hm : N ≤ M) : OK1 M x y := by
  obtain ⟨c', m', v, h1, h2, h3⟩ := h
  exact ⟨c', m', v, h1, h2, REL_up h3 hm⟩
theorem OK2_up {N M : Nat} {T : List (Nat × Int)} {c : Mm} {x : Option ((Mm × Int) ⊕ Nat)} {y : Option (Mm × Int)} (h : OK2 N T c x y) (hm : N ≤ M) : OK2 M T c x y := by
  rcases h with ⟨c', m', v, h1, h2, h3, h4⟩ | ⟨e, k, v, m', h0, h1, h2, h3, h4⟩
  · exact .inl ⟨c', m', v, h1, h2, h3, REL_up h4 hm⟩
  · exact .inr ⟨e, k, v, m', h0, h1, h2, h3, REL_up h4 hm⟩
theorem b47 (c : Mm) : ∀ i, i < 5 → zb zl_47 c i = c (1 + i) := fun i hi => by
  show c (zp zl_47 i) = _
  rw [p_47 i hi]
theorem b45 (c : Mm) : ∀ i, i < 57 → zb zl_45 c i = if i < 52 then c (11 + i) else c (1 + (i - 52)) := fun i hi => by
  show c (zp zl_45 i) = _
  rw [p_45 i hi]
  split <;> rfl
/-- the match now -/
theorem R_now {N : Nat} {c m : Mm} (h : REL N c m) : MR (zb zl_47 c) (m 1) := MR_cells (fun i hi => b47 c i hi) h.2.1
theorem R_hist {N : Nat} {c m : Mm} (h : REL N c m) : HRel N (zb zl_45 c) m := HRel_eq (fun i hi => by rw [b45 c i (by omega), if_pos hi]) rfl (fun _ _ _ => rfl) h.2.2.1
theorem push_all {N : Nat} {c m : Mm} (h : REL N c m) : ∃ σ2 m', x_X0_push (zb zl_45 c) = some σ2 ∧ x_X7_keepPast_w m = some m' ∧ REL N (zj zl_45 c σ2) m' ∧ m' 1 = m 1 ∧ m' 0 0 = m 0 0 ∧ (∀ i, i < 5 → zj zl_45 c σ2 (1 + i) = c (1 + i)) ∧ (∀ i, 63 ≤ i → i < 101 → zj zl_45 c σ2 i = c i) ∧ ∀ j, 12 ≤ j → m' 0 j = m 0 j := by
  obtain ⟨σ2, m', a1, a2, a3, a4, a5, a6⟩ := hist_push X7_keepPast_w (.inl rfl) (R_hist h) h.1 (MR_cells (fun i hi => by
    show zb zl_45 c (52 + i) = _
    rw [b45 c _ (by omega), if_neg (by omega), show 52 + i - 52 = i by omega]) h.2.1)
  have e1 : ∀ i, i < 5 → zj zl_45 c σ2 (1 + i) = c (1 + i) := fun i hi => by
    rw [zj_q _ _ _ _ (q_45 _ (by omega)), if_neg (by omega), if_pos (by omega)]
    show σ2 (52 + (1 + i - 1)) = _
    rw [a4 _ (by omega), b45 c _ (by omega), if_neg (by omega), show 52 + (1 + i - 1) - 52 = i by omega]
  have e2 : ∀ i, 63 ≤ i → i < 101 → zj zl_45 c σ2 i = c i := fun i h1 h2 => by
    rw [zj_q _ _ _ _ (q_45 _ (by omega)), if_neg (by omega), if_neg (by omega)]; rfl
  have e3 : ∀ i, i < 52 → zj zl_45 c σ2 (11 + i) = σ2 i := fun i hi => by
    rw [zj_q _ _ _ _ (q_45 _ (by omega)), if_pos (by omega)]
    show σ2 (11 + i - 11) = _
    rw [show 11 + i - 11 = i by omega]
  have m1 : m' 1 = m 1 := a6 1 (by omega) (by omega) (by omega)
  refine ⟨σ2, m', a1, a2, REL_mv h (by rw [m1]; exact h.1) (by rw [m1]; exact MR_cells e1 h.2.1) (HRel_eq e3 rfl (fun _ _ _ => rfl) a3) (fun i i1 i2 _ => e2 i i1 i2) (by rw [e2 74 (by omega) (by omega)]) (fun i i1 i2 i3 => a6 i (by omega) (by omega) (by omega)) (a5 8 (by omega)) (a5 10 (by omega)), m1, a5 0 (by omega), e1, e2, fun j hj => a5 j (by omega)⟩
theorem mv_all {N M : Nat} {c m μ' σ' : Mm} (h : REL N c m) (hNM : N ≤ M) (hV : V M (σ' 1)) (hM : MR μ' (σ' 1)) (hRW : RW m σ') : REL M (zj zl_47 c μ') σ' := by
  have e1 : ∀ i, i < 5 → zj zl_47 c μ' (1 + i) = μ' i := fun i hi => by
    rw [zj_q _ _ _ _ (q_47 _ (by omega)), if_pos (by omega)]
    show μ' (1 + i - 1) = _
    rw [show 1 + i - 1 = i by omega]
  have e2 : ∀ i, 6 ≤ i → i < 101 → zj zl_47 c μ' i = c i := fun i h1 h2 => by
    rw [zj_q _ _ _ _ (q_47 _ (by omega)), if_neg (by omega)]; rfl
  exact REL_mv (REL_up h hNM) hV (MR_cells e1 hM) (HRel_eq (fun i hi => e2 _ (by omega) (by omega)) (by rw [hRW 0 (by omega)]) (fun i i1 i2 => hRW i (by omega)) (HRel_up h.2.2.1 hNM)) (fun i i1 i2 _ => e2 i (by omega) i2) (by rw [e2 74 (by omega) (by omega)]) (fun i i1 i2 _ => hRW i (by omega)) (by rw [hRW 0 (by omega)]) (by rw [hRW 0 (by omega)])
theorem ndR_0 {r : Nat → Int} : (ndR r = 0 → r 6 ≠ 1 ∧ r 5 ≠ 1) ∧ zw (ndR r) = ndR r := by
  unfold ndR
  by_cases a : r 6 = 1
  · rw [if_pos a]; exact ⟨fun z => absurd z (by decide), by decide⟩
  · by_cases b : r 5 = 1
    · rw [if_neg a, if_pos b]; exact ⟨fun z => absurd z (by decide), by decide⟩
    · rw [if_neg a, if_neg b]; exact ⟨fun _ => ⟨a, b⟩, by decide⟩
theorem ntR_0 {r : Nat → Int} {c : Int} : (ntR r c = 0 → r 6 ≠ 1 ∧ r 5 ≠ 0) ∧ zw (ntR r c) = ntR r c := by
  unfold ntR
  by_cases a : r 6 = 1
  · rw [if_pos a]; exact ⟨fun z => absurd z (by decide), by decide⟩
  · by_cases b : r 5 = 0
    · rw [if_neg a, if_pos b]; exact ⟨fun z => absurd z (by decide), by decide⟩
    · rw [if_neg a, if_neg b]
      split
      · exact ⟨fun z => absurd z (by decide), by decide⟩
      · exact ⟨fun _ => ⟨a, b⟩, by decide⟩
theorem neR_0 {r : Nat → Int} : zw (neR r) = neR r := by
  unfold neR
  by_cases a : r 6 = 0
  · rw [if_pos a]; decide
  · by_cases b : moR r = 1
    · rw [if_neg a, if_pos b]; decide
    · rw [if_neg a, if_neg b]; decide
theorem c_draw {N : Nat} {c m : Mm} (h : REL N c m) (p : Int) : OK1 N (x_X6_draw c p) (x_X7_draw m p) := by
  have h0 := REL_eq h (CE_r c) (ME_0 m 0)
  unfold x_X6_draw x_X7_draw
  rw [bnd_eq, X7_noDraw h0.1, X2_noDraw h0.1 (R_now h0), Option.bind_some, Option.bind_some, ndR_0.2]
  by_cases e : ndR (zu m 0 0 0 1) = 0
  · obtain ⟨z1, z2⟩ := ndR_0.1 e
    rw [e, if_pos rfl, if_pos rfl]
    obtain ⟨σ2, m', a1, a2, a3, a4, a5, a6, a7, -⟩ := push_all h0
    rw [a1, Option.bind_some, bnd_eq, a2, Option.bind_some]
    have z1 : m' 1 6 = 0 := by rw [a4]; exact (V_o h0.1).elim (fun z => z) (fun z => absurd z z1)
    have z2 : m' 1 5 = 0 := by rw [a4]; exact (V_d h0.1).elim (fun z => z) (fun z => absurd z z2)
    obtain ⟨k, μ', σ', b1, b2, b3, b4, b5⟩ := draw_sim (p := p) a3.1 (R_now a3) z1 z2
    rw [b1, Option.bind_some, un2_mk, bnd_eq, b2, Option.bind_some, un2_mk]
    exact ⟨_, _, _, rfl, rfl, mv_all a3 (Nat.le_refl N) b3 b4 b5⟩
  · rw [if_neg e, if_neg e]
    exact ⟨_, _, _, rfl, rfl, h0⟩
/-- whether a player has a card: the class's test and the model's -/
theorem held_all {N : Nat} {c m : Mm} (h : REL N c m) {p : Nat} (hp : p < 2) {a : Int} (ha : zw a = a) : (∃ k : Nat, a = (k : Int) ∧ k < 52 ∧ m 1 (119 + k) = (p : Int) ∧ x_X6_requireHeld c (p : Int) a = some (.inl ()) ∧ x_X7_owns m (p : Int) a = some 1) ∨ (x_X6_requireHeld c (p : Int) a = some (.inr 1) ∧ x_X7_owns m (p : Int) a = some 0) := by
  have hM := R_now h
  obtain ⟨q1, q2, q3, q4⟩ := hnd_of h.1 hM hp
  unfold x_X6_requireHeld
  rw [X2_handOf _ hp, Option.bind_some]
  by_cases e : 0 ≤ a ∧ a < 52
  · obtain ⟨k, hk⟩ : ∃ k : Nat, a = (k : Int) := ⟨a.toNat, by omega⟩
    subst hk
    have hk52 : k < 52 := by omega
    rw [X6_has _ hk52, Option.bind_some, X7_owns m (p : Int) hk52, q2 k hk52]
    by_cases w : zw (m 1 (119 + k)) = zw (p : Int)
    · left
      refine ⟨k, rfl, hk52, ?_, by rw [decide_eq_true w]; rfl, by rw [if_pos w]⟩
      obtain ⟨hw, -⟩ := h.1.2.2.2.1 k hk52
      have : zw (m 1 (119 + k)) = m 1 (119 + k) := by rcases hw with z | z | z | z <;> rw [z] <;> decide
      rw [this, zwn (by omega)] at w
      exact w
    · right
      exact ⟨by rw [decide_eq_false w]; rfl, by rw [if_neg w]⟩
  · right
    rw [X6_has_out _ (by rw [ha]; exact e)]
    refine ⟨rfl, ?_⟩
    unfold x_X7_owns
    rw [ha]
    by_cases w : a < 0
    · rw [if_pos w]
    · rw [if_neg w, if_pos (by rw [zw_eq (x := (52 : Int)) (by omega) (by omega)]; omega)]
theorem noCard_eq (m : Mm) (a : Int) : x_X7_noCard m a = (x_X7_owns m (m 1 4) a).bind fun v2 => (if zw v2 ≠ 0 then some (m, (0 : Int)) else bnd (zu m 0 0 (1 : Int)) fun σ3 => some (σ3, (1 : Int))) := by
  unfold x_X7_noCard
  rw [if_pos zc4, zx4]
theorem c_drop {N : Nat} {c m : Mm} (h : REL N c m) {a : Int} (ha : zw a = a) : OK2 N [(1, 1)] c (x_X6_drop c a) (x_X7_drop m a) := by
  have h0 := REL_eq h (CE_r c) (ME_0 m 0)
  obtain ⟨mv, m1, m2, m3⟩ := V_mv h0.1
  have hm5 : c 1 5 = (mv : Int) := (h0.2.1.1.2.2.2.2.2.1).trans m2
  unfold x_X6_drop x_X7_drop
  rw [bnd_eq, noCard_eq, m2, hm5]
  rcases held_all h0 m1 ha with ⟨k, k1, k2, k3, k4, k5⟩ | ⟨k4, k5⟩
  · subst k1
    rw [k4, k5, Option.bind_some, Option.bind_some, if_pos (by decide), Option.bind_some, un2_mk, if_pos (by decide)]
    show OK2 N _ c (inlO _) _
    rw [X7_noTurn h0.1, X2_noTurn h0.1 (R_now h0), Option.bind_some, Option.bind_some, ntR_0.2]
    by_cases e : ntR (zu m 0 0 0 1) (k : Int) = 0
    · obtain ⟨z1, z2⟩ := ntR_0.1 e
      rw [e, if_pos rfl, if_pos rfl]
      obtain ⟨σ2, m', a1, a2, a3, a4, a5, a6, a7, -⟩ := push_all h0
      rw [a1, Option.bind_some, bnd_eq, a2, Option.bind_some]
      have z1 : m' 1 6 = 0 := by rw [a4]; exact (V_o h0.1).elim (fun z => z) (fun z => absurd z z1)
      have z2 : m' 1 5 = 1 := by rw [a4]; exact (V_d h0.1).elim (fun z => absurd z z2) (fun z => z)
      obtain ⟨v, μ', σ', b1, b2, b0, b3, b4, b5⟩ := drop_sim a3.1 (R_now a3) z1 z2 k2 (by rw [a4, k3, m2])
      rw [b1, Option.bind_some, bnd_eq, b2, Option.bind_some, un2_mk, X2_stock, Option.bind_some]
      refine .inl ⟨_, _, v, ?_, rfl, by rw [b5 0 (by omega)]; exact a5, mv_all a3 (Nat.le_refl N) b3 b4 b5⟩
      rw [b0]
      rfl
    · rw [if_neg e, if_neg e]
      exact .inl ⟨_, _, _, rfl, rfl, rfl, h0⟩
  · rw [k4, k5, Option.bind_some, Option.bind_some, if_neg (by decide), bnd_eq, Option.bind_some, un2_mk, if_neg (by decide)]
    exact .inr ⟨1, 1, _, _, .head _, rfl, rfl, rfl, REL_eq h0 (CE_r c) (ME_0 _ 1)⟩
/-- the class's gain, by the rests -/
def gnN (K O : Nat) : Int := if K = 0 then (O : Int) + 20 else if K < O then (O : Int) - K else (O : Int) - K - 10
theorem X5_gain {σ : Mm} {K O : Nat} (h2 : σ 0 2 = (K : Int)) (h3 : σ 0 3 = (O : Int)) (hK : K ≤ 520) (hO : O ≤ 520) : x_X5_gain σ = some (gnN K O) := by
  unfold x_X5_gain gnN
  rw [h2, h3, zwn (n := K) (by omega), zwn (n := O) (by omega)]
  by_cases e : K = 0
  · rw [if_pos e, if_neg (by omega)]
  · rw [if_neg e, if_pos (by omega)]
    by_cases e2 : K < O
    · rw [if_pos e2, if_neg (by omega)]
    · rw [if_neg e2, if_pos (by omega)]
theorem gnN_b {K O : Nat} (hK : K ≤ 520) (hO : O ≤ 520) : -2000 ≤ gnN K O ∧ gnN K O ≤ 2000 := by
  unfold gnN
  split
  · omega
  · split <;> omega
/-- hands for a knock with the card k -/
theorem knock_hands {N : Nat} {c m : Mm} (h : REL N c m) {mv k : Nat} (m1 : mv < 2) (m2 : m 1 4 = (mv : Int)) (hk : k < 52) : ∃ P Q : Int64, x_X2_handWithout (zb zl_47 c) (k : Int) = some (dif P (one k)) ∧ x_X2_otherHand (zb zl_47 c) = some Q ∧ hnd m (m 1 4) P ∧ hnd m (1 - m 1 4) Q ∧ P &&& Q = 0 ∧ cnt (bs P) 64 ≤ 11 ∧ cnt (bs Q) 64 ≤ 11 := by
  have hM := R_now h
  have h5 : zb zl_47 c 0 5 = (mv : Int) := (hM.1.2.2.2.2.2.1).trans m2
  obtain ⟨q1, q2, q3, q4⟩ := hnd_of h.1 hM m1
  obtain ⟨p1, p2, p3, p4⟩ := hnd_of h.1 hM (show 1 - mv < 2 by omega)
  refine ⟨zL (zb zl_47 c 2 mv), zL (zb zl_47 c 2 (1 - mv)), X2_handWithout m1 h5 hk, X2_otherHand m1 h5, ⟨q1, fun j hj => by rw [q2 j hj, m2]⟩, ⟨p1, fun j hj => by rw [p2 j hj, m2, show (1 : Int) - (mv : Int) = ((1 - mv : Nat) : Int) by omega]⟩, hnd_dj (N := N) hM m1 (by omega) (by omega), q4, p4⟩
theorem X7_restW {m : Mm} {P : Int64} {k : Nat} (hP : hnd m (m 1 4) P) (hk : k < 52) (hp : cnt (bs P) 64 ≤ 11) : ∃ m', x_X7_restWithoutCard m (k : Int) = some (m', ((RR (dif P (one k)) (dif P (one k)) : Nat) : Int)) ∧ SC m m' := by
  obtain ⟨σ2, H, a1, a2, a3⟩ := X7_takeHand m (m 1 4) (k : Int) (-1) (cw_dif (one k) hP.1) (Nat.le_trans (cnt_rm_le k) hp) (sel_2 hP hk)
  obtain ⟨σ3, Nl, b1, b2, b3, b4⟩ := X7_findRests a2
  unfold x_X7_restWithoutCard
  rw [if_pos zc4, zx4, a1, Option.bind_some, b1, Option.bind_some, un2_mk]
  exact ⟨σ3, rfl, SC_t a3 b4⟩
/-- the reason against a knock, on both sides -/
def nkR (r : Nat → Int) (k : Int) (K : Nat) : Int := if ntR r k = 0 then (if (K : Int) ≤ r 1 then 0 else 6) else ntR r k
theorem nkR_0 {r : Nat → Int} {k : Int} {K : Nat} : zw (nkR r k K) = nkR r k K := by
  unfold nkR
  split
  · split <;> decide
  · exact ntR_0.2
theorem V_k {N : Nat} {r : Nat → Int} (h : V N r) : zw (r 1) = r 1 := by
  have := h.1.2.1
  exact zw_eq (by omega) (by omega)
theorem X2_noKnock {N : Nat} {μ : Mm} {r : Nat → Int} (h : V N r) (hM : MR μ r) (k : Int) {K : Nat} (hK : K ≤ 520) : x_X2_reasonAgainstKnock μ k (K : Int) = some (nkR r k K) := by
  unfold x_X2_reasonAgainstKnock nkR
  rw [X2_noTurn h hM, Option.bind_some, ntR_0.2, hM.1.2.1, V_k h, zwn (by omega)]
  by_cases e : ntR r k = 0
  · rw [if_pos e, if_pos e]
    split <;> rfl
  · rw [if_neg e, if_neg e]
theorem X7_noKnock {N : Nat} {m : Mm} {P : Int64} {k : Nat} (h : V N (m 1)) (hP : hnd m (m 1 4) P) (hk : k < 52) (hp : cnt (bs P) 64 ≤ 11) : ∃ m', x_X7_noKnock m (k : Int) = some (m', nkR (m 1) (k : Int) (RR (dif P (one k)) (dif P (one k)))) ∧ SC m m' := by
  have hcw := cw_dif (one k) hP.1
  have hR := RR_le hcw (Nat.le_trans (cnt_rm_le k) hp) (sb_self (dif P (one k)))
  unfold x_X7_noKnock nkR
  rw [X7_noTurn h, Option.bind_some, ntR_0.2]
  by_cases e : ntR (m 1) (k : Int) = 0
  · obtain ⟨m', a1, a2⟩ := X7_restW hP hk hp
    rw [if_pos e, if_pos e, a1, Option.bind_some, un2_mk, if_pos zc1, zx1, a2.1 1 (by omega) (by omega), V_k h, zwn (by omega)]
    refine ⟨m', ?_, a2⟩
    split <;> rfl
  · rw [if_neg e, if_neg e]
    exact ⟨m, rfl, SC_r m⟩
theorem lW_520 (x : Int64) : lW x ≤ 520 := lW_le x
theorem c_knock {N : Nat} {c m : Mm} (h : REL N c m) {a : Int} (ha : zw a = a) : OK2 N [(1, 1)] c (x_X6_knock c a) (x_X7_knock m a) := by
  have h0 := REL_eq h (CE_r c) (ME_0 m 0)
  obtain ⟨mv, m1, m2, m3⟩ := V_mv h0.1
  have hm5 : c 1 5 = (mv : Int) := (h0.2.1.1.2.2.2.2.2.1).trans m2
  unfold x_X6_knock x_X7_knock
  rw [bnd_eq, noCard_eq, m2, hm5]
  rcases held_all h0 m1 ha with ⟨k, k1, k2, k3, k4, k5⟩ | ⟨k4, k5⟩
  · subst k1
    rw [k4, k5, Option.bind_some, Option.bind_some, if_pos (by decide), Option.bind_some, un2_mk, if_pos (by decide)]
    show OK2 N _ c (inlO _) _
    obtain ⟨P, Q, p1, p2, p3, p4, p5, p6, p7⟩ := knock_hands h0 m1 m2 k2
    obtain ⟨σ3, s1, s2, s3, s4⟩ := X5_settle (zb zl_49 c) (cw_dif (one k) p3.1) p4.1 (Nat.le_trans (cnt_rm_le k) p6) p7
    have hR := RR_le (cw_dif (one k) p3.1) (Nat.le_trans (cnt_rm_le k) p6) (sb_self (dif P (one k)))
    have hO := lW_520 (sho (dif P (one k)) Q).1
    obtain ⟨m4, t1, t2⟩ := X7_noKnock h0.1 p3 k2 p6
    have h1 : REL N (zj zl_49 c σ3) m4 := REL_eq h0 (CE_49 c σ3) (ME_SK (SK_of t2))
    have w1 : m4 1 = zu m 0 0 0 1 := t2.1 1 (by omega) (by omega)
    rw [p1, Option.bind_some, p2, Option.bind_some, s1, Option.bind_some, bnd_eq, t1, Option.bind_some, un2_mk]
    have e2 : zj zl_49 c σ3 84 2 = ((RR (dif P (one k)) (dif P (one k)) : Nat) : Int) := s2
    have hnk : x_X2_reasonAgainstKnock (zb zl_47 (zj zl_49 c σ3)) (k : Int) (zj zl_49 c σ3 84 2) = some (nkR (zu m 0 0 0 1) (k : Int) (RR (dif P (one k)) (dif P (one k)))) := by
      rw [e2, ← w1]
      exact X2_noKnock h1.1 (R_now h1) (k : Int) hR
    rw [hnk, Option.bind_some, nkR_0]
    by_cases e : nkR (zu m 0 0 0 1) (k : Int) (RR (dif P (one k)) (dif P (one k))) = 0
    · rw [if_pos e, if_pos e]
      have e' : ntR (zu m 0 0 0 1) (k : Int) = 0 := by
        unfold nkR at e
        by_cases w : ntR (zu m 0 0 0 1) (k : Int) = 0
        · exact w
        · rw [if_neg w] at e; exact e
      obtain ⟨z1, z2⟩ := ntR_0.1 e'
      obtain ⟨σ2, m', a1, a2, a3, a4, a5, a6, a7, a8⟩ := push_all h1
      rw [a1, Option.bind_some, bnd_eq, a2, Option.bind_some]
      have w2 : m' 1 = zu m 0 0 0 1 := a4.trans w1
      have z2 : m' 1 5 = 1 := by rw [w2]; exact (V_d h0.1).elim (fun z => absurd z z2) (fun z => z)
      have hcm : m' 1 (119 + k) = m' 1 4 := by rw [w2, k3, m2]
      -- the class's showdown stays
      have g84 : zj zl_45 (zj zl_49 c σ3) σ2 84 = σ3 0 := by rw [a7 84 (by omega) (by omega)]; rfl
      have hg : x_X5_gain (zb zl_49 (zj zl_45 (zj zl_49 c σ3) σ2)) = some (gnN (RR (dif P (one k)) (dif P (one k))) (lW (sho (dif P (one k)) Q).1)) := by
        refine X5_gain ?_ ?_ hR hO
        · show zj zl_45 (zj zl_49 c σ3) σ2 84 2 = _
          rw [g84]; exact s2
        · show zj zl_45 (zj zl_49 c σ3) σ2 84 3 = _
          rw [g84]; exact s3
      rw [hg, Option.bind_some]
      -- the model's knock
      have hP' : hnd m' (m' 1 4) P := by rw [w2]; exact ⟨p3.1, fun j hj => by rw [w2]; exact p3.2 j hj⟩
      have hQ' : hnd m' (1 - m' 1 4) Q := by rw [w2]; exact ⟨p4.1, fun j hj => by rw [w2]; exact p4.2 j hj⟩
      obtain ⟨m5, f1, f2, f3, f4, f5⟩ := X7_findKnock hP' hQ' p5 k2 p6 p7
      have w3 : m5 1 = m' 1 := f5.1 1 (by omega) (by omega)
      have h5 : REL N (zj zl_45 (zj zl_49 c σ3) σ2) m5 := REL_eq a3 (CE_r _) (ME_SK f5)
      obtain ⟨μ', σ1, σ', b1, b2, b3, b4, b5, b6, b7⟩ := end_sim (g := gnN (RR (dif P (one k)) (dif P (one k))) (lW (sho (dif P (one k)) Q).1)) h5.1 (R_now h5) (by rw [w3]; exact z2) k2 (by rw [w3]; exact hcm) (gnN_b hR hO)
      have hkn : x_X7_knockIt m' (k : Int) = some (σ', gnN (RR (dif P (one k)) (dif P (one k))) (lW (sho (dif P (one k)) Q).1)) := by
        unfold x_X7_knockIt
        rw [f1, Option.bind_some, b2, Option.bind_some, b3 0 (by omega), f2, f3, zwn (n := RR (dif P (one k)) (dif P (one k))) (by omega), zwn (n := lW (sho (dif P (one k)) Q).1) (by omega), ← b4]
        unfold gnN
        by_cases q : RR (dif P (one k)) (dif P (one k)) = 0
        · rw [if_neg (by omega), if_pos q]
        · rw [if_pos (by omega), if_neg q]
          by_cases q2 : RR (dif P (one k)) (dif P (one k)) < lW (sho (dif P (one k)) Q).1
          · rw [if_neg (by omega), if_pos q2]
          · rw [if_pos (by omega), if_neg q2]
      rw [b1, Option.bind_some, bnd_eq, hkn, Option.bind_some, un2_mk]
      have hg2 : x_X5_gain (zb zl_49 (zj zl_47 (zj zl_45 (zj zl_49 c σ3) σ2) μ')) = some (gnN (RR (dif P (one k)) (dif P (one k))) (lW (sho (dif P (one k)) Q).1)) := by
        refine X5_gain ?_ ?_ hR hO
        · show zj zl_45 (zj zl_49 c σ3) σ2 84 2 = _
          rw [g84]; exact s2
        · show zj zl_45 (zj zl_49 c σ3) σ2 84 3 = _
          rw [g84]; exact s3
      rw [hg2, Option.bind_some]
      refine .inl ⟨_, _, _, rfl, rfl, ?_, mv_all h5 (Nat.le_refl N) b5 b6 b7⟩
      rw [b7 0 (by omega), f5.2 0 (by omega), a5, t2.2 0 (by omega)]
      rfl
    · rw [if_neg e, if_neg e]
      exact .inl ⟨_, _, _, rfl, rfl, by rw [t2.2 0 (by omega)]; rfl, h1⟩
  · rw [k4, k5, Option.bind_some, Option.bind_some, if_neg (by decide), bnd_eq, Option.bind_some, un2_mk, if_neg (by decide)]
    exact .inr ⟨1, 1, _, _, .head _, rfl, rfl, rfl, REL_eq h0 (CE_r c) (ME_0 _ 1)⟩
theorem c_deal {N : Nat} {c m : Mm} (h : REL N c m) (hN : N < 100000) : OK1 (N + 1) (x_X6_deal c) (x_X7_deal m) := by
  have h0 := REL_eq h (CE_r c) (ME_0 m 0)
  unfold x_X6_deal x_X7_deal
  rw [bnd_eq, X7_noDeal h0.1, X2_noDeal h0.1 (R_now h0), Option.bind_some, Option.bind_some, neR_0]
  by_cases e : neR (zu m 0 0 0 1) = 0
  · rw [e, if_pos rfl, if_pos rfl]
    obtain ⟨σ2, m', a1, a2, a3, a4, a5, a6, a7, -⟩ := push_all h0
    rw [a1, Option.bind_some, bnd_eq, a2, Option.bind_some]
    obtain ⟨μ', σ', b1, b2, b0, b3, b4, b5⟩ := deal_sim a3.1 hN (R_now a3)
    rw [b1, Option.bind_some, bnd_eq, b2, Option.bind_some, un2_mk]
    refine ⟨_, _, _, ?_, rfl, mv_all a3 (Nat.le_succ N) b3 b4 b5⟩
    rw [← b0]
    rfl
  · rw [if_neg e, if_neg e]
    exact ⟨_, _, _, rfl, rfl, REL_up h0 (Nat.le_succ N)⟩
