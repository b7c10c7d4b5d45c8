/-! number, where, card, kind, reportByte -/
theorem c_number {N : Nat} {c m : Mm} (h : REL N c m) : ∃ (m' : Mm) (v : Int64), x_X6_number c = some v ∧ x_X7_number m = some (m', v) ∧ REL N c m' := by
  have h0 := REL_eq h (CE_r c) (ME_0 m 0)
  refine ⟨_, zi2l (m 1 12), ?_, ?_, h0⟩
  · unfold x_X6_number
    exact congrArg some h.2.1.1.2.2.2.1
  · unfold x_X7_number
    rw [bnd_eq, if_pos zc12, zx12]
    rfl
theorem X2_placeOf {N : Nat} {μ : Mm} {r : Nat → Int} {c : Nat} (h : V N r) (hM : MR μ r) (hc : c < 52) : x_X2_placeOf μ (c : Int) = some (r (119 + c)) := by
  obtain ⟨t, p, v1, v2, v3, v4, -⟩ := V_pile h
  obtain ⟨w, w3, w2⟩ := h.2.2.2.1 c hc
  obtain ⟨⟨m0, m1, m2, m3, m4, m5, m6, m7, m8, m9, m10, m11, m12⟩, -, md, mp, mh⟩ := hM
  have b2 : ∀ q : Nat, q < 2 → x_X2_placeOf_b2 μ (c : Int) (q : Int) = if r (119 + c) = (q : Int) then some (.inr (.inl (q : Int))) else some (.inl ((q : Int) + 1)) := fun q hq => by
    unfold x_X2_placeOf_b2
    rw [if_neg (nle_l (by omega) (by omega)), if_pos (zin_i (by omega) (by omega) (by omega)), zix_nat (n := q) (by omega), X6_has _ hc, Option.bind_some, (mh q hq).2 c hc]
    by_cases e : r (119 + c) = (q : Int)
    · rw [decide_eq_true e, if_pos e]; rfl
    · rw [decide_eq_false e, if_neg e]; rfl
  have h0 := b2 0 (by omega)
  have h1 := b2 1 (by omega)
  unfold x_X2_placeOf
  by_cases e0 : r (119 + c) = 0
  · rw [if_pos (by rw [e0]; rfl)] at h0
    have h0 : x_X2_placeOf_b2 μ (c : Int) 0 = some (.inr (.inl 0)) := h0
    rw [lup_inr (f := fun (s6 : Int) => x_X2_placeOf_b2 μ (c : Int) s6) (s := (0 : Int)) h0, Option.bind_some, e0]; rfl
  · rw [if_neg (fun z => e0 (by rw [z]; rfl))] at h0
    have h0 : x_X2_placeOf_b2 μ (c : Int) 0 = some (.inl 1) := h0
    rw [lup_inl (f := fun (s6 : Int) => x_X2_placeOf_b2 μ (c : Int) s6) (s := (0 : Int)) h0]
    by_cases e1 : r (119 + c) = 1
    · rw [if_pos (by rw [e1]; rfl)] at h1
      have h1 : x_X2_placeOf_b2 μ (c : Int) 1 = some (.inr (.inl 1)) := h1
      rw [lup_inr (f := fun (s6 : Int) => x_X2_placeOf_b2 μ (c : Int) s6) (s := (1 : Int)) h1, Option.bind_some, e1]; rfl
    · rw [if_neg (fun z => e1 (by rw [z]; rfl))] at h1
      have h1 : x_X2_placeOf_b2 μ (c : Int) 1 = some (.inl 2) := h1
      have h2 : x_X2_placeOf_b2 μ (c : Int) 2 = some (.inr (.inr ())) := by
        unfold x_X2_placeOf_b2
        rw [if_pos (by decide)]
      rw [lup_inl (f := fun (s6 : Int) => x_X2_placeOf_b2 μ (c : Int) s6) (s := (1 : Int)) h1, lup_inr (f := fun (s6 : Int) => x_X2_placeOf_b2 μ (c : Int) s6) (s := (2 : Int)) h2, Option.bind_some, zel_inr]
      obtain ⟨e9, k1, k2⟩ := lup_ind (f := fun (s14 : Int) => x_X2_placeOf_b30 μ (c : Int) s14) (fun i s => s = (i : Int) ∧ i ≤ p ∧ ∀ j, j < i → r (67 + j) ≠ (c : Int)) (fun e => (e = .inl () ∧ r (119 + c) = 2) ∨ (e = .inr () ∧ r (119 + c) = 3)) p (fun i s hs => by
        obtain ⟨z1, z2, z3⟩ := hs
        subst z1
        show (∃ s', x_X2_placeOf_b30 μ (c : Int) (i : Int) = _ ∧ _) ∨ (∃ e, x_X2_placeOf_b30 μ (c : Int) (i : Int) = _ ∧ _)
        unfold x_X2_placeOf_b30
        by_cases q : i = p
        · right
          refine ⟨.inr (), ?_, .inr ⟨rfl, ?_⟩⟩
          · rw [m12, v3, q, if_pos (Int.le_refl _)]
          · have : r (119 + c) ≠ 2 := fun z => by
              obtain ⟨j, j1, j2⟩ := w2.mp z
              exact z3 j (by omega) j2
            rcases w with w | w | w | w
            · exact absurd w e0
            · exact absurd w e1
            · exact absurd w this
            · exact w
        · have hcmp : r (67 + i) = (c : Int) ↔ zw (r (67 + i)) = zw (c : Int) := by
            obtain ⟨d, d1, d2⟩ := h.2.2.1.1 i (by omega)
            rw [d2, zwn (by omega), zwn (by omega)]
          rw [m12, v3, if_neg (nle_n (by omega) (by omega)), if_neg (nle_l (by omega) (by omega)), if_pos (zin_i (by omega) (by omega) (by omega)), zix_nat (n := i) (by omega), mp i (by omega)]
          by_cases q2 : r (67 + i) = (c : Int)
          · right
            refine ⟨.inl (), ?_, .inl ⟨rfl, w2.mpr ⟨i, by omega, q2⟩⟩⟩
            rw [if_neg (fun z => z (hcmp.mp q2))]
          · left
            refine ⟨(i : Int) + 1, ?_, by omega, by omega, by omega, fun j hj => ?_⟩
            · rw [if_pos (fun z => q2 (hcmp.mpr z)), bnd_eq]
            · by_cases q3 : j = i
              · rw [q3]; exact q2
              · exact z3 j (by omega)) (s := 0) 0 ⟨rfl, by omega, fun j hj => by omega⟩
      rw [k1, Option.bind_some]
      rcases k2 with ⟨k2, k3⟩ | ⟨k2, k3⟩
      · rw [k2, k3]; rfl
      · rw [k2, k3]; rfl
theorem c_where {N : Nat} {c m : Mm} (h : REL N c m) {a : Int} (ha : zw a = a) : OK3 N [(0, 1)] c (x_X6_where c a) (x_X7_where m a) := by
  have h0 := REL_eq h (CE_r c) (ME_0 m 0)
  unfold x_X6_where x_X7_where
  rw [bnd_eq]
  by_cases e : 0 ≤ a ∧ a ≤ 51
  · obtain ⟨k, hk⟩ : ∃ k : Nat, a = (k : Int) := ⟨a.toNat, by omega⟩
    subst hk
    rw [wi_ok (l := 0) (h := 51) (by decide) (by decide) ha e, Option.bind_some, req_1, Option.bind_some, bad_ok (l := 0) (h := 51) (by decide) (by decide) ha e, Option.bind_some, un2_mk, if_pos d00]
    show OK3 N _ c (inlO _) _
    rw [X2_placeOf h0.1 (R_now h0) (by omega), show (119 : Int) + (k : Int) = ((119 + k : Nat) : Int) by omega, if_pos (zin_i (by omega) (by omega) (by omega)), zix_nat (n := 119 + k) (by omega)]
    exact .inl ⟨_, _, rfl, rfl, rfl, h0⟩
  · rw [wi_no (l := 0) (h := 51) (by decide) (by decide) ha e, Option.bind_some, req_0, Option.bind_some, bad_no (l := 0) (h := 51) (by decide) (by decide) ha e, Option.bind_some, un2_mk, if_neg d10]
    exact .inr ⟨0, 1, _, _, .head _, rfl, rfl, rfl, REL_eq h0 (CE_r c) (ME_0 _ 1)⟩
theorem pl_ok {a : Int} (ha : zw a = a) (e : 0 ≤ a ∧ a ≤ 1) : x_X6_isPlayer a = some 1 := by
  unfold x_X6_isPlayer
  rw [ha, if_neg (by omega), if_neg (by rw [zw_eq (x := (2 : Int)) (by omega) (by omega)]; omega)]
theorem pl_no {a : Int} (ha : zw a = a) (e : ¬ (0 ≤ a ∧ a ≤ 1)) : x_X6_isPlayer a = some 0 := by
  unfold x_X6_isPlayer
  rw [ha]
  by_cases w : a < 0
  · rw [if_pos w]
  · rw [if_neg w, if_pos (by rw [zw_eq (x := (2 : Int)) (by omega) (by omega)]; omega)]
theorem np_ok {σ : Mm} {a : Int} (ha : zw a = a) (e : 0 ≤ a ∧ a ≤ 1) : x_X7_noPlayer σ a = some (σ, 0) := by
  unfold x_X7_noPlayer
  rw [bad_ok (l := 0) (h := 1) (by decide) (by decide) ha e, Option.bind_some, un2_mk, if_pos (.inl d00)]
theorem np_no {σ : Mm} {a : Int} (ha : zw a = a) (e : ¬ (0 ≤ a ∧ a ≤ 1)) : x_X7_noPlayer σ a = some (zu σ 0 0 1, 1) := by
  unfold x_X7_noPlayer
  rw [bad_no (l := 0) (h := 1) (by decide) (by decide) ha e, Option.bind_some, un2_mk, if_pos (.inr (by decide))]
/-- a player's hand on both sides -/
theorem R_hand {N : Nat} {c m : Mm} (h : REL N c m) {p : Nat} (hp : p < 2) : ∃ P : Int64, x_X2_handOf (zb zl_47 c) (p : Int) = some P ∧ hnd m (p : Int) P ∧ cnt (bs P) 64 ≤ 11 ∧ ((cnt (bs P) 64 : Nat) : Int) = m 1 0 + (if m 1 4 = (p : Int) ∧ m 1 5 = 1 then 1 else 0) := by
  obtain ⟨q1, q2, q3, q4⟩ := hnd_of h.1 (R_now h) hp
  exact ⟨_, X2_handOf _ hp, ⟨q1, q2⟩, q4, q3⟩
theorem pl_nat {a : Int} (e : 0 ≤ a ∧ a ≤ 1) : ∃ p : Nat, p < 2 ∧ a = (p : Int) := ⟨a.toNat, by omega, by omega⟩
theorem c_card {N : Nat} {c m : Mm} (h : REL N c m) {a b : Int} (ha : zw a = a) (hb : zw b = b) : OK3 N [(0, 1)] c (x_X6_card c a b) (x_X7_card m a b) := by
  have h0 := REL_eq h (CE_r c) (ME_0 m 0)
  unfold x_X6_card x_X7_card
  rw [bnd_eq]
  by_cases e : 0 ≤ a ∧ a ≤ 1
  · rw [pl_ok ha e, Option.bind_some, req_1, Option.bind_some, np_ok ha e, Option.bind_some, un2_mk, if_pos d00]
    show OK3 N _ c (inlO _) _
    obtain ⟨p, hp, hap⟩ := pl_nat e
    subst hap
    obtain ⟨P, p1, p2, p3, -⟩ := R_hand h0 hp
    obtain ⟨σ4, H, t1, ⟨hD, hO, hn, hP⟩, t3⟩ := X7_takeHand (zu m 0 0 0) (p : Int) (-1) (-1) p2.1 p3 (sel_1 p2)
    have hR : REL N c σ4 := REL_eq h0 (CE_r c) (ME_SK (SK_of t3))
    have h00 : σ4 0 0 = 0 := by rw [t3.2 0 (by omega)]; rfl
    rw [p1, Option.bind_some, t1, Option.bind_some, hD.1]
    generalize hnn : cnt (bs P) 64 = n at *
    by_cases w : b < 0
    · have w' : zw b < 0 := by rw [hb]; exact w
      rw [if_pos w', if_pos w']
      exact .inl ⟨_, _, rfl, rfl, h00, hR⟩
    · have w' : ¬ zw b < 0 := by rw [hb]; exact w
      rw [if_neg w', if_neg w', bitCount_eq, Option.bind_some, hnn]
      obtain ⟨k, hk⟩ : ∃ k : Nat, b = (k : Int) := ⟨b.toNat, by omega⟩
      subst hk
      have hk2 : k < 2147483648 := by
        have := zw_rng (k : Int)
        omega
      by_cases v : k < n
      · have v' : zw (k : Int) < zw (n : Int) := by rw [zwn hk2, zwn (by omega)]; omega
        rw [if_pos v', if_pos v']
        obtain ⟨x, k1, k2⟩ := lup_for (f := fun (s8 : Int64 × Int) => x_X6_card_b33 c (k : Int) s8.1 s8.2) (fun i s => s.2 = (i : Int) ∧ ∀ d, bs s.1 d = true ↔ ∃ j, i ≤ j ∧ j < n ∧ H j = d) (fun e => ∀ d, bs e d = true ↔ ∃ j, k ≤ j ∧ j < n ∧ H j = d) k (fun i s hi hs => by
          obtain ⟨x, u⟩ := s
          obtain ⟨z1, z2⟩ := hs
          simp only at z1 z2
          subst z1
          have hl : isLow x (H i) := by
            refine ⟨(z2 _).mpr ⟨i, Nat.le_refl i, by omega, rfl⟩, fun d hd => ?_⟩
            cases q : bs x d
            · rfl
            · obtain ⟨j, j1, j2, j3⟩ := (z2 d).mp q
              by_cases w : j = i
              · rw [w] at j3; omega
              · have := hO.2.2 i j (by omega) j2
                omega
          refine ⟨(x &&& (x - 1), (i : Int) + 1), ?_, by show (i : Int) + 1 = _; omega, fun d => ?_⟩
          · show x_X6_card_b33 c (k : Int) x (i : Int) = _
            unfold x_X6_card_b33
            rw [if_neg (nle_n (by omega) (by omega)), if_neg (nle_l (by omega) (by omega)), bnd_eq, bnd_eq]
          · show bs (x &&& (x - 1)) d = true ↔ _
            rw [bs_clr hl, Bool.and_eq_true, decide_eq_true_eq, z2 d]
            constructor
            · rintro ⟨⟨j, j1, j2, j3⟩, q⟩
              exact ⟨j, by
                have : j ≠ i := fun z => q (by rw [← j3, z])
                omega, j2, j3⟩
            · rintro ⟨j, j1, j2, j3⟩
              refine ⟨⟨j, by omega, j2, j3⟩, fun q => ?_⟩
              have := hO.2.2 i j (by omega) j2
              omega) (fun s hs => by
          obtain ⟨x, u⟩ := s
          obtain ⟨z1, z2⟩ := hs
          simp only at z1 z2
          subst z1
          refine ⟨x, ?_, z2⟩
          show x_X6_card_b33 c (k : Int) x (k : Int) = _
          unfold x_X6_card_b33
          rw [if_pos (Int.le_refl _)]) (s := (P, 0)) ⟨rfl, fun d => by
            rw [hP d]
            exact ⟨fun ⟨j, j1, j2⟩ => ⟨j, by omega, j1, j2⟩, fun ⟨j, _, j1, j2⟩ => ⟨j, j1, j2⟩⟩⟩
        have hl : isLow x (H k) := by
          refine ⟨(k2 _).mpr ⟨k, Nat.le_refl k, v, rfl⟩, fun d hd => ?_⟩
          cases q : bs x d
          · rfl
          · obtain ⟨j, j1, j2, j3⟩ := (k2 d).mp q
            by_cases w : j = k
            · rw [w] at j3; omega
            · have := hO.2.2 k j (by omega) j2
              omega
        rw [k1, Option.bind_some, X6_lowestOf hl, Option.bind_some, if_pos (zin_i (by omega) (by omega) (by omega)), zix_nat (n := k) (by omega), hD.2 k v]
        exact .inl ⟨_, _, rfl, rfl, h00, hR⟩
      · have v' : ¬ zw (k : Int) < zw (n : Int) := by rw [zwn hk2, zwn (by omega)]; omega
        rw [if_neg v', if_neg v']
        exact .inl ⟨_, _, rfl, rfl, h00, hR⟩
  · rw [pl_no ha e, Option.bind_some, req_0, Option.bind_some, np_no ha e, Option.bind_some, un2_mk, if_neg d10]
    exact .inr ⟨0, 1, _, _, .head _, rfl, rfl, rfl, REL_eq h0 (CE_r c) (ME_0 _ 1)⟩
theorem cw_of {x : Int64} (h : 0 ≤ x.toInt ∧ x.toInt ≤ 4503599627370495) : cw x := by
  have h63 : bs x 63 = false := by
    have : x.toBitVec.msb = false := by
      rw [BitVec.msb_eq_toInt]
      exact decide_eq_false (by have : x.toBitVec.toInt = x.toInt := rfl; omega)
    rw [BitVec.msb_eq_getLsbD_last] at this
    exact this
  have hu := un_63 h63
  exact fun c hc => un_bits.mp (show un x < 2 ^ 52 by omega) c hc
theorem c_kind {N : Nat} {c m : Mm} (h : REL N c m) (x : Int64) : OK3 N [(0, 1)] c (x_X6_kind c x) (x_X7_kind m x) := by
  have h0 := REL_eq h (CE_r c) (ME_0 m 0)
  unfold x_X6_kind x_X7_kind
  rw [bnd_eq, X7_bad _ x 1 (l := 0) (h := 4503599627370495) (by decide) (by decide)]
  have c1 : zw (zcmp x 0) < 0 ↔ x.toInt < 0 := by rw [zcmp_l, Int64.lt_iff_toInt_lt]; exact Iff.rfl
  have c2 : 0 < zw (zcmp x 4503599627370495) ↔ 4503599627370495 < x.toInt := by
    have := zcmp_g x 4503599627370495
    rw [Int64.le_iff_toInt_le, show (4503599627370495 : Int64).toInt = 4503599627370495 by decide] at this
    omega
  by_cases e : 0 ≤ x.toInt ∧ x.toInt ≤ 4503599627370495
  · have hw := cw_of e
    rw [if_neg (fun z => by have := c1.mp z; omega), if_neg (fun z => by have := c2.mp z; omega), if_pos e, req_1, Option.bind_some, Option.bind_some, un2_mk, if_pos d00, X7_kindOf hw, Option.bind_some]
    show OK3 N _ c (inlO _) _
    rw [X6_kindOf hw, Option.bind_some]
    exact .inl ⟨_, _, rfl, rfl, rfl, h0⟩
  · rw [if_neg e, Option.bind_some, un2_mk, if_neg d10]
    refine .inr ⟨0, 1, _, _, .head _, ?_, rfl, rfl, REL_eq h0 (CE_r c) (ME_0 _ 1)⟩
    by_cases w : x.toInt < 0
    · rw [if_pos (c1.mpr w), req_0]; rfl
    · rw [if_neg (fun z => w (c1.mp z)), if_pos (c2.mpr (by omega)), req_0]; rfl
theorem c_byte {N : Nat} {c m : Mm} (h : REL N c m) {a : Int} (ha : zw a = a) : ∃ (m' : Mm) (v : Int), x_X6_reportByte c a = some v ∧ x_X7_reportByte m a = some (m', v) ∧ REL N c m' := by
  have h0 := REL_eq h (CE_r c) (ME_0 m 0)
  obtain ⟨-, -, -, -, -, ⟨L, p1, p2, p3, p4⟩⟩ := id h0
  unfold x_X6_reportByte x_X7_reportByte x_X4_signAt
  have p2' : zb zl_56 c 0 1 = (L : Int) := p2
  rw [bnd_eq, p2', p3]
  by_cases w : zw a < 0
  · rw [if_pos w, if_pos w]
    exact ⟨_, _, rfl, rfl, h0⟩
  · rw [if_neg w, if_neg w]
    rw [ha] at w
    obtain ⟨k, hk⟩ : ∃ k : Nat, a = (k : Int) := ⟨a.toNat, by omega⟩
    subst hk
    have hk2 : k < 2147483648 := by
      have := zw_rng (k : Int)
      omega
    by_cases v : k < L
    · rw [if_neg (nle_n v (by omega)), if_neg (nle_l (by omega) (by omega)), if_pos (zin_i (by omega) (by omega) (by omega)), if_pos (show zw (k : Int) < zw (L : Int) by rw [zwn hk2, zwn (by omega)]; omega), if_pos (zin_i (by omega) (by omega) (by omega)), zix_nat (n := k) (by omega), ← p4 k v]
      exact ⟨_, _, rfl, rfl, h0⟩
    · rw [if_pos (show zw (L : Int) ≤ zw (k : Int) by rw [zwn hk2, zwn (by omega)]; omega), if_neg (show ¬ zw (k : Int) < zw (L : Int) by rw [zwn hk2, zwn (by omega)]; omega)]
      exact ⟨_, _, rfl, rfl, h0⟩
