/-! a text played, on both sides -/
theorem q_43 : ∀ c, c < 101 → zq zl_43 c = if 74 ≤ c ∧ c < 77 then some (c - 74) else if 6 ≤ c ∧ c < 11 then some (3 + (c - 6)) else none := by decide +kernel
theorem q_44 : ∀ c, c < 101 → zq zl_44 c = if 74 ≤ c ∧ c < 77 then some (c - 74) else if 6 ≤ c ∧ c < 11 then some (3 + (c - 6)) else if 84 ≤ c ∧ c < 99 then some (8 + (c - 84)) else none := by decide +kernel
theorem CE_44 {c σ' : Mm} (h : CV (zb zl_44 c) σ') : CE c (zj zl_44 c σ') := ⟨fun i a b h' => by
  rw [zj_q _ _ _ _ (q_44 i b)]
  by_cases e : i = 75
  · subst e
    rw [if_pos (by omega)]
    exact h.1
  · rw [if_neg (by omega), if_neg (by omega), if_neg (by omega)]; rfl, by
  rw [zj_q _ _ _ _ (q_44 74 (by omega)), if_pos (by omega)]
  exact h.2.2 1 (by omega)⟩
theorem CE_43 {c σ' : Mm} (h : CF (zb zl_43 c) σ') : CE c (zj zl_43 c σ') := ⟨fun i a b h' => by
  rw [zj_q _ _ _ _ (q_43 i b)]
  by_cases e : i = 75
  · subst e
    rw [if_pos (by omega)]
    exact h.1 1 (by omega) (by omega) (by omega)
  · rw [if_neg (by omega), if_neg (by omega)]; rfl, by
  rw [zj_q _ _ _ _ (q_43 74 (by omega)), if_pos (by omega)]
  exact h.2 1 (by omega) (by omega)⟩
theorem SY_44 {c σ' m : Mm} {L : Nat} {b : Nat → Nat} {a s t : Nat} (h : SY σ' m L b a s t) : SY (zb zl_44 (zj zl_44 c σ')) m L b a s t := SY_eq h (by
  show zj zl_44 c σ' 75 = _
  rw [zj_q _ _ _ _ (q_44 75 (by omega)), if_pos (by omega)]; rfl) (fun j _ _ => by
  show zj zl_44 c σ' 74 j = _
  rw [zj_q _ _ _ _ (q_44 74 (by omega)), if_pos (by omega)]; rfl) rfl rfl (fun _ _ _ => rfl)
theorem SY_43 {c σ' m : Mm} {L : Nat} {b : Nat → Nat} {a s t : Nat} (h : SY σ' m L b a s t) : SY (zb zl_44 (zj zl_43 c σ')) m L b a s t := SY_eq h (by
  show zj zl_43 c σ' 75 = _
  rw [zj_q _ _ _ _ (q_43 75 (by omega)), if_pos (by omega)]; rfl) (fun j _ _ => by
  show zj zl_43 c σ' 74 j = _
  rw [zj_q _ _ _ _ (q_43 74 (by omega)), if_pos (by omega)]; rfl) rfl rfl (fun _ _ _ => rfl)
theorem MR_44 {c σ' : Mm} {r : Nat → Int} (h : MR (fun k => σ' (3 + k)) r) : MR (fun k => zj zl_44 c σ' (6 + k)) r := MR_cells (fun k hk => by
  show zj zl_44 c σ' (6 + k) = σ' (3 + k)
  rw [zj_q _ _ _ _ (q_44 (6 + k) (by omega)), if_neg (by omega), if_pos (by omega)]
  show σ' (3 + (6 + k - 6)) = _
  rw [Nat.add_sub_cancel_left]) h
theorem MR_43 {c σ' : Mm} {r : Nat → Int} (h : MR (fun k => σ' (3 + k)) r) : MR (fun k => zj zl_43 c σ' (6 + k)) r := MR_cells (fun k hk => by
  show zj zl_43 c σ' (6 + k) = σ' (3 + k)
  rw [zj_q _ _ _ _ (q_43 (6 + k) (by omega)), if_neg (by omega), if_pos (by omega)]
  show σ' (3 + (6 + k - 6)) = _
  rw [Nat.add_sub_cancel_left]) h
theorem kdT0 {t : Nat} (h : t < 5) : zw ((kdT t : Nat) : Int) = 0 ↔ t = 0 := by
  rcases (show t = 0 ∨ t = 1 ∨ t = 2 ∨ t = 3 ∨ t = 4 by omega) with rfl | rfl | rfl | rfl | rfl <;> decide
theorem ld_dead {m : Mm} {E : Nat} (v5 : Int) (h31 : m 0 31 = (E : Int)) (hE : 0 < E ∧ E < 10000) : lup (fun (s26 : Mm) => x_X7_load_b139 v5 s26) m = some m := lup_inr (by
  show x_X7_load_b139 v5 m = _
  unfold x_X7_load_b139
  rw [h31, if_pos (E_ne hE)])
theorem ld_err (c : Mm) {E u : Nat} (hE : 0 < E ∧ E < 10000) : lup (fun (s12 : Mm × Int × Int) => x_X6_load_b14 s12.1 s12.2.1 s12.2.2) (c, (E : Int), (u : Int)) = some (c, (E : Int)) := lup_inr (by
  show x_X6_load_b14 c (E : Int) (u : Int) = _
  unfold x_X6_load_b14
  by_cases w : zw (500 : Int) ≤ zw (u : Int)
  · rw [if_pos w]
  · rw [if_neg w, if_pos (E_ne hE)])
theorem mv_loop {L : Nat} {b : Nat → Nat} (v5 : Int) : ∀ (n u N : Nat) (c m : Mm) (a s t : Nat), u + n = 500 → u ≤ s → N + n < 100000 → SY (zb zl_44 c) m L b a s t → m 0 31 = 0 → V N (m 1) → MR (fun k => c (6 + k)) (m 1) → (∃ c' m', lup (fun (s12 : Mm × Int × Int) => x_X6_load_b14 s12.1 s12.2.1 s12.2.2) (c, 0, (u : Int)) = some (c', 0) ∧ lup (fun (s26 : Mm) => x_X7_load_b139 v5 s26) m = some m' ∧ m' 0 31 = 0 ∧ V (N + n) (m' 1) ∧ MR (fun k => c' (6 + k)) (m' 1) ∧ CE c c' ∧ KM m m') ∨ ∃ (E : Nat) (c' m' : Mm), 0 < E ∧ E < 10000 ∧ lup (fun (s12 : Mm × Int × Int) => x_X6_load_b14 s12.1 s12.2.1 s12.2.2) (c, 0, (u : Int)) = some (c', (E : Int)) ∧ lup (fun (s26 : Mm) => x_X7_load_b139 v5 s26) m = some m' ∧ m' 0 31 = (E : Int) ∧ CE c c' ∧ KM m m' := by
  intro n
  induction n with
  | zero =>
    intro u N c m a s t hu hus hN hS h31 hV hM
    have hL := hS.1.1
    have h1 := hS.2.2.2.2.2.1
    have h2 := hS.2.2.2.2.2.2.1
    have h3 := hS.2.2.2.2.2.2.2.2.2.2.1
    have ht : t = 0 := by
      rcases Nat.eq_zero_or_pos t with w | w
      · exact w
      · have := h3 (by omega)
        omega
    subst ht
    have : u = 500 := by omega
    subst this
    left
    refine ⟨c, m, lup_inr ?_, lup_inr ?_, h31, hV, hM, CE_r c, KM_r m⟩
    · show x_X6_load_b14 c 0 ((500 : Nat) : Int) = _
      unfold x_X6_load_b14
      rw [if_pos (by decide)]
    · show x_X7_load_b139 v5 m = _
      unfold x_X7_load_b139
      rw [h31, if_neg z0n, hS.2.2.2.2.2.2.2.2.2.1, if_pos (by decide)]
  | succ n ih =>
    intro u N c m a s t hu hus hN hS h31 hV hM
    have ht5 := hS.2.2.2.2.2.2.2.1
    have nu : ¬ zw (500 : Int) ≤ zw (u : Int) := by rw [zwn (by omega), zw_eq (x := (500 : Int)) (by omega) (by omega)]; omega
    have e4 : zb zl_41 c 0 4 = (t : Int) := hS.2.2.2.2.2.2.2.2.1
    have e29 : m 0 29 = ((kdT t : Nat) : Int) := hS.2.2.2.2.2.2.2.2.2.1
    by_cases e : t = 0
    · left
      refine ⟨c, m, lup_inr ?_, lup_inr ?_, h31, V_up hV (by omega), hM, CE_r c, KM_r m⟩
      · show x_X6_load_b14 c 0 (u : Int) = _
        unfold x_X6_load_b14 x_X3_isAtEnd
        rw [if_neg nu, if_neg z0n, e4, e, if_neg (show ¬ zw ((0 : Nat) : Int) ≠ 0 from z0n), Option.bind_some, if_pos w1p]
      · show x_X7_load_b139 v5 m = _
        unfold x_X7_load_b139
        rw [h31, if_neg z0n, e29, if_pos ((kdT0 ht5).mpr e)]
    · have hM' : MR (fun k => zb zl_44 c (3 + k)) (m 1) := MR_cells (fun k hk => by
        rcases (show k = 0 ∨ k = 1 ∨ k = 2 ∨ k = 3 ∨ k = 4 by omega) with rfl | rfl | rfl | rfl | rfl <;> rfl) hM
      have hcl : x_X6_load_b14 c 0 (u : Int) = (x_X3_readMove (zb zl_44 c)).bind fun o => un2 o fun σ5 v6 => bnd (zj zl_44 c σ5) fun σ7 => bnd ((u : Int) + 1) fun v8 => some (.inl (σ7, v6, v8)) := by
        unfold x_X6_load_b14 x_X3_isAtEnd
        rw [if_neg nu, if_neg z0n, e4, if_pos (show zw (t : Int) ≠ 0 by rw [zwn (by omega)]; omega), Option.bind_some, if_neg z0n]
      have hmo : x_X7_load_b139 v5 m = ((x_X7_move m).bind x_X7_goOn).bind fun σ23 => some (.inl σ23) := by
        unfold x_X7_load_b139
        rw [h31, if_neg z0n, e29, if_neg (fun z => e ((kdT0 ht5).mp z))]
        cases x_X7_move m <;> rfl
      have hu1 : (u : Int) + 1 = ((u + 1 : Nat) : Int) := by omega
      rcases move_both (N := N) (by omega) hS h31 hV hM' with ⟨σ', m', a', s', t', q1, q2, q3, q4, q5, q6, q7, q8, q9⟩ | ⟨E, σ', m', q1, q2, q3, q4, q5, q6, q7⟩
      · rw [q1, Option.bind_some, un2_mk, bnd_eq, bnd_eq, hu1] at hcl
        rw [q2, Option.bind_some] at hmo
        rw [lup_inl (f := fun (s12 : Mm × Int × Int) => x_X6_load_b14 s12.1 s12.2.1 s12.2.2) (s := (c, (0 : Int), (u : Int))) hcl, lup_inl (f := fun (s26 : Mm) => x_X7_load_b139 v5 s26) hmo]
        have hCE := CE_44 q8
        rcases ih (u + 1) (N + 1) (zj zl_44 c σ') m' a' s' t' (by omega) (by omega) (by omega) (SY_44 q3) q4 q5 (MR_44 q6) with ⟨c2, m2, y1, y2, y3, y4, y5, y6, y7⟩ | ⟨E, c2, m2, y1, y2, y3, y4, y5, y6, y7⟩
        · exact .inl ⟨c2, m2, y1, y2, y3, V_up y4 (by omega), y5, CE_t hCE y6, KM_t q9 y7⟩
        · exact .inr ⟨E, c2, m2, y1, y2, y3, y4, y5, CE_t hCE y6, KM_t q9 y7⟩
      · right
        rw [q3, Option.bind_some, un2_mk, bnd_eq, bnd_eq, hu1] at hcl
        rw [q4, Option.bind_some] at hmo
        rw [lup_inl (f := fun (s12 : Mm × Int × Int) => x_X6_load_b14 s12.1 s12.2.1 s12.2.2) (s := (c, (0 : Int), (u : Int))) hcl, lup_inl (f := fun (s26 : Mm) => x_X7_load_b139 v5 s26) hmo]
        exact ⟨E, _, m', q1, q2, ld_err _ ⟨q1, q2⟩, ld_dead v5 q5 ⟨q1, q2⟩, q5, CE_44 q6, q7⟩
/-- the text is empty again -/
theorem REL_txt {N M : Nat} {c c' m m' : Mm} (h : REL N c m) (hV : V M (m' 1)) (hM : MR (fun i => c' (1 + i)) (m' 1)) (hH : HRel M (fun i => c' (11 + i)) m') (hNM : N ≤ M) (hc : ∀ i, 63 ≤ i → i < 101 → (i < 74 ∨ 99 ≤ i) → c' i = c i) (hm : ∀ i, 13 ≤ i → i < 20 → i ≠ 17 → i ≠ 18 → m' i = m i) (hm10 : m' 0 10 = m 0 10) (ht : c' 74 1 = 0) (ht8 : m' 0 8 = 0) : REL M c' m' := by
  obtain ⟨h1, h2, h3, h4, -, ⟨P, p1, p2, p3, p4⟩⟩ := h
  refine ⟨hV, hM, hH, SRel_eq (fun i a b => hc i (by omega) (by omega) (by omega)) (fun i a b => hm i (by omega) (by omega) (by omega) (by omega)) (SRel_up h4 hNM), ⟨0, by omega, ht, ht8, fun i hi => by omega⟩, ⟨P, p1, ?_, hm10.trans p3, fun i hi => ?_⟩⟩
  · rw [hc 99 (by omega) (by omega) (by omega)]; exact p2
  · rw [hc 100 (by omega) (by omega) (by omega), hm 19 (by omega) (by omega) (by omega) (by omega)]; exact p4 i hi
theorem c_load {N M : Nat} {c m : Mm} (h : REL N c m) (hNM : N ≤ M) (h5 : 500 ≤ M) : OK1 M (x_X6_load c) (x_X7_load m) := by
  -- the text's bytes
  obtain ⟨L, l1, l2, l3, l4⟩ := h.2.2.2.2.1
  have hT0 : TB (zb zl_43 c) m L (fun i => (m 18 i).toNat) := ⟨l1, l2, l3, fun i hi => by
    obtain ⟨b, b1, b2, b3⟩ := l4 i hi
    have : (m 18 i).toNat = b := by rw [b2]; rfl
    show (m 18 i).toNat < 256 ∧ m 18 i = ((m 18 i).toNat : Int) ∧ zand (c 75 i) 255 = ((m 18 i).toNat : Int)
    rw [this]
    exact ⟨b1, b2, b3⟩⟩
  -- the model's copy of the match
  obtain ⟨m1, a1, a2, a3⟩ := X7_copy2 (zu m 0 0 0) (a := 1) (b := 17) (by omega)
  have hld : x_X7_load m = hd0 (zu (zu (zj [1, 17] (zu m 0 0 0) m1) 0 27 0) 0 31 0) := by
    unfold x_X7_load
    rw [bnd_eq]
    have a1' : x_X7_copy (zb zl_68 (zu m 0 0 0)) = some m1 := a1
    rw [a1', Option.bind_some, bnd_eq, bnd_eq, bnd_eq]
    rfl
  rw [hld]
  have e5 : ∀ k, k ≠ 0 → k ≠ 17 → zu (zu (zj [1, 17] (zu m 0 0 0) m1) 0 27 0) 0 31 0 k = m k := fun k h0 h17 => by
    have : zj [1, 17] (zu m 0 0 0) m1 k = zu m 0 0 0 k := a2 k h17
    unfold zu at this ⊢
    rw [if_neg h0, if_neg h0, this, if_neg h0]
  have e17 : ∀ j, j < 171 → zu (zu (zj [1, 17] (zu m 0 0 0) m1) 0 27 0) 0 31 0 17 j = m 1 j := fun j hj => by
    have : zj [1, 17] (zu m 0 0 0) m1 17 j = zu m 0 0 0 1 j := a3 j hj
    unfold zu at this ⊢
    rw [if_neg (by omega), if_neg (by omega), this, if_neg (by omega)]
  have e0 : ∀ j, j ≠ 0 → j ≠ 27 → j ≠ 31 → zu (zu (zj [1, 17] (zu m 0 0 0) m1) 0 27 0) 0 31 0 0 j = m 0 j := fun j h0 h27 h31 => by
    rw [zu_miss _ _ _ _ (fun _ => h31), zu_miss _ _ _ _ (fun _ => h27), a2 0 (by omega), zu_miss _ _ _ _ (fun _ => h0)]
  have e27 : zu (zu (zj [1, 17] (zu m 0 0 0) m1) 0 27 0) 0 31 0 0 27 = 0 := by rw [zu_miss _ _ _ _ (fun _ => by omega), zu_hit]
  have e31 : zu (zu (zj [1, 17] (zu m 0 0 0) m1) 0 27 0) 0 31 0 0 31 = 0 := zu_hit _ _ _ _
  generalize zu (zu (zj [1, 17] (zu m 0 0 0) m1) 0 27 0) 0 31 0 = m5 at *
  have hT : TB (zb zl_43 c) m5 L (fun i => (m 18 i).toNat) := ⟨hT0.1, hT0.2.1, (e0 8 (by omega) (by omega) (by omega)).trans hT0.2.2.1, fun i hi => by
    rw [e5 18 (by omega) (by omega)]
    exact hT0.2.2.2 i hi⟩
  -- what stays, from the model's m5 on
  have hK : ∀ m', KM m5 m' ∨ MFD m5 m' ∨ (∃ mm, MFD m5 mm ∧ KM mm m') → (∀ k, 2 ≤ k → k < 20 → m' k = m5 k) ∧ ∀ j, j < 12 → m' 0 j = m5 0 j := fun m' hh => by
    rcases hh with hh | hh | ⟨mm, h1, h2⟩
    · exact ⟨fun k k1 k2 => hh.1 k (by omega) (by omega) (by omega), fun j hj => hh.2 j (by omega)⟩
    · exact ⟨fun k k1 k2 => hh.1 k (by omega) (by omega) (by omega), fun j hj => hh.2 j (by omega)⟩
    · exact ⟨fun k k1 k2 => (h2.1 k (by omega) (by omega) (by omega)).trans (h1.1 k (by omega) (by omega) (by omega)), fun j hj => (h2.2 j (by omega)).trans (h1.2 j (by omega))⟩
  -- a fault
  have bad : ∀ (E : Nat) (c1 m' : Mm) (v : Int), 0 < E → E < 10000 → CE c c1 → m' 0 31 = (E : Int) → ((∀ k, 2 ≤ k → k < 20 → m' k = m5 k) ∧ ∀ j, j < 12 → m' 0 j = m5 0 j) → OK1 M ((x_X3_shorten (zb zl_41 c1) (0 : Int)).bind fun σ16 => bnd (zj zl_41 c1 σ16) fun σ17 => (if zw (E : Int) = 0 then (x_X0_push (zb zl_45 σ17)).bind fun σ18 => bnd (zj zl_45 σ17 σ18) fun σ19 => (x_X2_copyFrom (zb zl_46 σ19)).bind fun σ20 => bnd (zj zl_46 σ19 σ20) fun σ21 => some (σ21, (σ21 1 0)) else some (σ17, ((-30 : Int) - (E : Int))))) (x_X7_load_j164 m' v) := fun E c1 m' v E1 E2 hCE h31 hm' => by
    have hE : 0 < E ∧ E < 10000 := ⟨E1, E2⟩
    obtain ⟨m8, b1, b2, b3⟩ := X7_copy2 (zu m' 0 8 0) (a := 17) (b := 1) (by omega)
    have b1' : x_X7_copy (zb zl_69 (zu m' 0 8 0)) = some m8 := b1
    have g31 : zu m' 0 8 0 0 31 = (E : Int) := by rw [zu_miss _ _ _ _ (fun _ => by omega)]; exact h31
    unfold x_X7_load_j164 x_X3_shorten
    rw [bnd_eq, Option.bind_some, bnd_eq, if_neg (E_ne hE), bnd_eq, g31, if_neg (E_ne hE), b1', Option.bind_some, bnd_eq]
    have d0 : ∀ j, j ≠ 8 → zj [17, 1] (zu m' 0 8 0) m8 0 j = m' 0 j := fun j hj => by rw [b2 0 (by omega), zu_miss _ _ _ _ (fun _ => hj)]
    have d8 : zj [17, 1] (zu m' 0 8 0) m8 0 8 = 0 := by rw [b2 0 (by omega), zu_hit]
    have dk : ∀ k, k ≠ 0 → k ≠ 1 → zj [17, 1] (zu m' 0 8 0) m8 k = m' k := fun k h0 h1 => by
      rw [b2 k h1]; unfold zu; rw [if_neg h0]
    have d1 : ∀ j, j < 171 → zj [17, 1] (zu m' 0 8 0) m8 1 j = m 1 j := fun j hj => by
      rw [b3 j hj, ← e17 j hj, ← hm'.1 17 (by omega) (by omega)]; rfl
    have q31 : zj zl_69 (zu m' 0 8 0) m8 0 31 = (E : Int) := (d0 31 (by omega)).trans h31
    rw [q31]
    have cw1 : ∀ i, i < 101 → i ≠ 74 → zj zl_41 c1 (zu (zb zl_41 c1) 0 1 0) i = c1 i := fun i hi h74 => by
      rw [zj_q _ _ _ _ (q_41 i hi)]
      by_cases w : 74 ≤ i ∧ i < 77
      · rw [if_pos w]
        show zu (zb zl_41 c1) 0 1 0 (i - 74) = _
        unfold zu
        rw [if_neg (by omega)]
        rcases (show i = 75 ∨ i = 76 by omega) with rfl | rfl <;> rfl
      · rw [if_neg w]; rfl
    have c74 : zj zl_41 c1 (zu (zb zl_41 c1) 0 1 0) 74 1 = 0 := by
      rw [zj_q _ _ _ _ (q_41 74 (by omega)), if_pos (by omega)]
      exact zu_hit _ _ _ _
    have cc : ∀ i, 1 ≤ i → i < 101 → (i < 6 ∨ (11 ≤ i ∧ i < 74) ∨ 99 ≤ i) → zj zl_41 c1 (zu (zb zl_41 c1) 0 1 0) i = c i := fun i i1 i2 i3 => by
      rw [cw1 i i2 (by omega), hCE.1 i i1 i2 (by omega)]
    refine ⟨_, _, _, rfl, rfl, ?_⟩
    refine REL_txt h (V_eq d1 (V_up h.1 (by omega))) (MR_cells (fun i hi => cc (1 + i) (by omega) (by omega) (by omega)) (MR_eq d1 h.1 h.2.1)) (HRel_eq (fun i hi => cc (11 + i) (by omega) (by omega) (by omega)) ?_ (fun i i1 i2 => ?_) (HRel_up h.2.2.1 (by omega))) (by omega) (fun i i1 i2 i3 => cc i (by omega) i2 (by omega)) (fun i i1 i2 i3 i4 => ?_) ?_ c74 d8
    · exact (d0 3 (by omega)).trans ((hm'.2 3 (by omega)).trans (e0 3 (by omega) (by omega) (by omega)))
    · exact (dk i (by omega) (by omega)).trans ((hm'.1 i (by omega) (by omega)).trans (e5 i (by omega) (by omega)))
    · exact (dk i (by omega) (by omega)).trans ((hm'.1 i (by omega) (by omega)).trans (e5 i (by omega) (by omega)))
    · exact (d0 10 (by omega)).trans ((hm'.2 10 (by omega)).trans (e0 10 (by omega) (by omega) (by omega)))
  unfold x_X6_load
  rcases deal_both (N := 0) hT e27 e31 with ⟨σ', m', a, s, t, q1, q2, q3, q4, q5, q6, q7, q8⟩ | ⟨E, σ', m', v, q1, q2, q3, q4, q5, q6, q7⟩
  · rw [q1, q2, Option.bind_some, un2_mk, bnd_eq]
    unfold x_X7_load_j139
    rcases mv_loop (1 : Int) 500 0 0 (zj zl_43 c σ') m' a s t (by omega) (by omega) (by omega) (SY_43 q3) q4 q5 (MR_43 q6) with ⟨c2, m2, y1, y2, y3, y4, y5, y6, y7⟩ | ⟨E, c2, m2, y1, y2, y3, y4, y5, y6, y7⟩
    · have y1' : lup (fun (s12 : Mm × Int × Int) => x_X6_load_b14 s12.1 s12.2.1 s12.2.2) (zj zl_43 c σ', (0 : Int), (0 : Int)) = some (c2, 0) := y1
      rw [y1', y2, Option.bind_some, Option.bind_some, un2_mk]
      have hCE := CE_t (CE_43 q7) y6
      obtain ⟨k1, k2⟩ := hK m2 (.inr (.inr ⟨m', q8, y7⟩))
      unfold x_X3_shorten x_X7_load_j164
      rw [bnd_eq, Option.bind_some, bnd_eq, if_pos d00, bnd_eq]
      have g31 : zu m2 0 8 0 0 31 = 0 := by rw [zu_miss _ _ _ _ (fun _ => by omega)]; exact y3
      have cw1 : ∀ i, i < 101 → i ≠ 74 → zj zl_41 c2 (zu (zb zl_41 c2) 0 1 0) i = c2 i := fun i hi h74 => by
        rw [zj_q _ _ _ _ (q_41 i hi)]
        by_cases w : 74 ≤ i ∧ i < 77
        · rw [if_pos w]
          show zu (zb zl_41 c2) 0 1 0 (i - 74) = _
          unfold zu
          rw [if_neg (by omega)]
          rcases (show i = 75 ∨ i = 76 by omega) with rfl | rfl <;> rfl
        · rw [if_neg w]; rfl
      have c74 : zj zl_41 c2 (zu (zb zl_41 c2) 0 1 0) 74 1 = 0 := by
        rw [zj_q _ _ _ _ (q_41 74 (by omega)), if_pos (by omega)]
        exact zu_hit _ _ _ _
      have cc : ∀ i, 1 ≤ i → i < 101 → (i < 6 ∨ (11 ≤ i ∧ i < 74) ∨ 99 ≤ i) → zj zl_41 c2 (zu (zb zl_41 c2) 0 1 0) i = c i := fun i i1 i2 i3 => by
        rw [cw1 i i2 (by omega), hCE.1 i i1 i2 (by omega)]
      have c6 : MR (fun k => zj zl_41 c2 (zu (zb zl_41 c2) 0 1 0) (6 + k)) (m2 1) := MR_cells (fun k hk => cw1 (6 + k) (by omega) (by omega)) y5
      generalize zj zl_41 c2 (zu (zb zl_41 c2) 0 1 0) = c3 at cw1 c74 cc c6 ⊢
      -- the model's memory before it keeps the past
      have f0 : ∀ j, j ≠ 8 → zu m2 0 8 0 0 j = m2 0 j := fun j hj => zu_miss _ _ _ _ (fun _ => hj)
      have f8 : zu m2 0 8 0 0 8 = 0 := zu_hit _ _ _ _
      have fk : ∀ k, k ≠ 0 → zu m2 0 8 0 k = m2 k := fun k h0 => by unfold zu; rw [if_neg h0]
      generalize zu m2 0 8 0 = m9 at g31 f0 f8 fk ⊢
      have f17 : ∀ j, j < 171 → m9 17 j = m 1 j := fun j hj => by rw [fk 17 (by omega), k1 17 (by omega) (by omega), e17 j hj]
      have hH9 : HRel N (zb zl_45 c3) m9 := HRel_eq (fun i hi => by
        rw [b45 c3 i (by omega), if_pos hi]
        exact cc (11 + i) (by omega) (by omega) (by omega)) ((f0 3 (by omega)).trans ((k2 3 (by omega)).trans (e0 3 (by omega) (by omega) (by omega)))) (fun i i1 i2 => (fk i (by omega)).trans ((k1 i (by omega) (by omega)).trans (e5 i (by omega) (by omega)))) h.2.2.1
      obtain ⟨σ2, m10, x1, x2, x3, x4, x5, x6⟩ := hist_push X7_keepPast_b (.inr rfl) hH9 (V_eq f17 h.1) (MR_cells (fun i hi => by
        show zb zl_45 c3 (52 + i) = _
        rw [b45 c3 _ (by omega), if_neg (by omega), show 52 + i - 52 = i by omega]
        exact cc (1 + i) (by omega) (by omega) (by omega)) (MR_eq f17 h.1 h.2.1))
      have g1 : m10 1 = m2 1 := (x6 1 (by omega) (by omega) (by omega)).trans (fk 1 (by omega))
      rw [x1, Option.bind_some, bnd_eq, g31, if_pos d00, x2, Option.bind_some, if_neg w0n, if_pos zc0, zx0]
      -- the class's history, and the match now
      have c10 : ∀ i, i < 101 → ¬ (11 ≤ i ∧ i < 63) → ¬ (1 ≤ i ∧ i < 6) → zj zl_45 c3 σ2 i = c3 i := fun i hi h1 h2 => by
        rw [zj_q _ _ _ _ (q_45 i hi), if_neg h1, if_neg h2]; rfl
      have c11 : ∀ i, i < 52 → zj zl_45 c3 σ2 (11 + i) = σ2 i := fun i hi => by
        rw [zj_q _ _ _ _ (q_45 _ (by omega)), if_pos (by omega)]
        show σ2 (11 + i - 11) = _
        rw [show 11 + i - 11 = i by omega]
      generalize zj zl_45 c3 σ2 = c4 at c10 c11 ⊢
      obtain ⟨σ3, z1, z2, z3⟩ := copy_cells (σ := c4) (b := 1) (d := 6) (r := m2 1) (.inl (by omega)) y4 (MR_cells (fun k hk => c10 (6 + k) (by omega) (by omega) (by omega)) c6)
      have z1' : x_X2_copyFrom (zb zl_46 c4) = some σ3 := z1
      rw [z1', Option.bind_some, bnd_eq]
      have z2' : MR (fun k => zj zl_46 c4 σ3 (1 + k)) (m2 1) := z2
      have z3' : ∀ k, ¬ (1 ≤ k ∧ k < 1 + 5) → zj zl_46 c4 σ3 k = c4 k := z3
      generalize zj zl_46 c4 σ3 = c5 at z2' z3' ⊢
      have z2'' : MR (fun k => c5 (1 + k)) (m10 1) := by rw [g1]; exact z2'
      refine ⟨c5, m10, m10 1 0, by rw [← z2''.1.1], rfl, ?_⟩
      refine REL_txt h (by rw [g1]; exact V_up y4 (by omega)) z2'' (HRel_eq (fun i hi => ?_) rfl (fun _ _ _ => rfl) (HRel_up x3 (by omega))) (by omega) (fun i i1 i2 i3 => ?_) (fun i i1 i2 i3 i4 => ?_) ?_ ?_ ?_
      · show c5 (11 + i) = σ2 i
        rw [z3' _ (by omega), c11 i hi]
      · rw [z3' i (by omega), c10 i i2 (by omega) (by omega)]
        exact cc i (by omega) i2 (by omega)
      · exact (x6 i (by omega) (by omega) (by omega)).trans ((fk i (by omega)).trans ((k1 i (by omega) (by omega)).trans (e5 i (by omega) (by omega))))
      · exact (x5 10 (by omega)).trans ((f0 10 (by omega)).trans ((k2 10 (by omega)).trans (e0 10 (by omega) (by omega) (by omega))))
      · rw [z3' 74 (by omega), c10 74 (by omega) (by omega) (by omega)]; exact c74
      · exact (x5 8 (by omega)).trans f8
    · have y3' : lup (fun (s12 : Mm × Int × Int) => x_X6_load_b14 s12.1 s12.2.1 s12.2.2) (zj zl_43 c σ', (0 : Int), (0 : Int)) = some (c2, (E : Int)) := y3
      rw [y3', y4, Option.bind_some, Option.bind_some, un2_mk]
      exact bad E c2 m2 1 y1 y2 (CE_t (CE_43 q7) y6) y5 (hK m2 (.inr (.inr ⟨m', q8, y7⟩)))
  · rw [q3, q4, Option.bind_some, un2_mk, bnd_eq]
    have y3' : lup (fun (s12 : Mm × Int × Int) => x_X6_load_b14 s12.1 s12.2.1 s12.2.2) (zj zl_43 c σ', (E : Int), (0 : Int)) = some (zj zl_43 c σ', (E : Int)) := ld_err (u := 0) _ ⟨q1, q2⟩
    unfold x_X7_load_j139
    rw [y3', ld_dead v q5 ⟨q1, q2⟩, Option.bind_some, Option.bind_some, un2_mk]
    exact bad E _ m' v q1 q2 (CE_43 q6) q5 (hK m' (.inr (.inl q7)))
