/-! words, numbers, semicolons on both sides -/
theorem str_tab : ∀ u, u < 8 → x_zlen u = some ((zsLen.getD u 0 : Nat) : Int) ∧ zsLen.getD u 0 ≤ 70 ∧ ∀ i, i < zsLen.getD u 0 → x_zchr u (i : Int) = some (zsb u i) ∧ 0 ≤ zsb u i ∧ zsb u i < 128 := by decide +kernel
def wmF (b : Nat → Nat) (s u : Nat) : Nat → Nat → Bool
  | 0, _ => true
  | k + 1, i => decide ((b (s + i) : Int) = zsb u i) && wmF b s u k (i + 1)
theorem X3_wordL {σ m : Mm} {L : Nat} {b : Nat → Nat} {a s t u n : Nat} (h : SY σ m L b a s t) (hu : u < 8) (hn : zsLen.getD u 0 = n) (hl : a - s = n) : ∀ (k i : Nat), i + k = n → lup (fun (s8 : Int) => x_X3_isWord_b28 σ u s8) (i : Int) = some (if wmF b s u k i = true then .inr () else .inl ()) := by
  obtain ⟨hT, h2, h27, h3, h28, hsa, haL, ht, h4, h29, hpos, hval⟩ := h
  obtain ⟨w1, w2, w3⟩ := str_tab u hu
  rw [hn] at w1 w2 w3
  intro k
  induction k with
  | zero =>
    intro i hi
    have : i = n := by omega
    subst this
    refine lup_inr ?_
    show x_X3_isWord_b28 σ u (i : Int) = _
    unfold x_X3_isWord_b28
    rw [w1, Option.bind_some, if_pos (Int.le_refl _)]; rfl
  | succ k ih =>
    intro i hi
    obtain ⟨c1, c2, c3⟩ := w3 i (by omega)
    have hb := (hT.2.2.2 (s + i) (by omega)).1
    have hst : x_X3_isWord_b28 σ u (i : Int) = if (b (s + i) : Int) = zsb u i then some (.inl ((i : Int) + 1)) else some (.inr (.inl ())) := by
      unfold x_X3_isWord_b28
      rw [w1, Option.bind_some, if_neg (nle_n (by omega) (by omega)), h3, show (s : Int) + (i : Int) = ((s + i : Nat) : Int) by omega, sgn_at hT (by omega), Option.bind_some, c1, Option.bind_some, zwn (by omega), zw_eq (x := zsb u i) (by omega) (by omega)]
      rfl
    unfold wmF
    by_cases e : (b (s + i) : Int) = zsb u i
    · rw [if_pos e] at hst
      rw [decide_eq_true e, Bool.true_and, lup_inl (f := fun (s8 : Int) => x_X3_isWord_b28 σ u s8) hst, show (i : Int) + 1 = ((i + 1 : Nat) : Int) by omega]
      exact ih (i + 1) (by omega)
    · rw [if_neg e] at hst
      rw [decide_eq_false e, Bool.false_and]
      exact lup_inr (f := fun (s8 : Int) => x_X3_isWord_b28 σ u s8) hst
theorem X7_wordL {σ m : Mm} {L : Nat} {b : Nat → Nat} {a s t u n : Nat} (h : SY σ m L b a s t) (hu : u < 8) (hn : zsLen.getD u 0 = n) (hl : a - s = n) : ∀ (k i : Nat), i + k = n → lup (fun (s9 : Int × Int) => x_X7_isWord_b39 m u s9.1 s9.2) ((1 : Int), (i : Int)) = some (if wmF b s u k i = true then 1 else 0) := by
  obtain ⟨hT, h2, h27, h3, h28, hsa, haL, ht, h4, h29, hpos, hval⟩ := h
  obtain ⟨w1, w2, w3⟩ := str_tab u hu
  rw [hn] at w1 w2 w3
  have hL := hT.1
  intro k
  induction k with
  | zero =>
    intro i hi
    have : i = n := by omega
    subst this
    refine lup_inr ?_
    show x_X7_isWord_b39 m u 1 (i : Int) = _
    unfold x_X7_isWord_b39
    rw [if_neg d10, w1, Option.bind_some, if_pos (Int.le_refl _)]; rfl
  | succ k ih =>
    intro i hi
    obtain ⟨c1, c2, c3⟩ := w3 i (by omega)
    obtain ⟨b1, b2, -⟩ := hT.2.2.2 (s + i) (by omega)
    have hst : x_X7_isWord_b39 m u 1 (i : Int) = if (b (s + i) : Int) = zsb u i then some (.inl (1, (i : Int) + 1)) else some (.inl (0, (i : Int) + 1)) := by
      unfold x_X7_isWord_b39
      rw [if_neg d10, w1, Option.bind_some, if_neg (nle_n (by omega) (by omega)), h28, show (s : Int) + (i : Int) = ((s + i : Nat) : Int) by omega, if_pos (zin_i (by omega) (by omega) (by omega)), zix_nat (n := s + i) (by omega), b2, c1, Option.bind_some, zwn (n := b (s + i)) (by omega), zw_eq (x := zsb u i) (by omega) (by omega)]
      by_cases e : (b (s + i) : Int) = zsb u i
      · rw [if_neg (fun z => z e), if_pos e]; rfl
      · rw [if_pos e, if_neg e]; rfl
    unfold wmF
    by_cases e : (b (s + i) : Int) = zsb u i
    · rw [if_pos e] at hst
      rw [decide_eq_true e, Bool.true_and, lup_inl (f := fun (s9 : Int × Int) => x_X7_isWord_b39 m u s9.1 s9.2) (s := ((1 : Int), (i : Int))) hst, show (i : Int) + 1 = ((i + 1 : Nat) : Int) by omega]
      exact ih (i + 1) (by omega)
    · rw [if_neg e] at hst
      rw [decide_eq_false e, Bool.false_and, lup_inl (f := fun (s9 : Int × Int) => x_X7_isWord_b39 m u s9.1 s9.2) (s := ((1 : Int), (i : Int))) hst]
      refine lup_inr ?_
      show x_X7_isWord_b39 m u 0 _ = _
      unfold x_X7_isWord_b39
      rw [if_pos d00]; rfl
theorem X7_word0 (m : Mm) (u : Nat) : x_X7_isWord_j35 m u = some 0 := by
  unfold x_X7_isWord_j35 x_X7_isWord_j36
  rw [lup_inr (f := fun (s9 : Int × Int) => x_X7_isWord_b39 m u s9.1 s9.2) (s := ((0 : Int), (0 : Int))) (e := 0) (by
    show x_X7_isWord_b39 m u 0 0 = _
    unfold x_X7_isWord_b39
    rw [if_pos d00]), Option.bind_some, if_pos (.inl d00)]
theorem word_both {σ m : Mm} {L : Nat} {b : Nat → Nat} {a s t u : Nat} (h : SY σ m L b a s t) (h31 : m 0 31 = 0) (hu : u < 8) : ∃ w : Int, (w = 0 ∨ w = 1) ∧ x_X3_isWord σ u = some w ∧ x_X7_isWord m u = some w ∧ (w = 1 → t = 1 ∧ a - s = zsLen.getD u 0) := by
  obtain ⟨hT, h2, h27, h3, h28, hsa, haL, ht, h4, h29, hpos, hval⟩ := id h
  have hL := hT.1
  obtain ⟨w1, w2, w3⟩ := str_tab u hu
  unfold x_X3_isWord x_X7_isWord
  rw [h31, if_neg (show ¬ zw (0 : Int) ≠ 0 by decide), h4, h29, zwn (n := t) (by omega), zw_eq (x := (1 : Int)) (by omega) (by omega)]
  by_cases e : t = 1
  · have e3 : kdT t = 3 := by rw [e]; rfl
    rw [if_neg (by omega), e3, if_neg (by decide), w1, Option.bind_some, Option.bind_some, h2, h3, h27, h28, show (a : Int) - (s : Int) = ((a - s : Nat) : Int) by omega, zwn (n := a - s) (by omega), zwn (n := zsLen.getD u 0) (by omega)]
    by_cases e2 : a - s = zsLen.getD u 0
    · rw [if_pos (by omega), if_neg (by omega)]
      have hc := X3_wordL h hu rfl e2 (zsLen.getD u 0) 0 (by omega)
      have hm := X7_wordL h hu rfl e2 (zsLen.getD u 0) 0 (by omega)
      have hc : lup (fun (s8 : Int) => x_X3_isWord_b28 σ u s8) (0 : Int) = _ := hc
      have hm : lup (fun (s9 : Int × Int) => x_X7_isWord_b39 m u s9.1 s9.2) ((1 : Int), (0 : Int)) = _ := hm
      unfold x_X7_isWord_j36
      rw [hc, hm, Option.bind_some, Option.bind_some]
      cases wmF b s u (zsLen.getD u 0) 0
      · exact ⟨0, .inl rfl, rfl, rfl, fun z => by cases z⟩
      · exact ⟨1, .inr rfl, rfl, rfl, fun _ => ⟨e, e2⟩⟩
    · rw [if_neg (by omega), if_pos (by omega), X7_word0]
      exact ⟨0, .inl rfl, rfl, rfl, fun z => by cases z⟩
  · have e3 : zw ((kdT t : Nat) : Int) ≠ zw (3 : Int) := by
      unfold kdT
      by_cases q : t = 3
      · subst q; decide
      · rw [if_neg e, if_neg q, zwn (by omega), zw_eq (x := (3 : Int)) (by omega) (by omega)]; omega
    rw [if_pos (by omega), if_pos e3, X7_word0]
    exact ⟨0, .inl rfl, rfl, rfl, fun z => by cases z⟩
/-- the model's text part but for told cards; the fault too -/
def NE2 (m m' : Mm) : Prop := (∀ c, c ≠ 0 → m' c = m c) ∧ ∀ j, (j < 27 ∨ 32 ≤ j) → m' 0 j = m 0 j
theorem NE2_of {m m' : Mm} (h : NF m m') : NE2 m m' := ⟨h.1, fun j hj => h.2 j (by omega)⟩
theorem NE2_t {σ σ' σ'' : Mm} (h : NE2 σ σ') (h2 : NE2 σ' σ'') : NE2 σ σ'' := ⟨fun c hc => (h2.1 c hc).trans (h.1 c hc), fun j hj => (h2.2 j hj).trans (h.2 j hj)⟩
theorem NE2_r (m : Mm) : NE2 m m := ⟨fun _ _ => rfl, fun _ _ => rfl⟩
theorem NE2_u (m : Mm) (v : Int) : NE2 m (zu m 0 31 v) := ⟨fun c hc => by unfold zu; rw [if_neg hc], fun i hi => zu_miss _ _ _ _ (fun _ => by omega)⟩
theorem SY_eq {σ σ' m m' : Mm} {L : Nat} {b : Nat → Nat} {a s t : Nat} (h : SY σ m L b a s t) (h1 : σ' 1 = σ 1) (h2 : ∀ j, 1 ≤ j → j < 6 → σ' 0 j = σ 0 j) (h3 : m' 18 = m 18) (h4 : m' 0 8 = m 0 8) (h5 : ∀ j, 27 ≤ j → j < 31 → m' 0 j = m 0 j) : SY σ' m' L b a s t := by
  obtain ⟨⟨t1, t2, t3, t4⟩, a2, a27, a3, a28, asa, aaL, at', a4, a29, apos, aval⟩ := h
  refine ⟨⟨t1, (h2 1 (by omega) (by omega)).trans t2, h4.trans t3, fun i hi => by rw [h3, h1]; exact t4 i hi⟩, (h2 2 (by omega) (by omega)).trans a2, (h5 27 (by omega) (by omega)).trans a27, (h2 3 (by omega) (by omega)).trans a3, (h5 28 (by omega) (by omega)).trans a28, asa, aaL, at', (h2 4 (by omega) (by omega)).trans a4, (h5 29 (by omega) (by omega)).trans a29, apos, fun e => ?_⟩
  obtain ⟨v, v1, v2, v3⟩ := aval e
  exact ⟨v, v1, (h2 5 (by omega) (by omega)).trans v2, (h5 30 (by omega) (by omega)).trans v3⟩
/-- the model is one token ahead; the class stands at p -/
def AH (σ m : Mm) (L : Nat) (b : Nat → Nat) (p : Nat) : Prop := m 0 31 = 0 ∧ TB σ m L b ∧ p ≤ L ∧ σ 0 2 = (p : Int) ∧ ∃ (m0 m1 : Mm), TB σ m0 L b ∧ m0 0 27 = (p : Int) ∧ x_X7_scan m0 = some m1 ∧ ∀ j, 27 ≤ j → j < 31 → m 0 j = m1 0 j
theorem AH_x {σ m : Mm} {L : Nat} {b : Nat → Nat} {p : Nat} (h : AH σ m L b p) : ∃ (σ' : Mm) (a s t : Nat), x_X3_advance σ = some σ' ∧ AF σ σ' ∧ SY σ' m L b a s t ∧ p ≤ s := by
  obtain ⟨h31, hT, hp, h2, m0, m1, hT0, h27, hs, hj⟩ := h
  obtain ⟨σ', m', a', s', t', r1, r2, r3, r4, r5, r6⟩ := scan_both hT0 h2 h27 hp
  rw [hs] at r2
  cases r2
  obtain ⟨-, a2, a27, a3, a28, asa, aaL, at', a4, a29, apos, aval⟩ := r3
  refine ⟨σ', a', s', t', r1, r5, ⟨TB_f hT r5 (NF_r m), a2, (hj 27 (by omega) (by omega)).trans a27, a3, (hj 28 (by omega) (by omega)).trans a28, asa, aaL, at', a4, (hj 29 (by omega) (by omega)).trans a29, apos, fun e => ?_⟩, r4⟩
  obtain ⟨v, v1, v2, v3⟩ := aval e
  exact ⟨v, v1, v2, (hj 30 (by omega) (by omega)).trans v3⟩
theorem AH_eq {σ σ' m m' : Mm} {L : Nat} {b : Nat → Nat} {p : Nat} (h : AH σ m L b p) (h1 : σ' 1 = σ 1) (h2 : ∀ j, 1 ≤ j → j < 3 → σ' 0 j = σ 0 j) (h3 : m' 18 = m 18) (h4 : m' 0 8 = m 0 8) (h5 : ∀ j, 27 ≤ j → j < 32 → m' 0 j = m 0 j) : AH σ' m' L b p := by
  obtain ⟨h31, ⟨t1, t2, t3, t4⟩, hp, a2, m0, m1, ⟨-, -, t3', t4'⟩, h27, hs, hj⟩ := h
  have e1 := (h2 1 (by omega) (by omega)).trans t2
  refine ⟨(h5 31 (by omega) (by omega)).trans h31, ⟨t1, e1, h4.trans t3, fun i hi => by rw [h3, h1]; exact t4 i hi⟩, hp, (h2 2 (by omega) (by omega)).trans a2, m0, m1, ⟨t1, e1, t3', fun i hi => by rw [h1]; exact t4' i hi⟩, h27, hs, fun j j1 j2 => (h5 j j1 (by omega)).trans (hj j j1 j2)⟩
theorem SY_AH {σ m : Mm} {L : Nat} {b : Nat → Nat} {a s t : Nat} (h : SY σ m L b a s t) (h31 : m 0 31 = 0) : ∃ m', x_X7_scan m = some m' ∧ AH σ m' L b a ∧ NF m m' := by
  obtain ⟨hT, h2, h27, h3, h28, hsa, haL, ht, h4, h29, hpos, hval⟩ := h
  obtain ⟨σ', m', a', s', t', r1, r2, r3, r4, r5, r6⟩ := scan_both hT h2 h27 haL
  exact ⟨m', r2, ⟨by rw [r6.2 31 (by omega)]; exact h31, TB_f hT (AF_r σ) r6, haL, h2, m, m', hT, h27, r2, fun _ _ _ => rfl⟩, r6⟩
theorem wrong_0 {m : Mm} (h31 : m 0 31 = 0) {s : Nat} (h28 : m 0 28 = (s : Int)) (k : Nat) : x_X7_wrong m (k : Int) = some (zu m 0 31 ((8 * s + k : Nat) : Int)) := by
  unfold x_X7_wrong
  rw [h31, if_neg (show ¬ zw (0 : Int) ≠ 0 by decide), h28, bnd_eq, show (8 : Int) * (s : Int) + (k : Int) = ((8 * s + k : Nat) : Int) by omega]
theorem err_at {σ : Mm} {s : Nat} (h3 : σ 0 3 = (s : Int)) (k : Nat) : x_X3_errorAs σ (k : Int) = some ((8 * s + k : Nat) : Int) := by
  unfold x_X3_errorAs
  rw [h3, show (8 : Int) * (s : Int) + (k : Int) = ((8 * s + k : Nat) : Int) by omega]
/-- a number's check on both sides, at its token -/
theorem num_check {σ m : Mm} {L : Nat} {b : Nat → Nat} {a s t lo hi : Nat} (h : SY σ m L b a s t) (h31 : m 0 31 = 0) (hhi : hi < 2147483648) (hlo : lo ≤ hi) : (∃ v : Nat, lo ≤ v ∧ v ≤ hi ∧ v < 1000000000 ∧ t = 2 ∧ σ 0 5 = (v : Int) ∧ m 0 30 = (v : Int) ∧ (if zw (σ 0 4) ≠ zw (2 : Int) then (x_X3_errorAs σ (1 : Int)).bind fun v2 => some (σ, v2) else (x_X3_rangeError σ (lo : Int) (hi : Int)).bind fun v3 => some (σ, v3)) = some (σ, 0) ∧ x_X3_rangeError σ (lo : Int) (hi : Int) = some 0 ∧ x_X7_bounds m (lo : Int) (hi : Int) = some m) ∨ ∃ E : Nat, 0 < E ∧ E < 10000 ∧ (if zw (σ 0 4) ≠ zw (2 : Int) then (x_X3_errorAs σ (1 : Int)).bind fun v2 => some (σ, v2) else (x_X3_rangeError σ (lo : Int) (hi : Int)).bind fun v3 => some (σ, v3)) = some (σ, (E : Int)) ∧ (t = 2 → x_X3_rangeError σ (lo : Int) (hi : Int) = some (E : Int)) ∧ x_X7_bounds m (lo : Int) (hi : Int) = some (zu m 0 31 (E : Int)) := by
  obtain ⟨hT, h2, h27, h3, h28, hsa, haL, ht, h4, h29, hpos, hval⟩ := h
  have hL := hT.1
  by_cases e : t = 2
  · obtain ⟨v, v1, v2, v3⟩ := hval e
    have e29 : zw (m 0 29) = zw (2 : Int) := by rw [h29, e]; rfl
    have e4 : ¬ zw (σ 0 4) ≠ zw (2 : Int) := by rw [h4, e]; exact fun z => z rfl
    have hb : x_X7_bounds m (lo : Int) (hi : Int) = x_X7_bounds_j23 m (lo : Int) (hi : Int) := by
      unfold x_X7_bounds
      rw [h31, if_neg (show ¬ zw (0 : Int) ≠ 0 by decide), if_pos e29]
    rw [hb]
    unfold x_X7_bounds_j23 x_X3_rangeError
    rw [if_neg e4, h31, if_neg (show ¬ zw (0 : Int) ≠ 0 by decide), v2, v3, zwn (n := v) (by omega), zwn (n := lo) (by omega), zwn (n := hi) (by omega)]
    by_cases c1 : v < lo
    · right
      refine ⟨8 * s + 2, by omega, by omega, ?_, fun _ => ?_, ?_⟩
      · rw [if_pos (by omega), show (2 : Int) = ((2 : Nat) : Int) from rfl, err_at h3]; rfl
      · rw [if_pos (by omega), show (2 : Int) = ((2 : Nat) : Int) from rfl, err_at h3]; rfl
      · rw [if_pos (by omega), show (2 : Int) = ((2 : Nat) : Int) from rfl, wrong_0 h31 h28]; rfl
    · by_cases c2 : v ≤ hi
      · left
        refine ⟨v, by omega, c2, v1, e, rfl, rfl, ?_, ?_, ?_⟩
        · rw [if_neg (by omega), if_pos (by omega)]; rfl
        · rw [if_neg (by omega), if_pos (by omega)]
        · rw [if_neg (by omega), if_pos (by omega)]
      · right
        refine ⟨8 * s + 2, by omega, by omega, ?_, fun _ => ?_, ?_⟩
        · rw [if_neg (by omega), if_neg (by omega), show (2 : Int) = ((2 : Nat) : Int) from rfl, err_at h3]; rfl
        · rw [if_neg (by omega), if_neg (by omega), show (2 : Int) = ((2 : Nat) : Int) from rfl, err_at h3]; rfl
        · rw [if_neg (by omega), if_neg (by omega), show (2 : Int) = ((2 : Nat) : Int) from rfl, wrong_0 h31 h28]; rfl
  · right
    have e4 : zw (σ 0 4) ≠ zw (2 : Int) := by rw [h4, zwn (by omega), zw_eq (x := (2 : Int)) (by omega) (by omega)]; omega
    have e29 : ¬ zw (m 0 29) = zw (2 : Int) := by
      rw [h29]
      unfold kdT
      by_cases q1 : t = 1
      · rw [if_pos q1]; decide
      · by_cases q3 : t = 3
        · rw [if_neg q1, if_pos q3]; decide
        · rw [if_neg q1, if_neg q3, zwn (by omega), zw_eq (x := (2 : Int)) (by omega) (by omega)]; omega
    refine ⟨8 * s + 1, by omega, by omega, ?_, fun z => absurd z e, ?_⟩
    · rw [if_pos e4, show (1 : Int) = ((1 : Nat) : Int) from rfl, err_at h3]; rfl
    · unfold x_X7_bounds
      rw [h31, if_neg (show ¬ zw (0 : Int) ≠ 0 by decide), if_neg e29, show (1 : Int) = ((1 : Nat) : Int) from rfl, wrong_0 h31 h28]; rfl
theorem goOn_0 {m : Mm} (h31 : m 0 31 = 0) : x_X7_goOn m = x_X7_scan m := by
  unfold x_X7_goOn
  rw [h31, if_neg (show ¬ zw (0 : Int) ≠ 0 by decide)]
  cases x_X7_scan m <;> rfl
theorem goOn_d {m : Mm} {E : Nat} (h31 : m 0 31 = (E : Int)) (hE : 0 < E ∧ E < 10000) : x_X7_goOn m = some m := by
  unfold x_X7_goOn
  rw [h31, if_pos (by rw [zwn (by omega)]; omega)]
theorem E_ne {E : Nat} (hE : 0 < E ∧ E < 10000) : zw (E : Int) ≠ 0 := by rw [zwn (by omega)]; omega
theorem num_step {σ m : Mm} {L : Nat} {b : Nat → Nat} {p lo hi : Nat} (h : AH σ m L b p) (hhi : hi < 2147483648) (hlo : lo ≤ hi) : (∃ (v p1 : Nat) (σ1 m1 : Mm), lo ≤ v ∧ v ≤ hi ∧ v < 1000000000 ∧ x_X3_readNumber σ (lo : Int) (hi : Int) = some (σ1, 0) ∧ σ1 0 5 = (v : Int) ∧ x_X7_readNumber m (lo : Int) (hi : Int) = some (m1, (v : Int)) ∧ AH σ1 m1 L b p1 ∧ p ≤ p1 ∧ AF σ σ1 ∧ NF m m1) ∨ ∃ (E : Nat) (σ1 m1 : Mm), 0 < E ∧ E < 10000 ∧ x_X3_readNumber σ (lo : Int) (hi : Int) = some (σ1, (E : Int)) ∧ x_X7_readNumber m (lo : Int) (hi : Int) = some (m1, 0) ∧ m1 0 31 = (E : Int) ∧ AF σ σ1 ∧ NE2 m m1 := by
  have h31 := h.1
  obtain ⟨σ1, a, s, t, k1, k2, k3, k4⟩ := AH_x h
  have k5 : s ≤ a := k3.2.2.2.2.2.1
  rcases num_check k3 h31 hhi hlo with ⟨v, v1, v2, v0, v3, v4, v5, v6, -, v7⟩ | ⟨E, e1, e2, e3, -, e4⟩
  · obtain ⟨m1, q1, q2, q3⟩ := SY_AH k3 h31
    refine .inl ⟨v, a, σ1, m1, v1, v2, v0, ?_, v4, ?_, q2, by omega, k2, q3⟩
    · unfold x_X3_readNumber
      rw [k1, Option.bind_some, v6]
    · unfold x_X7_readNumber
      rw [v7, Option.bind_some, v5, bnd_eq, goOn_0 h31, q1, Option.bind_some, q2.1, if_neg (show ¬ zw (0 : Int) ≠ 0 by decide)]
  · refine .inr ⟨E, σ1, zu m 0 31 (E : Int), e1, e2, ?_, ?_, zu_hit _ _ _ _, k2, NE2_u m _⟩
    · unfold x_X3_readNumber
      rw [k1, Option.bind_some, e3]
    · unfold x_X7_readNumber
      rw [e4, Option.bind_some, bnd_eq, goOn_d (zu_hit _ _ _ _) ⟨e1, e2⟩, Option.bind_some, zu_hit, if_pos (E_ne ⟨e1, e2⟩)]
/-- a semicolon on both sides; r: the reason against what stands ahead of it, in the model -/
theorem semi_step {σ m : Mm} {L : Nat} {b : Nat → Nat} {p : Nat} (h : AH σ m L b p) : (∃ (σ1 : Mm) (a s : Nat), x_X3_readSemicolon σ = some (σ1, 0) ∧ AF σ σ1 ∧ SY σ1 m L b a s 3 ∧ p ≤ s ∧ x_X7_ends m 0 = some (m, 1) ∧ ∀ r : Int, zw r ≠ 0 → x_X7_ends m r = some (zu m 0 31 ((8 * s + 4 : Nat) : Int), 0)) ∨ ∃ (E : Nat) (σ1 : Mm), 0 < E ∧ E < 10000 ∧ x_X3_readSemicolon σ = some (σ1, (E : Int)) ∧ AF σ σ1 ∧ ∀ r : Int, x_X7_ends m r = some (zu m 0 31 (E : Int), 0) := by
  have h31 := h.1
  obtain ⟨σ1, a, s, t, k1, k2, k3, k4⟩ := AH_x h
  obtain ⟨hT, h2, h27, h3, h28, hsa, haL, ht, h4, h29, hpos, hval⟩ := id k3
  have hL := hT.1
  by_cases e : t = 3
  · left
    subst e
    have e29 : zw (m 0 29) = zw (1 : Int) := by rw [h29]; rfl
    refine ⟨σ1, a, s, ?_, k2, k3, k4, ?_, fun r hr => ?_⟩
    · unfold x_X3_readSemicolon
      rw [k1, Option.bind_some, h4, if_neg (fun z => z rfl)]
    · unfold x_X7_ends x_X7_ends_j20
      rw [h31, if_neg (show ¬ zw (0 : Int) ≠ 0 by decide), if_pos e29, if_pos d00, if_neg (show ¬ zw (0 : Int) ≠ 0 by decide), if_neg (show ¬ zw (0 : Int) ≠ 0 by decide)]
    · unfold x_X7_ends x_X7_ends_j20
      rw [h31, if_neg (show ¬ zw (0 : Int) ≠ 0 by decide), if_pos e29, if_neg hr, if_neg (show ¬ zw (0 : Int) ≠ 0 by decide), show (4 : Int) = ((4 : Nat) : Int) from rfl, wrong_0 h31 h28, Option.bind_some, zu_hit, if_pos (E_ne (E := 8 * s + 4) (by omega))]
  · right
    have e4 : zw (σ1 0 4) ≠ zw (3 : Int) := by rw [h4, zwn (by omega), zw_eq (x := (3 : Int)) (by omega) (by omega)]; omega
    have e29 : ¬ zw (m 0 29) = zw (1 : Int) := by
      rw [h29]
      unfold kdT
      by_cases q1 : t = 1
      · rw [if_pos q1]; decide
      · rw [if_neg q1, if_neg e, zwn (by omega), zw_eq (x := (1 : Int)) (by omega) (by omega)]; omega
    refine ⟨8 * s + 1, σ1, by omega, by omega, ?_, k2, fun r => ?_⟩
    · unfold x_X3_readSemicolon
      rw [k1, Option.bind_some, if_pos e4, show (1 : Int) = ((1 : Nat) : Int) from rfl, err_at h3]; rfl
    · unfold x_X7_ends x_X7_ends_j20
      rw [h31, if_neg (show ¬ zw (0 : Int) ≠ 0 by decide), if_neg e29, show (1 : Int) = ((1 : Nat) : Int) from rfl, wrong_0 h31 h28, Option.bind_some, zu_hit, if_pos (E_ne (E := 8 * s + 1) (by omega)), if_pos (E_ne (E := 8 * s + 1) (by omega))]
/-! behind a fault the model's reader stands still -/
theorem dead_num {m : Mm} {E : Nat} (h31 : m 0 31 = (E : Int)) (hE : 0 < E ∧ E < 10000) (lo hi : Int) : x_X7_readNumber m lo hi = some (m, 0) := by
  unfold x_X7_readNumber x_X7_bounds x_X7_bounds_j23
  rw [h31, if_pos (E_ne hE), if_pos (E_ne hE), Option.bind_some, bnd_eq, goOn_d h31 hE, Option.bind_some, h31, if_pos (E_ne hE)]
theorem dead_ends {m : Mm} {E : Nat} (h31 : m 0 31 = (E : Int)) (hE : 0 < E ∧ E < 10000) (r : Int) : x_X7_ends m r = some (m, 0) := by
  unfold x_X7_ends x_X7_ends_j20
  rw [h31, if_pos (E_ne hE), if_pos (E_ne hE), if_pos (E_ne hE)]
theorem dead_word {m : Mm} {E : Nat} (h31 : m 0 31 = (E : Int)) (hE : 0 < E ∧ E < 10000) (u : Nat) : x_X7_isWord m u = some 0 := by
  unfold x_X7_isWord
  rw [h31, if_pos (E_ne hE), X7_word0]
theorem dead_wrong {m : Mm} {E : Nat} (h31 : m 0 31 = (E : Int)) (hE : 0 < E ∧ E < 10000) (k : Int) : x_X7_wrong m k = some m := by
  unfold x_X7_wrong
  rw [h31, if_pos (E_ne hE)]
