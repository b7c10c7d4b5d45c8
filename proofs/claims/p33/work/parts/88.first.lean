/-! the first deal's text, read by the class -/
def fb (i : Nat) : Nat := (zsb 0 i).toNat
def dkD (k : Nat) : Nat := [12, 0, 1, 26, 39, 13, 45, 25, 11, 24, 2, 3, 4, 30].getD k 0
def dkP (k : Nat) : Nat := [25, 27, 29, 32, 35, 38, 41, 44, 47, 50, 52, 54, 56, 59].getD k 0
theorem tk_0 : tok 60 fb 0 = (5, 0, 1, 0) := by decide +kernel
theorem tk_1 : tok 60 fb 5 = (7, 6, 2, 1) := by decide +kernel
theorem tk_2 : tok 60 fb 7 = (9, 8, 2, 7) := by decide +kernel
theorem tk_3 : tok 60 fb 9 = (12, 10, 2, 10) := by decide +kernel
theorem tk_4 : tok 60 fb 12 = (16, 13, 2, 100) := by decide +kernel
theorem tk_5 : tok 60 fb 16 = (17, 16, 3, 0) := by decide +kernel
theorem tk_6 : tok 60 fb 17 = (22, 18, 1, 0) := by decide +kernel
theorem tk_7 : tok 60 fb 22 = (25, 23, 2, 12) := by decide +kernel
theorem tk_k : ∀ k, k < 13 → tok 60 fb (dkP k) = (dkP (k + 1), (tok 60 fb (dkP k)).2.1, 2, dkD (k + 1)) := by decide +kernel
theorem tk_21 : tok 60 fb 59 = (60, 59, 3, 0) := by decide +kernel
theorem tk_22 : tok 60 fb 60 = (60, 60, 0, 0) := by decide +kernel
theorem fb_lt : ∀ i, i < 60 → fb i < 256 := by decide +kernel
theorem dk_lt : ∀ i, i < 14 → dkD i < 52 ∧ dkP i ≤ 60 := by decide +kernel
theorem dk_inj : ∀ i, i < 14 → ∀ j, j < 14 → dkD i = dkD j → i = j := by decide +kernel
theorem wm_1 : wmF fb 0 1 (zsLen.getD 1 0) 0 = true := by decide +kernel
theorem wm_2 : wmF fb 18 2 (zsLen.getD 2 0) 0 = true := by decide +kernel
/-- the class's text -/
def TBc (σ : Mm) (L : Nat) (b : Nat → Nat) : Prop := L ≤ 500 ∧ σ 0 1 = (L : Int) ∧ ∀ i, i < L → b i < 256 ∧ zand (σ 1 i) 255 = (b i : Int)
def gho (L : Nat) (b : Nat → Nat) (a : Nat) : Mm := fun c j => if c = 18 then (b j : Int) else if c = 0 then (if j = 8 then (L : Int) else if j = 27 then (a : Int) else 0) else 0
theorem TBc_A {σ σ' : Mm} {L : Nat} {b : Nat → Nat} (h : TBc σ L b) (h0 : σ' 0 1 = σ 0 1) (h1 : σ' 1 = σ 1) : TBc σ' L b := ⟨h.1, h0.trans h.2.1, fun i hi => by rw [h1]; exact h.2.2 i hi⟩
theorem TBc_F {σ σ' : Mm} {L : Nat} {b : Nat → Nat} (h : TBc σ L b) (f : AF σ σ') : TBc σ' L b := TBc_A h (f.2 1 (by omega)) (f.1 1 (by omega))
theorem TBc_13 {σ : Mm} {L : Nat} {b : Nat → Nat} (h : TBc σ L b) : TBc (zb zl_13 σ) L b := h
theorem adv2 {σ : Mm} {L a a' s t v : Nat} {b : Nat → Nat} (h : TBc σ L b) (h2 : σ 0 2 = (a : Int)) (ha : a ≤ L) (ht : tok L b a = (a', s, t, v)) : ∃ σ' m', x_X3_advance σ = some σ' ∧ SY σ' m' L b a' s t ∧ AF σ σ' ∧ (t = 2 → σ' 0 5 = (v : Int)) := by
  obtain ⟨l1, l2, l3⟩ := h
  obtain ⟨σ', m', x1, x2, x3, x4, q1, q2, q3, q4, q5, q6, q7, q8⟩ := scan2 (σ := σ) (m := gho L b a) (a := a) ⟨l1, l2, rfl, fun i hi => ⟨(l3 i hi).1, rfl, (l3 i hi).2⟩⟩ h2 rfl ha
  rw [ht] at q7
  cases q7
  exact ⟨σ', m', q1, q3, q5, q8⟩
theorem word2 {σ m : Mm} {L : Nat} {b : Nat → Nat} {a s u : Nat} (h : SY σ m L b a s 1) (hu : u < 8) (hl : a - s = zsLen.getD u 0) (hw : wmF b s u (zsLen.getD u 0) 0 = true) : x_X3_isWord σ u = some 1 := by
  obtain ⟨hT, h2, h27, h3, h28, hsa, haL, ht, h4, h29, hpos, hval⟩ := id h
  have hL := hT.1
  clear hval hpos
  obtain ⟨w1, w2, w3⟩ := str_tab u hu
  have hc := X3_wordL h hu rfl hl (zsLen.getD u 0) 0 (by omega)
  have hc : lup (fun (s8 : Int) => x_X3_isWord_b28 σ u s8) (0 : Int) = _ := hc
  unfold x_X3_isWord
  rw [h4, if_neg (fun z => z rfl), w1, Option.bind_some, h2, h3, show (a : Int) - (s : Int) = ((a - s : Nat) : Int) by omega, zwn (n := a - s) (by omega), zwn (n := zsLen.getD u 0) (by omega), if_pos (by omega), hc, Option.bind_some, hw]
  rfl
theorem hnum {σ : Mm} {L p a' s v lo hi : Nat} {lI hI : Int} {b : Nat → Nat} (h : TBc σ L b) (h2 : σ 0 2 = (p : Int)) (hp : p ≤ L) (ht : tok L b p = (a', s, 2, v)) (hl : lI = (lo : Int)) (hh : hI = (hi : Int)) (h1 : lo ≤ v) (h3 : v ≤ hi) (h4 : hi < 2147483648) : ∃ ρ, x_X3_readNumber (zb zl_13 σ) lI hI = some (ρ, 0) ∧ zj zl_13 σ ρ 0 5 = (v : Int) ∧ TBc (zj zl_13 σ ρ) L b ∧ zj zl_13 σ ρ 0 2 = (a' : Int) ∧ AF σ (zj zl_13 σ ρ) ∧ zj zl_13 σ ρ 0 4 = 2 := by
  subst hl hh
  obtain ⟨ρ, m', q1, q2, q3, q4⟩ := adv2 (TBc_13 h) h2 hp ht
  have f := AF_13 q3
  have e5 : ρ 0 5 = (v : Int) := q4 rfl
  have e4 : ρ 0 4 = ((2 : Nat) : Int) := q2.2.2.2.2.2.2.2.2.1
  refine ⟨ρ, ?_, by rw [z13]; exact e5, TBc_F h f, by rw [z13]; exact q2.2.1, f, by rw [z13]; exact e4⟩
  unfold x_X3_readNumber x_X3_rangeError
  rw [q1, Option.bind_some, e4, if_neg (fun z => z rfl), e5, zwn (n := v) (by omega), zwn (n := lo) (by omega), zwn (n := hi) (by omega), if_neg (by omega), if_pos (by omega)]
  rfl
theorem first_head {σ : Mm} (h : TBc σ 60 fb) (h2 : σ 0 2 = 0) : ∃ σ', x_X3_readHead σ = some (σ', 0) ∧ TBc σ' 60 fb ∧ σ' 0 2 = ((17 : Nat) : Int) ∧ HF σ σ' ∧ σ' 3 0 = ((7 : Nat) : Int) ∧ σ' 3 1 = ((10 : Nat) : Int) ∧ σ' 3 2 = ((100 : Nat) : Int) ∧ zL (σ' 3 3) = zi2l ((1 : Nat) : Int) := by
  obtain ⟨ρ, m', r1, r2, r3, -⟩ := adv2 (TBc_13 h) (a := 0) h2 (by omega) tk_0
  have f2 := AF_13 r3
  have T2 := TBc_F h f2
  have y2 := SY_13' (σ := σ) r2
  unfold x_X3_readHead
  rw [r1, Option.bind_some, bnd_eq]
  have e22 : zj zl_13 σ ρ 0 2 = ((5 : Nat) : Int) := y2.2.1
  generalize zj zl_13 σ ρ = σ2 at f2 T2 y2 e22 ⊢
  rw [word2 (SY_13 y2) (by omega) rfl wm_1, Option.bind_some, if_pos w1p]
  obtain ⟨ρ1, n1, n2, n3, n4, n5, -⟩ := hnum (lo := 0) (hi := 999999999) (lI := 0) (hI := 999999999) T2 e22 (by omega) tk_1 rfl rfl (by omega) (by omega) (by omega)
  rw [n1, Option.bind_some, un2_mk, bnd_eq, bnd_eq, n2, if_neg z0n]
  have H2 := HF_of f2
  have H3 := HF_t (HF_t H2 (HF_of n5)) (HF_u (zj zl_13 σ2 ρ1) 3 (Int64.toInt (zi2l ((1 : Nat) : Int))))
  have T3 : TBc (zu (zj zl_13 σ2 ρ1) 3 3 (Int64.toInt (zi2l ((1 : Nat) : Int)))) 60 fb := TBc_A n3 rfl rfl
  have P3 : zu (zj zl_13 σ2 ρ1) 3 3 (Int64.toInt (zi2l ((1 : Nat) : Int))) 0 2 = ((7 : Nat) : Int) := n4
  generalize hσ3 : zu (zj zl_13 σ2 ρ1) 3 3 (Int64.toInt (zi2l ((1 : Nat) : Int))) = σ3 at H3 T3 P3 ⊢
  have g33 : σ3 3 3 = Int64.toInt (zi2l ((1 : Nat) : Int)) := by rw [← hσ3, zu_hit]
  obtain ⟨ρ2, o1, o2, o3, o4, o5, -⟩ := hnum (lo := 7) (hi := 10) (lI := 7) (hI := 10) T3 P3 (by omega) tk_2 rfl rfl (by omega) (by omega) (by omega)
  rw [o1, Option.bind_some, un2_mk, bnd_eq, bnd_eq, o2]
  have H4 := HF_t (HF_t H3 (HF_of o5)) (HF_u (zj zl_13 σ3 ρ2) 0 ((7 : Nat) : Int))
  have T4 : TBc (zu (zj zl_13 σ3 ρ2) 3 0 ((7 : Nat) : Int)) 60 fb := TBc_A o3 rfl rfl
  have P4 : zu (zj zl_13 σ3 ρ2) 3 0 ((7 : Nat) : Int) 0 2 = ((9 : Nat) : Int) := o4
  have c4 : zj zl_13 σ3 ρ2 3 = σ3 3 := o5.1 3 (by omega)
  generalize hσ4 : zu (zj zl_13 σ3 ρ2) 3 0 ((7 : Nat) : Int) = σ4 at H4 T4 P4 ⊢
  have g43 : σ4 3 3 = Int64.toInt (zi2l ((1 : Nat) : Int)) := by rw [← hσ4, zu_miss _ _ _ _ (fun _ => by omega), c4, g33]
  have g40 : σ4 3 0 = ((7 : Nat) : Int) := by rw [← hσ4, zu_hit]
  unfold x_X3_readHead_j57
  rw [if_neg z0n]
  obtain ⟨ρ3, u1, u2, u3, u4, u5, -⟩ := hnum (lo := 0) (hi := 20) (lI := 0) (hI := 20) T4 P4 (by omega) tk_3 rfl rfl (by omega) (by omega) (by omega)
  rw [u1, Option.bind_some, un2_mk, bnd_eq, bnd_eq, u2]
  have H5 := HF_t (HF_t H4 (HF_of u5)) (HF_u (zj zl_13 σ4 ρ3) 1 ((10 : Nat) : Int))
  have T5 : TBc (zu (zj zl_13 σ4 ρ3) 3 1 ((10 : Nat) : Int)) 60 fb := TBc_A u3 rfl rfl
  have P5 : zu (zj zl_13 σ4 ρ3) 3 1 ((10 : Nat) : Int) 0 2 = ((12 : Nat) : Int) := u4
  have c5 : zj zl_13 σ4 ρ3 3 = σ4 3 := u5.1 3 (by omega)
  generalize hσ5 : zu (zj zl_13 σ4 ρ3) 3 1 ((10 : Nat) : Int) = σ5 at H5 T5 P5 ⊢
  have g53 : σ5 3 3 = Int64.toInt (zi2l ((1 : Nat) : Int)) := by rw [← hσ5, zu_miss _ _ _ _ (fun _ => by omega), c5, g43]
  have g50 : σ5 3 0 = ((7 : Nat) : Int) := by rw [← hσ5, zu_miss _ _ _ _ (fun _ => by omega), c5, g40]
  have g51 : σ5 3 1 = ((10 : Nat) : Int) := by rw [← hσ5, zu_hit]
  unfold x_X3_readHead_j77
  rw [if_neg z0n]
  obtain ⟨ρ4, x1, x2, x3, x4, x5, -⟩ := hnum (lo := 20) (hi := 500) (lI := 20) (hI := 500) T5 P5 (by omega) tk_4 rfl rfl (by omega) (by omega) (by omega)
  rw [x1, Option.bind_some, un2_mk, bnd_eq, bnd_eq, x2, if_neg z0n]
  have H6 := HF_t (HF_t H5 (HF_of x5)) (HF_u (zj zl_13 σ5 ρ4) 2 ((100 : Nat) : Int))
  have T6 : TBc (zu (zj zl_13 σ5 ρ4) 3 2 ((100 : Nat) : Int)) 60 fb := TBc_A x3 rfl rfl
  have P6 : zu (zj zl_13 σ5 ρ4) 3 2 ((100 : Nat) : Int) 0 2 = ((16 : Nat) : Int) := x4
  have c6 : zj zl_13 σ5 ρ4 3 = σ5 3 := x5.1 3 (by omega)
  generalize hσ6 : zu (zj zl_13 σ5 ρ4) 3 2 ((100 : Nat) : Int) = σ6 at H6 T6 P6 ⊢
  have g63 : σ6 3 3 = Int64.toInt (zi2l ((1 : Nat) : Int)) := by rw [← hσ6, zu_miss _ _ _ _ (fun _ => by omega), c6, g53]
  have g60 : σ6 3 0 = ((7 : Nat) : Int) := by rw [← hσ6, zu_miss _ _ _ _ (fun _ => by omega), c6, g50]
  have g61 : σ6 3 1 = ((10 : Nat) : Int) := by rw [← hσ6, zu_miss _ _ _ _ (fun _ => by omega), c6, g51]
  have g62 : σ6 3 2 = ((100 : Nat) : Int) := by rw [← hσ6, zu_hit]
  obtain ⟨ρ5, m5, y1, y2, y3, -⟩ := adv2 (TBc_13 T6) P6 (by omega) tk_5
  have f7 := AF_13 y3
  have e4 : ρ5 0 4 = ((3 : Nat) : Int) := y2.2.2.2.2.2.2.2.2.1
  have hs : x_X3_readSemicolon (zb zl_13 σ6) = some (ρ5, 0) := by
    unfold x_X3_readSemicolon
    rw [y1, Option.bind_some, e4, if_neg (fun z => z rfl)]
  rw [hs, Option.bind_some, un2_mk, bnd_eq]
  have c7 : zj zl_13 σ6 ρ5 3 = σ6 3 := f7.1 3 (by omega)
  refine ⟨_, rfl, TBc_F T6 f7, by rw [z13]; exact y2.2.1, HF_t H6 (HF_of f7), by rw [c7, g60], by rw [c7, g61], by rw [c7, g62], by rw [c7, g63]; exact Int64.ofInt_toInt _⟩
theorem first_loop : ∀ (n k : Nat) (σ : Mm) (mask : Int64), k + n = 14 → TBc σ 60 fb → (k < 14 → σ 0 2 = (dkP k : Int) ∧ σ 0 4 = ((2 : Nat) : Int) ∧ σ 0 5 = (dkD k : Int)) → (k = 14 → σ 0 2 = ((60 : Nat) : Int) ∧ σ 0 4 = ((3 : Nat) : Int)) → σ 0 7 = (k : Int) → (∀ i, i < k → σ 2 i = (dkD i : Int)) → (∀ c, bs mask c = true ↔ ∃ i, i < k ∧ dkD i = c) → ∃ σ', lup (fun (s22 : Mm × Int64 × Int × Int) => x_X3_readDeck_b33 s22.1 s22.2.1 s22.2.2.1 s22.2.2.2) (σ, mask, 0, (k : Int)) = some (.inr (σ', 0)) ∧ TBc σ' 60 fb ∧ σ' 0 2 = ((60 : Nat) : Int) ∧ σ' 0 4 = ((3 : Nat) : Int) ∧ σ' 0 7 = ((14 : Nat) : Int) ∧ (∀ i, i < 14 → σ' 2 i = (dkD i : Int)) ∧ DF σ σ' := by
  intro n
  induction n with
  | zero =>
    intro k σ mask hk hT hA hB h7 h2 hM
    have : k = 14 := by omega
    subst this
    obtain ⟨b1, b2⟩ := hB rfl
    refine ⟨σ, lup_inr ?_, hT, b1, b2, h7, h2, DF_r σ⟩
    show x_X3_readDeck_b33 σ mask 0 ((14 : Nat) : Int) = _
    unfold x_X3_readDeck_b33
    rw [if_neg (by decide), if_neg z0n, b2, if_pos (by decide)]
  | succ n ih =>
    intro k σ mask hk hT hA hB h7 h2 hM
    obtain ⟨a2, a4, a5⟩ := hA (by omega)
    obtain ⟨d1, d2⟩ := dk_lt k (by omega)
    have nb : ¬ zw (52 : Int) < zw (k : Int) := by rw [zwn (by omega), zw_eq (x := (52 : Int)) (by omega) (by omega)]; omega
    have hnb : ¬ bs mask (dkD k) = true := fun z => by
      obtain ⟨i, i1, i2⟩ := (hM _).mp z
      have := dk_inj i (by omega) k (by omega) i2
      omega
    have hcl : x_X3_readDeck_b33 σ mask 0 (k : Int) = (x_X3_advance (zu (zu σ 2 k (dkD k : Int)) 0 7 ((k + 1 : Nat) : Int))).bind fun σ12 => (if zw (σ12 0 4) ≠ zw (2 : Int) then bnd ((k : Int) + 1) fun v13 => some (.inl (σ12, mask ||| zlshl 1 (dkD k : Int), (0 : Int), v13)) else (x_X3_rangeError σ12 (0 : Int) (51 : Int)).bind fun v14 => bnd ((k : Int) + 1) fun v15 => some (.inl (σ12, mask ||| zlshl 1 (dkD k : Int), v14, v15))) := by
      unfold x_X3_readDeck_b33
      rw [if_neg nb, if_neg z0n, a4, if_neg (fun z => z rfl), a5, X6_has mask d1, if_neg hnb, Option.bind_some, if_neg z0n, h7, if_pos (by rw [zwn (by omega), zw_eq (x := (52 : Int)) (by omega) (by omega)]; omega), X6_bitOf d1, Option.bind_some, bnd_eq, if_pos (zin_i (by omega) (by omega) (by omega)), zix_nat (n := k) (by omega), bnd_eq, zu_miss _ _ _ _ (fun z => by omega), h7, bnd_eq, show (k : Int) + 1 = ((k + 1 : Nat) : Int) by omega]
    have F1 := DF_st σ k (dkD k : Int) ((k + 1 : Nat) : Int)
    have T1 : TBc (zu (zu σ 2 k (dkD k : Int)) 0 7 ((k + 1 : Nat) : Int)) 60 fb := TBc_A hT (zu_miss _ _ _ _ (fun _ => by omega)) rfl
    have P1 : zu (zu σ 2 k (dkD k : Int)) 0 7 ((k + 1 : Nat) : Int) 0 2 = (dkP k : Int) := (zu_miss _ _ _ _ (fun _ => by omega)).trans a2
    have S1 : zu (zu σ 2 k (dkD k : Int)) 0 7 ((k + 1 : Nat) : Int) 0 7 = ((k + 1 : Nat) : Int) := zu_hit _ _ _ _
    have O1 : ∀ i, i < k + 1 → zu (zu σ 2 k (dkD k : Int)) 0 7 ((k + 1 : Nat) : Int) 2 i = (dkD i : Int) := fun i hi => by
      show zu σ 2 k (dkD k : Int) 2 i = _
      by_cases w : i = k
      · subst w; rw [zu_hit]
      · rw [zu_miss _ _ _ _ (fun _ => w)]; exact h2 i (by omega)
    generalize zu (zu σ 2 k (dkD k : Int)) 0 7 ((k + 1 : Nat) : Int) = σ1 at hcl F1 T1 P1 S1 O1
    have hM2 : ∀ c, bs (mask ||| zlshl 1 (dkD k : Int)) c = true ↔ ∃ i, i < k + 1 ∧ dkD i = c := fun c => by
      show bs (mask ||| one (dkD k)) c = true ↔ _
      rw [bs_add _ (by omega), Bool.or_eq_true_iff, hM c, decide_eq_true_eq]
      constructor
      · rintro (⟨i, i1, i2⟩ | z)
        · exact ⟨i, by omega, i2⟩
        · exact ⟨k, by omega, z.symm⟩
      · rintro ⟨i, i1, i2⟩
        by_cases w : i = k
        · subst w; exact .inr i2.symm
        · exact .inl ⟨i, by omega, i2⟩
    have nx : ∃ σ2, x_X3_readDeck_b33 σ mask 0 (k : Int) = some (.inl (σ2, mask ||| zlshl 1 (dkD k : Int), 0, ((k + 1 : Nat) : Int))) ∧ AF σ1 σ2 ∧ (k + 1 < 14 → σ2 0 2 = (dkP (k + 1) : Int) ∧ σ2 0 4 = ((2 : Nat) : Int) ∧ σ2 0 5 = (dkD (k + 1) : Int)) ∧ (k + 1 = 14 → σ2 0 2 = ((60 : Nat) : Int) ∧ σ2 0 4 = ((3 : Nat) : Int)) := by
      by_cases e : k = 13
      · subst e
        obtain ⟨σ2, m', r1, r2, r3, -⟩ := adv2 T1 P1 (by decide) tk_21
        have e4 : σ2 0 4 = ((3 : Nat) : Int) := r2.2.2.2.2.2.2.2.2.1
        refine ⟨σ2, ?_, r3, fun z => by omega, fun _ => ⟨r2.2.1, e4⟩⟩
        rw [hcl, r1, Option.bind_some, e4, if_pos (by decide)]; rfl
      · obtain ⟨σ2, m', r1, r2, r3, r4⟩ := adv2 T1 P1 d2 (tk_k k (by omega))
        have e4 : σ2 0 4 = ((2 : Nat) : Int) := r2.2.2.2.2.2.2.2.2.1
        have e5 : σ2 0 5 = (dkD (k + 1) : Int) := r4 rfl
        have d3 := (dk_lt (k + 1) (by omega)).1
        refine ⟨σ2, ?_, r3, fun _ => ⟨r2.2.1, e4, e5⟩, fun z => by omega⟩
        have hre : x_X3_rangeError σ2 (0 : Int) (51 : Int) = some 0 := by
          unfold x_X3_rangeError
          rw [e5, zwn (n := dkD (k + 1)) (by omega), zw_eq (x := (51 : Int)) (by omega) (by omega), zw_eq (x := (0 : Int)) (by omega) (by omega), if_neg (by omega), if_pos (by omega)]
        rw [hcl, r1, Option.bind_some, e4, if_neg (fun z => z rfl), hre]; rfl
    obtain ⟨σ2, n1, n2, n3, n4⟩ := nx
    obtain ⟨σ', y1, y2, y3, y4, y5, y6, y7⟩ := ih (k + 1) σ2 _ (by omega) (TBc_F T1 n2) n3 n4 ((n2.2 7 (by omega)).trans S1) (fun i hi => by rw [n2.1 2 (by omega)]; exact O1 i hi) hM2
    rw [lup_inl (f := fun (s22 : Mm × Int64 × Int × Int) => x_X3_readDeck_b33 s22.1 s22.2.1 s22.2.2.1 s22.2.2.2) (s := (σ, mask, (0 : Int), (k : Int))) n1]
    exact ⟨σ', y1, y2, y3, y4, y5, y6, DF_t F1 (DF_t (DF_of n2) y7)⟩
theorem first_deck {σ : Mm} (h : TBc σ 60 fb) (h2 : σ 0 2 = ((17 : Nat) : Int)) : ∃ σ', x_X3_readDeck σ = some (σ', 0) ∧ σ' 0 7 = ((14 : Nat) : Int) ∧ (∀ i, i < 14 → σ' 2 i = (dkD i : Int)) ∧ DF σ σ' := by
  have F0 : DF σ (zu σ 0 7 0) := ⟨fun c h0 _ => by unfold zu; rw [if_neg h0], fun j hj h7 => zu_miss _ _ _ _ (fun _ => h7)⟩
  have T0 : TBc (zu σ 0 7 0) 60 fb := TBc_A h (zu_miss _ _ _ _ (fun _ => by omega)) rfl
  have P0 : zu σ 0 7 0 0 2 = ((17 : Nat) : Int) := h2
  have S0 : zu σ 0 7 0 0 7 = ((0 : Nat) : Int) := zu_hit _ _ _ _
  unfold x_X3_readDeck
  rw [bnd_eq]
  generalize zu σ 0 7 0 = σ1 at F0 T0 P0 S0 ⊢
  obtain ⟨σ2, m2, r1, r2, r3, -⟩ := adv2 T0 P0 (by omega) tk_6
  have T2 := TBc_F T0 r3
  rw [r1, Option.bind_some, word2 r2 (by omega) rfl wm_2, Option.bind_some, if_pos w1p]
  obtain ⟨σ3, m3, x1, x2, x3, x4⟩ := adv2 T2 r2.2.1 (by omega) tk_7
  have e4 : σ3 0 4 = ((2 : Nat) : Int) := x2.2.2.2.2.2.2.2.2.1
  have e5 : σ3 0 5 = ((12 : Nat) : Int) := x4 rfl
  have hn : x_X3_readNumber σ2 (0 : Int) (51 : Int) = some (σ3, 0) := by
    unfold x_X3_readNumber x_X3_rangeError
    rw [x1, Option.bind_some, e4, if_neg (fun z => z rfl), e5, if_neg (by decide), if_pos (by decide)]; rfl
  rw [hn, Option.bind_some, un2_mk]
  obtain ⟨σ4, y1, y2, y3, y4, y5, y6, y7⟩ := first_loop 14 0 σ3 0 (by omega) (TBc_F T2 x3) (fun _ => ⟨x2.2.1, e4, e5⟩) (fun z => by omega) (((x3.2 7 (by omega)).trans (r3.2 7 (by omega))).trans S0) (fun i hi => by omega) (fun c => by
    rw [bs_0]
    constructor
    · intro z; cases z
    · rintro ⟨i, i1, -⟩; omega)
  have y1' : lup (fun (s22 : Mm × Int64 × Int × Int) => x_X3_readDeck_b33 s22.1 s22.2.1 s22.2.2.1 s22.2.2.2) (σ3, (0 : Int64), (0 : Int), (0 : Int)) = some (.inr (σ4, 0)) := y1
  rw [y1', Option.bind_some, zel_r, un2_mk]
  obtain ⟨σ5, m5, z1, z2, z3, -⟩ := adv2 y2 y3 (by omega) tk_22
  unfold x_X3_readDeck_j137
  rw [if_pos d00, y4, if_pos (show zw ((3 : Nat) : Int) = zw (3 : Int) from rfl), z1, Option.bind_some]
  exact ⟨σ5, rfl, (z3.2 7 (by omega)).trans y5, fun i hi => by rw [z3.1 2 (by omega)]; exact y6 i hi, DF_t F0 (DF_t (DF_of r3) (DF_t (DF_of x3) (DF_t y7 (DF_of z3))))⟩
