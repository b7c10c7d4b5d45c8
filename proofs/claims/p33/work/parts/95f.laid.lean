/-! isLaid's first loop -/
theorem e104 : zl_104 = zl_101 := rfl
theorem e102 : zl_102 = zl_101 := rfl
theorem e106 : zl_106 = zl_101 := rfl
theorem e108 : zl_108 = zl_101 := rfl
theorem neg1 : zw (-1 : Int) = -1 := by decide
set_option maxHeartbeats 4000000 in
theorem loop41 {N : Nat} {m : Mm} {p : Nat} (hp : p < 2) {P : Int64} (hP : HND m p P) (h11 : cnt (bs P) 64 ≤ 11) {H : Nat → Nat} (h1 : ∀ i j, i < j → j < cnt (bs P) 64 → H i < H j) (h2 : ∀ i, i < cnt (bs P) 64 → H i < 52 ∧ bs P (H i) = true) (h3 : ∀ d, bs P d = true ↔ ∃ i, i < cnt (bs P) 64 ∧ H i = d) (h4 : ∀ c', REL N c' m → ∀ i, i < cnt (bs P) 64 → x_X6_card c' (p : Int) (i : Int) = some (.inl ((H i : Nat) : Int))) {σ8 : Mm} (hσ : REL N σ8 m) (hz1 : ∀ j, j < 12 → σ8 101 j = 0) (hz2 : ∀ j, j < 12 → σ8 102 j = 0) :
    ∃ e, lup (fun (s33 : Mm × Int × Int × Int × Int × Int) => x_L_isLaid_b41 (p : Int) ((cnt (bs P) 64 : Nat) : Int) ((Lay P).length : Int) s33.1 s33.2.1 s33.2.2.1 s33.2.2.2.1 s33.2.2.2.2.1 s33.2.2.2.2.2) (σ8, (0 : Int), (0 : Int), (0 : Int), (-1 : Int), (0 : Int)) = some e ∧ ∃ σ' : Mm, e = (.inr (.inr (σ', ((cnt (bs (dl P (Lay P))) 64 : Nat) : Int), ((RR P P : Nat) : Int), ((lW P : Nat) : Int)))) ∧ REL N σ' m ∧ ∀ (j : Nat) (x : Int64), (Lay P)[j]? = some x → σ' 101 j = ((cnt (bs x) 64 : Nat) : Int) ∧ zL (σ' 102 j) = x := by
  obtain ⟨l1, l2, l3, l4⟩ := Lay_ok hP.1 h11
  have hsb : ∀ x ∈ Lay P, sb x P := fun x hx => (l2 x hx).1
  have hmld : ∀ x ∈ Lay P, mld x := fun x hx => (l2 x hx).2
  generalize hF : Lay P = F at *
  generalize hn : cnt (bs P) 64 = n at *
  have h2' : ∀ i, i < n → H i < 52 := fun i hi => (h2 i hi).1
  obtain ⟨gL, hgL⟩ : ∃ g : Nat → Nat, g = fun k => if decide (ixC F (H k) = none) = true then 1 else 0 := ⟨_, rfl⟩
  obtain ⟨gR, hgR⟩ : ∃ g : Nat → Nat, g = fun k => if decide (ixC F (H k) = none) = true then pts (H k) else 0 := ⟨_, rfl⟩
  obtain ⟨gA, hgA⟩ : ∃ g : Nat → Nat, g = fun k => if true = true then pts (H k) else 0 := ⟨_, rfl⟩
  obtain ⟨gM, hgM⟩ : ∃ g : Nat → Nat → Nat, g = fun j k => if decide (ixC F (H k) = some j) = true then 1 else 0 := ⟨_, rfl⟩
  refine lup_for (f := fun (s33 : Mm × Int × Int × Int × Int × Int) => x_L_isLaid_b41 (p : Int) ((n : Nat) : Int) (F.length : Int) s33.1 s33.2.1 s33.2.2.1 s33.2.2.2.1 s33.2.2.2.2.1 s33.2.2.2.2.2) (fun i s => REL N s.1 m ∧ s.2.1 = ((sumN gL i : Nat) : Int) ∧ s.2.2.1 = ((sumN gR i : Nat) : Int) ∧ s.2.2.2.1 = ((sumN gA i : Nat) : Int) ∧ s.2.2.2.2.2 = (i : Int) ∧ ((s.2.2.2.2.1 = -1 ∧ i = 0) ∨ ∃ k, i = k + 1 ∧ s.2.2.2.2.1 = ((H k : Nat) : Int)) ∧ ∀ j, j < 12 → s.1 101 j = ((sumN (gM j) i : Nat) : Int) ∧ ∀ d, bs (zL (s.1 102 j)) d = (inH H i d && decide (ixC F d = some j))) (fun e => ∃ σ' : Mm, e = (.inr (.inr (σ', ((cnt (bs (dl P F)) 64 : Nat) : Int), ((RR P P : Nat) : Int), ((lW P : Nat) : Int)))) ∧ REL N σ' m ∧ ∀ (j : Nat) (x : Int64), F[j]? = some x → σ' 101 j = ((cnt (bs x) 64 : Nat) : Int) ∧ zL (σ' 102 j) = x) n (fun i s hi hs => ?_) (fun s hs => ?_) ⟨hσ, rfl, rfl, rfl, rfl, .inl ⟨rfl, rfl⟩, fun j hj => ⟨hz1 j hj, fun d => ?_⟩⟩
  · obtain ⟨σ, left, rest, all, last, iv⟩ := s
    obtain ⟨hR, i1, i2, i3, i4, i5, i6⟩ := hs
    simp only at hR i1 i2 i3 i4 i5 i6
    subst i1 i2 i3 i4
    obtain ⟨a1, a2⟩ := h2 i hi
    have hc := h_card (h4 _ (REL_zb hR) i hi)
    have hw0 := v_where (REL_zb hR) a1
    have hmp : m 1 (119 + H i) = (p : Int) := by
      have e := hP.2 (H i) a1
      rw [a2] at e
      exact of_decide_eq_true e.symm
    rw [hmp] at hw0
    have hw := h_where hw0
    obtain ⟨c', hc', hm0⟩ := v_meldOf (REL_zb hR) hp hP a2
    have hm := h_meldOf hm0
    rw [hF] at hm
    have hlast : ¬ zw ((H i : Nat) : Int) ≤ zw last := by
      rw [zwn (by omega)]
      rcases i5 with ⟨e1, e2⟩ | ⟨k, e1, e2⟩
      · rw [e1, neg1]; omega
      · have := h1 k i (by omega) hi
        rw [e2, zwn (by omega)]; omega
    have hpt := l_points a1
    have hRj := REL_zj (c := σ) hc'
    have hH : ∀ d, inH H (i + 1) d = (inH H i d || decide (d = H i)) := fun d => by
      apply Bool.eq_iff_iff.mpr
      rw [Bool.or_eq_true, inH_iff, inH_iff, decide_eq_true_eq]
      constructor
      · rintro ⟨k, k1, k2⟩
        by_cases e : k = i
        · subst e; exact .inr k2.symm
        · exact .inl ⟨k, by omega, k2⟩
      · rintro (⟨k, k1, k2⟩ | e)
        · exact ⟨k, by omega, k2⟩
        · exact ⟨i, by omega, e.symm⟩
    cases hq : ixC F (H i) with
    | none =>
      have hq2 : ixF (fun x => bs x (H i)) F 0 = none := hq
      rw [hq2] at hm
      refine ⟨(zj zl_101 σ c', ((sumN gL i : Nat) : Int) + 1, ((sumN gR i : Nat) : Int) + ((pts (H i) : Nat) : Int), ((sumN gA i : Nat) : Int) + ((pts (H i) : Nat) : Int), ((H i : Nat) : Int), (i : Int) + 1), ?_, hRj, ?_, ?_, ?_, ?_, .inr ⟨i, rfl, rfl⟩, fun j hj => ⟨?_, fun d => ?_⟩⟩
      · show x_L_isLaid_b41 (p : Int) ((n : Nat) : Int) (F.length : Int) σ ((sumN gL i : Nat) : Int) ((sumN gR i : Nat) : Int) ((sumN gA i : Nat) : Int) last (i : Int) = _
        unfold x_L_isLaid_b41
        rw [e104, if_neg (nle_n hi (by omega)), hc, Option.bind_some, if_neg hlast, hw, Option.bind_some, if_pos rfl, hpt, Option.bind_some, bnd_eq, hm, Option.bind_some, un2_mk, bnd_eq, if_neg (fun z => z rfl), bnd_eq, Option.bind_some, bnd_eq, bnd_eq]
      · show ((sumN gL i : Nat) : Int) + 1 = ((sumN gL i + gL i : Nat) : Int)
        rw [hgL]; simp only [hq, decide_true, if_true]; omega
      · show ((sumN gR i : Nat) : Int) + _ = ((sumN gR i + gR i : Nat) : Int)
        rw [hgR]; simp only [hq, decide_true, if_true]; omega
      · show ((sumN gA i : Nat) : Int) + _ = ((sumN gA i + gA i : Nat) : Int)
        rw [hgA]; simp only [if_true]; omega
      · show (i : Int) + 1 = ((i + 1 : Nat) : Int); omega
      · show zj zl_101 σ c' 101 j = ((sumN (gM j) i + gM j i : Nat) : Int)
        rw [zjl_hi _ _ (by decide), (i6 j hj).1, hgM]; simp only [hq]; rfl
      · show bs (zL (zj zl_101 σ c' 102 j)) d = _
        rw [zjl_hi _ _ (by decide), (i6 j hj).2 d, hH d]
        by_cases e : d = H i
        · subst e; rw [hq]; simp
        · rw [decide_eq_false e, Bool.or_false]
    | some k =>
      have hq2 : ixF (fun x => bs x (H i)) F 0 = some k := hq
      rw [hq2] at hm
      have hkF : k < F.length := by
        obtain ⟨-, x, hx, -⟩ := ixF_some hq2
        rw [Nat.sub_zero] at hx
        exact (List.getElem?_eq_some_iff.mp hx).1
      have hzk : zin ((k : Nat) : Int) 12 := ⟨by rw [zwn (by omega)]; omega, by rw [zwn (by omega)]; omega⟩
      have hxk : zix ((k : Nat) : Int) = k := zix_nat (by omega)
      refine ⟨(zu (zu (zj zl_101 σ c') 101 k (zj zl_101 σ c' 101 k + 1)) 102 k (Int64.toInt (zL (zj zl_101 σ c' 102 k) ||| one (H i))), ((sumN gL i : Nat) : Int), ((sumN gR i : Nat) : Int), ((sumN gA i : Nat) : Int) + ((pts (H i) : Nat) : Int), ((H i : Nat) : Int), (i : Int) + 1), ?_, REL_c hRj (fun q hq => by
        show (zu (zu (zj zl_101 σ c') 101 k (zj zl_101 σ c' 101 k + 1)) 102 k (Int64.toInt (zL (zj zl_101 σ c' 102 k) ||| one (H i)))) q = zj zl_101 σ c' q
        rw [zu_ne _ _ _ (by omega), zu_ne _ _ _ (by omega)]), ?_, ?_, ?_, ?_, .inr ⟨i, rfl, rfl⟩, fun j hj => ⟨?_, fun d => ?_⟩⟩
      · show x_L_isLaid_b41 (p : Int) ((n : Nat) : Int) (F.length : Int) σ ((sumN gL i : Nat) : Int) ((sumN gR i : Nat) : Int) ((sumN gA i : Nat) : Int) last (i : Int) = _
        unfold x_L_isLaid_b41
        rw [e104, if_neg (nle_n hi (by omega)), hc, Option.bind_some, if_neg hlast, hw, Option.bind_some, if_pos rfl, hpt, Option.bind_some, bnd_eq, hm, Option.bind_some, un2_mk, bnd_eq, if_pos (by rw [zwn (by omega), neg1]; omega), if_neg (by rw [zwn (by omega)]; omega), if_pos (by rw [zwn (by omega), zwn (by omega)]; omega), if_pos hzk, if_pos hzk, hxk, bnd_eq, if_pos hzk, if_pos hzk, bnd_eq, bnd_eq, zu_ne (zj zl_101 σ c') k _ (show (102 : Nat) ≠ 101 by decide)]
        rfl
      · show ((sumN gL i : Nat) : Int) = ((sumN gL i + gL i : Nat) : Int)
        rw [hgL]; simp only [hq]; rfl
      · show ((sumN gR i : Nat) : Int) = ((sumN gR i + gR i : Nat) : Int)
        rw [hgR]; simp only [hq]; rfl
      · show ((sumN gA i : Nat) : Int) + _ = ((sumN gA i + gA i : Nat) : Int)
        rw [hgA]; simp only [if_true]; omega
      · show (i : Int) + 1 = ((i + 1 : Nat) : Int); omega
      · show (zu (zu (zj zl_101 σ c') 101 k (zj zl_101 σ c' 101 k + 1)) 102 k (Int64.toInt (zL (zj zl_101 σ c' 102 k) ||| one (H i)))) 101 j = ((sumN (gM j) i + gM j i : Nat) : Int)
        rw [zu_ne _ _ _ (by decide), zu_self]
        unfold zr
        by_cases e : j = k
        · subst e
          rw [if_pos rfl, zjl_hi _ _ (by decide), (i6 j hj).1, hgM]; simp only [hq, decide_true, if_true]; omega
        · rw [if_neg e, zjl_hi _ _ (by decide), (i6 j hj).1, hgM]
          simp only [hq]
          rw [decide_eq_false (fun z => e (Option.some.inj z).symm)]
          rfl
      · show bs (zL ((zu (zu (zj zl_101 σ c') 101 k (zj zl_101 σ c' 101 k + 1)) 102 k (Int64.toInt (zL (zj zl_101 σ c' 102 k) ||| one (H i)))) 102 j)) d = _
        rw [zu_self]
        unfold zr
        by_cases e : j = k
        · subst e
          rw [if_pos rfl, zL_toInt, bs_or, zjl_hi _ _ (by decide), (i6 j hj).2 d, bs_one2 (by omega), hH d]
          by_cases e2 : d = H i
          · subst e2; rw [hq]; simp
          · rw [decide_eq_false e2, Bool.or_false, Bool.or_false]
        · rw [if_neg e, zu_ne _ _ _ (by decide), zjl_hi _ _ (by decide), (i6 j hj).2 d, hH d]
          by_cases e2 : d = H i
          · subst e2; rw [hq, decide_eq_false (fun z => e (Option.some.inj z).symm)]; simp
          · rw [decide_eq_false e2, Bool.or_false]
  · obtain ⟨σ, left, rest, all, last, iv⟩ := s
    obtain ⟨hR, i1, i2, i3, i4, i5, i6⟩ := hs
    simp only at hR i1 i2 i3 i4 i5 i6
    subst i1 i2 i3 i4
    subst hn
    have s1 : sumN gL (cnt (bs P) 64) = cnt (bs (dl P F)) 64 := by
      rw [cnt_52 (dl_sb P F hP.1), sum_P (f := fun _ => 1) h1 h2' h3 (fun d => ixC_dl (F := F) (P := P) d), hgL]
    have s2 : sumN gR (cnt (bs P) 64) = RR P P := by
      rw [← l3]
      unfold lW
      rw [sum_P (f := pts) h1 h2' h3 (fun d => ixC_dl (F := F) (P := P) d), hgR]
    have s3 : sumN gA (cnt (bs P) 64) = lW P := by
      unfold lW
      rw [sum_P (f := pts) (q := fun _ => true) (Q := P) h1 h2' h3 (fun d => by rw [Bool.and_true]), hgA]
    refine ⟨.inr (.inr (σ, ((sumN gL (cnt (bs P) 64) : Nat) : Int), ((sumN gR (cnt (bs P) 64) : Nat) : Int), ((sumN gA (cnt (bs P) 64) : Nat) : Int))), ?_, σ, by rw [s1, s2, s3], hR, fun j x hx => ?_⟩
    · show x_L_isLaid_b41 _ _ _ σ _ _ _ last ((cnt (bs P) 64 : Nat) : Int) = _
      unfold x_L_isLaid_b41
      rw [if_pos (Int.le_refl _)]
    · have hj := (List.getElem?_eq_some_iff.mp hx).1
      obtain ⟨j1, j2⟩ := i6 j (by omega)
      have hcw : cw x := mld_cw (hmld x (List.mem_of_getElem? hx))
      have hat : ∀ d, bs x d = (bs P d && decide (ixC F d = some j)) := ixC_at l1 hsb hx
      refine ⟨?_, bs_ext (fun d _ => ?_)⟩
      · rw [j1, cnt_52 hcw, sum_P (f := fun _ => 1) h1 h2' h3 hat, hgM]
      · rw [j2 d, hat d]
        congr 1
        apply Bool.eq_iff_iff.mpr
        rw [inH_iff, h3 d]
  · show bs (zL (σ8 102 j)) d = _
    rw [hz2 j hj]
    rw [show zL 0 = 0 from by decide, bs_0]
    rfl
