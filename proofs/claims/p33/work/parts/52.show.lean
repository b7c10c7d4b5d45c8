/-! The showdown on both sides -/
theorem nlt0 {n : Nat} (h : n < 2147483648) : ¬ zw (n : Int) < 0 := by rw [zwn h]; omega
theorem nle_l {n : Nat} {K : Int} (h : (n : Int) < K) (h2 : K < 2147483648) : ¬ zw K ≤ zw (n : Int) := by
  rw [zw_eq (x := K) (by omega) h2, zwn (by omega)]; omega
theorem nle_n {n m : Nat} (h : n < m) (h2 : m < 2147483648) : ¬ zw (m : Int) ≤ zw (n : Int) := by
  rw [zwn h2, zwn (by omega)]; omega
noncomputable def tkF (c : Nat) : List Int64 → Nat → Option Nat
  | [], _ => none
  | m :: l, i => if kK (m ||| one c) = 0 then tkF c l (i + 1) else some i
noncomputable def nxF (T : List Int64) (L : Int64) : Nat → Nat → Option (Nat × Nat)
  | 0, _ => none
  | k + 1, c => if bs L c = true then (match tkF c T 0 with
    | some i => some (c, i)
    | none => nxF T L k (c + 1)) else nxF T L k (c + 1)
noncomputable def setT (T : List Int64) (c i : Nat) : List Int64 := T.set i ((T[i]?).getD 0 ||| one c)
noncomputable def adF : Nat → List Int64 → Int64 → Nat → Int64 × Nat
  | 0, _, L, k => (L, k)
  | n + 1, T, L, k => match nxF T L 52 0 with
    | none => (L, k)
    | some q => adF n (setT T q.1 q.2) (dif L (one q.1)) (k + 1)
theorem tkF_some {c : Nat} : ∀ {l : List Int64} {i j : Nat}, tkF c l i = some j → i ≤ j ∧ ∃ m, l[j - i]? = some m ∧ kK (m ||| one c) ≠ 0
  | [], i, j, h => by cases h
  | m :: l, i, j, h => by
    unfold tkF at h
    by_cases e : kK (m ||| one c) = 0
    · rw [if_pos e] at h
      obtain ⟨h1, y, h2, h3⟩ := tkF_some h
      refine ⟨by omega, y, ?_, h3⟩
      rw [show j - i = (j - (i + 1)) + 1 by omega]
      simpa using h2
    · rw [if_neg e] at h
      cases h
      exact ⟨Nat.le_refl _, m, by simp, e⟩
theorem nxF_some {T : List Int64} {L : Int64} {q : Nat × Nat} : ∀ {k c : Nat}, nxF T L k c = some q → q.1 < c + k ∧ bs L q.1 = true ∧ tkF q.1 T 0 = some q.2
  | 0, c, h => by cases h
  | k + 1, c, h => by
    unfold nxF at h
    by_cases e : bs L c = true
    · rw [if_pos e] at h
      cases e2 : tkF c T 0 with
      | some i =>
        rw [e2] at h
        cases h
        exact ⟨by show c < _; omega, e, e2⟩
      | none =>
        rw [e2] at h
        have h : nxF T L k (c + 1) = some q := h
        obtain ⟨h1, h2, h3⟩ := nxF_some h
        exact ⟨by omega, h2, h3⟩
    · rw [if_neg e] at h
      obtain ⟨h1, h2, h3⟩ := nxF_some h
      exact ⟨by omega, h2, h3⟩
theorem nxF_z {T : List Int64} : ∀ {k c : Nat}, nxF T 0 k c = none
  | 0, _ => rfl
  | k + 1, c => by
    unfold nxF
    rw [bs_0, if_neg (by decide)]
    exact nxF_z
theorem nx_at {T : List Int64} {L : Int64} {q : Nat × Nat} (h : nxF T L 52 0 = some q) : q.1 < 52 ∧ bs L q.1 = true ∧ ∃ m, T[q.2]? = some m ∧ kK (m ||| one q.1) ≠ 0 ∧ setT T q.1 q.2 = T.set q.2 (m ||| one q.1) ∧ q.2 < T.length := by
  obtain ⟨h1, h2, h3⟩ := nxF_some h
  obtain ⟨-, m, h4, h5⟩ := tkF_some h3
  refine ⟨by omega, h2, m, h4, h5, ?_, (List.getElem?_eq_some_iff.mp h4).1⟩
  unfold setT
  have h4 : T[q.2]? = some m := h4
  rw [h4]
  rfl
theorem drop_at {α : Type} {T l : List α} {m : α} {i : Nat} (h : T.drop i = m :: l) : T[i]? = some m ∧ T.drop (i + 1) = l ∧ i < T.length := by
  have h1 : T[i]? = some m := by
    have : (T.drop i)[0]? = some m := by rw [h]; rfl
    rw [List.getElem?_drop] at this
    exact this
  refine ⟨h1, ?_, (List.getElem?_eq_some_iff.mp h1).1⟩
  rw [← List.tail_drop, h]; rfl
/-! the class -/
theorem X1_foundAt {σ : Mm} {T : List Int64} (h7 : σ 0 7 = (T.length : Int)) (hf : ∀ j x, T[j]? = some x → zL (σ 6 j) = x) (h4 : T.length ≤ 4) {i : Nat} {x : Int64} (hi : T[i]? = some x) : x_X1_foundAt σ (i : Int) = some x := by
  have hl : i < T.length := (List.getElem?_eq_some_iff.mp hi).1
  unfold x_X1_foundAt
  rw [h7, if_neg (nlt0 (by omega)), if_neg (nle_n (by omega) (by omega)), if_neg (nle_l (by omega) (by omega)), if_pos (zin_i (by omega) (by omega) (by omega)), zix_nat (by omega), hf i x hi]
def CK (σ : Mm) (T : List Int64) : Prop := σ 1 7 = (T.length : Int) ∧ ∀ j x, T[j]? = some x → zL (σ 7 j) = x
theorem X5_in {σ : Mm} {T : List Int64} {L : Int64} {c : Nat} (hT : CK σ T) (h4 : T.length ≤ 4) (hw : ∀ m ∈ T, cw m) (hc : c < 52) : ∀ (l : List Int64) (i : Nat), i ≤ T.length → T.drop i = l → lup (fun (s9 : Int) => x_X5_addOne_b11 σ L (c : Int) s9) (i : Int) = some (match (if bs L c = true then tkF c l i else none) with
    | some j => .inl (j : Int)
    | none => .inr ())
  | [], i, hi, hd => by
    have hl : T.length ≤ i := List.drop_eq_nil_iff.mp hd
    have : (if bs L c = true then tkF c [] i else none) = none := by split <;> rfl
    rw [this]
    refine lup_inr ?_
    show x_X5_addOne_b11 σ L (c : Int) (i : Int) = _
    unfold x_X5_addOne_b11
    rw [hT.1, zwn (n := T.length) (by omega), zwn (n := i) (by omega), if_pos (by omega)]
  | m :: l, i, hi, hd => by
    obtain ⟨h1, h2, h3⟩ := drop_at hd
    have hbody : x_X5_addOne_b11 σ L (c : Int) (i : Int) = if bs L c = true then (if kK (m ||| one c) = 0 then some (.inl ((i : Int) + 1)) else some (.inr (.inl (i : Int)))) else some (.inr (.inr ())) := by
      unfold x_X5_addOne_b11
      rw [hT.1, zwn (n := T.length) (by omega), zwn (n := i) (by omega), if_neg (by omega), X6_has L hc, Option.bind_some]
      by_cases e : bs L c = true
      · have hk : kK (m ||| one c) < 3 := by
          unfold kK
          split
          · omega
          · split
            · omega
            · split
              · split <;> omega
              · omega
        rw [if_pos e, if_pos e, if_neg (by decide), X1_foundAt (T := T) hT.1 (fun j x h => hT.2 j x h) h4 h1, Option.bind_some, X6_bitOf hc, Option.bind_some]
        show (x_X6_kindOf (m ||| one c)).bind _ = _
        rw [X6_kindOf (cw_add hc (hw m (List.mem_of_getElem? h1))), Option.bind_some, zwn (by omega)]
        by_cases e2 : kK (m ||| one c) = 0
        · rw [if_pos e2, if_pos (by omega)]; rfl
        · rw [if_neg e2, if_neg (by omega)]
      · rw [if_neg e, if_neg e, if_pos (by decide)]
    by_cases e : bs L c = true
    · rw [if_pos e] at hbody ⊢
      unfold tkF
      by_cases e2 : kK (m ||| one c) = 0
      · rw [if_pos e2] at hbody ⊢
        rw [lup_inl (f := fun (s9 : Int) => x_X5_addOne_b11 σ L (c : Int) s9) hbody]
        have := X5_in (L := L) hT h4 hw hc l (i + 1) (by omega) h2
        rw [if_pos e] at this
        rw [show ((i : Int) + 1) = ((i + 1 : Nat) : Int) by omega]
        exact this
      · rw [if_neg e2] at hbody ⊢
        exact lup_inr (f := fun (s9 : Int) => x_X5_addOne_b11 σ L (c : Int) s9) hbody
    · rw [if_neg e] at hbody ⊢
      exact lup_inr (f := fun (s9 : Int) => x_X5_addOne_b11 σ L (c : Int) s9) hbody
theorem X5_out {σ : Mm} {T : List Int64} {L : Int64} (hT : CK σ T) (h4 : T.length ≤ 4) (hw : ∀ m ∈ T, cw m) : ∀ (k c : Nat), c + k = 52 → lup (fun (s14 : Int) => x_X5_addOne_b2 σ L s14) (c : Int) = some (match nxF T L k c with
    | some q => .inl ((q.1 : Int), (q.2 : Int))
    | none => .inr ())
  | 0, c, h => by
    refine lup_inr ?_
    show x_X5_addOne_b2 σ L (c : Int) = _
    unfold x_X5_addOne_b2
    rw [zw_eq (x := (52 : Int)) (by omega) (by omega), zwn (by omega), if_pos (by omega)]
    rfl
  | k + 1, c, h => by
    have hin := X5_in (L := L) hT h4 hw (c := c) (by omega) T 0 (by omega) rfl
    have hbody : x_X5_addOne_b2 σ L (c : Int) = (match (if bs L c = true then tkF c T 0 else none) with
      | some j => some (.inr (.inl ((c : Int), (j : Int))))
      | none => some (.inl ((c : Int) + 1))) := by
      unfold x_X5_addOne_b2
      rw [zw_eq (x := (52 : Int)) (by omega) (by omega), zwn (by omega), if_neg (by omega)]
      have hin : lup (fun (s9 : Int) => x_X5_addOne_b11 σ L (c : Int) s9) (0 : Int) = _ := hin
      rw [hin, Option.bind_some]
      cases (if bs L c = true then tkF c T 0 else none) <;> rfl
    have next := X5_out (L := L) hT h4 hw k (c + 1) (by omega)
    have e1 : ((c : Int) + 1) = ((c + 1 : Nat) : Int) := by omega
    unfold nxF
    by_cases e : bs L c = true
    · rw [if_pos e] at hbody ⊢
      cases e2 : tkF c T 0 with
      | some j =>
        rw [e2] at hbody
        exact lup_inr (f := fun (s14 : Int) => x_X5_addOne_b2 σ L s14) hbody
      | none =>
        rw [e2] at hbody
        rw [lup_inl (f := fun (s14 : Int) => x_X5_addOne_b2 σ L s14) hbody, e1]
        exact next
    · rw [if_neg e] at hbody ⊢
      rw [lup_inl (f := fun (s14 : Int) => x_X5_addOne_b2 σ L s14) hbody, e1]
      exact next
theorem set_at {T : List Int64} {i : Nat} {y : Int64} {j : Nat} {x : Int64} (h : (T.set i y)[j]? = some x) : (j = i ∧ x = y) ∨ (j ≠ i ∧ T[j]? = some x) := by
  rw [List.getElem?_set] at h
  by_cases e : i = j
  · rw [if_pos e] at h
    split at h
    · cases h; exact .inl ⟨e.symm, rfl⟩
    · cases h
  · rw [if_neg e] at h
    exact .inr ⟨fun z => e z.symm, h⟩
theorem X5_addOne {σ : Mm} {T : List Int64} {L : Int64} (hT : CK σ T) (h4 : T.length ≤ 4) (hw : ∀ m ∈ T, cw m) : (nxF T L 52 0 = none ∧ x_X5_addOne σ L = some (σ, -1)) ∨ ∃ q σ', nxF T L 52 0 = some q ∧ x_X5_addOne σ L = some (σ', (q.1 : Int)) ∧ CK σ' (setT T q.1 q.2) ∧ ∀ j, σ' 0 j = σ 0 j := by
  have ho := X5_out (L := L) hT h4 hw 52 0 (by omega)
  unfold x_X5_addOne
  have ho : lup (fun (s14 : Int) => x_X5_addOne_b2 σ L s14) (0 : Int) = _ := ho
  rw [ho, Option.bind_some]
  cases e : nxF T L 52 0 with
  | none => exact .inl ⟨rfl, rfl⟩
  | some q =>
    right
    obtain ⟨h1, h2, m, h3, h5, h6, h7⟩ := nx_at e
    refine ⟨q, zj zl_16 σ (zu (zb zl_16 σ) 6 q.2 (Int64.toInt ((zL (σ 7 q.2)) ||| one q.1))), rfl, ?_, ?_, fun j => rfl⟩
    · show (x_X1_widen (zb zl_16 σ) (q.2 : Int) (q.1 : Int)).bind _ = _
      have hw : x_X1_widen (zb zl_16 σ) (q.2 : Int) (q.1 : Int) = some (zu (zb zl_16 σ) 6 q.2 (Int64.toInt ((zL (σ 7 q.2)) ||| one q.1))) := by
        unfold x_X1_widen
        have e7 : zb zl_16 σ 0 7 = (T.length : Int) := hT.1
        rw [e7, if_neg (nlt0 (by omega)), if_neg (nle_n (by omega) (by omega)), if_neg (nle_l (by omega) (by omega)), if_pos (zin_i (by omega) (by omega) (by omega)), X6_bitOf h1, Option.bind_some, if_pos (zin_i (by omega) (by omega) (by omega)), zix_nat (n := q.2) (by omega), bnd_eq]
        rfl
      rw [hw]
      rfl
    · rw [h6]
      refine ⟨by rw [List.length_set]; exact hT.1, fun j x hx => ?_⟩
      show zL (zu (zb zl_16 σ) 6 q.2 (Int64.toInt ((zL (σ 7 q.2)) ||| one q.1)) 6 j) = x
      rcases set_at hx with ⟨a1, a2⟩ | ⟨a1, a2⟩
      · rw [a1, zu_hit, zL_toInt, hT.2 _ _ h3, a2]
      · rw [zu_miss _ _ _ _ (fun _ => a1)]
        exact hT.2 _ _ a2
theorem mem_set {T : List Int64} {i : Nat} {y x : Int64} (h : x ∈ T.set i y) : x ∈ T ∨ x = y := List.mem_or_eq_of_mem_set h
theorem adF_cw : ∀ {n k : Nat} {T : List Int64} {L : Int64}, cw L → cw (adF n T L k).1 ∧ (adF n T L k).2 ≤ k + n
  | 0, k, T, L, h => ⟨h, by show k ≤ _; omega⟩
  | n + 1, k, T, L, h => by
    unfold adF
    cases e : nxF T L 52 0 with
    | none => exact ⟨h, by show k ≤ _; omega⟩
    | some q =>
      have := adF_cw (n := n) (k := k + 1) (T := setT T q.1 q.2) (cw_dif (one q.1) h)
      exact ⟨this.1, by show (adF n _ _ _).2 ≤ _; omega⟩
theorem X5_loop {r : Nat} (hr : 0 < r) (hr2 : r ≤ 520) : ∀ (n i k : Nat) (σ : Mm) (T : List Int64) (L : Int64), i + n = 52 → CK σ T → σ 0 2 = (r : Int) → σ 0 4 = (k : Int) → T.length ≤ 4 → (∀ m ∈ T, cw m) → ∃ (σ' : Mm) (e : (Mm × Int64) ⊕ (Mm × Int64)), lup (fun (s17 : Mm × Int64 × Int) => x_X5_settle_b44 s17.1 s17.2.1 s17.2.2) (σ, L, (i : Int)) = some e ∧ (e = .inl (σ', (adF n T L k).1) ∨ e = .inr (σ', (adF n T L k).1)) ∧ σ' 0 4 = ((adF n T L k).2 : Int) ∧ σ' 0 2 = (r : Int)
  | 0, i, k, σ, T, L, hi, hT, h2, h4, hl, hw => by
    refine ⟨σ, .inr (σ, L), lup_inr ?_, .inr rfl, h4, h2⟩
    show x_X5_settle_b44 σ L (i : Int) = _
    unfold x_X5_settle_b44
    rw [zw_eq (x := (52 : Int)) (by omega) (by omega), zwn (by omega), if_pos (by omega)]
  | n + 1, i, k, σ, T, L, hi, hT, h2, h4, hl, hw => by
    have hbody : x_X5_settle_b44 σ L (i : Int) = (x_X5_addOne σ L).bind fun o => un2 o fun σ8 v9 => (if zw v9 ≠ zw (-1 : Int) then (x_X6_bitOf v9).bind fun v10 => bnd ((L &&& (v10 ^^^ (-1 : Int64)))) fun v11 => bnd (zu σ8 0 4 ((σ8 0 4) + (1 : Int))) fun σ12 => bnd ((i : Int) + 1) fun v13 => some (.inl (σ12, v11, v13)) else some (.inr (.inl (σ8, L)))) := by
      unfold x_X5_settle_b44
      rw [zw_eq (x := (52 : Int)) (by omega) (by omega), zwn (n := i) (by omega), if_neg (by omega), h2, zwn (n := r) (by omega), if_neg (by omega)]
    unfold adF
    rcases X5_addOne (L := L) hT hl hw with ⟨e1, e2⟩ | ⟨q, σ8, e1, e2, e3, e4⟩
    · rw [e1]
      refine ⟨σ, .inl (σ, L), lup_inr ?_, .inl rfl, h4, h2⟩
      show x_X5_settle_b44 σ L (i : Int) = _
      rw [hbody, e2, Option.bind_some, un2_eq, if_neg (fun z => z rfl)]
    · rw [e1]
      obtain ⟨a1, a2, m, a3, a5, a6, a7⟩ := nx_at e1
      have hstep : x_X5_settle_b44 σ L (i : Int) = some (.inl (zu σ8 0 4 ((σ8 0 4) + 1), dif L (one q.1), (i : Int) + 1)) := by
        rw [hbody, e2, Option.bind_some, un2_eq, if_pos (by rw [zwn (by omega), zw_eq (x := (-1 : Int)) (by omega) (by omega)]; omega), X6_bitOf a1]
        rfl
      rw [lup_inl (f := fun (s17 : Mm × Int64 × Int) => x_X5_settle_b44 s17.1 s17.2.1 s17.2.2) (s := (σ, L, (i : Int))) hstep]
      rw [show ((i : Int) + 1) = ((i + 1 : Nat) : Int) by omega]
      refine X5_loop hr hr2 n (i + 1) (k + 1) _ (setT T q.1 q.2) (dif L (one q.1)) (by omega) ⟨e3.1, fun j x hx => e3.2 j x hx⟩ ?_ ?_ ?_ ?_
      · rw [zu_miss _ _ _ _ (fun _ => by decide), e4, h2]
      · rw [zu_hit, e4, h4]; omega
      · rw [a6, List.length_set]; exact hl
      · intro y hy
        rw [a6] at hy
        rcases mem_set hy with hy | hy
        · exact hw y hy
        · rw [hy]; exact cw_add a1 (hw m (List.mem_of_getElem? a3))
/-- what is left and how many were added, P the hand of the one who knocked, Q the other one's -/
noncomputable def sho (P Q : Int64) : Int64 × Nat := if 0 < RR P P then adF 52 (Lay P) (dl Q (Lay Q)) 0 else (dl Q (Lay Q), 0)
theorem sho_cw {P Q : Int64} (hQ : cw Q) : cw (sho P Q).1 ∧ (sho P Q).2 ≤ 52 := by
  unfold sho
  split
  · have := adF_cw (n := 52) (k := 0) (T := Lay P) (dl_sb Q (Lay Q) hQ)
    exact ⟨this.1, by omega⟩
  · exact ⟨dl_sb Q (Lay Q) hQ, by show (0 : Nat) ≤ _; omega⟩
theorem lW_cw {P : Int64} (h : cw P) : x_X6_pointsOf P = some ((lW P : Nat) : Int) := X6_pointsOf h
theorem sb_self (x : Int64) : sb x x := (sb_iff _ _).mpr (fun _ h => h)
theorem X5_settle (σ : Mm) {P Q : Int64} (hP : cw P) (hQ : cw Q) (hp : cnt (bs P) 64 ≤ 11) (hq : cnt (bs Q) 64 ≤ 11) : ∃ σ', x_X5_settle σ P Q = some σ' ∧ σ' 0 2 = ((RR P P : Nat) : Int) ∧ σ' 0 3 = ((lW (sho P Q).1 : Nat) : Int) ∧ σ' 0 4 = (((sho P Q).2 : Nat) : Int) := by
  obtain ⟨σ1, a1, a2, a3, a4, a5⟩ := X1_lay2 (zb zl_16 σ) hP hp
  obtain ⟨σ3, b1, b2, b3, b4, b5⟩ := X1_lay2 (zb zl_18 (zj zl_16 σ σ1)) hQ hq
  obtain ⟨l1, l2, l3, l4⟩ := Lay_ok hP hp
  have hR := RR_le hP hp (sb_self P)
  rw [l3] at a5
  obtain ⟨s1, s2⟩ := sho_cw (P := P) hQ
  unfold x_X5_settle
  rw [a1, Option.bind_some, bnd_eq, b1, Option.bind_some, bnd_eq, bnd_eq, bnd_eq, bnd_eq]
  have e10 : zj zl_18 (zj zl_16 σ σ1) σ3 1 10 = ((RR P P : Nat) : Int) := a5
  have e9 : zL (zu (zu (zj zl_18 (zj zl_16 σ σ1) σ3) 0 2 (zj zl_18 (zj zl_16 σ σ1) σ3 1 10)) 0 4 0 8 9) = dl Q (Lay Q) := b4
  rw [e9, e10]
  have hCK : CK (zu (zu (zj zl_18 (zj zl_16 σ σ1) σ3) 0 2 ((RR P P : Nat) : Int)) 0 4 0) (Lay P) := ⟨a2, fun j x hx => a3 j x hx⟩
  have h2 : zu (zu (zj zl_18 (zj zl_16 σ σ1) σ3) 0 2 ((RR P P : Nat) : Int)) 0 4 0 0 2 = ((RR P P : Nat) : Int) := by
    rw [zu_miss _ _ _ _ (fun _ => by decide), zu_hit]
  have h4 : zu (zu (zj zl_18 (zj zl_16 σ σ1) σ3) 0 2 ((RR P P : Nat) : Int)) 0 4 0 0 4 = 0 := zu_hit _ _ _ _
  generalize zu (zu (zj zl_18 (zj zl_16 σ σ1) σ3) 0 2 ((RR P P : Nat) : Int)) 0 4 0 = τ at hCK h2 h4
  have key : ∃ (σ' : Mm) (e : (Mm × Int64) ⊕ (Mm × Int64)), lup (fun (s17 : Mm × Int64 × Int) => x_X5_settle_b44 s17.1 s17.2.1 s17.2.2) (τ, dl Q (Lay Q), (0 : Int)) = some e ∧ (e = .inl (σ', (sho P Q).1) ∨ e = .inr (σ', (sho P Q).1)) ∧ σ' 0 4 = (((sho P Q).2 : Nat) : Int) ∧ σ' 0 2 = ((RR P P : Nat) : Int) := by
    unfold sho
    by_cases e : 0 < RR P P
    · rw [if_pos e]
      exact X5_loop e hR 52 0 0 τ (Lay P) (dl Q (Lay Q)) (by omega) hCK h2 h4 (by omega) (fun m hm => cw_sb (l2 m hm).1 hP)
    · rw [if_neg e]
      refine ⟨τ, .inr (τ, dl Q (Lay Q)), lup_inr ?_, .inr rfl, h4, h2⟩
      show x_X5_settle_b44 τ (dl Q (Lay Q)) 0 = _
      unfold x_X5_settle_b44
      rw [if_neg (by decide), h2, zwn (by omega), if_pos (by omega)]
  obtain ⟨σ', e, k1, k2 | k2, k3, k4⟩ := key
  · rw [k1, Option.bind_some, k2, zel_inl, un2_eq, lW_cw s1, Option.bind_some, bnd_eq]
    refine ⟨_, rfl, ?_, zu_hit _ _ _ _, ?_⟩
    · rw [zu_miss _ _ _ _ (fun _ => by decide)]; exact k4
    · rw [zu_miss _ _ _ _ (fun _ => by decide)]; exact k3
  · rw [k1, Option.bind_some, k2, zel_inr, un2_eq, lW_cw s1, Option.bind_some, bnd_eq]
    refine ⟨_, rfl, ?_, zu_hit _ _ _ _, ?_⟩
    · rw [zu_miss _ _ _ _ (fun _ => by decide)]; exact k4
    · rw [zu_miss _ _ _ _ (fun _ => by decide)]; exact k3
