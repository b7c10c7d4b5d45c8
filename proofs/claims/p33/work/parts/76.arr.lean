/-! told cards first, then the shuffled others -/
def full (l0 X : List Nat) : List Nat := X ++ l0.filter (fun x => decide (x ∉ X))
theorem full_nil (l0 : List Nat) : full l0 [] = l0 := by
  unfold full
  rw [List.nil_append]
  exact List.filter_eq_self.mpr (fun a _ => by rw [decide_eq_true_eq]; exact fun z => by cases z)
theorem fs_ne {X : List Nat} {c : Nat} (h : c ∉ X) : X.filter (fun x => decide (x ≠ c)) = X := List.filter_eq_self.mpr (fun a ha => by
  rw [decide_eq_true_eq]; rintro rfl; exact h ha)
theorem full_cons {l0 X : List Nat} {c : Nat} (h : c ∉ X) : full l0 (c :: X) = c :: (full l0 X).filter (fun x => decide (x ≠ c)) := by
  unfold full
  rw [List.filter_append, List.filter_filter, fs_ne h, List.cons_append]
  have e : l0.filter (fun x => decide (x ∉ c :: X)) = l0.filter (fun a => decide (a ≠ c) && decide (a ∉ X)) := List.filter_congr (fun x _ => by
    rw [← Bool.decide_and]
    exact decide_eq_decide.mpr ⟨fun z => ⟨fun y => z (y ▸ List.mem_cons_self), fun y => z (List.mem_cons_of_mem _ y)⟩, fun z y => by
      rcases List.mem_cons.mp y with y | y
      · exact z.1 y
      · exact z.2 y⟩)
  rw [e]
theorem full_nd {l0 X : List Nat} (h0 : l0.Nodup) (hX : X.Nodup) : (full l0 X).Nodup := by
  unfold full
  rw [List.nodup_append]
  refine ⟨hX, h0.filter _, fun a ha b hb e => ?_⟩
  subst e
  have := (List.mem_filter.mp hb).2
  rw [decide_eq_true_eq] at this
  exact this ha
theorem full_mem {l0 X : List Nat} {c : Nat} (h : c ∈ l0) : c ∈ full l0 X := by
  unfold full
  rw [List.mem_append]
  by_cases e : c ∈ X
  · exact .inl e
  · exact .inr (List.mem_filter.mpr ⟨h, decide_eq_true e⟩)
theorem full_split {l0 X : List Nat} {c : Nat} (h0 : l0.Nodup) (hX : X.Nodup) (h : c ∉ X) (hc : c ∈ l0) : ∃ s t, full l0 X = s ++ c :: t ∧ c ∉ s ∧ full l0 (c :: X) = c :: (s ++ t) := by
  obtain ⟨s, t, e⟩ := List.append_of_mem (full_mem (X := X) hc)
  have hn := full_nd h0 hX
  rw [e, List.nodup_append] at hn
  obtain ⟨n1, n2, n3⟩ := hn
  have hs : c ∉ s := fun z => n3 c z c List.mem_cons_self rfl
  have ht : c ∉ t := (List.nodup_cons.mp n2).1
  refine ⟨s, t, e, hs, ?_⟩
  rw [full_cons h, e, List.filter_append, List.filter_cons_of_neg (by simp), fs_ne hs, fs_ne ht]
theorem full_len {l0 : List Nat} (h0 : l0.Nodup) : ∀ (X : List Nat), X.Nodup → (∀ x, x ∈ X → x ∈ l0) → (full l0 X).length = l0.length
  | [], _, _ => by rw [full_nil]
  | c :: X, hX, hm => by
    obtain ⟨h1, h2⟩ := List.nodup_cons.mp hX
    obtain ⟨s, t, e1, e2, e3⟩ := full_split h0 h2 h1 (hm c List.mem_cons_self)
    have ih := full_len h0 X h2 (fun x hx => hm x (List.mem_cons_of_mem _ hx))
    rw [e1, List.length_append, List.length_cons] at ih
    rw [e3, List.length_cons, List.length_append]
    omega
/-- a list's places -/
def Pls (f : Nat → Int) (l : List Nat) : Prop := ∀ i n : Nat, l[i]? = some n → f i = (n : Int)
def lst (k : Nat) (D : Nat → Nat) : List Nat := (List.range k).map D
theorem lst_at {k : Nat} {D : Nat → Nat} {i : Nat} (h : i < k) : (lst k D)[i]? = some (D i) := by
  unfold lst
  rw [List.getElem?_map, List.getElem?_range h]; rfl
theorem lst_len (k : Nat) (D : Nat → Nat) : (lst k D).length = k := by
  unfold lst
  rw [List.length_map, List.length_range]
theorem lst_mem {k : Nat} {D : Nat → Nat} {c : Nat} : c ∈ lst k D ↔ ∃ i, i < k ∧ D i = c := by
  unfold lst
  rw [List.mem_map]
  constructor
  · rintro ⟨i, i1, i2⟩; exact ⟨i, List.mem_range.mp i1, i2⟩
  · rintro ⟨i, i1, i2⟩; exact ⟨i, List.mem_range.mpr i1, i2⟩
theorem lst_nd {k : Nat} {D : Nat → Nat} (h : ∀ i j, i < k → j < k → D i = D j → i = j) : (lst k D).Nodup := by
  unfold lst List.Nodup
  rw [List.pairwise_map]
  refine List.Pairwise.imp_of_mem (R := fun a b => a < b) (fun {a c} ha hc hlt z => ?_) List.pairwise_lt_range
  have := h a c (List.mem_range.mp ha) (List.mem_range.mp hc) z
  omega
theorem Pls_of {f : Nat → Int} {k : Nat} {D : Nat → Nat} (h : ∀ i, i < k → f i = (D i : Int)) : Pls f (lst k D) := fun i n hi => by
  have hl : i < (lst k D).length := by
    rcases Nat.lt_or_ge i (lst k D).length with w | w
    · exact w
    · rw [List.getElem?_eq_none w] at hi; cases hi
  rw [lst_len] at hl
  rw [lst_at hl] at hi
  cases hi
  exact h i hl
theorem get_lt {l : List Nat} {i n : Nat} (h : l[i]? = some n) : i < l.length := by
  rcases Nat.lt_or_ge i l.length with w | w
  · exact w
  · rw [List.getElem?_eq_none w] at h; cases h
/-- the model's shift -/
theorem X7_b37 {v : Int} : ∀ (u : Nat) (τ : Mm), u < 52 → ∃ τ', lup (fun (s14 : Mm × Int) => x_X7_putFirst_b37 v s14.1 s14.2) (τ, (u : Int)) = some τ' ∧ (∀ i, 1 ≤ i → i ≤ u → τ' 1 (15 + i) = τ 1 (15 + i - 1)) ∧ (∀ i, (i < 16 ∨ 15 + u < i) → τ' 1 i = τ 1 i) ∧ RW τ τ' := by
  intro u
  induction u with
  | zero =>
    intro τ _
    refine ⟨τ, lup_inr ?_, fun i h1 h2 => by omega, fun _ _ => rfl, RW_r τ⟩
    show x_X7_putFirst_b37 v τ (0 : Int) = _
    unfold x_X7_putFirst_b37
    rw [if_pos (by decide)]
  | succ u ih =>
    intro τ hu
    have s1 : x_X7_putFirst_b37 v τ ((u + 1 : Nat) : Int) = some (.inl (zu τ 1 (15 + u + 1) (τ 1 (15 + u)), (u : Int))) := by
      unfold x_X7_putFirst_b37
      rw [if_neg (by rw [zwn (by omega)]; omega), show (15 : Int) + ((u + 1 : Nat) : Int) - 1 = ((15 + u : Nat) : Int) by omega, show (15 : Int) + ((u + 1 : Nat) : Int) = ((15 + u + 1 : Nat) : Int) by omega, if_pos (zin_i (by omega) (by omega) (by omega)), if_pos (zin_i (by omega) (by omega) (by omega)), zix_nat (n := 15 + u) (by omega), zix_nat (n := 15 + u + 1) (by omega), bnd_eq, bnd_eq, show ((u + 1 : Nat) : Int) + (-1 : Int) = (u : Int) by omega]
    obtain ⟨τ', r1, r2, r3, r4⟩ := ih (zu τ 1 (15 + u + 1) (τ 1 (15 + u))) (by omega)
    rw [lup_inl (f := fun (s14 : Mm × Int) => x_X7_putFirst_b37 v s14.1 s14.2) (s := (τ, ((u + 1 : Nat) : Int))) s1]
    refine ⟨τ', r1, fun i h1 h2 => ?_, fun i hi => ?_, RW_t (RW_u _ _ _) r4⟩
    · by_cases e : i = u + 1
      · subst e
        rw [r3 _ (by omega), show 15 + (u + 1) = 15 + u + 1 by omega, zu_hit, show 15 + u + 1 - 1 = 15 + u by omega]
      · rw [r2 i h1 (by omega), zu_miss _ _ _ _ (fun _ => by omega)]
    · rw [r3 i (by omega), zu_miss _ _ _ _ (fun _ => by omega)]
theorem X7_step {σ : Mm} {s t : List Nat} {c j : Nat} (hl : (s ++ c :: t).length = 52) (hR : Pls (fun i => σ 1 (15 + i)) (s ++ c :: t)) (hlt : ∀ x, x ∈ s ++ c :: t → x < 52) (hs : c ∉ s) (hj : j < 52) (h25 : σ 25 j = (c : Int)) : ∃ σ', x_X7_putFirst_b7 σ (j : Int) = some (.inl (σ', (j : Int) - 1)) ∧ Pls (fun i => σ' 1 (15 + i)) (c :: (s ++ t)) ∧ RW σ σ' ∧ ∀ i, (i < 15 ∨ 67 ≤ i) → σ' 1 i = σ 1 i := by
  rw [List.length_append, List.length_cons] at hl
  have hc : c < 52 := hlt c (List.mem_append.mpr (.inr List.mem_cons_self))
  have h13 : ∀ (n i : Nat), i + n = s.length → lup (fun (s6 : Int) => x_X7_putFirst_b13 σ (j : Int) s6) (i : Int) = some (s.length : Int) := by
    intro n
    induction n with
    | zero =>
      intro i hi
      have : i = s.length := by omega
      subst this
      apply lup_inr
      show x_X7_putFirst_b13 σ (j : Int) (s.length : Int) = _
      unfold x_X7_putFirst_b13
      have e := hR s.length c (by rw [List.getElem?_append_right (Nat.le_refl _), Nat.sub_self]; rfl)
      rw [show (15 : Int) + (s.length : Int) = ((15 + s.length : Nat) : Int) by omega, if_pos (zin_i (by omega) (by omega) (by omega)), if_pos (zin_i (by omega) (by omega) (by omega)), zix_nat (n := 15 + s.length) (by omega), zix_nat (n := j) (by omega), h25, show σ 1 (15 + s.length) = (c : Int) from e, if_pos rfl]
    | succ n ih =>
      intro i hi
      have hi' : i < s.length := by omega
      have e := hR i s[i] (by rw [List.getElem?_append_left hi', List.getElem?_eq_getElem hi'])
      have hm : s[i] ∈ s := List.getElem_mem hi'
      have hne : s[i] ≠ c := fun z => hs (z ▸ hm)
      have h52 := hlt s[i] (List.mem_append.mpr (.inl hm))
      have s1 : x_X7_putFirst_b13 σ (j : Int) (i : Int) = some (.inl ((i + 1 : Nat) : Int)) := by
        unfold x_X7_putFirst_b13
        rw [show (15 : Int) + (i : Int) = ((15 + i : Nat) : Int) by omega, if_pos (zin_i (by omega) (by omega) (by omega)), if_pos (zin_i (by omega) (by omega) (by omega)), zix_nat (n := 15 + i) (by omega), zix_nat (n := j) (by omega), h25, show σ 1 (15 + i) = (s[i] : Int) from e, if_neg (by rw [zwn (by omega), zwn (by omega)]; omega)]; rfl
      rw [lup_inl (f := fun (s6 : Int) => x_X7_putFirst_b13 σ (j : Int) s6) s1]
      exact ih (i + 1) (by omega)
  obtain ⟨τ, r1, r2, r3, r4⟩ := X7_b37 (v := (j : Int)) s.length σ (by omega)
  refine ⟨zu τ 1 15 (c : Int), ?_, fun i n hi => ?_, RW_t r4 (RW_u _ _ _), fun i hi => ?_⟩
  · unfold x_X7_putFirst_b7
    rw [if_neg (by rw [zwn (by omega)]; omega), show lup (fun (s6 : Int) => x_X7_putFirst_b13 σ (j : Int) s6) (0 : Int) = some (s.length : Int) from h13 s.length 0 (by omega), Option.bind_some, r1, Option.bind_some, if_pos (zin_i (by omega) (by omega) (by omega)), if_pos (zin_i (x := (15 : Int)) (by omega) (by omega) (by omega)), zix_nat (n := j) (by omega), r4 25 (by omega), h25]
    rfl
  · show zu τ 1 15 (c : Int) 1 (15 + i) = (n : Int)
    rcases i with _ | i
    · rw [show 15 + 0 = 15 from rfl, zu_hit]
      rw [List.getElem?_cons_zero] at hi
      cases hi; rfl
    · rw [List.getElem?_cons_succ] at hi
      rw [zu_miss _ _ _ _ (fun _ => by omega)]
      by_cases w : i < s.length
      · rw [List.getElem?_append_left w] at hi
        rw [r2 (i + 1) (by omega) (by omega), show 15 + (i + 1) - 1 = 15 + i by omega]
        exact hR i n (by rw [List.getElem?_append_left w]; exact hi)
      · rw [List.getElem?_append_right (by omega)] at hi
        rw [r3 _ (by omega)]
        exact hR (i + 1) n (by
          rw [List.getElem?_append_right (by omega), show i + 1 - s.length = (i - s.length) + 1 by omega, List.getElem?_cons_succ]; exact hi)
  · rw [zu_miss _ _ _ _ (fun _ => by omega), r3 i (by omega)]
theorem X7_putAll {l0 T : List Nat} {k : Nat} (h0 : l0.Nodup) (hm : ∀ c, c < 52 → c ∈ l0) (hl : l0.length = 52) (hlt : ∀ x, x ∈ l0 → x < 52) (hT : T.Nodup) (hT2 : ∀ x, x ∈ T → x < 52) (hk : T.length ≤ 52) : ∀ (j : Nat) (σ : Mm), j ≤ T.length → Pls (σ 25) T → Pls (fun i => σ 1 (15 + i)) (full l0 (T.drop j)) → ∃ σ', lup (fun (s22 : Mm × Int) => x_X7_putFirst_b7 s22.1 s22.2) (σ, (j : Int) - 1) = some σ' ∧ Pls (fun i => σ' 1 (15 + i)) (full l0 T) ∧ RW σ σ' ∧ ∀ i, (i < 15 ∨ 67 ≤ i) → σ' 1 i = σ 1 i := by
  intro j
  induction j with
  | zero =>
    intro σ _ h25 hR
    refine ⟨σ, lup_inr ?_, hR, RW_r σ, fun _ _ => rfl⟩
    show x_X7_putFirst_b7 σ ((0 : Nat) - 1 : Int) = _
    unfold x_X7_putFirst_b7
    rw [if_pos (by decide)]
  | succ j ih =>
    intro σ hj h25 hR
    have hj' : j < T.length := by omega
    have ed : T.drop j = T[j] :: T.drop (j + 1) := List.drop_eq_getElem_cons hj'
    have hnd : (T.drop j).Nodup := List.Sublist.nodup (List.drop_sublist j T) hT
    rw [ed] at hnd
    obtain ⟨n1, n2⟩ := List.nodup_cons.mp hnd
    have hc := hT2 T[j] (List.getElem_mem hj')
    obtain ⟨s, t, e1, e2, e3⟩ := full_split h0 n2 n1 (hm _ hc)
    have hX : ∀ x, x ∈ T.drop (j + 1) → x < 52 := fun x hx => hT2 x (List.mem_of_mem_drop hx)
    have len := full_len h0 (T.drop (j + 1)) n2 (fun x hx => hm x (hX x hx))
    rw [e1] at hR len
    have hlt2 : ∀ x, x ∈ s ++ T[j] :: t → x < 52 := fun x hx => by
      rw [← e1] at hx
      unfold full at hx
      rcases List.mem_append.mp hx with z | z
      · exact hX x z
      · exact hlt x (List.mem_filter.mp z).1
    obtain ⟨σ1, a1, a2, a3, a4⟩ := X7_step (j := j) (len.trans hl) hR hlt2 e2 (by omega) (h25 j T[j] (List.getElem?_eq_getElem hj'))
    rw [← e3, ← ed] at a2
    obtain ⟨σ', b1, b2, b3, b4⟩ := ih σ1 (by omega) (by rw [a3 25 (by omega)]; exact h25) a2
    rw [show ((j + 1 : Nat) : Int) - 1 = (j : Int) by omega, lup_inl (f := fun (s22 : Mm × Int) => x_X7_putFirst_b7 s22.1 s22.2) (s := (σ, (j : Int))) a1]
    exact ⟨σ', b1, b2, RW_t a3 b3, fun i hi => (b4 i hi).trans (a4 i hi)⟩
/-- the class's mask of told cards -/
theorem X3_b5 {σ : Mm} {k : Nat} {D : Nat → Nat} (hk : k ≤ 52) (h7 : σ 0 7 = (k : Int)) (hD : ∀ i, i < k → D i < 52 ∧ σ 2 i = (D i : Int)) : ∀ (n i : Nat) (mask : Int64), i + n = k → (∀ c, bs mask c = true ↔ ∃ x, x < i ∧ D x = c) → ∃ mask' : Int64, lup (fun (s7 : Int64 × Int) => x_X3_arrange_b5 σ s7.1 s7.2) (mask, (i : Int)) = some mask' ∧ ∀ c, bs mask' c = true ↔ ∃ x, x < k ∧ D x = c := by
  intro n
  induction n with
  | zero =>
    intro i mask hi hM
    have : i = k := by omega
    subst this
    refine ⟨mask, lup_inr ?_, hM⟩
    show x_X3_arrange_b5 σ mask (i : Int) = _
    unfold x_X3_arrange_b5
    rw [h7, if_pos (Int.le_refl _)]
  | succ n ih =>
    intro i mask hi hM
    obtain ⟨d1, d2⟩ := hD i (by omega)
    have s1 : x_X3_arrange_b5 σ mask (i : Int) = some (.inl (mask ||| zlshl 1 (D i : Int), ((i + 1 : Nat) : Int))) := by
      unfold x_X3_arrange_b5
      rw [h7, if_neg (nle_n (by omega) (by omega)), if_neg (by rw [zwn (by omega), zw_eq (x := (52 : Int)) (by omega) (by omega)]; omega), if_pos (zin_i (by omega) (by omega) (by omega)), zix_nat (n := i) (by omega), d2, X6_bitOf d1, Option.bind_some]; rfl
    rw [lup_inl (f := fun (s7 : Int64 × Int) => x_X3_arrange_b5 σ s7.1 s7.2) (s := (mask, (i : Int))) s1]
    refine ih (i + 1) _ (by omega) (fun c => ?_)
    show bs (mask ||| one (D i)) c = true ↔ _
    rw [bs_add _ (by omega), Bool.or_eq_true_iff, hM c, decide_eq_true_eq]
    constructor
    · rintro (⟨x, x1, x2⟩ | z)
      · exact ⟨x, by omega, x2⟩
      · exact ⟨i, by omega, z.symm⟩
    · rintro ⟨x, x1, x2⟩
      by_cases w : x = i
      · subst w; exact .inr x2.symm
      · exact .inl ⟨x, by omega, x2⟩
/-- the class's order: the others behind the told -/
theorem X3_b49 {mask : Int64} {T : List Nat} {D0 : Nat → Nat} (hM : ∀ c, bs mask c = true ↔ c ∈ T) (hD0 : ∀ i, i < 52 → D0 i < 52) (hlen : (full (lst 52 D0) T).length = 52) : ∀ (n u : Nat) (σ : Mm), u + n = 52 → (∀ j, j < 52 → σ 6 j = (D0 j : Int)) → Pls (σ 2) (T ++ ((lst 52 D0).take u).filter (fun x => decide (x ∉ T))) → ∃ σ', lup (fun (s21 : Mm × Int × Int) => x_X3_arrange_b49 mask s21.1 s21.2.1 s21.2.2) (σ, ((T ++ ((lst 52 D0).take u).filter (fun x => decide (x ∉ T))).length : Int), (u : Int)) = some σ' ∧ Pls (σ' 2) (full (lst 52 D0) T) ∧ ∀ c, c ≠ 2 → σ' c = σ c := by
  intro n
  induction n with
  | zero =>
    intro u σ hu h6 hR
    have : u = 52 := by omega
    subst this
    rw [List.take_of_length_le (by rw [lst_len]; omega)] at hR ⊢
    refine ⟨σ, lup_inr ?_, hR, fun _ _ => rfl⟩
    show x_X3_arrange_b49 mask σ _ ((52 : Nat) : Int) = _
    unfold x_X3_arrange_b49
    rw [if_pos (by decide)]
  | succ n ih =>
    intro u σ hu h6 hR
    have hu52 : u < 52 := by omega
    have hfull : full (lst 52 D0) T = (T ++ ((lst 52 D0).take u).filter (fun x => decide (x ∉ T))) ++ ((lst 52 D0).drop u).filter (fun x => decide (x ∉ T)) := by
      unfold full
      rw [List.append_assoc, ← List.filter_append, List.take_append_drop]
    have htk : (lst 52 D0).take (u + 1) = (lst 52 D0).take u ++ [D0 u] := by
      rw [List.take_add_one, lst_at hu52]; rfl
    generalize hX : T ++ ((lst 52 D0).take u).filter (fun x => decide (x ∉ T)) = X at hR hfull ⊢
    have hXl : X.length ≤ 52 := by rw [hfull, List.length_append] at hlen; omega
    have n1 : ¬ zw (52 : Int) ≤ zw (u : Int) := by rw [zwn (by omega), zw_eq (x := (52 : Int)) (by omega) (by omega)]; omega
    by_cases e : X.length = 52
    · refine ⟨σ, lup_inr ?_, fun i v hi => ?_, fun _ _ => rfl⟩
      · show x_X3_arrange_b49 mask σ (X.length : Int) (u : Int) = _
        unfold x_X3_arrange_b49
        rw [if_neg n1, e, if_pos (by decide)]
      · have hi' := get_lt hi
        rw [hlen] at hi'
        rw [hfull, List.getElem?_append_left (by omega)] at hi
        exact hR i v hi
    · have n2 : ¬ zw (52 : Int) ≤ zw (X.length : Int) := by rw [zwn (by omega), zw_eq (x := (52 : Int)) (by omega) (by omega)]; omega
      have hd : x_X2_deckAt (zb zl_15 σ) (u : Int) = some (D0 u : Int) := X2_deckAt (μ := zb zl_15 σ) (D := D0) (fun j hj => h6 j hj) hu52
      have hu1 : (u : Int) + 1 = ((u + 1 : Nat) : Int) := by omega
      by_cases w : D0 u ∈ T
      · have s1 : x_X3_arrange_b49 mask σ (X.length : Int) (u : Int) = some (.inl (σ, (X.length : Int), ((u + 1 : Nat) : Int))) := by
          unfold x_X3_arrange_b49
          rw [if_neg n1, if_neg n2, hd, Option.bind_some, X6_has mask (hD0 u hu52), if_pos ((hM _).mpr w), Option.bind_some, if_pos (show zw (1 : Int) ≠ 0 by decide), hu1]; rfl
        have hX2 : T ++ ((lst 52 D0).take (u + 1)).filter (fun x => decide (x ∉ T)) = X := by
          rw [htk, List.filter_append, List.filter_cons_of_neg (by rw [decide_eq_true_eq]; exact fun z => z w), List.filter_nil, List.append_nil, hX]
        have := ih (u + 1) σ (by omega) h6 (by rw [hX2]; exact hR)
        rw [hX2] at this
        rw [lup_inl (f := fun (s21 : Mm × Int × Int) => x_X3_arrange_b49 mask s21.1 s21.2.1 s21.2.2) (s := (σ, (X.length : Int), (u : Int))) s1]
        exact this
      · have s1 : x_X3_arrange_b49 mask σ (X.length : Int) (u : Int) = some (.inl (zu σ 2 X.length (D0 u : Int), ((X.length + 1 : Nat) : Int), ((u + 1 : Nat) : Int))) := by
          unfold x_X3_arrange_b49
          rw [if_neg n1, if_neg n2, hd, Option.bind_some, X6_has mask (hD0 u hu52), if_neg (fun z => w ((hM _).mp z)), Option.bind_some, if_neg z0n, if_pos (zin_i (by omega) (by omega) (by omega)), zix_nat (n := X.length) (by omega), hu1]; rfl
        have hX2 : T ++ ((lst 52 D0).take (u + 1)).filter (fun x => decide (x ∉ T)) = X ++ [D0 u] := by
          rw [htk, List.filter_append, List.filter_cons_of_pos (by rw [decide_eq_true_eq]; exact w), List.filter_nil, ← List.append_assoc, hX]
        have := ih (u + 1) (zu σ 2 X.length (D0 u : Int)) (by omega) (fun j hj => h6 j hj) (by
          rw [hX2]
          intro i v hi
          rw [zu_at]
          by_cases q : i = X.length
          · subst q
            rw [List.getElem?_append_right (Nat.le_refl _), Nat.sub_self] at hi
            rw [if_pos ⟨rfl, rfl⟩]
            have hi' : some (D0 u) = some v := hi
            cases hi'; rfl
          · rw [if_neg (fun z => q z.2)]
            have := get_lt hi
            rw [List.length_append] at this
            have h1 : ([D0 u] : List Nat).length = 1 := rfl
            rw [List.getElem?_append_left (by omega)] at hi
            exact hR i v hi)
        rw [hX2, List.length_append] at this
        rw [lup_inl (f := fun (s21 : Mm × Int × Int) => x_X3_arrange_b49 mask s21.1 s21.2.1 s21.2.2) (s := (σ, (X.length : Int), (u : Int))) s1]
        obtain ⟨σ', r1, r2, r3⟩ := this
        exact ⟨σ', r1, r2, fun c hc => by rw [r3 c hc]; unfold zu; rw [if_neg hc]⟩
theorem arr_both {σ m : Mm} {k : Nat} {D D0 : Nat → Nat} (hT : TD σ m k D) (h0 : PM D0) (h6 : ∀ j, j < 52 → σ 6 j = (D0 j : Int)) (h1 : ∀ j, j < 52 → m 1 (15 + j) = (D0 j : Int)) : ∃ (F : Nat → Nat) (σ' m' : Mm), PM F ∧ x_X3_arrange σ = some σ' ∧ x_X7_putFirst m = some m' ∧ (∀ j, j < 52 → σ' 6 j = (F j : Int)) ∧ (∀ j, j < 52 → m' 1 (15 + j) = (F j : Int)) ∧ (∀ c, c ≠ 2 → c ≠ 6 → σ' c = σ c) ∧ RW m m' ∧ ∀ i, (i < 15 ∨ 67 ≤ i) → m' 1 i = m 1 i := by
  obtain ⟨k52, t7, t26, tD, tI⟩ := hT
  obtain ⟨d1, d2, d3⟩ := h0
  have n0 : (lst 52 D0).Nodup := lst_nd d2
  have nT : (lst k D).Nodup := lst_nd tI
  have m0 : ∀ c, c < 52 → c ∈ lst 52 D0 := fun c hc => lst_mem.mpr (d3 c hc)
  have l0 : ∀ x, x ∈ lst 52 D0 → x < 52 := fun x hx => by
    obtain ⟨i, i1, i2⟩ := lst_mem.mp hx
    rw [← i2]; exact d1 i i1
  have lT : ∀ x, x ∈ lst k D → x < 52 := fun x hx => by
    obtain ⟨i, i1, i2⟩ := lst_mem.mp hx
    rw [← i2]; exact (tD i i1).1
  have hlen : (full (lst 52 D0) (lst k D)).length = 52 := by rw [full_len n0 _ nT (fun x hx => m0 x (lT x hx)), lst_len]
  have hnd := full_nd n0 nT
  have hflt : ∀ x, x ∈ full (lst 52 D0) (lst k D) → x < 52 := fun x hx => by
    unfold full at hx
    rcases List.mem_append.mp hx with z | z
    · exact lT x z
    · exact l0 x (List.mem_filter.mp z).1
  -- the model
  obtain ⟨m', a1, a2, a3, a4⟩ := X7_putAll (k := k) n0 m0 (lst_len 52 D0) l0 nT lT (by rw [lst_len]; exact k52) k m (by rw [lst_len]; exact Nat.le_refl _) (Pls_of (fun i hi => (tD i hi).2.2)) (by
    rw [List.drop_of_length_le (by rw [lst_len]; exact Nat.le_refl _), full_nil]
    exact Pls_of h1)
  -- the class
  obtain ⟨mask, b1, b2⟩ := X3_b5 k52 t7 (fun i hi => ⟨(tD i hi).1, (tD i hi).2.1⟩) k 0 0 (by omega) (fun c => by
    rw [bs_0]
    constructor
    · intro z; cases z
    · rintro ⟨i, i1, -⟩; omega)
  have hX0 : lst k D ++ ((lst 52 D0).take 0).filter (fun x => decide (x ∉ lst k D)) = lst k D := by
    rw [List.take_zero, List.filter_nil, List.append_nil]
  have c0 := X3_b49 (mask := mask) (T := lst k D) (D0 := D0) (fun c => by rw [b2 c, lst_mem]) d1 hlen 52 0 σ (by omega) h6 (by
    rw [hX0]
    exact Pls_of (fun i hi => (tD i hi).2.1))
  rw [hX0, lst_len] at c0
  obtain ⟨σ1, c1, c2, c3⟩ := c0
  generalize hF : full (lst 52 D0) (lst k D) = Z at *
  have zget : ∀ i, i < 52 → Z[i]? = some (Z.getD i 0) := fun i hi => by
    rw [List.getD_eq_getElem?_getD, List.getElem?_eq_getElem (by omega)]; rfl
  refine ⟨fun i => Z.getD i 0, zcp σ1 2 6 52, m', ⟨fun i hi => ?_, fun i j hi hj z => ?_, ?_⟩, ?_, ?_, fun j hj => ?_, fun j hj => a2 j _ (zget j hj), fun c hc hc6 => ?_, a3, a4⟩
  · exact hflt _ (List.mem_of_getElem? (zget i hi))
  · have e1 := zget i hi
    rw [show Z.getD i 0 = Z.getD j 0 from z, ← zget j hj] at e1
    exact (List.getElem?_inj (by omega) hnd).mp e1
  · exact pig 52 _ (fun i hi => hflt _ (List.mem_of_getElem? (zget i hi))) (fun i j hi hj z => by
      have e1 := zget i hi
      rw [show Z.getD i 0 = Z.getD j 0 from z, ← zget j hj] at e1
      exact (List.getElem?_inj (by omega) hnd).mp e1)
  · unfold x_X3_arrange x_X3_arrange_j40
    rw [show (lup (fun (s7 : Int64 × Int) => x_X3_arrange_b5 σ s7.1 s7.2) ((0 : Int64), (0 : Int))) = some mask from b1, Option.bind_some, bnd_eq, t7, show (lup (fun (s21 : Mm × Int × Int) => x_X3_arrange_b49 mask s21.1 s21.2.1 s21.2.2) (σ, (k : Int), (0 : Int))) = some σ1 from c1, Option.bind_some, bnd_eq]
  · unfold x_X7_putFirst
    rw [bnd_eq, t26, a1, Option.bind_some]
  · rw [zcp_at, if_pos ⟨rfl, hj⟩]
    exact c2 j _ (zget j hj)
  · unfold zcp
    rw [if_neg hc6]
    exact c3 c hc
