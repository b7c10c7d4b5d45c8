/-! The class's row of melds -/
abbrev Ml : Type := List (Int64 × Int)
def MS (σ : Mm) (M : Ml) : Prop := σ 0 4 = (M.length : Int) ∧ ∀ (i : Nat) (q : Int64 × Int), M[i]? = some q → zL (σ 1 i) = q.1 ∧ σ 2 i = q.2
theorem MS_add {σ σ' : Mm} {M : Ml} {x : Int64 × Int} (h : MS σ M) (h1 : σ' 0 4 = (M.length : Int) + 1) (h2 : ∀ i, i ≠ M.length → σ' 1 i = σ 1 i ∧ σ' 2 i = σ 2 i) (h3 : zL (σ' 1 M.length) = x.1 ∧ σ' 2 M.length = x.2) : MS σ' (M ++ [x]) := by
  refine ⟨by rw [h1]; simp, fun i q hq => ?_⟩
  rcases Nat.lt_trichotomy i M.length with c | c | c
  · rw [List.getElem?_append_left c] at hq
    obtain ⟨a, b⟩ := h2 i (by omega)
    rw [a, b]
    exact h.2 i q hq
  · subst c
    simp at hq
    subst hq
    exact h3
  · rw [List.getElem?_eq_none (by simp; omega)] at hq
    cases hq
theorem X1_addMeld {σ : Mm} {M : Ml} (m : Int64) (k : Int) (h : MS σ M) (hl : M.length < 64) : ∃ σ', x_X1_addMeld σ m k = some σ' ∧ MS σ' (M ++ [(m, k)]) := by
  have h0 := h.1
  unfold x_X1_addMeld
  rw [h0, if_neg (by rw [zw_eq (x := (64 : Int)) (by omega) (by omega), zwn (by omega)]; omega), if_pos (zin_i (by omega) (by omega) (by omega)), bnd_eq]
  have e1 : zu σ 1 (zix (M.length : Int)) (Int64.toInt m) 0 4 = (M.length : Int) := by rw [zu_miss _ _ _ _ (fun z => by cases z), h0]
  rw [e1, if_pos (zin_i (by omega) (by omega) (by omega)), bnd_eq, bnd_eq, zix_nat (by omega)]
  refine ⟨_, rfl, MS_add h ?_ (fun i hi => ⟨?_, ?_⟩) ⟨?_, ?_⟩⟩
  · rw [zu_hit, zu_miss _ _ _ _ (fun z => by cases z), zu_miss _ _ _ _ (fun z => by cases z), h0]
  · rw [zu_miss _ _ _ _ (fun z => by cases z), zu_miss _ _ _ _ (fun z => by cases z), zu_miss _ _ _ _ (fun _ => hi)]
  · rw [zu_miss _ _ _ _ (fun z => by cases z), zu_miss _ _ _ _ (fun _ => hi), zu_miss _ _ _ _ (fun z => by cases z)]
  · rw [zu_miss _ _ _ _ (fun z => by cases z), zu_miss _ _ _ _ (fun z => by cases z), zu_hit, zL_toInt]
  · rw [zu_miss _ _ _ _ (fun z => by cases z), zu_hit]
def cX (s : Int64) : Nat → Nat → Ml
  | 0, _ => []
  | k + 1, i => (s &&& ((zlshl 8191 ((i : Int) * 13)) ^^^ (-1)), 1) :: cX s k (i + 1)
def cSets (s : Int64) : Ml := if 3 ≤ cnt (bs s) 64 then (s, 1) :: (if cnt (bs s) 64 = 4 then cX s 4 0 else []) else []
theorem X1_collectSets {σ : Mm} {M : Ml} (s : Int64) (h : MS σ M) (hl : M.length + (cSets s).length ≤ 64) : ∃ σ', x_X1_collectSets σ s = some σ' ∧ MS σ' (M ++ cSets s) := by
  have hc := cnt_le (bs s) 64
  unfold x_X1_collectSets
  rw [bitCount_eq, Option.bind_some, zw_eq (x := (3 : Int)) (by omega) (by omega), zwn (by omega)]
  unfold cSets at hl ⊢
  by_cases e : 3 ≤ cnt (bs s) 64
  · rw [if_pos e] at hl ⊢
    rw [if_pos (by omega)]
    have hl1 : M.length < 64 := by simp at hl; omega
    obtain ⟨σ2, a1, a2⟩ := X1_addMeld s 1 h hl1
    rw [a1, Option.bind_some]
    by_cases e4 : cnt (bs s) 64 = 4
    · rw [if_pos e4] at hl ⊢
      obtain ⟨e9, b1, b2⟩ := lup_ind (f := fun (s7 : Mm × Int) => x_X1_collectSets_b20 s ((cnt (bs s) 64 : Nat) : Int) s7.1 s7.2) (fun i t => t.2 = (i : Int) ∧ i ≤ 4 ∧ ∃ A, MS t.1 (M ++ A) ∧ A ++ cX s (4 - i) i = (s, 1) :: cX s 4 0) (fun σ9 => MS σ9 (M ++ ((s, 1) :: cX s 4 0))) 4 (fun i t ht => by
        obtain ⟨τ, u⟩ := t
        obtain ⟨hu, hi, A, hA, hAT⟩ := ht
        simp only at hu hA
        subst hu
        show (∃ s', x_X1_collectSets_b20 s _ τ (i : Int) = _ ∧ _) ∨ (∃ e, x_X1_collectSets_b20 s _ τ (i : Int) = _ ∧ _)
        unfold x_X1_collectSets_b20
        rw [zw_eq (x := (4 : Int)) (by omega) (by omega), zwn (by omega), zwn (by omega), e4]
        by_cases e5 : i = 4
        · right
          subst e5
          rw [if_pos (by omega)]
          refine ⟨_, rfl, ?_⟩
          have : A = (s, 1) :: cX s 4 0 := by simpa [cX] using hAT
          rw [← this]; exact hA
        · left
          rw [if_neg (by omega), if_neg (by omega)]
          have e6 : cX s (4 - i) i = (s &&& ((zlshl 8191 ((i : Int) * 13)) ^^^ (-1)), 1) :: cX s (4 - (i + 1)) (i + 1) := by
            rw [show 4 - i = (4 - (i + 1)) + 1 by omega]; rfl
          rw [e6] at hAT
          have hlA : (M ++ A).length < 64 := by
            have := congrArg List.length hAT
            simp at this hl ⊢
            omega
          obtain ⟨σ3, c1, c2⟩ := X1_addMeld (s &&& ((zlshl 8191 ((i : Int) * 13)) ^^^ (-1))) 1 hA hlA
          rw [c1, Option.bind_some, bnd_eq]
          refine ⟨_, rfl, by omega, rfl, by omega, A ++ [(s &&& ((zlshl 8191 ((i : Int) * 13)) ^^^ (-1)), 1)], by rw [← List.append_assoc]; exact c2, ?_⟩
          rw [List.append_assoc]; exact hAT) (s := (σ2, 0)) 0 ⟨rfl, by omega, [(s, 1)], a2, rfl⟩
      rw [b1]
      exact ⟨e9, rfl, b2⟩
    · rw [if_neg e4] at hl ⊢
      rw [lup_inr (e := σ2) (by
        show x_X1_collectSets_b20 s _ σ2 0 = _
        unfold x_X1_collectSets_b20
        rw [zw_eq (x := (4 : Int)) (by omega) (by omega), zw_eq (x := (0 : Int)) (by omega) (by omega), zwn (by omega), if_neg (by omega), if_pos (by omega)])]
      exact ⟨σ2, rfl, a2⟩
  · rw [if_neg e, if_neg (by omega)]
    exact ⟨σ, rfl, by simpa using h⟩
/-- the n ranks from f on -/
def rn (f : Nat) : Nat → Int64
  | 0 => 0
  | n + 1 => rn f n ||| one ((f + n) % 13)
def rl (r : Int64) (sh : Int) (f : Nat) : Nat → Nat → Ml
  | 0, _ => []
  | k + 1, n => if bs r ((f + (n - 1)) % 13) = true then (if 3 ≤ n then [(zlshl (rn f n) sh, 2)] else []) ++ rl r sh f k (n + 1) else []
def cR (r : Int64) (sh : Int) : Nat → Nat → Ml
  | 0, _ => []
  | k + 1, f => rl r sh f (if f = 0 then 13 else 12) 1 ++ cR r sh k (f + 1)
theorem X1_runs_j {τ : Mm} {M B T : Ml} (r : Int64) (sh : Int) {f most : Nat} (hf : f < 13) (hm : most ≤ 13) (hB : MS τ (M ++ B)) (hT : B ++ (rl r sh f most 1 ++ T) = T ∨ True) (hl : (M ++ B ++ rl r sh f most 1).length ≤ 64) : ∃ σ', x_X1_collectRuns_j34_12 r sh τ (f : Int) 0 (most : Int) = some (.inl (σ', (f : Int) + 1)) ∧ MS σ' (M ++ B ++ rl r sh f most 1) := by
  unfold x_X1_collectRuns_j34_12
  obtain ⟨e9, b1, b2⟩ := lup_ind (f := fun (s10 : Mm × Int64 × Int) => x_X1_collectRuns_b39 r sh (f : Int) (most : Int) s10.1 s10.2.1 s10.2.2) (fun i t => t.2.2 = (i : Int) + 1 ∧ i ≤ most ∧ t.2.1 = rn f i ∧ ∃ A, MS t.1 (M ++ B ++ A) ∧ A ++ rl r sh f (most - i) (i + 1) = rl r sh f most 1) (fun e => ∃ σ9, (e = .inl σ9 ∨ e = .inr σ9) ∧ MS σ9 (M ++ B ++ rl r sh f most 1)) most (fun i t ht => by
    obtain ⟨τ, x, u⟩ := t
    obtain ⟨hu, hi, hx, A, hA, hAT⟩ := ht
    simp only at hu hA hx
    subst hu hx
    show (∃ s', x_X1_collectRuns_b39 r sh (f : Int) (most : Int) τ (rn f i) ((i : Int) + 1) = _ ∧ _) ∨ (∃ e, x_X1_collectRuns_b39 r sh (f : Int) (most : Int) τ (rn f i) ((i : Int) + 1) = _ ∧ _)
    unfold x_X1_collectRuns_b39
    rw [zwn (n := most) (by omega), zw_eq (x := (i : Int) + 1) (by omega) (by omega)]
    by_cases e5 : i = most
    · right
      subst e5
      rw [if_pos (by omega)]
      refine ⟨_, rfl, _, .inr rfl, ?_⟩
      have : A = rl r sh f i 1 := by simpa [rl] using hAT
      rw [← this]; exact hA
    · rw [if_neg (by omega)]
      have e6 : (f : Int) + ((i : Int) + 1) - 1 = ((f + i : Nat) : Int) := by omega
      have e7 : rl r sh f (most - i) (i + 1) = if bs r ((f + i) % 13) = true then (if 3 ≤ i + 1 then [(zlshl (rn f (i + 1)) sh, 2)] else []) ++ rl r sh f (most - (i + 1)) (i + 1 + 1) else [] := by
        rw [show most - i = (most - (i + 1)) + 1 by omega]; rfl
      rw [bnd_eq, e6, zrem13 (by omega)]
      have e8 : (r &&& zlshl 1 (((f + i) % 13 : Nat) : Int) = 0) ↔ bs r ((f + i) % 13) = false := and_bit r (by omega)
      by_cases e10 : bs r ((f + i) % 13) = true
      · left
        rw [if_pos e10] at e7
        rw [if_pos (by rw [Ne, zcmp_e, e8, e10]; decide), bnd_eq, zw_eq (x := (3 : Int)) (by omega) (by omega)]
        have er : rn f i ||| zlshl 1 (((f + i) % 13 : Nat) : Int) = rn f (i + 1) := rfl
        rw [er]
        by_cases e11 : 3 ≤ i + 1
        · rw [if_neg (by omega)]
          rw [if_pos e11] at e7
          rw [e7] at hAT
          have hlA : (M ++ B ++ A).length < 64 := by
            have := congrArg List.length hAT
            simp at this hl ⊢
            omega
          obtain ⟨σ3, c1, c2⟩ := X1_addMeld (zlshl (rn f (i + 1)) sh) 2 hA hlA
          rw [c1, Option.bind_some, bnd_eq]
          refine ⟨_, rfl, by omega, by show (i : Int) + 1 + 1 = ((i + 1 : Nat) : Int) + 1; omega, by omega, rfl, A ++ [(zlshl (rn f (i + 1)) sh, 2)], by rw [← List.append_assoc]; exact c2, ?_⟩
          rw [List.append_assoc]; exact hAT
        · rw [if_pos (by omega), bnd_eq]
          rw [if_neg e11, List.nil_append] at e7
          rw [e7] at hAT
          exact ⟨_, rfl, by omega, by show (i : Int) + 1 + 1 = ((i + 1 : Nat) : Int) + 1; omega, by omega, rfl, A, hA, hAT⟩
      · right
        rw [if_neg (by rw [Ne, zcmp_e, e8]; simpa using e10)]
        refine ⟨_, rfl, _, .inl rfl, ?_⟩
        rw [if_neg e10] at e7
        rw [e7, List.append_nil] at hAT
        rw [← hAT]; exact hA) (s := (τ, 0, 1)) 0 ⟨rfl, by omega, rfl, [], by simpa using hB, by simp⟩
  rw [b1, Option.bind_some]
  obtain ⟨σ9, h9 | h9, h10⟩ := b2
  · subst h9
    exact ⟨σ9, rfl, h10⟩
  · subst h9
    exact ⟨σ9, rfl, h10⟩
def cRuns (r : Int64) (sh : Int) : Ml := if 3 ≤ cnt (bs r) 64 then cR r sh 13 0 else []
theorem X1_collectRuns {σ : Mm} {M : Ml} (r : Int64) (sh : Int) (h : MS σ M) (hl : M.length + (cRuns r sh).length ≤ 64) : ∃ σ', x_X1_collectRuns σ r sh = some σ' ∧ MS σ' (M ++ cRuns r sh) := by
  have hc := cnt_le (bs r) 64
  unfold x_X1_collectRuns
  rw [bitCount_eq, Option.bind_some, zw_eq (x := (3 : Int)) (by omega) (by omega), zwn (by omega)]
  unfold cRuns at hl ⊢
  by_cases e : 3 ≤ cnt (bs r) 64
  · rw [if_pos e] at hl ⊢
    rw [if_pos (by omega)]
    obtain ⟨e9, b1, b2⟩ := lup_for (f := fun (s18 : Mm × Int) => x_X1_collectRuns_b12 r sh s18.1 s18.2) (fun i t => t.2 = (i : Int) ∧ ∃ A, MS t.1 (M ++ A) ∧ A ++ cR r sh (13 - i) i = cR r sh 13 0) (fun σ9 => MS σ9 (M ++ cR r sh 13 0)) 13 (fun i t hi ht => by
      obtain ⟨τ, u⟩ := t
      obtain ⟨hu, A, hA, hAT⟩ := ht
      simp only at hu hA
      subst hu
      show ∃ s', x_X1_collectRuns_b12 r sh τ (i : Int) = _ ∧ _
      unfold x_X1_collectRuns_b12
      rw [zw_eq (x := (13 : Int)) (by omega) (by omega), zwn (by omega), if_neg (by omega)]
      have e6 : cR r sh (13 - i) i = rl r sh i (if i = 0 then 13 else 12) 1 ++ cR r sh (13 - (i + 1)) (i + 1) := by
        rw [show 13 - i = (13 - (i + 1)) + 1 by omega]; rfl
      rw [e6] at hAT
      have hlA : (M ++ A ++ rl r sh i (if i = 0 then 13 else 12) 1).length ≤ 64 := by
        have := congrArg List.length hAT
        simp only [List.length_append] at this hl ⊢
        omega
      by_cases e0 : i = 0
      · rw [if_pos e0] at hAT hlA
        rw [if_neg (by omega)]
        obtain ⟨σ', c1, c2⟩ := X1_runs_j r sh hi (Nat.le_refl 13) hA (.inr trivial) (T := []) hlA
        exact ⟨_, c1, rfl, A ++ rl r sh i 13 1, by rw [← List.append_assoc]; exact c2, by rw [List.append_assoc]; exact hAT⟩
      · rw [if_neg e0] at hAT hlA
        rw [if_pos (by omega)]
        obtain ⟨σ', c1, c2⟩ := X1_runs_j r sh hi (show 12 ≤ 13 by decide) hA (.inr trivial) (T := []) hlA
        exact ⟨_, c1, rfl, A ++ rl r sh i 12 1, by rw [← List.append_assoc]; exact c2, by rw [List.append_assoc]; exact hAT⟩) (fun t ht => by
      obtain ⟨τ, u⟩ := t
      obtain ⟨hu, A, hA, hAT⟩ := ht
      simp only at hu hA
      subst hu
      refine ⟨τ, ?_, ?_⟩
      · show x_X1_collectRuns_b12 r sh τ _ = _
        unfold x_X1_collectRuns_b12
        rw [if_pos (by show zw 13 ≤ zw ((13 : Nat) : Int); decide)]
      · have : A = cR r sh 13 0 := by simpa [cR] using hAT
        rw [← this]; exact hA) (s := (σ, 0)) ⟨rfl, [], by simpa using h, by simp⟩
    rw [b1]
    exact ⟨e9, rfl, b2⟩
  · rw [if_neg e, if_neg (by omega)]
    exact ⟨σ, rfl, by simpa using h⟩
def oneRank : Int64 := 549822930945
def cT (p : Int64) : Nat → Nat → Ml
  | 0, _ => []
  | k + 1, i => cSets (p &&& zlshl oneRank (i : Int)) ++ cT p k (i + 1)
def cS (p : Int64) : Nat → Nat → Ml
  | 0, _ => []
  | k + 1, i => cRuns ((zlushr p ((i : Int) * 13)) &&& 8191) ((i : Int) * 13) ++ cS p k (i + 1)
def cAll (p : Int64) : Ml := cT p 13 0 ++ cS p 4 0
theorem X1_collect (σ : Mm) (p : Int64) (hl : (cAll p).length ≤ 64) : ∃ σ', x_X1_collect σ p = some σ' ∧ MS σ' (cAll p) := by
  unfold x_X1_collect
  unfold cAll at hl ⊢
  rw [List.length_append] at hl
  rw [bnd_eq]
  obtain ⟨e9, b1, b2⟩ := lup_for (f := fun (s5 : Mm × Int) => x_X1_collect_b7 p s5.1 s5.2) (fun i t => t.2 = (i : Int) ∧ ∃ A, MS t.1 A ∧ A ++ cT p (13 - i) i = cT p 13 0) (fun σ9 => MS σ9 (cT p 13 0)) 13 (fun i t hi ht => by
      obtain ⟨τ, u⟩ := t
      obtain ⟨hu, A, hA, hAT⟩ := ht
      simp only at hu hA
      subst hu
      show ∃ s', x_X1_collect_b7 p τ (i : Int) = _ ∧ _
      unfold x_X1_collect_b7
      rw [zw_eq (x := (13 : Int)) (by omega) (by omega), zwn (by omega), if_neg (by omega)]
      have e6 : cT p (13 - i) i = cSets (p &&& zlshl oneRank (i : Int)) ++ cT p (13 - (i + 1)) (i + 1) := by
        rw [show 13 - i = (13 - (i + 1)) + 1 by omega]; rfl
      rw [e6] at hAT
      have hlA : A.length + (cSets (p &&& zlshl oneRank (i : Int))).length ≤ 64 := by
        have := congrArg List.length hAT
        simp only [List.length_append] at this
        omega
      obtain ⟨σ', c1, c2⟩ := X1_collectSets (p &&& zlshl oneRank (i : Int)) hA hlA
      have c1 : x_X1_collectSets τ (p &&& zlshl 549822930945 (i : Int)) = some σ' := c1
      rw [c1, Option.bind_some, bnd_eq]
      exact ⟨_, rfl, rfl, _, c2, by rw [List.append_assoc]; exact hAT⟩) (fun t ht => by
      obtain ⟨τ, u⟩ := t
      obtain ⟨hu, A, hA, hAT⟩ := ht
      simp only at hu hA
      subst hu
      refine ⟨τ, ?_, ?_⟩
      · show x_X1_collect_b7 p τ _ = _
        unfold x_X1_collect_b7
        rw [if_pos (by show zw 13 ≤ zw ((13 : Nat) : Int); decide)]
      · have : A = cT p 13 0 := by simpa [cT] using hAT
        rw [← this]; exact hA) (s := (zu σ 0 4 0, 0)) ⟨rfl, [], ⟨zu_hit σ 0 4 0, fun i q hq => by simp at hq⟩, by simp⟩
  rw [b1, Option.bind_some]
  obtain ⟨e10, d1, d2⟩ := lup_for (f := fun (s11 : Mm × Int) => x_X1_collect_b32 p s11.1 s11.2) (fun i t => t.2 = (i : Int) ∧ ∃ A, MS t.1 (cT p 13 0 ++ A) ∧ A ++ cS p (4 - i) i = cS p 4 0) (fun σ9 => MS σ9 (cT p 13 0 ++ cS p 4 0)) 4 (fun i t hi ht => by
      obtain ⟨τ, u⟩ := t
      obtain ⟨hu, A, hA, hAT⟩ := ht
      simp only at hu hA
      subst hu
      show ∃ s', x_X1_collect_b32 p τ (i : Int) = _ ∧ _
      unfold x_X1_collect_b32
      rw [zw_eq (x := (4 : Int)) (by omega) (by omega), zwn (by omega), if_neg (by omega)]
      have e6 : cS p (4 - i) i = cRuns ((zlushr p ((i : Int) * 13)) &&& 8191) ((i : Int) * 13) ++ cS p (4 - (i + 1)) (i + 1) := by
        rw [show 4 - i = (4 - (i + 1)) + 1 by omega]; rfl
      rw [e6] at hAT
      have hlA : (cT p 13 0 ++ A).length + (cRuns ((zlushr p ((i : Int) * 13)) &&& 8191) ((i : Int) * 13)).length ≤ 64 := by
        have := congrArg List.length hAT
        simp only [List.length_append] at this ⊢
        omega
      obtain ⟨σ', c1, c2⟩ := X1_collectRuns ((zlushr p ((i : Int) * 13)) &&& 8191) ((i : Int) * 13) hA hlA
      rw [c1, Option.bind_some, bnd_eq]
      exact ⟨_, rfl, rfl, A ++ cRuns ((zlushr p ((i : Int) * 13)) &&& 8191) ((i : Int) * 13), by rw [← List.append_assoc]; exact c2, by rw [List.append_assoc]; exact hAT⟩) (fun t ht => by
      obtain ⟨τ, u⟩ := t
      obtain ⟨hu, A, hA, hAT⟩ := ht
      simp only at hu hA
      subst hu
      refine ⟨τ, ?_, ?_⟩
      · show x_X1_collect_b32 p τ _ = _
        unfold x_X1_collect_b32
        rw [if_pos (by show zw 4 ≤ zw ((4 : Nat) : Int); decide)]
      · have : A = cS p 4 0 := by simpa [cS] using hAT
        rw [← this]; exact hA) (s := (e9, 0)) ⟨rfl, [], by simpa using b2, by simp⟩
  rw [d1]
  exact ⟨e10, rfl, d2⟩
