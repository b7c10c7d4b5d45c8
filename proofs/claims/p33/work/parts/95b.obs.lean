/-! A player's hand, told by the row -/
def HND (m : Mm) (p : Nat) (P : Int64) : Prop := cw P ∧ ∀ d : Nat, d < 52 → bs P d = decide (m 1 (119 + d) = (p : Int))
theorem HND_u {m : Mm} {p : Nat} {P Q : Int64} (h : HND m p P) (k : HND m p Q) : P = Q := by
  apply bs_ext
  intro d hd
  by_cases c : d < 52
  · rw [h.2 d c, k.2 d c]
  · rw [h.1 d (by omega), k.1 d (by omega)]
theorem cw_52 {P : Int64} (h : cw P) {k : Nat} (hk : bs P k = true) : k < 52 := by
  by_cases c : k < 52
  · exact c
  · rw [h k (by omega)] at hk; cases hk
theorem HND_in {N : Nat} {c m : Mm} (h : REL N c m) {p : Nat} (hp : p < 2) {P : Int64} (hP : HND m p P) : x_X2_handOf (zb zl_47 c) (p : Int) = some P ∧ cnt (bs P) 64 ≤ 11 ∧ (((cnt (bs P) 64 : Nat) : Int) = m 1 0 + (if m 1 4 = (p : Int) ∧ m 1 5 = 1 then 1 else 0)) := by
  obtain ⟨Q, H, q1, q2, q3, q4, q5, -⟩ := v_card h hp
  have e : Q = P := HND_u ⟨q2, q5⟩ hP
  subst e
  exact ⟨q1, q3, q4⟩
theorem HND_ex {N : Nat} {c m : Mm} (h : REL N c m) {p : Nat} (hp : p < 2) : ∃ P, HND m p P := by
  obtain ⟨Q, H, q1, q2, q3, q4, q5, -⟩ := v_card h hp
  exact ⟨Q, q2, q5⟩
theorem v_cards {N : Nat} {c m : Mm} (h : REL N c m) {p : Nat} (hp : p < 2) {P : Int64} (hP : HND m p P) : ∃ H : Nat → Nat, (∀ i j, i < j → j < cnt (bs P) 64 → H i < H j) ∧ (∀ i, i < cnt (bs P) 64 → H i < 52 ∧ bs P (H i) = true ∧ x_X6_card c (p : Int) (i : Int) = some (.inl ((H i : Nat) : Int))) ∧ ∀ d, bs P d = true ↔ ∃ i, i < cnt (bs P) 64 ∧ H i = d := by
  obtain ⟨Q, H, q1, q2, q3, q4, q5, q6, q7, q8⟩ := v_card h hp
  have e : Q = P := HND_u ⟨q2, q5⟩ hP
  subst e
  exact ⟨H, q6, q7, q8⟩
/-- rising rows of the same set are the same -/
theorem asc_u {n : Nat} {H K : Nat → Nat} (h1 : ∀ i j, i < j → j < n → H i < H j) (k1 : ∀ i j, i < j → j < n → K i < K j) (e : ∀ d, (∃ i, i < n ∧ H i = d) ↔ ∃ i, i < n ∧ K i = d) : ∀ i, i < n → H i = K i := by
  intro i
  induction i using Nat.strongRecOn with
  | _ i ih =>
    intro hi
    obtain ⟨a, a1, a2⟩ := (e (H i)).mp ⟨i, hi, rfl⟩
    obtain ⟨b, b1, b2⟩ := (e (K i)).mpr ⟨i, hi, rfl⟩
    have ha : i ≤ a := by
      by_cases c : i ≤ a
      · exact c
      · have := ih a (by omega) a1
        have := h1 a i (by omega) hi
        omega
    have hb : i ≤ b := by
      by_cases c : i ≤ b
      · exact c
      · have := ih b (by omega) b1
        have := k1 b i (by omega) hi
        omega
    by_cases ca : i = a
    · rw [← a2, ← ca]
    · by_cases cb : i = b
      · rw [← b2, ← cb]
      · have := k1 i a (by omega) a1
        have := h1 i b (by omega) b1
        omega
theorem v_meldOf {N : Nat} {c m : Mm} (h : REL N c m) {p : Nat} (hp : p < 2) {P : Int64} (hP : HND m p P) {k : Nat} (hk : bs P k = true) : ∃ c', REL N c' m ∧ x_X6_meldOf c (p : Int) (k : Int) = some (.inl (c', match ixF (fun x => bs x k) (Lay P) 0 with
    | some j => (j : Int)
    | none => -1)) := by
  have hex : zw (p : Int) = (p : Int) := zwn (by omega)
  have k52 : k < 52 := cw_52 hP.1 hk
  obtain ⟨p1, p3, -⟩ := HND_in h hp hP
  have hheld : x_X6_requireHeld c (p : Int) (k : Int) = some (.inl ()) := by
    unfold x_X6_requireHeld
    rw [p1, Option.bind_some, X6_has _ k52, Option.bind_some, hk]
    rfl
  obtain ⟨σ1, s1, ⟨y1, y2, y3, y4⟩, s3⟩ := R_lay h hP.1 p3
  obtain ⟨l1, l2, l3, l4⟩ := Lay_ok hP.1 p3
  refine ⟨zj zl_54 c σ1, s3, ?_⟩
  unfold x_X6_meldOf
  rw [pl_ok hex (by omega), Option.bind_some, req_1, Option.bind_some]
  show (x_X6_requireHeld c (p : Int) (k : Int)).bind _ = _
  rw [hheld, Option.bind_some]
  show inlO _ = _
  rw [p1, Option.bind_some, s1, Option.bind_some, bnd_eq]
  have hi : x_X1_indexOf (zb zl_54 (zj zl_54 c σ1)) (k : Int) = some (match ixF (fun x => bs x k) (Lay P) 0 with
      | some j => (j : Int)
      | none => -1) := by
    unfold x_X1_indexOf
    rw [find_lup (f := fun (s6 : Int) => x_X1_indexOf_b2 (zb zl_54 (zj zl_54 c σ1)) (k : Int) s6) (F := Lay P) (p := fun x => bs x k) (fun i x hi => by
      have hl := (List.getElem?_eq_some_iff.mp hi).1
      show x_X1_indexOf_b2 (zb zl_54 (zj zl_54 c σ1)) (k : Int) (i : Int) = _
      unfold x_X1_indexOf_b2
      have y1' : zb zl_54 (zj zl_54 c σ1) 0 7 = ((Lay P).length : Int) := y1
      rw [y1', if_neg (nle_n hl (by omega)), X1_foundAt (σ := zb zl_54 (zj zl_54 c σ1)) y1 y2 (by omega) hi, Option.bind_some, X6_has _ k52, Option.bind_some]
      cases bs x k <;> rfl) (by
      show x_X1_indexOf_b2 (zb zl_54 (zj zl_54 c σ1)) (k : Int) ((Lay P).length : Int) = _
      unfold x_X1_indexOf_b2
      have y1' : zb zl_54 (zj zl_54 c σ1) 0 7 = ((Lay P).length : Int) := y1
      rw [y1', if_pos (Int.le_refl _)])]
    cases ixF (fun x => bs x k) (Lay P) 0 <;> rfl
  rw [hi, Option.bind_some]
  cases ixF (fun x => bs x k) (Lay P) 0 <;> rfl
theorem v_meld {N : Nat} {c m : Mm} (h : REL N c m) {p : Nat} (hp : p < 2) {P : Int64} (hP : HND m p P) {k : Nat} {x : Int64} (hx : (Lay P)[k]? = some x) : ∃ c', REL N c' m ∧ x_X6_meld c (p : Int) (k : Int) 0 = some (.inl (c', ((cnt (bs x) 64 : Nat) : Int))) ∧ x_X6_meld c (p : Int) (k : Int) 1 = some (.inl (c', if kK x = 1 then 0 else 1)) := by
  have hex : zw (p : Int) = (p : Int) := zwn (by omega)
  obtain ⟨p1, p3, -⟩ := HND_in h hp hP
  obtain ⟨σ1, s1, ⟨y1, y2, y3, y4⟩, s3⟩ := R_lay h hP.1 p3
  obtain ⟨l1, l2, l3, l4⟩ := Lay_ok hP.1 p3
  have v := (List.getElem?_eq_some_iff.mp hx).1
  have g7 : zj zl_54 c σ1 77 7 = ((Lay P).length : Int) := y1
  have hm : mld x := (l2 x (List.mem_of_getElem? hx)).2
  have n10 : ¬ zw (1 : Int) = 0 := by decide
  have y11 : zw (1 : Int) = 1 := by decide
  refine ⟨zj zl_54 c σ1, s3, ?_, ?_⟩
  all_goals
    unfold x_X6_meld x_X6_meld_j20 x_X6_meld_j21
    rw [pl_ok hex (by omega), Option.bind_some, if_neg d10, wi_ok (l := 0) (h := 3) (by decide) (by decide) (by decide) (by decide), Option.bind_some, if_neg d10, req_1, Option.bind_some]
    show inlO _ = _
    have w' : ¬ zw (k : Int) < 0 := by rw [zwn (by omega)]; omega
    have v' : zw (k : Int) < zw ((Lay P).length : Int) := by rw [zwn (by omega), zwn (by omega)]; omega
    rw [p1, Option.bind_some, s1, Option.bind_some, bnd_eq, g7, if_neg w', if_pos v', X1_foundAt (σ := zb zl_54 (zj zl_54 c σ1)) y1 y2 (by omega) hx, Option.bind_some, X6_kindOf (mld_cw hm), Option.bind_some]
    unfold x_X6_meld_j80
    rcases hm with hm | hm
  · rw [(so_set hm).2, if_pos (by decide), if_pos d00, bitCount_eq]; rfl
  · rw [(so_run hm).2, if_neg (by decide), firstOf_eq (mld_cw (.inr hm)) (meld_nz (.inr hm))]
    rw [if_pos d00, bitCount_eq]; rfl
  · rw [(so_set hm).2, if_pos (by decide), if_neg n10, if_pos y11]; rfl
  · rw [(so_run hm).2, if_neg (by decide), firstOf_eq (mld_cw (.inr hm)) (meld_nz (.inr hm))]
    rw [if_neg n10, if_pos y11]; rfl
