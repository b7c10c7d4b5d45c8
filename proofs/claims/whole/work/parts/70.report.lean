/-! the report, on both sides, as a row of bytes -/
def sg (v : Int) : Int := zi2b (zi2b v)
def cb (c : Nat) : List Int := [sg (zsb 11 (c % 13)), sg (zsb 12 (c / 13))]
def bl : Bool → List Nat → List Int
  | _, [] => []
  | f, c :: cs => (if f = true then [] else [sg 44]) ++ (cb c ++ bl false cs)
theorem bl_len : ∀ (f : Bool) (cs : List Nat), (bl f cs).length ≤ 3 * cs.length
  | _, [] => Nat.le_refl 0
  | f, c :: cs => by
    have := bl_len false cs
    show ((if f = true then [] else [sg 44]) ++ (cb c ++ bl false cs)).length ≤ 3 * (cs.length + 1)
    rw [List.length_append, List.length_append]
    have h1 : (if f = true then ([] : List Int) else [sg 44]).length ≤ 1 := by
      split
      · exact Nat.zero_le 1
      · exact Nat.le_refl 1
    have h2 : (cb c).length = 2 := rfl
    omega
/-- bytes stand in a cell, their number in a slot -/
def HB (cell slot : Nat) (σ : Mm) (B : List Int) : Prop := σ 0 slot = (B.length : Int) ∧ ∀ i v, B[i]? = some v → σ cell i = v
theorem HB_snoc {cell slot : Nat} {σ : Mm} {B : List Int} {w : Int} (h : HB cell slot σ B) (h0 : cell ≠ 0) : HB cell slot (zu (zu σ cell B.length w) 0 slot ((B.length : Int) + 1)) (B ++ [w]) := by
  refine ⟨?_, fun i v hi => ?_⟩
  · rw [zu_hit, List.length_append]
    show (B.length : Int) + 1 = ((B.length + 1 : Nat) : Int)
    omega
  · rw [zu_miss _ _ _ _ (fun z => absurd z h0)]
    by_cases e : i = B.length
    · subst e
      rw [zu_hit]
      rw [List.getElem?_append_right (Nat.le_refl _)] at hi
      simpa using hi
    · have hl := (List.getElem?_eq_some_iff.mp hi).1
      rw [List.length_append] at hl
      have hl2 : i < B.length := by
        have : [w].length = 1 := rfl
        omega
      rw [zu_miss _ _ _ _ (fun _ => e)]
      rw [List.getElem?_append_left hl2] at hi
      exact h.2 i v hi
/-- the model's report alone changes -/
def MF (m m' : Mm) : Prop := (∀ j, j ≠ 10 → m' 0 j = m 0 j) ∧ ∀ c, c ≠ 0 → c ≠ 19 → m' c = m c
theorem MF_r (m : Mm) : MF m m := ⟨fun _ _ => rfl, fun _ _ _ => rfl⟩
theorem MF_t {m m' m'' : Mm} (h : MF m m') (h2 : MF m' m'') : MF m m'' := ⟨fun j hj => (h2.1 j hj).trans (h.1 j hj), fun c a b => (h2.2 c a b).trans (h.2 c a b)⟩
theorem X4_sign {ρ : Mm} {B : List Int} (h : HB 1 1 ρ B) (hl : B.length < 64) (v : Int) : ∃ ρ', x_X4_writeSign ρ v = some ρ' ∧ HB 1 1 ρ' (B ++ [sg v]) := by
  refine ⟨_, ?_, HB_snoc h (by decide)⟩
  unfold x_X4_writeSign
  have e : zu ρ 1 B.length (sg v) 0 1 = (B.length : Int) := h.1
  rw [h.1, if_neg (nlt0 (by omega)), if_neg (nle_l (by omega) (by omega)), if_pos (zin_i (by omega) (by omega) (by omega)), zix_nat (n := B.length) (by omega), bnd_eq]
  show bnd (zu (zu ρ 1 B.length (sg v)) 0 1 (zu ρ 1 B.length (sg v) 0 1 + 1)) _ = _
  rw [e, bnd_eq]
theorem X7_say {m : Mm} {B : List Int} (h : HB 19 10 m B) (hl : B.length < 200) (v : Int) : ∃ m', x_X7_say m v = some m' ∧ HB 19 10 m' (B ++ [sg v]) ∧ MF m m' := by
  refine ⟨_, ?_, HB_snoc h (by decide), fun j hj => ?_, fun c c1 c2 => ?_⟩
  · unfold x_X7_say
    have e : zu m 19 B.length (sg v) 0 10 = (B.length : Int) := h.1
    rw [h.1, if_pos (zin_i (by omega) (by omega) (by omega)), zix_nat (n := B.length) (by omega), bnd_eq]
    show bnd (zu (zu m 19 B.length (sg v)) 0 10 (zu m 19 B.length (sg v) 0 10 + 1)) _ = _
    rw [e, bnd_eq]
  · rw [zu_miss _ _ _ _ (fun _ => hj), zu_miss _ _ _ _ (fun z => absurd z (by decide))]
  · unfold zu
    rw [if_neg c1, if_neg c2]
theorem chr_11 : ∀ r : Nat, r < 13 → x_zchr 11 (r : Int) = some (zsb 11 r) := by decide +kernel
theorem chr_12 : ∀ r : Nat, r < 4 → x_zchr 12 (r : Int) = some (zsb 12 r) := by decide +kernel
theorem len_11 : x_zlen 11 = some 13 := by decide +kernel
theorem len_12 : x_zlen 12 = some 4 := by decide +kernel
theorem X4_card {ρ : Mm} {B : List Int} {c : Nat} (h : HB 1 1 ρ B) (hl : B.length + 2 ≤ 64) (hc : c < 52) : ∃ ρ', x_X4_writeCard ρ (c : Int) = some ρ' ∧ HB 1 1 ρ' (B ++ cb c) := by
  obtain ⟨ρ1, a1, a2⟩ := X4_sign h (by omega) (zsb 11 (c % 13))
  obtain ⟨ρ2, b1, b2⟩ := X4_sign a2 (by rw [List.length_append]; show B.length + 1 < 64; omega) (zsb 12 (c / 13))
  refine ⟨ρ2, ?_, ?_⟩
  · unfold x_X4_writeCard
    rw [bnd_eq, bnd_eq, zrem13 (by omega), zdiv13 (by omega), if_neg (nlt0 (by omega)), len_11, Option.bind_some, if_neg (nle_l (by omega) (by omega)), if_neg (nlt0 (by omega)), len_12, Option.bind_some, if_neg (nle_l (by omega) (by omega)), chr_11 _ (by omega), Option.bind_some, a1, Option.bind_some, chr_12 _ (by omega), Option.bind_some, b1, Option.bind_some]
  · rw [List.append_assoc] at b2
    exact b2
theorem X7_card2 {m : Mm} {B : List Int} {c : Nat} (h : HB 19 10 m B) (hl : B.length + 2 ≤ 200) (hc : c < 52) : ∃ m', x_X7_sayCard_j10 m (c : Int) = some m' ∧ HB 19 10 m' (B ++ cb c) ∧ MF m m' := by
  obtain ⟨ρ1, a1, a2, a3⟩ := X7_say h (by omega) (zsb 11 (c % 13))
  obtain ⟨ρ2, b1, b2, b3⟩ := X7_say a2 (by rw [List.length_append]; show B.length + 1 < 200; omega) (zsb 12 (c / 13))
  refine ⟨ρ2, ?_, ?_, MF_t a3 b3⟩
  · unfold x_X7_sayCard_j10
    rw [zrem13 (by omega), zdiv13 (by omega), chr_11 _ (by omega), Option.bind_some, a1, Option.bind_some, chr_12 _ (by omega), Option.bind_some, b1, Option.bind_some]
  · rw [List.append_assoc] at b2
    exact b2
theorem X7_sayC {m : Mm} {B : List Int} {c : Nat} (h : HB 19 10 m B) (hl : B.length + 3 ≤ 200) (hc : c < 52) (f : Bool) {w : Int} (hw : zw w = if f = true then 1 else 0) : ∃ m', x_X7_sayCard m (c : Int) w = some m' ∧ HB 19 10 m' (B ++ ((if f = true then [] else [sg 44]) ++ cb c)) ∧ MF m m' := by
  unfold x_X7_sayCard
  cases f
  · rw [hw, if_neg (by decide)]
    obtain ⟨m1, a1, a2, a3⟩ := X7_say h (by omega) 44
    obtain ⟨m2, b1, b2, b3⟩ := X7_card2 a2 (by rw [List.length_append]; show B.length + 1 + 2 ≤ 200; omega) hc
    rw [a1, Option.bind_some, b1]
    exact ⟨m2, rfl, by rw [List.append_assoc] at b2; exact b2, MF_t a3 b3⟩
  · rw [hw, if_pos (by decide)]
    obtain ⟨m2, b1, b2, b3⟩ := X7_card2 h (by omega) hc
    exact ⟨m2, b1, b2, b3⟩
/-- the cards of x from the f-th place on, in a circle -/
def cl (x : Int64) (f : Nat) : Nat → Nat → List Nat
  | 0, _ => []
  | k + 1, i => if bs x ((f + i) % 52) = true then ((f + i) % 52) :: cl x f k (i + 1) else cl x f k (i + 1)
theorem cl_len (x : Int64) (f : Nat) : ∀ k i, (cl x f k i).length ≤ k
  | 0, _ => Nat.le_refl 0
  | k + 1, i => by
    have := cl_len x f k (i + 1)
    unfold cl
    split
    · show (cl x f k (i + 1)).length + 1 ≤ k + 1
      omega
    · omega
theorem bl_step (f : Bool) (c : Nat) (cs : List Nat) (B : List Int) : B ++ bl f (c :: cs) = (B ++ ((if f = true then [] else [sg 44]) ++ cb c)) ++ bl false cs := by
  show B ++ ((if f = true then [] else [sg 44]) ++ (cb c ++ bl false cs)) = _
  rw [List.append_assoc, List.append_assoc]
theorem X4_cards {x : Int64} {f : Nat} (hf : f < 52) : ∀ (k i : Nat) (ρ : Mm) (B : List Int) (fl : Bool) (w : Int), i + k = 52 → HB 1 1 ρ B → B.length + 3 * (cl x f k i).length ≤ 64 → zw w = (if fl = true then 0 else 1) → ∃ ρ', lup (fun (s12 : Mm × Int × Int) => x_X4_writeCards_b6 x (f : Int) s12.1 s12.2.1 s12.2.2) (ρ, w, (i : Int)) = some ρ' ∧ HB 1 1 ρ' (B ++ bl fl (cl x f k i)) := by
  intro k
  induction k with
  | zero =>
    intro i ρ B fl w hi h hl hw
    have : i = 52 := by omega
    subst this
    refine ⟨ρ, lup_inr ?_, ?_⟩
    · show x_X4_writeCards_b6 x (f : Int) ρ w _ = _
      unfold x_X4_writeCards_b6
      rw [if_pos (by show zw 52 ≤ zw ((52 : Nat) : Int); decide)]
    · show HB 1 1 ρ (B ++ bl fl [])
      have : bl fl [] = [] := by cases fl <;> rfl
      rw [this, List.append_nil]; exact h
  | succ k ih =>
    intro i ρ B fl w hi h hl hw
    have hfi : (f + i) % 52 < 52 := Nat.mod_lt _ (by omega)
    have hz : zrem ((f : Int) + (i : Int)) 52 = (((f + i) % 52 : Nat) : Int) := by
      rw [show (f : Int) + (i : Int) = ((f + i : Nat) : Int) by omega]
      exact zrem_nat (b := 52) (by omega) (by omega) (by omega)
    have ei : (i : Int) + 1 = ((i + 1 : Nat) : Int) := by omega
    by_cases e : bs x ((f + i) % 52) = true
    · have hcl : cl x f (k + 1) i = ((f + i) % 52) :: cl x f k (i + 1) := by
        show (if bs x ((f + i) % 52) = true then _ else _) = _
        rw [if_pos e]
      rw [hcl] at hl ⊢
      have hl : B.length + 3 * ((cl x f k (i + 1)).length + 1) ≤ 64 := hl
      have step : ∃ ρ', x_X4_writeCards_b6 x (f : Int) ρ w (i : Int) = some (.inl (ρ', 1, (i : Int) + 1)) ∧ HB 1 1 ρ' (B ++ ((if fl = true then [] else [sg 44]) ++ cb ((f + i) % 52))) := by
        unfold x_X4_writeCards_b6
        rw [if_neg (nle_l (by omega) (by omega)), hz, bnd_eq, X6_has _ hfi, Option.bind_some, if_pos e, if_neg d10, hw]
        cases fl
        · obtain ⟨ρ1, a1, a2⟩ := X4_sign h (by omega) 44
          obtain ⟨ρ2, b1, b2⟩ := X4_card a2 (by rw [List.length_append]; show B.length + 1 + 2 ≤ 64; omega) hfi
          refine ⟨ρ2, ?_, by rw [List.append_assoc] at b2; exact b2⟩
          rw [if_neg (by decide), a1, Option.bind_some, b1, Option.bind_some]; rfl
        · obtain ⟨ρ2, b1, b2⟩ := X4_card h (by omega) hfi
          refine ⟨ρ2, ?_, b2⟩
          rw [if_pos (by decide), b1, Option.bind_some]; rfl
      obtain ⟨ρ1, a1, a2⟩ := step
      rw [lup_inl (f := fun (s12 : Mm × Int × Int) => x_X4_writeCards_b6 x (f : Int) s12.1 s12.2.1 s12.2.2) (s := (ρ, w, (i : Int))) a1, ei, bl_step]
      have hlen : (B ++ ((if fl = true then [] else [sg 44]) ++ cb ((f + i) % 52))).length ≤ B.length + 3 := by
        rw [List.length_append, List.length_append]
        have h1 : (if fl = true then ([] : List Int) else [sg 44]).length ≤ 1 := by
          split
          · exact Nat.zero_le 1
          · exact Nat.le_refl 1
        have h2 : (cb ((f + i) % 52)).length = 2 := rfl
        omega
      exact ih (i + 1) ρ1 _ false 1 (by omega) a2 (by omega) (by decide)
    · have hcl : cl x f (k + 1) i = cl x f k (i + 1) := by
        show (if bs x ((f + i) % 52) = true then _ else _) = _
        rw [if_neg e]
      rw [hcl] at hl ⊢
      have hstep : x_X4_writeCards_b6 x (f : Int) ρ w (i : Int) = some (.inl (ρ, w, (i : Int) + 1)) := by
        unfold x_X4_writeCards_b6
        rw [if_neg (nle_l (by omega) (by omega)), hz, bnd_eq, X6_has _ hfi, Option.bind_some, if_neg e, if_pos d00, bnd_eq]
      rw [lup_inl (f := fun (s12 : Mm × Int × Int) => x_X4_writeCards_b6 x (f : Int) s12.1 s12.2.1 s12.2.2) (s := (ρ, w, (i : Int))) hstep, ei]
      exact ih (i + 1) ρ B fl w (by omega) h hl hw
/-- by ascending numbers -/
def asc (x : Int64) : Nat → Nat → List Nat
  | 0, _ => []
  | k + 1, i => if bs x i = true then i :: asc x k (i + 1) else asc x k (i + 1)
theorem X7_asc {x : Int64} : ∀ (k i : Nat) (m : Mm) (B : List Int) (n : Nat), i + k = 52 → n ≤ i → HB 19 10 m B → B.length + 3 * (asc x k i).length ≤ 200 → ∃ m', lup (fun (s11 : Mm × Int × Int) => x_X7_sayAscending_b5 x s11.1 s11.2.1 s11.2.2) (m, (n : Int), (i : Int)) = some m' ∧ HB 19 10 m' (B ++ bl (decide (n = 0)) (asc x k i)) ∧ MF m m' := by
  intro k
  induction k with
  | zero =>
    intro i m B n hi hn h hl
    have : i = 52 := by omega
    subst this
    refine ⟨m, lup_inr ?_, ?_, MF_r m⟩
    · show x_X7_sayAscending_b5 x m (n : Int) _ = _
      unfold x_X7_sayAscending_b5
      rw [if_pos (by show zw 52 ≤ zw ((52 : Nat) : Int); decide)]
    · show HB 19 10 m (B ++ bl _ [])
      have : bl (decide (n = 0)) [] = [] := by cases decide (n = 0) <;> rfl
      rw [this, List.append_nil]; exact h
  | succ k ih =>
    intro i m B n hi hn h hl
    have ei : (i : Int) + 1 = ((i + 1 : Nat) : Int) := by omega
    by_cases e : bs x i = true
    · have hcl : asc x (k + 1) i = i :: asc x k (i + 1) := by
        show (if bs x i = true then _ else _) = _
        rw [if_pos e]
      rw [hcl] at hl ⊢
      have hl : B.length + 3 * ((asc x k (i + 1)).length + 1) ≤ 200 := hl
      have step : ∃ m', x_X7_sayAscending_b5 x m (n : Int) (i : Int) = some (.inl (m', ((n + 1 : Nat) : Int), (i : Int) + 1)) ∧ HB 19 10 m' (B ++ ((if decide (n = 0) = true then [] else [sg 44]) ++ cb i)) ∧ MF m m' := by
        unfold x_X7_sayAscending_b5
        rw [if_neg (nle_l (by omega) (by omega))]
        simp only [bit_1f x (show i < 64 by omega)]
        rw [if_neg (by rw [e]; decide)]
        by_cases w : n = 0
        · subst w
          obtain ⟨m1, a1, a2, a3⟩ := X7_sayC h (by omega) (show i < 52 by omega) true (w := 1) (by decide)
          refine ⟨m1, ?_, a2, a3⟩
          rw [if_neg (by decide), a1, Option.bind_some]; rfl
        · obtain ⟨m1, a1, a2, a3⟩ := X7_sayC h (by omega) (show i < 52 by omega) false (w := 0) (by decide)
          refine ⟨m1, ?_, ?_, a3⟩
          · rw [if_pos (by rw [zwn (by omega)]; omega), a1, Option.bind_some, bnd_eq, bnd_eq, show (n : Int) + 1 = ((n + 1 : Nat) : Int) by omega]
          · rw [decide_eq_false w]; exact a2
      obtain ⟨m1, a1, a2, a3⟩ := step
      rw [lup_inl (f := fun (s11 : Mm × Int × Int) => x_X7_sayAscending_b5 x s11.1 s11.2.1 s11.2.2) (s := (m, (n : Int), (i : Int))) a1, ei, bl_step]
      have hlen : (B ++ ((if decide (n = 0) = true then [] else [sg 44]) ++ cb i)).length ≤ B.length + 3 := by
        rw [List.length_append, List.length_append]
        have h1 : (if decide (n = 0) = true then ([] : List Int) else [sg 44]).length ≤ 1 := by
          split
          · exact Nat.zero_le 1
          · exact Nat.le_refl 1
        have h2 : (cb i).length = 2 := rfl
        omega
      obtain ⟨m2, b1, b2, b3⟩ := ih (i + 1) m1 _ (n + 1) (by omega) (by omega) a2 (by omega)
      exact ⟨m2, b1, by rw [decide_eq_false (show ¬ n + 1 = 0 by omega)] at b2; exact b2, MF_t a3 b3⟩
    · have hcl : asc x (k + 1) i = asc x k (i + 1) := by
        show (if bs x i = true then _ else _) = _
        rw [if_neg e]
      rw [hcl] at hl ⊢
      have hstep : x_X7_sayAscending_b5 x m (n : Int) (i : Int) = some (.inl (m, (n : Int), (i : Int) + 1)) := by
        unfold x_X7_sayAscending_b5
        rw [if_neg (nle_l (by omega) (by omega))]
        simp only [bit_1f x (show i < 64 by omega)]
        rw [if_pos (by simpa using e), bnd_eq]
      rw [lup_inl (f := fun (s11 : Mm × Int × Int) => x_X7_sayAscending_b5 x s11.1 s11.2.1 s11.2.2) (s := (m, (n : Int), (i : Int))) hstep, ei]
      exact ih (i + 1) m B n (by omega) (by omega) h hl
/-- of a run from its first card on -/
def rnl (s f : Nat) : Nat → Nat → List Nat
  | 0, _ => []
  | k + 1, i => (13 * s + (f + i) % 13) :: rnl s f k (i + 1)
theorem X7_rnl {s f n : Nat} (hs : s < 4) (hf : f < 13) (hn : n ≤ 13) : ∀ (k i : Nat) (m : Mm) (B : List Int), i + k = n → HB 19 10 m B → B.length + 3 * k ≤ 200 → ∃ m', lup (fun (s10 : Mm × Int) => x_X7_sayRun_b17 (run s f n) ((13 * s + f : Nat) : Int) ((13 * s : Nat) : Int) s10.1 s10.2) (m, (i : Int)) = some m' ∧ HB 19 10 m' (B ++ bl (decide (i = 0)) (rnl s f k i)) ∧ MF m m' := by
  intro k
  induction k with
  | zero =>
    intro i m B hi h hl
    have : i = n := by omega
    subst this
    refine ⟨m, lup_inr ?_, ?_, MF_r m⟩
    · show x_X7_sayRun_b17 _ _ _ m (i : Int) = _
      unfold x_X7_sayRun_b17
      rw [X7_ones, cnt_run hs hn, Option.bind_some, if_pos (Int.le_refl _)]
    · show HB 19 10 m (B ++ bl _ [])
      have : bl (decide (i = 0)) [] = [] := by cases decide (i = 0) <;> rfl
      rw [this, List.append_nil]; exact h
  | succ k ih =>
    intro i m B hi h hl
    have ei : (i : Int) + 1 = ((i + 1 : Nat) : Int) := by omega
    have hz : ((13 * s : Nat) : Int) + zrem (zrem ((13 * s + f : Nat) : Int) 13 + (i : Int)) 13 = ((13 * s + (f + i) % 13 : Nat) : Int) := by
      rw [zrem13 (by omega), show (13 * s + f) % 13 = f by omega, show (f : Int) + (i : Int) = ((f + i : Nat) : Int) by omega, zrem13 (by omega)]
      omega
    have hc : 13 * s + (f + i) % 13 < 52 := by omega
    have step : ∃ m', x_X7_sayRun_b17 (run s f n) ((13 * s + f : Nat) : Int) ((13 * s : Nat) : Int) m (i : Int) = some (.inl (m', (i : Int) + 1)) ∧ HB 19 10 m' (B ++ ((if decide (i = 0) = true then [] else [sg 44]) ++ cb (13 * s + (f + i) % 13))) ∧ MF m m' := by
      unfold x_X7_sayRun_b17
      rw [X7_ones, cnt_run hs hn, Option.bind_some, if_neg (nle_n (by omega) (by omega)), hz]
      by_cases w : i = 0
      · subst w
        obtain ⟨m1, a1, a2, a3⟩ := X7_sayC h (by omega) hc true (w := 1) (by decide)
        refine ⟨m1, ?_, a2, a3⟩
        rw [if_neg (by decide), a1, Option.bind_some]; rfl
      · obtain ⟨m1, a1, a2, a3⟩ := X7_sayC h (by omega) hc false (w := 0) (by decide)
        refine ⟨m1, ?_, ?_, a3⟩
        · rw [if_pos (by rw [zwn (by omega)]; omega), a1, Option.bind_some]; rfl
        · rw [decide_eq_false w]; exact a2
    obtain ⟨m1, a1, a2, a3⟩ := step
    rw [lup_inl (f := fun (s10 : Mm × Int) => x_X7_sayRun_b17 (run s f n) ((13 * s + f : Nat) : Int) ((13 * s : Nat) : Int) s10.1 s10.2) (s := (m, (i : Int))) a1, ei]
    show ∃ m', _ ∧ HB 19 10 m' (B ++ bl _ ((13 * s + (f + i) % 13) :: rnl s f k (i + 1))) ∧ _
    rw [bl_step]
    have hlen : (B ++ ((if decide (i = 0) = true then [] else [sg 44]) ++ cb (13 * s + (f + i) % 13))).length ≤ B.length + 3 := by
      rw [List.length_append, List.length_append]
      have h1 : (if decide (i = 0) = true then ([] : List Int) else [sg 44]).length ≤ 1 := by
        split
        · exact Nat.zero_le 1
        · exact Nat.le_refl 1
      have h2 : (cb (13 * s + (f + i) % 13)).length = 2 := rfl
      omega
    obtain ⟨m2, b1, b2, b3⟩ := ih (i + 1) m1 _ (by omega) a2 (by omega)
    exact ⟨m2, b1, by rw [decide_eq_false (show ¬ i + 1 = 0 by omega)] at b2; exact b2, MF_t a3 b3⟩
/-! the lists of both sides are the same -/
theorem cl_app (x : Int64) (f : Nat) : ∀ a b i, cl x f (a + b) i = cl x f a i ++ cl x f b (i + a)
  | 0, b, i => by rw [Nat.zero_add]; rfl
  | a + 1, b, i => by
    have s1 : cl x f (a + b + 1) i = if bs x ((f + i) % 52) = true then ((f + i) % 52) :: cl x f (a + b) (i + 1) else cl x f (a + b) (i + 1) := rfl
    have s2 : cl x f (a + 1) i = if bs x ((f + i) % 52) = true then ((f + i) % 52) :: cl x f a (i + 1) else cl x f a (i + 1) := rfl
    rw [show a + 1 + b = (a + b) + 1 by omega, s1, s2, cl_app x f a b (i + 1), show i + 1 + a = i + (a + 1) by omega]
    split <;> rfl
theorem asc_app (x : Int64) : ∀ a b i, asc x (a + b) i = asc x a i ++ asc x b (i + a)
  | 0, b, i => by rw [Nat.zero_add]; rfl
  | a + 1, b, i => by
    have s1 : asc x (a + b + 1) i = if bs x i = true then i :: asc x (a + b) (i + 1) else asc x (a + b) (i + 1) := rfl
    have s2 : asc x (a + 1) i = if bs x i = true then i :: asc x a (i + 1) else asc x a (i + 1) := rfl
    rw [show a + 1 + b = (a + b) + 1 by omega, s1, s2, asc_app x a b (i + 1), show i + 1 + a = i + (a + 1) by omega]
    split <;> rfl
theorem cl_asc (x : Int64) (f : Nat) : ∀ k i, f + i + k ≤ 52 → cl x f k i = asc x k (f + i)
  | 0, i, _ => rfl
  | k + 1, i, h => by
    have hm : (f + i) % 52 = f + i := Nat.mod_eq_of_lt (by omega)
    unfold cl asc
    rw [hm, cl_asc x f k (i + 1) (by omega), show f + (i + 1) = f + i + 1 by omega]
theorem cl_nil (x : Int64) (f : Nat) : ∀ k i, (∀ j, i ≤ j → j < i + k → bs x ((f + j) % 52) = false) → cl x f k i = []
  | 0, i, _ => rfl
  | k + 1, i, h => by
    unfold cl
    rw [h i (Nat.le_refl i) (by omega), if_neg (by decide)]
    exact cl_nil x f k (i + 1) (fun j h1 h2 => h j (by omega) (by omega))
theorem asc_nil (x : Int64) : ∀ k i, (∀ j, i ≤ j → j < i + k → bs x j = false) → asc x k i = []
  | 0, i, _ => rfl
  | k + 1, i, h => by
    unfold asc
    rw [h i (Nat.le_refl i) (by omega), if_neg (by decide)]
    exact asc_nil x k (i + 1) (fun j h1 h2 => h j (by omega) (by omega))
theorem cl_low {x : Int64} {k : Nat} (h : isLow x k) (hk : k < 52) : cl x k 52 0 = asc x 52 0 := by
  have e1 : cl x k 52 0 = cl x k (52 - k) 0 ++ cl x k k (52 - k) := by
    rw [show (52 : Nat) = (52 - k) + k by omega, cl_app, Nat.zero_add]
    congr 2 <;> omega
  have e2 : asc x 52 0 = asc x k 0 ++ asc x (52 - k) k := by
    rw [show (52 : Nat) = k + (52 - k) by omega, asc_app, Nat.zero_add]
    congr 2 <;> omega
  rw [e1, e2, cl_asc x k (52 - k) 0 (by omega), cl_nil x k k (52 - k) (fun j h1 h2 => h.2 _ (by omega)), asc_nil x k 0 (fun j h1 h2 => h.2 _ (by omega)), List.append_nil, List.nil_append, Nat.add_zero]
theorem asc_len {x : Int64} : ∀ k i, (asc x k i).length = cnt (fun j => bs x (i + j)) k
  | 0, i => rfl
  | k + 1, i => by
    rw [show k + 1 = 1 + k by omega, cnt_split]
    unfold asc
    have ih := asc_len (x := x) k (i + 1)
    have e : cnt (fun j => bs x (i + j)) 1 = if bs x i = true then 1 else 0 := by
      show 0 + (if bs x (i + 0) = true then 1 else 0) = _
      rw [Nat.zero_add, Nat.add_zero]
    have e2 : cnt (fun j => bs x (i + (1 + j))) k = cnt (fun j => bs x (i + 1 + j)) k := cnt_congr (fun j _ => by rw [show i + (1 + j) = i + 1 + j by omega])
    rw [e, e2, ← ih]
    rw [show 1 + k = k + 1 by omega]
    show (if bs x i = true then i :: asc x k (i + 1) else asc x k (i + 1)).length = _
    split
    · show (asc x k (i + 1)).length + 1 = _
      omega
    · omega
theorem asc_cnt {x : Int64} (h : cw x) : (asc x 52 0).length = cnt (bs x) 64 := by
  rw [asc_len, cnt52 h]
  exact cnt_congr (fun j _ => by rw [Nat.zero_add])
def clR (s f n : Nat) : Nat → Nat → List Nat
  | 0, _ => []
  | k + 1, i => if (decide (((13 * s + f) + i) % 52 / 13 = s) && rb f n (((13 * s + f) + i) % 52 % 13)) = true then (((13 * s + f) + i) % 52) :: clR s f n k (i + 1) else clR s f n k (i + 1)
theorem clR_tab : ∀ s, s < 4 → ∀ f, f < 13 → ∀ n, n < 13 → clR s f n 52 0 = rnl s f n 0 := by decide +kernel
theorem bs_runR {s f n : Nat} (hs : s < 4) (c : Nat) : bs (run s f n) c = (decide (c / 13 = s) && rb f n (c % 13)) := by
  by_cases e : c / 13 = s
  · have := bs_run2 (f := f) (n := n) hs (j := c % 13) (by omega)
    rw [show 13 * s + c % 13 = c by omega] at this
    rw [this, decide_eq_true e, Bool.true_and]
  · rw [decide_eq_false e, Bool.false_and]
    cases w : bs (run s f n) c
    · rfl
    · have := std_run hs c w
      omega
theorem cl_R {s f n : Nat} (hs : s < 4) : ∀ k i, cl (run s f n) (13 * s + f) k i = clR s f n k i
  | 0, i => rfl
  | k + 1, i => by
    unfold cl clR
    rw [bs_runR hs, cl_R hs k (i + 1)]
theorem rnl_len (s f : Nat) : ∀ k i, (rnl s f k i).length = k
  | 0, i => rfl
  | k + 1, i => by
    show (rnl s f k (i + 1)).length + 1 = k + 1
    rw [rnl_len s f k (i + 1)]
