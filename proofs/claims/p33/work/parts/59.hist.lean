/-! copies; what can be undone and what is kept, on both sides -/
theorem X2_copyFrom {N : Nat} {σ : Mm} {r : Nat → Int} (h : V N r) (hM : MR (fun c => σ (5 + c)) r) : ∃ σ', x_X2_copyFrom σ = some σ' ∧ MR σ' r ∧ ∀ c, 5 ≤ c → σ' c = σ c := by
  obtain ⟨t0, p0, v1, v2, v3, v4, v5⟩ := V_pile h
  obtain ⟨⟨a0, a1, a2, a3, a4, a5, a6, a7, a8, a9, a10, a11, a12⟩, ⟨s0, s1⟩, md, mp, mh⟩ := hM
  have a6 : σ 5 6 = r 5 := a6
  have a8 : σ 5 8 = r 6 := a8
  have z6 : zw (σ 5 6) = 0 ∨ zw (σ 5 6) = 1 := by rw [a6]; rcases V_d h with e | e <;> rw [e] <;> decide
  have z8 : zw (σ 5 8) = 0 ∨ zw (σ 5 8) = 1 := by rw [a8]; rcases V_o h with e | e <;> rw [e] <;> decide
  unfold x_X2_copyFrom
  simp only [bnd_eq]
  rw [if_pos (by exact z6), if_pos (by exact z8)]
  refine ⟨_, rfl, ⟨⟨a0, a1, a2, ?_, a4, a5, a6, a7, a8, a9, a10, a11, a12⟩, ⟨s0, s1⟩, fun j hj => ?_, fun j hj => ?_, fun p hp => ?_⟩, fun c hc => ?_⟩
  · show zL (Int64.toInt (zL (σ 5 3))) = _
    rw [zL_toInt]; exact a3
  · show (if j < 52 then σ 8 j else _) = _
    rw [if_pos hj]; exact md j hj
  · show (if j < 52 then σ 9 j else _) = _
    rw [if_pos (by omega)]; exact mp j hj
  · show cw (zL (if p < 2 then σ 7 p else _)) ∧ ∀ c, c < 52 → bs (zL (if p < 2 then σ 7 p else _)) c = _
    rw [if_pos hp]; exact mh p hp
  · unfold zcp
    rw [if_neg (by omega), if_neg (by omega), if_neg (by omega), if_neg (by omega)]
    unfold zu
    repeat rw [if_neg (by omega)]
theorem X7_copy (σ : Mm) : ∃ σ', x_X7_copy σ = some σ' ∧ (∀ c, c ≠ 1 → σ' c = σ c) ∧ ∀ j, j < 171 → σ' 1 j = σ 0 j := by
  obtain ⟨σ1, a1, a2, a3⟩ := lup_for (f := fun (s6 : Mm × Int) => x_X7_copy_b2 s6.1 s6.2) (fun i s => s.2 = (i : Int) ∧ RW σ s.1 ∧ ∀ j, j < i → s.1 1 j = σ 0 j) (fun e => RW σ e ∧ ∀ j, j < 171 → e 1 j = σ 0 j) 171 (fun i s hi hs => by
    obtain ⟨τ, u⟩ := s
    obtain ⟨e1, e2, e3⟩ := hs
    simp only at e1 e2 e3
    subst e1
    refine ⟨(zu τ 1 i (τ 0 i), (i : Int) + 1), ?_, by show (i : Int) + 1 = _; omega, RW_t e2 (RW_u _ _ _), fun j hj => ?_⟩
    · show x_X7_copy_b2 τ (i : Int) = _
      unfold x_X7_copy_b2
      rw [if_neg (by rw [zw_eq (x := (171 : Int)) (by omega) (by omega), zwn (by omega)]; omega), if_pos (zin_i (by omega) (by omega) (by omega)), if_pos (zin_i (by omega) (by omega) (by omega)), zix_nat (n := i) (by omega), bnd_eq, bnd_eq]
    · show zu τ 1 i _ 1 j = _
      by_cases w : j = i
      · rw [w, zu_hit, e2 0 (by omega)]
      · rw [zu_miss _ _ _ _ (fun _ => w)]; exact e3 j (by omega)) (fun s hs => by
    obtain ⟨τ, u⟩ := s
    obtain ⟨e1, e2, e3⟩ := hs
    simp only at e1 e2 e3
    subst e1
    refine ⟨τ, ?_, e2, e3⟩
    show x_X7_copy_b2 τ _ = _
    unfold x_X7_copy_b2
    rw [if_pos (by show zw 171 ≤ zw ((171 : Nat) : Int); decide)]) (s := (σ, 0)) ⟨rfl, RW_r σ, fun j hj => by omega⟩
  unfold x_X7_copy
  rw [a1, Option.bind_some]
  exact ⟨σ1, rfl, a2, a3⟩
/-- one of two cells copied to the other -/
theorem X7_copy2 (σ : Mm) {a b : Nat} (hab : a ≠ b) : ∃ σ1, x_X7_copy (zb [a, b] σ) = some σ1 ∧ (∀ c, c ≠ b → zj [a, b] σ σ1 c = σ c) ∧ ∀ j, j < 171 → zj [a, b] σ σ1 b j = σ a j := by
  obtain ⟨σ1, a1, a2, a3⟩ := X7_copy (zb [a, b] σ)
  have hq : ∀ c, zq [a, b] c = if a = c then some 0 else if b = c then some 1 else none := fun c => by
    unfold zq zqi zqi zqi
    rfl
  refine ⟨σ1, a1, fun c hc => ?_, fun j hj => ?_⟩
  · unfold zj
    rw [hq]
    by_cases e : a = c
    · rw [if_pos e]
      show σ1 0 = _
      rw [a2 0 (by omega), ← e]; rfl
    · rw [if_neg e, if_neg (fun z => hc z.symm)]
  · unfold zj
    rw [hq, if_neg hab, if_pos rfl]
    exact a3 j hj
/-- the row at the place n of the class's history, as a match -/
def hrow (σ : Mm) (n : Nat) : Mm := fun c => σ (2 + 5 * n + c)
/-- what can be undone: σ the class's history, m the model -/
def HRel (N : Nat) (σ m : Mm) : Prop := ∃ (e k : Nat) (Pf : Nat → Nat), σ 0 1 = (e : Int) ∧ e ≤ 10 ∧ σ 0 2 = (k : Int) ∧ m 0 3 = (k : Int) ∧ k ≤ 10 ∧ (∀ i, i < 10 → m 2 i = ((3 + Pf i : Nat) : Int) ∧ Pf i < 10) ∧ (∀ i j, i < 10 → j < 10 → Pf i = Pf j → i = j) ∧ ∀ i, i < k → σ 1 ((e + 10 - k + i) % 10) ≠ 0 ∧ MR (hrow σ ((e + 10 - k + i) % 10)) (m (3 + Pf i)) ∧ V N (m (3 + Pf i))
theorem X2_init_ok : ∃ σ', x_X2_init (fun _ _ => 0) = some σ' := by
  unfold x_X2_init
  simp only [bnd_eq]
  rw [if_pos (by decide +kernel)]
  exact ⟨_, rfl⟩
theorem zq_5 (a c : Nat) (t : List Nat) : zq (a :: t) c = if a = c then some 0 else zqi t c 1 := rfl
/-- five cells in a row, among others -/
theorem zqi_c (p c i : Nat) (l : List Nat) : zqi (p :: l) c i = if p = c then some i else zqi l c (i + 1) := rfl
theorem zqi_5 (b c i : Nat) (t : List Nat) : zqi (b :: (b + 1) :: (b + 2) :: (b + 3) :: (b + 4) :: t) c i = if b ≤ c ∧ c < b + 5 then some (i + (c - b)) else zqi t c (i + 5) := by
  rw [zqi_c]
  by_cases e0 : b = c
  · rw [if_pos e0, if_pos (by omega), show i + (c - b) = i by omega]
  · rw [if_neg e0]
    rw [zqi_c]
    by_cases e1 : b + 1 = c
    · rw [if_pos e1, if_pos (by omega), show i + (c - b) = i + 1 by omega]
    · rw [if_neg e1]
      rw [zqi_c]
      by_cases e2 : b + 2 = c
      · rw [if_pos e2, if_pos (by omega), show i + (c - b) = i + 1 + 1 by omega]
      · rw [if_neg e2]
        rw [zqi_c]
        by_cases e3 : b + 3 = c
        · rw [if_pos e3, if_pos (by omega), show i + (c - b) = i + 1 + 1 + 1 by omega]
        · rw [if_neg e3]
          rw [zqi_c]
          by_cases e4 : b + 4 = c
          · rw [if_pos e4, if_pos (by omega), show i + (c - b) = i + 1 + 1 + 1 + 1 by omega]
          · rw [if_neg e4, if_neg (by omega), show i + 1 + 1 + 1 + 1 + 1 = i + 5 by omega]
theorem zj_5 {b : Nat} {σ σ1 : Mm} {t : List Nat} (c : Nat) (ht : ∀ i, zqi t c i = none ∨ (b ≤ c ∧ c < b + 5)) : zj (b :: (b + 1) :: (b + 2) :: (b + 3) :: (b + 4) :: t) σ σ1 c = if b ≤ c ∧ c < b + 5 then σ1 (c - b) else σ c := by
  unfold zj zq
  rw [zqi_5]
  by_cases e : b ≤ c ∧ c < b + 5
  · rw [if_pos e, if_pos e]
    show σ1 (0 + (c - b)) = _
    rw [Nat.zero_add]
  · rw [if_neg e, if_neg e]
    rcases ht (0 + 5) with z | z
    · rw [z]
    · exact absurd z e
/-- ten cells: a match and another one -/
theorem zj_55 {b d : Nat} {σ σ1 : Mm} (c : Nat) : zj (b :: (b + 1) :: (b + 2) :: (b + 3) :: (b + 4) :: d :: (d + 1) :: (d + 2) :: (d + 3) :: (d + 4) :: []) σ σ1 c = if b ≤ c ∧ c < b + 5 then σ1 (c - b) else if d ≤ c ∧ c < d + 5 then σ1 (5 + (c - d)) else σ c := by
  unfold zj zq
  rw [zqi_5]
  by_cases e : b ≤ c ∧ c < b + 5
  · rw [if_pos e, if_pos e]
    show σ1 (0 + (c - b)) = _
    rw [Nat.zero_add]
  · rw [if_neg e, if_neg e, zqi_5]
    by_cases e2 : d ≤ c ∧ c < d + 5
    · rw [if_pos e2, if_pos e2]
    · rw [if_neg e2, if_neg e2]; rfl
theorem zb_55 {b d : Nat} {σ : Mm} : ∀ c, c < 5 → zb (b :: (b + 1) :: (b + 2) :: (b + 3) :: (b + 4) :: d :: (d + 1) :: (d + 2) :: (d + 3) :: (d + 4) :: []) σ c = σ (b + c) ∧ zb (b :: (b + 1) :: (b + 2) :: (b + 3) :: (b + 4) :: d :: (d + 1) :: (d + 2) :: (d + 3) :: (d + 4) :: []) σ (5 + c) = σ (d + c)
  | 0, _ => ⟨rfl, rfl⟩
  | 1, _ => ⟨rfl, rfl⟩
  | 2, _ => ⟨rfl, rfl⟩
  | 3, _ => ⟨rfl, rfl⟩
  | 4, _ => ⟨rfl, rfl⟩
  | n + 5, h => by omega
theorem MR_cells {μ μ' : Mm} {r : Nat → Int} (h : ∀ c, c < 5 → μ' c = μ c) (hM : MR μ r) : MR μ' r := by
  unfold MR
  rw [h 0 (by omega), h 1 (by omega), h 2 (by omega), h 3 (by omega), h 4 (by omega)]
  exact hM
/-- a match copied from the cells d.. to the cells b.. -/
theorem copy_cells {N : Nat} {σ : Mm} {r : Nat → Int} {b d : Nat} (hbd : b + 5 ≤ d ∨ d + 5 ≤ b) (h : V N r) (hM : MR (fun c => σ (d + c)) r) : ∃ σ1, x_X2_copyFrom (zb (b :: (b + 1) :: (b + 2) :: (b + 3) :: (b + 4) :: d :: (d + 1) :: (d + 2) :: (d + 3) :: (d + 4) :: []) σ) = some σ1 ∧ MR (fun c => zj (b :: (b + 1) :: (b + 2) :: (b + 3) :: (b + 4) :: d :: (d + 1) :: (d + 2) :: (d + 3) :: (d + 4) :: []) σ σ1 (b + c)) r ∧ ∀ c, ¬ (b ≤ c ∧ c < b + 5) → zj (b :: (b + 1) :: (b + 2) :: (b + 3) :: (b + 4) :: d :: (d + 1) :: (d + 2) :: (d + 3) :: (d + 4) :: []) σ σ1 c = σ c := by
  obtain ⟨σ1, a1, a2, a3⟩ := X2_copyFrom (σ := zb (b :: (b + 1) :: (b + 2) :: (b + 3) :: (b + 4) :: d :: (d + 1) :: (d + 2) :: (d + 3) :: (d + 4) :: []) σ) h (MR_cells (fun c hc => (zb_55 (b := b) (d := d) (σ := σ) c hc).2) hM)
  refine ⟨σ1, a1, MR_cells (fun c hc => ?_) a2, fun c hc => ?_⟩
  · show zj _ σ σ1 (b + c) = _
    rw [zj_55, if_pos (by omega), show b + c - b = c by omega]
  · rw [zj_55, if_neg hc]
    by_cases e : d ≤ c ∧ c < d + 5
    · rw [if_pos e, a3 _ (by omega), (zb_55 (b := b) (d := d) (σ := σ) (c - d) (by omega)).2, show d + (c - d) = c by omega]
    · rw [if_neg e]
/-- the class's push: the match lies in the cells 52 to 56 -/
theorem X0_push {N : Nat} {σ : Mm} {r : Nat → Int} {e k : Nat} (h : V N r) (hM : MR (fun c => σ (52 + c)) r) (he : σ 0 1 = (e : Int)) (he10 : e ≤ 10) (hk : σ 0 2 = (k : Int)) (hk10 : k ≤ 10) : ∃ σ', x_X0_push σ = some σ' ∧ σ' 0 1 = ((e % 10 + 1 : Nat) : Int) ∧ σ' 0 2 = ((min (k + 1) 10 : Nat) : Int) ∧ σ' 1 (e % 10) ≠ 0 ∧ (∀ j, j ≠ e % 10 → σ' 1 j = σ 1 j) ∧ MR (hrow σ' (e % 10)) r ∧ (∀ n, n < 10 → n ≠ e % 10 → ∀ c, c < 5 → hrow σ' n c = hrow σ n c) ∧ ∀ c, 52 ≤ c → σ' c = σ c := by
  -- with the place p
  have key : ∀ p : Nat, p = e % 10 → ∃ σ', (if zin (p : Int) 10 then (if σ 1 (zix (p : Int)) = 0 then (if zin (p : Int) 10 then (x_X2_init (fun _ _ => 0)).bind fun σ2 => bnd (zu (zj (zl_5 (zix (p : Int))) σ σ2) 1 (zix (p : Int)) 1) fun σ1 => (if zin (p : Int) 10 then (if σ1 1 (zix (p : Int)) = 0 then none else (x_X2_copyFrom (zb (zl_6 (zix (p : Int))) σ1)).bind fun σ4 => bnd (zj (zl_6 (zix (p : Int))) σ1 σ4) fun σ5 => bnd (zu σ5 0 1 ((p : Int) + (1 : Int))) fun σ6 => bnd (zu σ6 0 2 (zmin ((σ6 0 2) + (1 : Int)) (10 : Int))) fun σ7 => some σ7) else none) else none) else (if zin (p : Int) 10 then (if σ 1 (zix (p : Int)) = 0 then none else (x_X2_copyFrom (zb (zl_6 (zix (p : Int))) σ)).bind fun σ9 => bnd (zj (zl_6 (zix (p : Int))) σ σ9) fun σ10 => bnd (zu σ10 0 1 ((p : Int) + (1 : Int))) fun σ11 => bnd (zu σ11 0 2 (zmin ((σ11 0 2) + (1 : Int)) (10 : Int))) fun σ12 => some σ12) else none)) else none) = some σ' ∧ σ' 0 1 = ((p + 1 : Nat) : Int) ∧ σ' 0 2 = ((min (k + 1) 10 : Nat) : Int) ∧ σ' 1 p ≠ 0 ∧ (∀ j, j ≠ p → σ' 1 j = σ 1 j) ∧ MR (hrow σ' p) r ∧ (∀ n, n < 10 → n ≠ p → ∀ c, c < 5 → hrow σ' n c = hrow σ n c) ∧ ∀ c, 52 ≤ c → σ' c = σ c := fun p hp => by
    have hp10 : p < 10 := by omega
    have zi : zin (p : Int) 10 := zin_i (by omega) (by omega) (by omega)
    simp only [if_pos zi, zix_nat (n := p) (by omega)]
    -- from a memory τ whose row p is there
    have fin : ∀ τ : Mm, τ 1 p ≠ 0 → (∀ j, j ≠ p → τ 1 j = σ 1 j) → τ 0 2 = (k : Int) → (∀ n, n < 10 → n ≠ p → ∀ c, c < 5 → hrow τ n c = hrow σ n c) → (∀ c, 52 ≤ c → τ c = σ c) → ∃ σ', ((x_X2_copyFrom (zb (zl_6 p) τ)).bind fun σ4 => bnd (zj (zl_6 p) τ σ4) fun σ5 => bnd (zu σ5 0 1 ((p : Int) + (1 : Int))) fun σ6 => bnd (zu σ6 0 2 (zmin ((σ6 0 2) + (1 : Int)) (10 : Int))) fun σ7 => some σ7) = some σ' ∧ σ' 0 1 = ((p + 1 : Nat) : Int) ∧ σ' 0 2 = ((min (k + 1) 10 : Nat) : Int) ∧ σ' 1 p ≠ 0 ∧ (∀ j, j ≠ p → σ' 1 j = σ 1 j) ∧ MR (hrow σ' p) r ∧ (∀ n, n < 10 → n ≠ p → ∀ c, c < 5 → hrow σ' n c = hrow σ n c) ∧ ∀ c, 52 ≤ c → σ' c = σ c := fun τ t1 t2 t3 t4 t5 => by
      have hl : zl_6 p = (2 + 5 * p) :: (2 + 5 * p + 1) :: (2 + 5 * p + 2) :: (2 + 5 * p + 3) :: (2 + 5 * p + 4) :: 52 :: (52 + 1) :: (52 + 2) :: (52 + 3) :: (52 + 4) :: [] := by
        unfold zl_6
        rw [show 3 + 5 * p = 2 + 5 * p + 1 by omega, show 4 + 5 * p = 2 + 5 * p + 2 by omega, show 5 + 5 * p = 2 + 5 * p + 3 by omega, show 6 + 5 * p = 2 + 5 * p + 4 by omega]
      rw [hl]
      obtain ⟨σ1, b1, b2, b3⟩ := copy_cells (σ := τ) (b := 2 + 5 * p) (d := 52) (.inl (by omega)) h (MR_cells (fun c _ => t5 (52 + c) (by omega)) hM)
      rw [b1, Option.bind_some, bnd_eq, bnd_eq, bnd_eq]
      generalize zj ((2 + 5 * p) :: (2 + 5 * p + 1) :: (2 + 5 * p + 2) :: (2 + 5 * p + 3) :: (2 + 5 * p + 4) :: 52 :: (52 + 1) :: (52 + 2) :: (52 + 3) :: (52 + 4) :: []) τ σ1 = υ at b2 b3
      have h02 : zu υ 0 1 ((p : Int) + 1) 0 2 = (k : Int) := by
        rw [zu_miss _ _ _ _ (fun _ => by decide), b3 0 (by omega), t3]
      have hz : zmin ((k : Int) + 1) 10 = ((min (k + 1) 10 : Nat) : Int) := by
        unfold zmin
        rw [show (k : Int) + 1 = ((k + 1 : Nat) : Int) by omega, zwn (by omega), zw_eq (x := (10 : Int)) (by omega) (by omega)]
        split <;> omega
      have hne : ∀ c, c ≠ 0 → zu (zu υ 0 1 ((p : Int) + 1)) 0 2 (zmin ((k : Int) + 1) 10) c = υ c := fun c hc => by
        unfold zu
        rw [if_neg hc, if_neg hc]
      rw [h02]
      refine ⟨_, rfl, ?_, ?_, ?_, fun j hj => ?_, MR_cells (fun c hc => ?_) b2, fun n hn hnp c hc => ?_, fun c hc => ?_⟩
      · rw [zu_miss _ _ _ _ (fun _ => by decide), zu_hit]; omega
      · rw [zu_hit, hz]
      · rw [hne 1 (by omega), b3 1 (by omega)]; exact t1
      · rw [hne 1 (by omega), b3 1 (by omega)]; exact t2 j hj
      · exact hne _ (by omega)
      · show zu (zu υ 0 1 ((p : Int) + 1)) 0 2 (zmin ((k : Int) + 1) 10) (2 + 5 * n + c) = _
        rw [hne _ (by omega), b3 _ (by omega)]
        exact t4 n hn hnp c hc
      · rw [hne _ (by omega), b3 _ (by omega)]; exact t5 c hc
    by_cases e0 : σ 1 p = 0
    · rw [if_pos e0]
      obtain ⟨σ2, b1⟩ := X2_init_ok
      rw [b1, Option.bind_some, bnd_eq]
      have hl : zl_5 p = (2 + 5 * p) :: (2 + 5 * p + 1) :: (2 + 5 * p + 2) :: (2 + 5 * p + 3) :: (2 + 5 * p + 4) :: [] := by
        unfold zl_5
        rw [show 3 + 5 * p = 2 + 5 * p + 1 by omega, show 4 + 5 * p = 2 + 5 * p + 2 by omega, show 5 + 5 * p = 2 + 5 * p + 3 by omega, show 6 + 5 * p = 2 + 5 * p + 4 by omega]
      have hzj : ∀ c, zj (zl_5 p) σ σ2 c = if 2 + 5 * p ≤ c ∧ c < 2 + 5 * p + 5 then σ2 (c - (2 + 5 * p)) else σ c := fun c => by
        rw [hl]
        exact zj_5 c (fun i => .inl rfl)
      have hne : ∀ c, c ≠ 1 → zu (zj (zl_5 p) σ σ2) 1 p 1 c = zj (zl_5 p) σ σ2 c := fun c hc => by
        unfold zu
        rw [if_neg hc]
      have h1p : zu (zj (zl_5 p) σ σ2) 1 p 1 1 p = 1 := zu_hit _ _ _ _
      rw [h1p, if_neg (by decide)]
      refine fin _ (by rw [h1p]; decide) (fun j hj => ?_) ?_ (fun n hn hnp c hc => ?_) (fun c hc => ?_)
      · rw [zu_miss _ _ _ _ (fun _ => hj), hzj, if_neg (by omega)]
      · rw [hne 0 (by omega), hzj, if_neg (by omega)]; exact hk
      · show zu (zj (zl_5 p) σ σ2) 1 p 1 (2 + 5 * n + c) = _
        rw [hne _ (by omega), hzj, if_neg (by omega)]; rfl
      · rw [hne _ (by omega), hzj, if_neg (by omega)]
    · rw [if_neg e0, if_neg e0]
      exact fin σ e0 (fun _ _ => rfl) hk (fun _ _ _ _ _ => rfl) (fun _ _ => rfl)
  unfold x_X0_push
  rw [he, if_neg (nlt0 (by omega))]
  by_cases e10 : e = 10
  · rw [if_pos (by rw [e10]; decide)]
    have := key 0 (by omega)
    rw [show e % 10 = 0 by omega]
    exact this
  · rw [if_neg (nle_l (by omega) (by omega)), bnd_eq]
    have := key e (by omega)
    rw [show e % 10 = e by omega]
    exact this
/-- the model's keepPast -/
def keepB (src : Nat) (f : Mm → Option Mm) : Prop := ∀ (σ : Mm) (k : Nat) (Pf : Nat → Nat), σ 0 3 = (k : Int) → k ≤ 10 → (∀ i, i < 10 → σ 2 i = ((3 + Pf i : Nat) : Int) ∧ Pf i < 10) → (∀ i j, i < 10 → j < 10 → Pf i = Pf j → i = j) → ∃ (σ' : Mm) (Pf' : Nat → Nat), f σ = some σ' ∧ σ' 0 3 = ((min (k + 1) 10 : Nat) : Int) ∧ (∀ j, j ≠ 3 → σ' 0 j = σ 0 j) ∧ (∀ i, i < 10 → σ' 2 i = ((3 + Pf' i : Nat) : Int) ∧ Pf' i < 10) ∧ (∀ i j, i < 10 → j < 10 → Pf' i = Pf' j → i = j) ∧ (∀ i, i < min (k + 1) 10 - 1 → Pf' i = (if k = 10 then Pf (i + 1) else Pf i) ∧ σ' (3 + Pf' i) = σ (3 + Pf' i)) ∧ (∀ j, j < 171 → σ' (3 + Pf' (min (k + 1) 10 - 1)) j = σ src j) ∧ ∀ c, c ≠ 0 → c ≠ 2 → (c < 3 ∨ 13 ≤ c) → σ' c = σ c
theorem keep_end {src : Nat} (hs : src = 1 ∨ src = 17) {σ : Mm} {k : Nat} {Pf : Nat → Nat} (hk : σ 0 3 = (k : Int)) (hk10 : k < 10) (hp : ∀ i, i < 10 → σ 2 i = ((3 + Pf i : Nat) : Int) ∧ Pf i < 10) (hinj : ∀ i j, i < 10 → j < 10 → Pf i = Pf j → i = j) : ∃ σ', (if zin (σ 0 3) 10 then (if (3 : Int) ≤ (σ 2 (zix (σ 0 3))) ∧ (σ 2 (zix (σ 0 3))) < (13 : Int) then (if (3 : Int) ≤ (σ 2 (zix (σ 0 3))) ∧ (σ 2 (zix (σ 0 3))) < (13 : Int) then (x_X7_copy (zb [src, (Int.toNat (σ 2 (zix (σ 0 3))))] σ)).bind fun σ1 => bnd (zj [src, (Int.toNat (σ 2 (zix (σ 0 3))))] σ σ1) fun σ2 => bnd (zu σ2 0 3 ((σ2 0 3) + (1 : Int))) fun σ3 => some σ3 else none) else none) else none) = some σ' ∧ σ' 0 3 = ((k + 1 : Nat) : Int) ∧ (∀ j, j ≠ 3 → σ' 0 j = σ 0 j) ∧ σ' 2 = σ 2 ∧ (∀ i, i < 10 → i ≠ k → σ' (3 + Pf i) = σ (3 + Pf i)) ∧ (∀ j, j < 171 → σ' (3 + Pf k) j = σ src j) ∧ ∀ c, c ≠ 0 → c ≠ 2 → (c < 3 ∨ 13 ≤ c) → σ' c = σ c := by
  obtain ⟨p1, p2⟩ := hp k hk10
  rw [hk, if_pos (zin_i (by omega) (by omega) (by omega)), zix_nat (n := k) (by omega), p1, if_pos (by omega), if_pos (by omega), show Int.toNat ((3 + Pf k : Nat) : Int) = 3 + Pf k from rfl]
  obtain ⟨σ1, b1, b2, b3⟩ := X7_copy2 σ (a := src) (b := 3 + Pf k) (by omega)
  rw [b1, Option.bind_some, bnd_eq, b2 0 (by omega), hk, bnd_eq]
  have hne : ∀ c, c ≠ 0 → zu (zj [src, 3 + Pf k] σ σ1) 0 3 ((k : Int) + 1) c = zj [src, 3 + Pf k] σ σ1 c := fun c hc => by
    unfold zu
    rw [if_neg hc]
  refine ⟨_, rfl, ?_, fun j hj => ?_, ?_, fun i hi hik => ?_, fun j hj => ?_, fun c c1 c2 c3 => ?_⟩
  · rw [zu_hit]; omega
  · rw [zu_miss _ _ _ _ (fun _ => hj), b2 0 (by omega)]
  · rw [hne 2 (by omega), b2 2 (by omega)]
  · have : Pf i ≠ Pf k := fun z => hik (hinj i k hi hk10 z)
    rw [hne _ (by omega), b2 _ (by omega)]
  · rw [hne _ (by omega), b3 j hj]
  · rw [hne _ c1, b2 _ (by omega)]
theorem keep_rot {f : Mm → Int → Option ((Mm × Int) ⊕ Mm)} (hf : ∀ σ u, f σ u = (if zw (10 : Int) ≤ zw u then some (.inr σ) else (if zin u 10 then (if (3 : Int) ≤ (σ 2 (zix u)) ∧ (σ 2 (zix u)) < (13 : Int) then (if zin (u - (1 : Int)) 10 then (if (3 : Int) ≤ (σ 2 (zix u)) ∧ (σ 2 (zix u)) < (13 : Int) then bnd (zu σ 2 (zix (u - (1 : Int))) (σ 2 (zix u))) fun σ6 => bnd (u + 1) fun v8 => some (.inl (σ6, v8)) else none) else none) else none) else none))) {σ : Mm} {Pf : Nat → Nat} (hp : ∀ i, i < 10 → σ 2 i = ((3 + Pf i : Nat) : Int) ∧ Pf i < 10) : ∃ σ', lup (fun (s : Mm × Int) => f s.1 s.2) (σ, (1 : Int)) = some σ' ∧ (∀ c, c ≠ 2 → σ' c = σ c) ∧ ∀ i, i < 9 → σ' 2 i = ((3 + Pf (i + 1) : Nat) : Int) := by
  obtain ⟨σ1, a1, a2, a3⟩ := lup_for (f := fun (s : Mm × Int) => f s.1 s.2) (fun i s => s.2 = ((i + 1 : Nat) : Int) ∧ (∀ c, c ≠ 2 → s.1 c = σ c) ∧ (∀ j, j < i → s.1 2 j = ((3 + Pf (j + 1) : Nat) : Int)) ∧ ∀ j, i ≤ j → s.1 2 j = σ 2 j) (fun e => (∀ c, c ≠ 2 → e c = σ c) ∧ ∀ j, j < 9 → e 2 j = ((3 + Pf (j + 1) : Nat) : Int)) 9 (fun i s hi hs => by
    obtain ⟨τ, u⟩ := s
    obtain ⟨e1, e2, e3, e4⟩ := hs
    simp only at e1 e2 e3 e4
    subst e1
    obtain ⟨p1, p2⟩ := hp (i + 1) (by omega)
    have t1 : τ 2 (i + 1) = ((3 + Pf (i + 1) : Nat) : Int) := by rw [e4 _ (by omega)]; exact p1
    refine ⟨(zu τ 2 i ((3 + Pf (i + 1) : Nat) : Int), ((i + 1 : Nat) : Int) + 1), ?_, by show ((i + 1 : Nat) : Int) + 1 = _; omega, fun c hc => ?_, fun j hj => ?_, fun j hj => ?_⟩
    · show f τ ((i + 1 : Nat) : Int) = _
      rw [hf, if_neg (by rw [zw_eq (x := (10 : Int)) (by omega) (by omega), zwn (by omega)]; omega), if_pos (zin_i (by omega) (by omega) (by omega)), zix_nat (n := i + 1) (by omega), t1, if_pos (by omega), show ((i + 1 : Nat) : Int) - 1 = (i : Int) by omega, if_pos (zin_i (by omega) (by omega) (by omega)), if_pos (by omega), zix_nat (n := i) (by omega), bnd_eq, bnd_eq]
    · show zu τ 2 i _ c = _
      unfold zu
      rw [if_neg hc]; exact e2 c hc
    · show zu τ 2 i _ 2 j = _
      by_cases w : j = i
      · rw [w, zu_hit]
      · rw [zu_miss _ _ _ _ (fun _ => w)]; exact e3 j (by omega)
    · show zu τ 2 i _ 2 j = _
      rw [zu_miss _ _ _ _ (fun _ => by omega)]; exact e4 j (by omega)) (fun s hs => by
    obtain ⟨τ, u⟩ := s
    obtain ⟨e1, e2, e3, e4⟩ := hs
    simp only at e1 e2 e3 e4
    subst e1
    refine ⟨τ, ?_, e2, e3⟩
    show f τ _ = _
    rw [hf, if_pos (by show zw 10 ≤ zw ((9 + 1 : Nat) : Int); decide)]) (s := (σ, 1)) ⟨rfl, fun _ _ => rfl, fun j hj => by omega, fun _ _ => rfl⟩
  exact ⟨σ1, a1, a2, a3⟩
theorem keep_all {src : Nat} (hs : src = 1 ∨ src = 17) {f : Mm → Int → Option ((Mm × Int) ⊕ Mm)} (hf : ∀ σ u, f σ u = (if zw (10 : Int) ≤ zw u then some (.inr σ) else (if zin u 10 then (if (3 : Int) ≤ (σ 2 (zix u)) ∧ (σ 2 (zix u)) < (13 : Int) then (if zin (u - (1 : Int)) 10 then (if (3 : Int) ≤ (σ 2 (zix u)) ∧ (σ 2 (zix u)) < (13 : Int) then bnd (zu σ 2 (zix (u - (1 : Int))) (σ 2 (zix u))) fun σ6 => bnd (u + 1) fun v8 => some (.inl (σ6, v8)) else none) else none) else none) else none))) : keepB src (fun σ => (if zw (σ 0 3) ≠ zw (10 : Int) then (if zin (σ 0 3) 10 then (if (3 : Int) ≤ (σ 2 (zix (σ 0 3))) ∧ (σ 2 (zix (σ 0 3))) < (13 : Int) then (if (3 : Int) ≤ (σ 2 (zix (σ 0 3))) ∧ (σ 2 (zix (σ 0 3))) < (13 : Int) then (x_X7_copy (zb [src, (Int.toNat (σ 2 (zix (σ 0 3))))] σ)).bind fun σ1 => bnd (zj [src, (Int.toNat (σ 2 (zix (σ 0 3))))] σ σ1) fun σ2 => bnd (zu σ2 0 3 ((σ2 0 3) + (1 : Int))) fun σ3 => some σ3 else none) else none) else none) else (if zin (0 : Int) 10 then (if (3 : Int) ≤ (σ 2 (zix (0 : Int))) ∧ (σ 2 (zix (0 : Int))) < (13 : Int) then (lup (fun (s11 : Mm × Int) => f s11.1 s11.2) (σ, (1 : Int))).bind fun σ13 => (if zin (9 : Int) 10 then (if (3 : Int) ≤ (σ 2 (zix (0 : Int))) ∧ (σ 2 (zix (0 : Int))) < (13 : Int) then bnd (zu σ13 2 (zix (9 : Int)) (σ 2 (zix (0 : Int)))) fun σ14 => bnd (zu σ14 0 3 ((σ14 0 3) - (1 : Int))) fun σ16 => (if zin (σ16 0 3) 10 then (if (3 : Int) ≤ (σ16 2 (zix (σ16 0 3))) ∧ (σ16 2 (zix (σ16 0 3))) < (13 : Int) then (if (3 : Int) ≤ (σ16 2 (zix (σ16 0 3))) ∧ (σ16 2 (zix (σ16 0 3))) < (13 : Int) then (x_X7_copy (zb [src, (Int.toNat (σ16 2 (zix (σ16 0 3))))] σ16)).bind fun σ17 => bnd (zj [src, (Int.toNat (σ16 2 (zix (σ16 0 3))))] σ16 σ17) fun σ18 => bnd (zu σ18 0 3 ((σ18 0 3) + (1 : Int))) fun σ19 => some σ19 else none) else none) else none) else none) else none) else none) else none))) := fun σ k Pf hk hk10 hp hinj => by
  show ∃ (σ' : Mm) (Pf' : Nat → Nat), (if zw (σ 0 3) ≠ zw (10 : Int) then _ else _) = some σ' ∧ _
  by_cases e : k = 10
  · subst e
    obtain ⟨q1, q2⟩ := hp 0 (by omega)
    obtain ⟨σ13, b1, b2, b3⟩ := keep_rot hf hp
    rw [hk, if_neg (by decide), if_pos (by decide), show zix (0 : Int) = 0 by decide, q1, if_pos (by omega), b1, Option.bind_some, if_pos (by decide), if_pos (by omega), show zix (9 : Int) = 9 by decide, bnd_eq]
    have e03 : zu σ13 2 9 ((3 + Pf 0 : Nat) : Int) 0 3 = 10 := by
      show σ13 0 3 = 10
      rw [b2 0 (by omega)]; exact hk
    rw [e03, bnd_eq]
    generalize hσ16 : zu (zu σ13 2 9 ((3 + Pf 0 : Nat) : Int)) 0 3 (10 - 1) = σ16
    have k9 : σ16 0 3 = ((9 : Nat) : Int) := by rw [← hσ16, zu_hit]; rfl
    have hp' : ∀ i, i < 10 → σ16 2 i = ((3 + (if i = 9 then Pf 0 else Pf (i + 1)) : Nat) : Int) ∧ (if i = 9 then Pf 0 else Pf (i + 1)) < 10 := fun i hi => by
      rw [← hσ16]
      show zu σ13 2 9 ((3 + Pf 0 : Nat) : Int) 2 i = _ ∧ _
      by_cases w : i = 9
      · rw [if_pos w, w, zu_hit]; exact ⟨rfl, q2⟩
      · rw [if_neg w, zu_miss _ _ _ _ (fun _ => w)]
        exact ⟨b3 i (by omega), (hp (i + 1) (by omega)).2⟩
    have hinj' : ∀ i j, i < 10 → j < 10 → (if i = 9 then Pf 0 else Pf (i + 1)) = (if j = 9 then Pf 0 else Pf (j + 1)) → i = j := fun i j hi hj z => by
      by_cases w : i = 9 <;> by_cases w2 : j = 9
      · omega
      · rw [if_pos w, if_neg w2] at z
        have := hinj _ _ (by omega) (by omega) z
        omega
      · rw [if_neg w, if_pos w2] at z
        have := hinj _ _ (by omega) (by omega) z
        omega
      · rw [if_neg w, if_neg w2] at z
        have := hinj _ _ (by omega) (by omega) z
        omega
    obtain ⟨σ', c1, c2, c3, c4, c5, c6, c7⟩ := keep_end hs k9 (by omega) hp' hinj'
    have old : ∀ c, c ≠ 0 → c ≠ 2 → σ16 c = σ c := fun c h1 h2 => by
      rw [← hσ16]
      unfold zu
      rw [if_neg h1, if_neg h2, b2 c h2]
    refine ⟨σ', fun i => if i = 9 then Pf 0 else Pf (i + 1), c1, c2, fun j hj => ?_, fun i hi => by rw [c4]; exact hp' i hi, hinj', fun i hi => ⟨?_, ?_⟩, fun j hj => ?_, fun c h1 h2 h3 => (c7 c h1 h2 h3).trans (old c h1 h2)⟩
    · rw [c3 j hj, ← hσ16, zu_miss _ _ _ _ (fun _ => hj)]
      show σ13 0 j = _
      rw [b2 0 (by omega)]
    · rw [if_pos rfl]
      show (if i = 9 then Pf 0 else Pf (i + 1)) = _
      rw [if_neg (by omega)]
    · show σ' (3 + (if i = 9 then Pf 0 else Pf (i + 1))) = σ (3 + (if i = 9 then Pf 0 else Pf (i + 1)))
      rw [c5 i (by omega) (by omega), old _ (by omega) (by omega)]
    · show σ' (3 + (if (min (10 + 1) 10 - 1) = 9 then Pf 0 else Pf ((min (10 + 1) 10 - 1) + 1))) j = _
      rw [show (min (10 + 1) 10 - 1) = 9 by decide, c6 j hj, old src (by omega) (by omega)]
  · have hmin : min (k + 1) 10 = k + 1 := by omega
    have hz : zw (σ 0 3) ≠ zw (10 : Int) := by rw [hk, zwn (by omega), zw_eq (x := (10 : Int)) (by omega) (by omega)]; omega
    rw [if_pos hz, hmin]
    obtain ⟨σ', c1, c2, c3, c4, c5, c6, c7⟩ := keep_end hs hk (by omega) hp hinj
    refine ⟨σ', Pf, c1, c2, c3, fun i hi => by rw [c4]; exact hp i hi, hinj, fun i hi => ⟨by rw [if_neg e], c5 i (by omega) (by omega)⟩, fun j hj => ?_, c7⟩
    rw [show k + 1 - 1 = k by omega]
    exact c6 j hj
theorem X7_keepPast_w : keepB 1 x_X7_keepPast_w := keep_all (f := x_X7_keepPast_w_b18) (.inl rfl) (fun σ u => by unfold x_X7_keepPast_w_b18; rfl)
theorem X7_keepPast_b : keepB 17 x_X7_keepPast_b := keep_all (f := x_X7_keepPast_b_b18) (.inr rfl) (fun σ u => by unfold x_X7_keepPast_b_b18; rfl)
