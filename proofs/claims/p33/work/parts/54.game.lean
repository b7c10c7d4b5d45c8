/-! The game on both sides: a match of the class (five cells) against a row of the model -/
theorem zc0 : zin (0 : Int) 171 := by decide
theorem zx0 : zix (0 : Int) = 0 := by decide
theorem zc1 : zin (1 : Int) 171 := by decide
theorem zx1 : zix (1 : Int) = 1 := by decide
theorem zc2 : zin (2 : Int) 171 := by decide
theorem zx2 : zix (2 : Int) = 2 := by decide
theorem zc3 : zin (3 : Int) 171 := by decide
theorem zx3 : zix (3 : Int) = 3 := by decide
theorem zc4 : zin (4 : Int) 171 := by decide
theorem zx4 : zix (4 : Int) = 4 := by decide
theorem zc5 : zin (5 : Int) 171 := by decide
theorem zx5 : zix (5 : Int) = 5 := by decide
theorem zc6 : zin (6 : Int) 171 := by decide
theorem zx6 : zix (6 : Int) = 6 := by decide
theorem zc7 : zin (7 : Int) 171 := by decide
theorem zx7 : zix (7 : Int) = 7 := by decide
theorem zc8 : zin (8 : Int) 171 := by decide
theorem zx8 : zix (8 : Int) = 8 := by decide
theorem zc9 : zin (9 : Int) 171 := by decide
theorem zx9 : zix (9 : Int) = 9 := by decide
theorem zc10 : zin (10 : Int) 171 := by decide
theorem zx10 : zix (10 : Int) = 10 := by decide
theorem zc11 : zin (11 : Int) 171 := by decide
theorem zx11 : zix (11 : Int) = 11 := by decide
theorem zc12 : zin (12 : Int) 171 := by decide
theorem zx12 : zix (12 : Int) = 12 := by decide
theorem zc13 : zin (13 : Int) 171 := by decide
theorem zx13 : zix (13 : Int) = 13 := by decide
theorem zc14 : zin (14 : Int) 171 := by decide
theorem zx14 : zix (14 : Int) = 14 := by decide
def DKr (r : Nat → Int) : Prop := (∀ i : Nat, i < 52 → ∃ c : Nat, c < 52 ∧ r (15 + i) = (c : Int)) ∧ (∀ i j : Nat, i < 52 → j < 52 → r (15 + i) = r (15 + j) → i = j) ∧ ∀ c : Nat, c < 52 → ∃ i : Nat, i < 52 ∧ r (15 + i) = (c : Int)
def PLr (r : Nat → Int) : Prop := (∀ j : Nat, (j : Int) < r 14 → ∃ c : Nat, c < 52 ∧ r (67 + j) = (c : Int)) ∧ ∀ i j : Nat, (i : Int) < r 14 → (j : Int) < r 14 → r (67 + i) = r (67 + j) → i = j
def WHr (r : Nat → Int) : Prop := ∀ c : Nat, c < 52 → (r (119 + c) = 0 ∨ r (119 + c) = 1 ∨ r (119 + c) = 2 ∨ r (119 + c) = 3) ∧ (r (119 + c) = 3 ↔ ∃ i : Nat, r 13 ≤ (i : Int) ∧ i < 52 ∧ r (15 + i) = (c : Int)) ∧ (r (119 + c) = 2 ↔ ∃ j : Nat, (j : Int) < r 14 ∧ r (67 + j) = (c : Int))
def CTr (r : Nat → Int) : Prop := ∀ p : Int, (p = 0 ∨ p = 1) → ((cnt (fun c => decide (r (119 + c) = p)) 52 : Nat) : Int) = r 0 + (if r 4 = p ∧ r 5 = 1 then 1 else 0)
def FPr (r : Nat → Int) : Prop := r 7 = -1 ∨ (r 5 = 1 ∧ ∃ c : Nat, c < 52 ∧ r 7 = (c : Int) ∧ r (119 + c) = r 4)
def NBr (N : Nat) (r : Nat → Int) : Prop := (7 ≤ r 0 ∧ r 0 ≤ 10) ∧ (0 ≤ r 1 ∧ r 1 ≤ 20) ∧ (20 ≤ r 2 ∧ r 2 ≤ 500) ∧ (0 ≤ r 3 ∧ r 3 ≤ (N : Int)) ∧ (r 4 = 0 ∨ r 4 = 1) ∧ (r 5 = 0 ∨ r 5 = 1) ∧ (r 6 = 0 ∨ r 6 = 1) ∧ (0 ≤ r 12 ∧ r 12 < 2147483648) ∧ (2 * r 0 + 1 ≤ r 13 ∧ r 13 ≤ 52) ∧ r 14 + 2 * r 0 + r 5 = r 13 ∧ (r 6 = 0 → r 5 = 0 → r 13 < 52)
def V (N : Nat) (r : Nat → Int) : Prop := NBr N r ∧ DKr r ∧ PLr r ∧ WHr r ∧ CTr r ∧ FPr r
def MR (μ : Mm) (r : Nat → Int) : Prop := (μ 0 0 = r 0 ∧ μ 0 1 = r 1 ∧ μ 0 2 = r 2 ∧ zL (μ 0 3) = zi2l (r 12) ∧ μ 0 4 = r 3 ∧ μ 0 5 = r 4 ∧ μ 0 6 = r 5 ∧ μ 0 7 = r 7 ∧ μ 0 8 = r 6 ∧ μ 0 9 = r 10 ∧ μ 0 10 = r 11 ∧ μ 0 14 = r 13 ∧ μ 0 16 = r 14) ∧ (μ 1 0 = r 8 ∧ μ 1 1 = r 9) ∧ (∀ j : Nat, j < 52 → μ 3 j = r (15 + j)) ∧ (∀ j : Nat, (j : Int) < r 14 → μ 4 j = r (67 + j)) ∧ ∀ p : Nat, p < 2 → cw (zL (μ 2 p)) ∧ ∀ c : Nat, c < 52 → bs (zL (μ 2 p)) c = decide (r (119 + c) = (p : Int))
theorem V_up {N M : Nat} {r : Nat → Int} (h : V N r) (hm : N ≤ M) : V M r := by
  obtain ⟨⟨a, b, c, ⟨d1, d2⟩, e⟩, f⟩ := h
  exact ⟨⟨a, b, c, ⟨d1, by omega⟩, e⟩, f⟩
theorem V_eq {N : Nat} {r r' : Nat → Int} (h : ∀ j, j < 171 → r' j = r j) (hV : V N r) : V N r' := by
  obtain ⟨h1, ⟨d1, d2, d3⟩, ⟨p1, p2⟩, w, ct, fp⟩ := hV
  have e : ∀ k, k < 15 → r' k = r k := fun k hk => h k (by omega)
  have ed : ∀ i, i < 52 → r' (15 + i) = r (15 + i) := fun i hi => h _ (by omega)
  have ew : ∀ i, i < 52 → r' (119 + i) = r (119 + i) := fun i hi => h _ (by omega)
  have e14 := e 14 (by omega)
  have h14 : r 14 ≤ 52 := by
    obtain ⟨a, b, c, d, e, f, g, k, l, m, n⟩ := h1
    omega
  have ep : ∀ i : Nat, (i : Int) < r 14 → r' (67 + i) = r (67 + i) := fun i hi => h _ (by omega)
  refine ⟨?_, ⟨fun i hi => ?_, fun i j hi hj hij => ?_, fun c hc => ?_⟩, ⟨fun j hj => ?_, fun i j hi hj hij => ?_⟩, fun c hc => ?_, fun p hp => ?_, ?_⟩
  · unfold NBr
    rw [e 0 (by omega), e 1 (by omega), e 2 (by omega), e 3 (by omega), e 4 (by omega), e 5 (by omega), e 6 (by omega), e 12 (by omega), e 13 (by omega), e14]
    exact h1
  · rw [ed i hi]; exact d1 i hi
  · rw [ed i hi, ed j hj] at hij; exact d2 i j hi hj hij
  · obtain ⟨i, i1, i2⟩ := d3 c hc
    exact ⟨i, i1, by rw [ed i i1]; exact i2⟩
  · rw [e14] at hj; rw [ep j hj]; exact p1 j hj
  · rw [e14] at hi hj; rw [ep i hi, ep j hj] at hij; exact p2 i j hi hj hij
  · obtain ⟨w1, w2, w3⟩ := w c hc
    rw [ew c hc]
    refine ⟨w1, w2.trans ?_, w3.trans ?_⟩
    · constructor
      · rintro ⟨i, i1, i2, i3⟩; exact ⟨i, by rw [e 13 (by omega)]; exact i1, i2, by rw [ed i i2]; exact i3⟩
      · rintro ⟨i, i1, i2, i3⟩; exact ⟨i, by rw [e 13 (by omega)] at i1; exact i1, i2, by rw [ed i i2] at i3; exact i3⟩
    · constructor
      · rintro ⟨i, i1, i2⟩; exact ⟨i, by rw [e14]; exact i1, by rw [ep i i1]; exact i2⟩
      · rintro ⟨i, i1, i2⟩; rw [e14] at i1; exact ⟨i, i1, by rw [ep i i1] at i2; exact i2⟩
  · rw [e 0 (by omega), e 4 (by omega), e 5 (by omega), ← ct p hp]
    congr 1
    exact cnt_congr (fun c hc => by rw [ew c hc])
  · unfold FPr
    rw [e 7 (by omega), e 5 (by omega), e 4 (by omega)]
    rcases fp with fp | ⟨f1, c, f2, f3, f4⟩
    · exact .inl fp
    · exact .inr ⟨f1, c, f2, f3, by rw [ew c f2]; exact f4⟩
theorem MR_eq {N : Nat} {μ : Mm} {r r' : Nat → Int} (h : ∀ j, j < 171 → r' j = r j) (hV : V N r) (hM : MR μ r) : MR μ r' := by
  obtain ⟨⟨m0, m1, m2, m3, m4, m5, m6, m7, m8, m9, m10, m11, m12⟩, ⟨s0, s1⟩, md, mp, mh⟩ := hM
  have h14 : r 14 ≤ 52 := by
    obtain ⟨⟨a, b, c, d, e, f, g, k, l, m, n⟩, -⟩ := hV
    omega
  have e : ∀ k, k < 15 → r' k = r k := fun k hk => h k (by omega)
  refine ⟨?_, ?_, fun j hj => ?_, fun j hj => ?_, fun p hp => ⟨(mh p hp).1, fun c hc => ?_⟩⟩
  · rw [e 0 (by omega), e 1 (by omega), e 2 (by omega), e 12 (by omega), e 3 (by omega), e 4 (by omega), e 5 (by omega), e 7 (by omega), e 6 (by omega), e 10 (by omega), e 11 (by omega), e 13 (by omega), e 14 (by omega)]
    exact ⟨m0, m1, m2, m3, m4, m5, m6, m7, m8, m9, m10, m11, m12⟩
  · rw [e 8 (by omega), e 9 (by omega)]; exact ⟨s0, s1⟩
  · rw [h _ (by omega)]; exact md j hj
  · rw [e 14 (by omega)] at hj
    rw [h _ (by omega)]; exact mp j hj
  · rw [h _ (by omega)]; exact (mh p hp).2 c hc
/-! what hinders a move -/
def ndR (r : Nat → Int) : Int := if r 6 = 1 then 2 else if r 5 = 1 then 3 else 0
def ntR (r : Nat → Int) (c : Int) : Int := if r 6 = 1 then 2 else if r 5 = 0 then 4 else if zw (r 7) = zw c then 5 else 0
def moR (r : Nat → Int) : Int := if r 6 = 1 ∧ (zw (r 2) ≤ zw (r 8) ∨ zw (r 2) ≤ zw (r 9)) then 1 else 0
def neR (r : Nat → Int) : Int := if r 6 = 0 then 7 else if moR r = 1 then 8 else 0
def cdR (r : Nat → Int) : Int := if r 6 = 0 ∧ r 5 = 1 then 1 else 0
theorem V_m {N : Nat} {r : Nat → Int} (h : V N r) : r 4 = 0 ∨ r 4 = 1 := h.1.2.2.2.2.1
theorem V_d {N : Nat} {r : Nat → Int} (h : V N r) : r 5 = 0 ∨ r 5 = 1 := h.1.2.2.2.2.2.1
theorem V_o {N : Nat} {r : Nat → Int} (h : V N r) : r 6 = 0 ∨ r 6 = 1 := h.1.2.2.2.2.2.2.1
theorem zx_c {n : Nat} (h : n < 171 := by omega) : zin (n : Int) 171 ∧ zix (n : Int) = n := ⟨zin_i (by omega) (by omega) (by omega), zix_nat (by omega)⟩
theorem X7_noDraw {N : Nat} {σ : Mm} (h : V N (σ 1)) : x_X7_noDraw σ = some (ndR (σ 1)) := by
  unfold x_X7_noDraw ndR
  simp only [if_pos zc6, zx6, if_pos zc5, zx5]
  rcases V_o h with e | e <;> rcases V_d h with d | d <;> rw [e, d] <;> rfl
theorem X2_noDraw {N : Nat} {μ : Mm} {r : Nat → Int} (h : V N r) (hM : MR μ r) : x_X2_reasonAgainstDraw μ = some (ndR r) := by
  obtain ⟨⟨m0, m1, m2, m3, m4, m5, m6, m7, m8, -⟩, -⟩ := hM
  unfold x_X2_reasonAgainstDraw ndR
  rw [m8, m6]
  rcases V_o h with e | e <;> rcases V_d h with d | d <;> rw [e, d] <;> rfl
theorem X7_noTurn {N : Nat} {σ : Mm} (h : V N (σ 1)) (c : Int) : x_X7_noTurn σ c = some (ntR (σ 1) c) := by
  unfold x_X7_noTurn ntR
  simp only [if_pos zc6, zx6, if_pos zc5, zx5, if_pos zc7, zx7]
  rcases V_o h with e | e <;> rcases V_d h with d | d <;> rw [e, d]
  · rfl
  · by_cases w : zw (σ 1 7) = zw c
    · rw [if_pos (by decide), if_pos (by decide), if_neg (fun z => z w), if_pos w]; rfl
    · rw [if_pos (by decide), if_pos (by decide), if_pos w, if_neg w]; rfl
  · rfl
  · rfl
theorem X2_noTurn {N : Nat} {μ : Mm} {r : Nat → Int} (h : V N r) (hM : MR μ r) (c : Int) : x_X2_reasonAgainstDrop μ c = some (ntR r c) := by
  obtain ⟨⟨m0, m1, m2, m3, m4, m5, m6, m7, m8, -⟩, -⟩ := hM
  unfold x_X2_reasonAgainstDrop ntR
  rw [m8, m6, m7]
  rcases V_o h with e | e <;> rcases V_d h with d | d <;> rw [e, d]
  · rfl
  · by_cases w : zw (r 7) = zw c
    · rw [if_pos (by decide), if_pos (by decide), if_neg (fun z => z w.symm), if_pos w]; rfl
    · rw [if_pos (by decide), if_pos (by decide), if_pos (fun z => w z.symm), if_neg w]; rfl
  · rfl
  · rfl
theorem X7_moR {N : Nat} {σ : Mm} (h : V N (σ 1)) : x_X7_isMatchOver σ = some (moR (σ 1)) := by
  unfold x_X7_isMatchOver moR
  simp only [if_pos zc6, zx6, if_pos zc8, zx8, if_pos zc2, zx2, if_pos zc9, zx9]
  rcases V_o h with e | e <;> rw [e]
  · rfl
  · rw [if_neg (by decide)]
    by_cases w : zw (σ 1 2) ≤ zw (σ 1 8)
    · rw [if_pos w, if_pos ⟨rfl, .inl w⟩]
    · rw [if_neg w]
      by_cases w2 : zw (σ 1 2) ≤ zw (σ 1 9)
      · rw [if_neg (by omega), if_pos ⟨rfl, .inr w2⟩]
      · rw [if_pos (by omega), if_neg]
        rintro ⟨-, z | z⟩
        · exact w z
        · exact w2 z
theorem X2_moR {N : Nat} {μ : Mm} {r : Nat → Int} (h : V N r) (hM : MR μ r) : x_X2_isMatchOver μ = some (moR r) := by
  obtain ⟨⟨m0, m1, m2, m3, m4, m5, m6, m7, m8, -⟩, ⟨s0, s1⟩, -⟩ := hM
  unfold x_X2_isMatchOver moR
  simp only [if_pos (show zin (0 : Int) 2 by decide), zx0, if_pos (show zin (1 : Int) 2 by decide), zx1, m8, m2, s0, s1]
  rcases V_o h with e | e <;> rw [e]
  · rfl
  · rw [if_neg (by decide)]
    by_cases w : zw (r 2) ≤ zw (r 8)
    · rw [if_pos w, if_pos ⟨rfl, .inl w⟩]
    · rw [if_neg w]
      by_cases w2 : zw (r 2) ≤ zw (r 9)
      · rw [if_neg (by omega), if_pos ⟨rfl, .inr w2⟩]
      · rw [if_pos (by omega), if_neg]
        rintro ⟨-, z | z⟩
        · exact w z
        · exact w2 z
theorem moR_01 (r : Nat → Int) : moR r = 0 ∨ moR r = 1 := by
  unfold moR
  split
  · exact .inr rfl
  · exact .inl rfl
theorem X7_noDeal {N : Nat} {σ : Mm} (h : V N (σ 1)) : x_X7_noDeal σ = some (neR (σ 1)) := by
  unfold x_X7_noDeal neR
  rw [if_pos zc6, zx6, X7_moR h, Option.bind_some]
  rcases V_o h with e | e <;> rcases moR_01 (σ 1) with d | d <;> rw [e, d] <;> rfl
theorem X2_noDeal {N : Nat} {μ : Mm} {r : Nat → Int} (h : V N r) (hM : MR μ r) : x_X2_reasonAgainstDeal μ = some (neR r) := by
  have hm := X2_moR h hM
  obtain ⟨⟨m0, m1, m2, m3, m4, m5, m6, m7, m8, -⟩, -⟩ := hM
  unfold x_X2_reasonAgainstDeal neR
  rw [hm, Option.bind_some, m8]
  rcases V_o h with e | e <;> rcases moR_01 r with d | d <;> rw [e, d] <;> rfl
theorem X7_canDrop {N : Nat} {σ : Mm} (h : V N (σ 1)) : x_X7_canDrop σ = some (cdR (σ 1)) := by
  unfold x_X7_canDrop cdR
  simp only [if_pos zc6, zx6, if_pos zc5, zx5]
  rcases V_o h with e | e <;> rcases V_d h with d | d <;> rw [e, d] <;> rfl
theorem X2_canDrop {N : Nat} {μ : Mm} {r : Nat → Int} (h : V N r) (hM : MR μ r) : x_X2_isDropDue μ = some (cdR r) := by
  obtain ⟨⟨m0, m1, m2, m3, m4, m5, m6, m7, m8, -⟩, -⟩ := hM
  unfold x_X2_isDropDue cdR
  rw [m8, m6]
  rcases V_o h with e | e <;> rcases V_d h with d | d <;> rw [e, d] <;> rfl
/-! hands -/
theorem hnd_of {N : Nat} {μ : Mm} {r : Nat → Int} (h : V N r) (hM : MR μ r) {p : Nat} (hp : p < 2) : cw (zL (μ 2 p)) ∧ (∀ c, c < 52 → bs (zL (μ 2 p)) c = decide (zw (r (119 + c)) = zw (p : Int))) ∧ ((cnt (bs (zL (μ 2 p))) 64 : Nat) : Int) = r 0 + (if r 4 = (p : Int) ∧ r 5 = 1 then 1 else 0) ∧ cnt (bs (zL (μ 2 p))) 64 ≤ 11 := by
  obtain ⟨-, -, -, -, mh⟩ := hM
  obtain ⟨h1, h2⟩ := mh p hp
  obtain ⟨hn, -, -, hw, hct, -⟩ := h
  have hc := hct (p : Int) (by omega)
  have e : cnt (bs (zL (μ 2 p))) 64 = cnt (fun c => decide (r (119 + c) = (p : Int))) 52 := by
    rw [cnt52 h1]
    exact cnt_congr h2
  rw [← e] at hc
  refine ⟨h1, fun c hc => ?_, hc, ?_⟩
  · rw [h2 c hc]
    obtain ⟨w, -⟩ := hw c hc
    have : zw (r (119 + c)) = r (119 + c) := by rcases w with w | w | w | w <;> rw [w] <;> decide
    rw [this, zwn (by omega)]
  · have hb := hn.1
    have : (if r 4 = (p : Int) ∧ r 5 = 1 then (1 : Int) else 0) ≤ 1 := by split <;> omega
    omega
theorem hnd_dj {N : Nat} {μ : Mm} {r : Nat → Int} (hM : MR μ r) {p q : Nat} (hp : p < 2) (hq : q < 2) (hpq : p ≠ q) : zL (μ 2 p) &&& zL (μ 2 q) = 0 := (dj_iff _ _).mpr (fun c hc => by
  obtain ⟨-, -, -, -, mh⟩ := hM
  have h52 := cw_lt (mh p hp).1 hc
  rw [(mh p hp).2 c h52, decide_eq_true_eq] at hc
  rw [(mh q hq).2 c h52, decide_eq_false_iff_not, hc]
  omega)
theorem zand_p {p : Nat} (hp : p < 2) : zand (p : Int) 1 = (p : Int) := by
  have : p = 0 ∨ p = 1 := by omega
  rcases this with e | e <;> subst e <;> decide
theorem X2_handOf (μ : Mm) {p : Nat} (hp : p < 2) : x_X2_handOf μ (p : Int) = some (zL (μ 2 p)) := by
  unfold x_X2_handOf
  rw [zand_p hp, if_pos (zin_i (by omega) (by omega) (by omega)), zix_nat (by omega)]
/-- the one to move -/
theorem V_mv {N : Nat} {r : Nat → Int} (h : V N r) : ∃ m : Nat, m < 2 ∧ r 4 = (m : Int) ∧ 1 - r 4 = ((1 - m : Nat) : Int) := by
  rcases V_m h with e | e
  · exact ⟨0, by omega, e, by rw [e]; rfl⟩
  · exact ⟨1, by omega, e, by rw [e]; rfl⟩
theorem X2_handWithout {μ : Mm} {m c : Nat} (hm : m < 2) (e : μ 0 5 = (m : Int)) (hc : c < 52) : x_X2_handWithout μ (c : Int) = some (dif (zL (μ 2 m)) (one c)) := by
  unfold x_X2_handWithout
  rw [e, X2_handOf μ hm, Option.bind_some, X6_bitOf hc]
  rfl
theorem X2_otherHand {μ : Mm} {m : Nat} (hm : m < 2) (e : μ 0 5 = (m : Int)) : x_X2_otherHand μ = some (zL (μ 2 (1 - m))) := by
  unfold x_X2_otherHand
  rw [e, show (1 : Int) - (m : Int) = ((1 - m : Nat) : Int) by omega, X2_handOf μ (by omega)]
  rfl
theorem X2_stock (μ : Mm) : x_X2_stockCount μ = some (52 - μ 0 14) := rfl
theorem X7_stock (σ : Mm) : x_X7_stocked σ = some (52 - σ 1 13) := by
  unfold x_X7_stocked
  rw [if_pos (by decide)]; rfl
theorem V_pile {N : Nat} {r : Nat → Int} (h : V N r) : ∃ t p : Nat, r 13 = (t : Int) ∧ t ≤ 52 ∧ r 14 = (p : Int) ∧ p ≤ 38 ∧ (r 5 = 0 → 1 ≤ p) := by
  obtain ⟨⟨a, b, c, d, e, f, g, k, l, m, n⟩, -⟩ := h
  exact ⟨(r 13).toNat, (r 14).toNat, by omega, by omega, by omega, by omega, fun z => by omega⟩
theorem X2_top {N : Nat} {μ : Mm} {r : Nat → Int} (h : V N r) (hM : MR μ r) : (r 14 = 0 ∧ x_X2_topOfPile μ = some (-1)) ∨ ∃ p c : Nat, r 14 = ((p + 1 : Nat) : Int) ∧ p < 38 ∧ c < 52 ∧ r (67 + p) = (c : Int) ∧ x_X2_topOfPile μ = some (c : Int) := by
  obtain ⟨t, p, h1, h2, h3, h4, h5⟩ := V_pile h
  obtain ⟨-, -, ⟨q1, q2⟩, -⟩ := h
  obtain ⟨⟨m0, m1, m2, m3, m4, m5, m6, m7, m8, m9, m10, m11, m12⟩, -, -, mp, -⟩ := hM
  unfold x_X2_topOfPile
  rw [m12, h3]
  by_cases e : p = 0
  · subst e
    exact .inl ⟨rfl, by rw [if_pos (by decide)]⟩
  · right
    obtain ⟨c, c1, c2⟩ := q1 (p - 1) (by omega)
    refine ⟨p - 1, c, by omega, by omega, c1, c2, ?_⟩
    rw [show (p : Int) - 1 = ((p - 1 : Nat) : Int) by omega, zwn (n := p) (by omega), if_neg (by omega), zw_eq (x := (52 : Int)) (by omega) (by omega), if_neg (by omega), if_pos (zin_i (by omega) (by omega) (by omega)), zix_nat (by omega), mp (p - 1) (by omega), c2]
theorem X7_top {N : Nat} {σ : Mm} (h : V N (σ 1)) : (σ 1 14 = 0 ∧ x_X7_topOfPile σ = some (-1)) ∨ ∃ p c : Nat, σ 1 14 = ((p + 1 : Nat) : Int) ∧ p < 38 ∧ c < 52 ∧ σ 1 (67 + p) = (c : Int) ∧ x_X7_topOfPile σ = some (c : Int) := by
  obtain ⟨t, p, h1, h2, h3, h4, h5⟩ := V_pile h
  obtain ⟨-, -, ⟨q1, q2⟩, -⟩ := h
  unfold x_X7_topOfPile
  simp only [if_pos zc14, zx14, h3]
  by_cases e : p = 0
  · subst e
    exact .inl ⟨rfl, by rw [if_neg (by decide)]⟩
  · right
    obtain ⟨c, c1, c2⟩ := q1 (p - 1) (by omega)
    refine ⟨p - 1, c, by omega, by omega, c1, c2, ?_⟩
    rw [show (67 : Int) + (p : Int) - 1 = ((67 + (p - 1) : Nat) : Int) by omega, zwn (n := p) (by omega), if_pos (by omega), if_pos (zin_i (by omega) (by omega) (by omega)), zix_nat (by omega), c2]
theorem cnt_ins {S S' : Nat → Bool} {c n : Nat} (hc : c < n) (h1 : S' c = true) (h2 : S c = false) (h3 : ∀ d, d < n → d ≠ c → S' d = S d) : cnt S' n = cnt S n + 1 := by
  rw [cnt_psum, cnt_psum, psum_one h1 hc]
  rw [psum_congr (T := S) (fun d hd => by
    by_cases e : d = c
    · rw [e, h2]; simp
    · rw [h3 d hd e]; simp [e])]
  omega
