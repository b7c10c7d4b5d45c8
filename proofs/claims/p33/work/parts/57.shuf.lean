/-! shuffling on both sides -/
theorem bm64 {x : Int} (h : -9223372036854775808 ≤ x) (h2 : x < 9223372036854775808) : x.bmod (2 ^ 64) = x := Int.bmod_eq_of_le (by omega) (by omega)
theorem t64_div {x y : Int64} {a b : Nat} (hx : x.toInt = (a : Int)) (hy : y.toInt = (b : Int)) (ha : a < 9223372036854775808) : (x / y).toInt = ((a / b : Nat) : Int) := by
  rw [Int64.toInt_div, hx, hy]
  rw [show Int.tdiv (a : Int) (b : Int) = ((a / b : Nat) : Int) from rfl]
  have h3 : a / b ≤ a := Nat.div_le_self a b
  generalize a / b = q at *
  exact bm64 (by omega) (by omega)
theorem t64_mul {x y : Int64} {a b : Nat} (hx : x.toInt = (a : Int)) (hy : y.toInt = (b : Int)) (h : a * b < 9223372036854775808) : (x * y).toInt = ((a * b : Nat) : Int) := by
  rw [Int64.toInt_mul, hx, hy, ← Int.natCast_mul]
  generalize a * b = q at *
  exact bm64 (by omega) (by omega)
theorem t64_add {x y : Int64} {a b : Nat} (hx : x.toInt = (a : Int)) (hy : y.toInt = (b : Int)) (h : a + b < 9223372036854775808) : (x + y).toInt = ((a + b : Nat) : Int) := by
  rw [Int64.toInt_add, hx, hy, ← Int.natCast_add]
  exact bm64 (by omega) (by omega)
theorem t64_rem {x y : Int64} {a b : Nat} (hx : x.toInt = (a : Int)) (hy : y.toInt = (b : Int)) (ha : a < 9223372036854775808) : (zlrem x y).toInt = ((a % b : Nat) : Int) := by
  unfold zlrem
  have h2 : a / b * b ≤ a := Nat.div_mul_le_self a b
  have h3 : a % b = a - a / b * b := by
    have := Nat.div_add_mod a b
    have : a / b * b = b * (a / b) := Nat.mul_comm _ _
    omega
  have hm := t64_mul (t64_div hx hy ha) hy (by omega)
  rw [Int64.toInt_sub, hx, hm, h3]
  generalize a / b * b = q at *
  rw [show (a : Int) - (q : Int) = ((a - q : Nat) : Int) by omega]
  exact bm64 (by omega) (by omega)
theorem zi2l_t {a : Nat} (h : a < 2147483648) : (zi2l (a : Int)).toInt = (a : Int) := by
  unfold zi2l
  rw [Int32.toInt_toInt64]
  exact zJ_toInt_eq (by omega) (by omega)
theorem zl2i_t {x : Int64} {a : Nat} (hx : x.toInt = (a : Int)) (h : a < 2147483648) : zl2i x = (a : Int) := by
  unfold zl2i
  rw [Int64.toInt_toInt32, hx]
  exact Int.bmod_eq_of_le (by omega) (by omega)
def nxt (n : Nat) : Nat := (n * 1103515245 + 12345) % 2147483648
theorem nxt_lt (n : Nat) : nxt n < 2147483648 := Nat.mod_lt _ (by decide)
theorem nxt_t {n : Nat} (h : n < 2147483648) : (zlrem (((zi2l (n : Int)) * (1103515245 : Int64)) + (12345 : Int64)) (2147483648 : Int64)).toInt = ((nxt n : Nat) : Int) := by
  have h1 := t64_mul (zi2l_t h) (show (1103515245 : Int64).toInt = ((1103515245 : Nat) : Int) by decide) (by omega)
  have h2 := t64_add h1 (show (12345 : Int64).toInt = ((12345 : Nat) : Int) by decide) (by omega)
  exact t64_rem h2 (show (2147483648 : Int64).toInt = ((2147483648 : Nat) : Int) by decide) (by omega)
def swD (D : Nat → Nat) (a b : Nat) : Nat → Nat := fun i => if i = b then D a else if i = a then D b else D i
def shuf : Nat → Nat → (Nat → Nat) → Nat × (Nat → Nat)
  | 0, n, D => (n, D)
  | k + 1, n, D => shuf k (nxt n) (swD D (k + 1) (nxt n / 65536 % (k + 2)))
def PM (D : Nat → Nat) : Prop := (∀ i, i < 52 → D i < 52) ∧ (∀ i j, i < 52 → j < 52 → D i = D j → i = j) ∧ ∀ c, c < 52 → ∃ i, i < 52 ∧ D i = c
theorem PM_id : PM (fun i => i) := ⟨fun _ h => h, fun _ _ _ _ h => h, fun c h => ⟨c, h, rfl⟩⟩
def trN (a b i : Nat) : Nat := if i = b then a else if i = a then b else i
theorem swD_tr (D : Nat → Nat) (a b i : Nat) : swD D a b i = D (trN a b i) := by
  unfold swD trN
  by_cases c1 : i = b
  · rw [if_pos c1, if_pos c1]
  · rw [if_neg c1, if_neg c1]
    by_cases c2 : i = a
    · rw [if_pos c2, if_pos c2]
    · rw [if_neg c2, if_neg c2]
theorem tr_lt {a b i : Nat} (ha : a < 52) (hb : b < 52) (hi : i < 52) : trN a b i < 52 := by
  unfold trN
  split
  · exact ha
  · split
    · exact hb
    · exact hi
theorem tr_tr (a b i : Nat) : trN a b (trN a b i) = i := by
  unfold trN
  by_cases c1 : i = b
  · rw [if_pos c1]
    by_cases c3 : a = b
    · rw [if_pos c3]; omega
    · rw [if_neg c3, if_pos rfl]; omega
  · rw [if_neg c1]
    by_cases c2 : i = a
    · rw [if_pos c2, if_pos rfl]; omega
    · rw [if_neg c2, if_neg c1, if_neg c2]
theorem PM_sw {D : Nat → Nat} (h : PM D) {a b : Nat} (ha : a < 52) (hb : b < 52) : PM (swD D a b) := by
  obtain ⟨h1, h2, h3⟩ := h
  refine ⟨fun i hi => ?_, fun i j hi hj e => ?_, fun c hc => ?_⟩
  · rw [swD_tr]; exact h1 _ (tr_lt ha hb hi)
  · rw [swD_tr, swD_tr] at e
    have := congrArg (trN a b) (h2 _ _ (tr_lt ha hb hi) (tr_lt ha hb hj) e)
    rw [tr_tr, tr_tr] at this
    exact this
  · obtain ⟨i, i1, i2⟩ := h3 c hc
    exact ⟨trN a b i, tr_lt ha hb i1, by rw [swD_tr, tr_tr]; exact i2⟩
theorem shuf_PM : ∀ {k n : Nat} {D : Nat → Nat}, k ≤ 51 → PM D → n < 2147483648 → PM (shuf k n D).2 ∧ (shuf k n D).1 < 2147483648
  | 0, n, D, _, h, hn => ⟨h, hn⟩
  | k + 1, n, D, hk, h, hn => by
    have hm := Nat.mod_lt (nxt n / 65536) (show 0 < k + 2 by omega)
    exact shuf_PM (k := k) (by omega) (PM_sw h (by omega) (by omega)) (nxt_lt n)
theorem oth_lt (n k : Nat) : nxt n / 65536 % (k + 2) < k + 2 := Nat.mod_lt _ (by omega)
theorem sh_q {X : Int64} {m k : Nat} (hX : X.toInt = (m : Int)) (hm : m < 2147483648) (hk : k + 2 < 2147483648) : zl2i (zlrem (X / (65536 : Int64)) (zi2l ((k + 2 : Nat) : Int))) = ((m / 65536 % (k + 2) : Nat) : Int) := by
  have a1 := t64_div hX (show (65536 : Int64).toInt = ((65536 : Nat) : Int) by decide) (by omega)
  have ho := Nat.mod_lt (m / 65536) (show 0 < k + 2 by omega)
  have hd : m / 65536 ≤ m := Nat.div_le_self _ _
  exact zl2i_t (t64_rem a1 (zi2l_t hk) (by omega)) (by omega)
theorem sh_nz {k : Nat} (hk : k + 2 < 2147483648) : ¬ zi2l ((k + 2 : Nat) : Int) = 0 := fun z => by
  have := congrArg Int64.toInt z
  rw [zi2l_t hk, Int64.toInt_zero] at this
  omega
theorem X2_shLoop (k : Nat) : ∀ (σ : Mm) (n : Nat) (D : Nat → Nat), k ≤ 51 → n < 2147483648 → zL (σ 0 3) = zi2l (n : Int) → (∀ j, j < 52 → σ 3 j = (D j : Int)) → ∃ σ', lup (fun (s23 : Mm × Int) => x_X2_shuffle_b24 s23.1 s23.2) (σ, (k : Int)) = some σ' ∧ zL (σ' 0 3) = zi2l ((shuf k n D).1 : Int) ∧ (∀ j, j < 52 → σ' 3 j = ((shuf k n D).2 j : Int)) ∧ (∀ c, c ≠ 3 → c ≠ 0 → σ' c = σ c) ∧ ∀ j, j ≠ 3 → σ' 0 j = σ 0 j := by
  induction k with
  | zero =>
    intro σ n D hk hn h1 h2
    refine ⟨σ, lup_inr ?_, h1, h2, fun _ _ _ => rfl, fun _ _ => rfl⟩
    show x_X2_shuffle_b24 σ 0 = _
    unfold x_X2_shuffle_b24
    rw [if_pos (by decide)]
  | succ k ih =>
    intro σ n D hk hn h1 h2
    have hX := nxt_t hn
    have hnx := nxt_lt n
    have ho := oth_lt n k
    generalize hXd : zlrem (((zi2l (n : Int)) * (1103515245 : Int64)) + (12345 : Int64)) (2147483648 : Int64) = X at hX
    have hXz : X = zi2l ((nxt n : Nat) : Int) := Int64.toInt_inj.mp (by rw [hX, zi2l_t hnx])
    have hq := sh_q hX hnx (show k + 2 < 2147483648 by omega)
    have hnz := sh_nz (k := k) (by omega)
    have q3 : ((k + 1 : Nat) : Int) + 1 = ((k + 2 : Nat) : Int) := by omega
    generalize hot : nxt n / 65536 % (k + 2) = o at ho hq
    generalize hσ8 : zu σ 0 3 (Int64.toInt X) = σ8
    have h83 : σ8 3 = σ 3 := by rw [← hσ8]; rfl
    have h80 : zL (σ8 0 3) = X := by rw [← hσ8, zu_hit, zL_toInt]
    generalize hσ9 : zu (zu σ8 3 (k + 1) ((D o : Nat) : Int)) 3 o ((D (k + 1) : Nat) : Int) = σ9
    have h9 : ∀ j, j < 52 → σ9 3 j = (swD D (k + 1) o j : Int) := fun j hj => by
      rw [← hσ9, zu_at, zu_at]
      unfold swD
      by_cases c1 : j = o
      · rw [if_pos ⟨rfl, c1⟩, if_pos c1]
      · rw [if_neg (fun z => c1 z.2), if_neg c1]
        by_cases c2 : j = k + 1
        · rw [if_pos ⟨rfl, c2⟩, if_pos c2]
        · rw [if_neg (fun z => c2 z.2), if_neg c2, h83, h2 j hj]
    have hstep : x_X2_shuffle_b24 σ ((k + 1 : Nat) : Int) = some (.inl (σ9, (k : Int))) := by
      unfold x_X2_shuffle_b24
      rw [h1, hXd, if_neg (by rw [zwn (by omega)]; omega), bnd_eq, hσ8, q3, if_neg hnz, h80, hq, bnd_eq, if_neg (nlt0 (by omega)), if_neg (nle_l (by omega) (by omega)), if_pos (zin_i (by omega) (by omega) (by omega)), bnd_eq, if_pos (zin_i (by omega) (by omega) (by omega)), if_pos (zin_i (by omega) (by omega) (by omega)), bnd_eq, if_pos (zin_i (by omega) (by omega) (by omega)), bnd_eq, bnd_eq, zix_nat (n := k + 1) (by omega), zix_nat (n := o) (by omega), h83, h2 _ (show k + 1 < 52 by omega), h2 _ (show o < 52 by omega), hσ9, show ((k + 1 : Nat) : Int) + (-1) = (k : Int) by omega]
    have e03 : zL (σ9 0 3) = zi2l ((nxt n : Nat) : Int) := by
      rw [← hσ9, zu_miss _ _ _ _ (fun z => absurd z (by decide)), zu_miss _ _ _ _ (fun z => absurd z (by decide)), h80]
      exact hXz
    obtain ⟨σ', b1, b2, b3, b4, b5⟩ := ih σ9 (nxt n) (swD D (k + 1) o) (by omega) hnx e03 h9
    rw [lup_inl (f := fun (s23 : Mm × Int) => x_X2_shuffle_b24 s23.1 s23.2) (s := (σ, ((k + 1 : Nat) : Int))) hstep]
    unfold shuf
    rw [hot]
    refine ⟨σ', b1, b2, b3, fun c c1 c2 => (b4 c c1 c2).trans ?_, fun j hj => (b5 j hj).trans ?_⟩
    · rw [← hσ9, ← hσ8]
      unfold zu
      rw [if_neg c1, if_neg c1, if_neg c2]
    · rw [← hσ9, ← hσ8, zu_miss _ _ _ _ (fun z => by omega), zu_miss _ _ _ _ (fun z => by omega), zu_miss _ _ _ _ (fun _ => hj)]
theorem X2_shuffle (σ : Mm) {n : Nat} (hn : n < 2147483648) (h1 : zL (σ 0 3) = zi2l (n : Int)) : ∃ σ', x_X2_shuffle σ = some σ' ∧ zL (σ' 0 3) = zi2l ((shuf 51 n (fun i => i)).1 : Int) ∧ (∀ j, j < 52 → σ' 3 j = ((shuf 51 n (fun i => i)).2 j : Int)) ∧ (∀ c, c ≠ 3 → c ≠ 0 → σ' c = σ c) ∧ ∀ j, j ≠ 3 → σ' 0 j = σ 0 j := by
  obtain ⟨σ1, a1, a2, a3⟩ := lup_for (f := fun (s5 : Mm × Int) => x_X2_shuffle_b2 s5.1 s5.2) (fun i s => s.2 = (i : Int) ∧ (∀ c, c ≠ 3 → s.1 c = σ c) ∧ ∀ j, j < i → s.1 3 j = (j : Int)) (fun e => (∀ c, c ≠ 3 → e c = σ c) ∧ ∀ j, j < 52 → e 3 j = (j : Int)) 52 (fun i s hi hs => by
    obtain ⟨τ, u⟩ := s
    obtain ⟨e1, e2, e3⟩ := hs
    simp only at e1 e2 e3
    subst e1
    refine ⟨(zu τ 3 i (i : Int), (i : Int) + 1), ?_, by show (i : Int) + 1 = _; omega, fun c hc => ?_, fun j hj => ?_⟩
    · show x_X2_shuffle_b2 τ (i : Int) = _
      unfold x_X2_shuffle_b2
      rw [if_neg (nle_l (by omega) (by omega)), if_pos (zin_i (by omega) (by omega) (by omega)), zix_nat (n := i) (by omega), bnd_eq, bnd_eq]
    · show zu τ 3 i _ c = _
      unfold zu
      rw [if_neg hc]; exact e2 c hc
    · show zu τ 3 i _ 3 j = _
      by_cases w : j = i
      · rw [w, zu_hit]
      · rw [zu_miss _ _ _ _ (fun _ => w)]; exact e3 j (by omega)) (fun s hs => by
    obtain ⟨τ, u⟩ := s
    obtain ⟨e1, e2, e3⟩ := hs
    simp only at e1 e2 e3
    subst e1
    refine ⟨τ, ?_, e2, e3⟩
    show x_X2_shuffle_b2 τ _ = _
    unfold x_X2_shuffle_b2
    rw [if_pos (by show zw 52 ≤ zw ((52 : Nat) : Int); decide)]) (s := (σ, 0)) ⟨rfl, fun _ _ => rfl, fun j hj => by omega⟩
  obtain ⟨σ2, b1, b2, b3, b4, b5⟩ := X2_shLoop 51 σ1 n (fun i => i) (by omega) hn (by rw [a2 0 (by omega)]; exact h1) a3
  unfold x_X2_shuffle
  rw [a1, Option.bind_some]
  have b1 : lup (fun (s23 : Mm × Int) => x_X2_shuffle_b24 s23.1 s23.2) (σ1, (51 : Int)) = some σ2 := b1
  rw [b1, Option.bind_some]
  exact ⟨σ2, rfl, b2, b3, fun c c1 c2 => (b4 c c1 c2).trans (a2 c c1), fun j hj => (b5 j hj).trans (by rw [a2 0 (by omega)])⟩
theorem X7_shLoop : ∀ (k : Nat) (σ : Mm) (n : Nat) (D : Nat → Nat), k ≤ 51 → n < 2147483648 → σ 1 12 = (n : Int) → (∀ j, j < 52 → σ 1 (15 + j) = (D j : Int)) → ∃ σ', lup (fun (s22 : Mm × Int) => x_X7_shuffle_b27 s22.1 s22.2) (σ, (k : Int)) = some σ' ∧ σ' 1 12 = ((shuf k n D).1 : Int) ∧ (∀ j, j < 52 → σ' 1 (15 + j) = ((shuf k n D).2 j : Int)) ∧ RW σ σ' ∧ ∀ j, j ≠ 12 → (j < 15 ∨ 67 ≤ j) → σ' 1 j = σ 1 j
  | 0, σ, n, D, hk, hn, h1, h2 => by
    refine ⟨σ, lup_inr ?_, h1, h2, RW_r σ, fun _ _ _ => rfl⟩
    show x_X7_shuffle_b27 σ 0 = _
    unfold x_X7_shuffle_b27
    rw [if_pos (by decide)]
  | k + 1, σ, n, D, hk, hn, h1, h2 => by
    have hX := nxt_t hn
    have hnx := nxt_lt n
    have ho := oth_lt n k
    generalize hXd : zlrem (((zi2l (n : Int)) * (1103515245 : Int64)) + (12345 : Int64)) (2147483648 : Int64) = X at hX
    have hXi := zl2i_t hX hnx
    have hq : zrem (zdiv ((nxt n : Nat) : Int) (65536 : Int)) (((k + 1 : Nat) : Int) + 1) = ((nxt n / 65536 % (k + 2) : Nat) : Int) := by
      have a1 := zdiv_nat (a := nxt n) (b := 65536) hnx (by omega) (by omega)
      have a1 : zdiv ((nxt n : Nat) : Int) (65536 : Int) = ((nxt n / 65536 : Nat) : Int) := a1
      have hd : nxt n / 65536 ≤ nxt n := Nat.div_le_self _ _
      rw [a1, show ((k + 1 : Nat) : Int) + 1 = ((k + 2 : Nat) : Int) by omega]
      exact zrem_nat (by omega) (by omega) (by omega)
    generalize hot : nxt n / 65536 % (k + 2) = o at ho hq
    generalize hσ9 : zu σ 1 12 ((nxt n : Nat) : Int) = σ9
    have e12 : σ9 1 12 = ((nxt n : Nat) : Int) := by rw [← hσ9, zu_hit]
    have e15 : ∀ j, j < 52 → σ9 1 (15 + j) = (D j : Int) := fun j hj => by
      rw [← hσ9, zu_miss _ _ _ _ (fun _ => by omega)]; exact h2 j hj
    generalize hσ18 : zu (zu σ9 1 (15 + (k + 1)) ((D o : Nat) : Int)) 1 (15 + o) ((D (k + 1) : Nat) : Int) = σ18
    have h9 : ∀ j, j < 52 → σ18 1 (15 + j) = (swD D (k + 1) o j : Int) := fun j hj => by
      rw [← hσ18, zu_at, zu_at]
      unfold swD
      by_cases c1 : j = o
      · rw [if_pos ⟨rfl, by omega⟩, if_pos c1]
      · rw [if_neg (fun z => by omega), if_neg c1]
        by_cases c2 : j = k + 1
        · rw [if_pos ⟨rfl, by omega⟩, if_pos c2]
        · rw [if_neg (fun z => by omega), if_neg c2, e15 j hj]
    have q1 : (15 : Int) + ((k + 1 : Nat) : Int) = ((15 + (k + 1) : Nat) : Int) := by omega
    have q2 : (15 : Int) + (o : Int) = ((15 + o : Nat) : Int) := by omega
    have hstep : x_X7_shuffle_b27 σ ((k + 1 : Nat) : Int) = some (.inl (σ18, (k : Int))) := by
      unfold x_X7_shuffle_b27
      rw [if_neg (by rw [zwn (by omega)]; omega), if_pos (by decide), if_pos (by decide), show zix (12 : Int) = 12 by decide, h1, hXd, hXi, bnd_eq, hσ9, if_pos (by decide), if_neg (by rw [show ((k + 1 : Nat) : Int) + 1 = ((k + 2 : Nat) : Int) by omega, zwn (by omega)]; omega), e12, hq, bnd_eq, q1, q2, if_pos (zin_i (by omega) (by omega) (by omega)), bnd_eq, if_pos (zin_i (by omega) (by omega) (by omega)), if_pos (zin_i (by omega) (by omega) (by omega)), bnd_eq, if_pos (zin_i (by omega) (by omega) (by omega)), bnd_eq, bnd_eq, zix_nat (n := 15 + (k + 1)) (by omega), zix_nat (n := 15 + o) (by omega), e15 _ (show k + 1 < 52 by omega), e15 _ (show o < 52 by omega), hσ18, show ((k + 1 : Nat) : Int) + (-1) = (k : Int) by omega]
    obtain ⟨σ', b1, b2, b3, b4, b5⟩ := X7_shLoop k σ18 (nxt n) (swD D (k + 1) o) (by omega) hnx (by rw [← hσ18, zu_miss _ _ _ _ (fun _ => by omega), zu_miss _ _ _ _ (fun _ => by omega)]; exact e12) h9
    rw [lup_inl (f := fun (s22 : Mm × Int) => x_X7_shuffle_b27 s22.1 s22.2) (s := (σ, ((k + 1 : Nat) : Int))) hstep]
    unfold shuf
    rw [hot]
    refine ⟨σ', b1, b2, b3, RW_t (by rw [← hσ18, ← hσ9]; exact RW_t (RW_u _ _ _) (RW_t (RW_u _ _ _) (RW_u _ _ _))) b4, fun j j1 j2 => (b5 j j1 j2).trans ?_⟩
    rw [← hσ18, ← hσ9, zu_miss _ _ _ _ (fun _ => by omega), zu_miss _ _ _ _ (fun _ => by omega), zu_miss _ _ _ _ (fun _ => j1)]
theorem X7_shuffle (σ : Mm) {n : Nat} (hn : n < 2147483648) (h1 : σ 1 12 = (n : Int)) : ∃ σ', x_X7_shuffle σ = some σ' ∧ σ' 1 12 = ((shuf 51 n (fun i => i)).1 : Int) ∧ (∀ j, j < 52 → σ' 1 (15 + j) = ((shuf 51 n (fun i => i)).2 j : Int)) ∧ RW σ σ' ∧ ∀ j, j ≠ 12 → (j < 15 ∨ 67 ≤ j) → σ' 1 j = σ 1 j := by
  obtain ⟨σ1, a1, a2, a3, a4⟩ := lup_for (f := fun (s5 : Mm × Int) => x_X7_shuffle_b2 s5.1 s5.2) (fun i s => s.2 = (i : Int) ∧ RW σ s.1 ∧ (∀ j, (j < 15 ∨ 67 ≤ j) → s.1 1 j = σ 1 j) ∧ ∀ j, j < i → s.1 1 (15 + j) = (j : Int)) (fun e => RW σ e ∧ (∀ j, (j < 15 ∨ 67 ≤ j) → e 1 j = σ 1 j) ∧ ∀ j, j < 52 → e 1 (15 + j) = (j : Int)) 52 (fun i s hi hs => by
    obtain ⟨τ, u⟩ := s
    obtain ⟨e1, e2, e3, e4⟩ := hs
    simp only at e1 e2 e3 e4
    subst e1
    refine ⟨(zu τ 1 (15 + i) (i : Int), (i : Int) + 1), ?_, by show (i : Int) + 1 = _; omega, RW_t e2 (RW_u _ _ _), fun j hj => ?_, fun j hj => ?_⟩
    · show x_X7_shuffle_b2 τ (i : Int) = _
      unfold x_X7_shuffle_b2
      rw [if_neg (by rw [zw_eq (x := (52 : Int)) (by omega) (by omega), zwn (by omega)]; omega), show (15 : Int) + (i : Int) = ((15 + i : Nat) : Int) by omega, if_pos (zin_i (by omega) (by omega) (by omega)), zix_nat (n := 15 + i) (by omega), bnd_eq, bnd_eq]
    · show zu τ 1 (15 + i) _ 1 j = _
      rw [zu_miss _ _ _ _ (fun _ => by omega)]; exact e3 j hj
    · show zu τ 1 (15 + i) _ 1 (15 + j) = _
      by_cases w : j = i
      · rw [w, zu_hit]
      · rw [zu_miss _ _ _ _ (fun _ => by omega)]; exact e4 j (by omega)) (fun s hs => by
    obtain ⟨τ, u⟩ := s
    obtain ⟨e1, e2, e3, e4⟩ := hs
    simp only at e1 e2 e3 e4
    subst e1
    refine ⟨τ, ?_, e2, e3, e4⟩
    show x_X7_shuffle_b2 τ _ = _
    unfold x_X7_shuffle_b2
    rw [if_pos (by show zw 52 ≤ zw ((52 : Nat) : Int); decide)]) (s := (σ, 0)) ⟨rfl, RW_r σ, fun _ _ => rfl, fun j hj => by omega⟩
  obtain ⟨σ2, b1, b2, b3, b4, b5⟩ := X7_shLoop 51 σ1 n (fun i => i) (by omega) hn (by rw [a3 12 (by omega)]; exact h1) a4
  unfold x_X7_shuffle
  rw [a1, Option.bind_some]
  have b1 : lup (fun (s22 : Mm × Int) => x_X7_shuffle_b27 s22.1 s22.2) (σ1, (51 : Int)) = some σ2 := b1
  rw [b1, Option.bind_some]
  exact ⟨σ2, rfl, b2, b3, RW_t a2 b4, fun j j1 j2 => (b5 j j1 j2).trans (a3 j j2)⟩
