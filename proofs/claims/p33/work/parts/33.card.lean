/-! The helpers of both sides that take a long -/
theorem zwt (x : Int32) : zw x.toInt = x.toInt := by unfold zw; rw [zJ_toInt]
theorem zcmp_e (x y : Int64) : zw (zcmp x y) = 0 ↔ x = y := by
  unfold zcmp
  rw [zwt, ← lg_cmp_eq]
  exact ⟨fun h => Int32.toInt_inj.mp h, fun h => by rw [h]; rfl⟩
theorem zcmp_l (x y : Int64) : zw (zcmp x y) < 0 ↔ x < y := by
  unfold zcmp
  rw [zwt, ← lg_cmp_lt]
  show (lg_cmp x y).toInt < (0 : Int32).toInt ↔ _
  exact Int32.lt_iff_toInt_lt.symm
theorem zcmp_g (x y : Int64) : zw (zcmp x y) ≤ 0 ↔ x ≤ y := by
  unfold zcmp
  rw [zwt, ← lg_cmp_le]
  show (lg_cmp x y).toInt ≤ (0 : Int32).toInt ↔ _
  exact Int32.le_iff_toInt_le.symm
theorem bs_1 (c : Nat) : bs 1 c = decide (c = 0) := by
  unfold bs
  show (1#64).getLsbD c = _
  rw [BitVec.getLsbD_one]
  simp
theorem bit_1 (p : Int64) {k : Nat} (hk : k < 64) : (zlshr p (k : Int)) &&& 1 = if bs p k = true then 1 else 0 := by
  apply bs_ext
  intro c hc
  rw [bs_and, bs_1]
  by_cases e : c = 0
  · subst e
    rw [bs_sshr k hk p (by omega)]
    simp only [Nat.add_zero]
    cases bs p k
    · simp [bs_0]
    · simp [bs_1]
  · cases bs p k
    · simp [bs_0, e]
    · simp [bs_1, e]
theorem bit_1f (p : Int64) {k : Nat} (hk : k < 64) : zw (zcmp ((zlshr p (k : Int)) &&& 1) 1) ≠ 0 ↔ bs p k = false := by
  rw [Ne, zcmp_e, bit_1 p hk]
  cases bs p k <;> decide
theorem bit_0t (p : Int64) {k : Nat} (hk : k < 64) : zw (zcmp ((zlshr p (k : Int)) &&& 1) 0) ≠ 0 ↔ bs p k = true := by
  rw [Ne, zcmp_e, bit_1 p hk]
  cases bs p k <;> decide
def pts (c : Nat) : Nat := min (c % 13 + 1) 10
theorem pts_le (c : Nat) : pts c ≤ 10 := Nat.min_le_right _ _
theorem pts_pos (c : Nat) : 0 < pts c := by unfold pts; omega
theorem zrem13 {a : Nat} (h : a < 2147483648) : zrem (a : Int) 13 = ((a % 13 : Nat) : Int) := zrem_nat (b := 13) h (by decide) (by decide)
theorem zdiv13 {a : Nat} (h : a < 2147483648) : zdiv (a : Int) 13 = ((a / 13 : Nat) : Int) := zdiv_nat (b := 13) h (by decide) (by decide)
theorem X7_points {c : Nat} (h : c < 1000) : x_X7_points (c : Int) = some ((pts c : Nat) : Int) := by
  unfold x_X7_points
  rw [bnd_eq, zrem13 (by omega), zw_eq (by omega) (by omega), zw_eq (by omega) (by omega)]
  unfold pts
  by_cases e : c % 13 ≤ 8
  · rw [if_pos (by omega)]
    exact congrArg some (by omega)
  · rw [if_neg (by omega)]
    exact congrArg some (by omega)
theorem X6_pointsFor {c : Nat} (h : c < 1000) : x_X6_pointsFor (c : Int) = some ((pts c : Nat) : Int) := by
  unfold x_X6_pointsFor zmin
  rw [zrem13 (by omega), zw_eq (by omega) (by omega), zw_eq (by omega) (by omega)]
  unfold pts
  by_cases e : (10 : Int) < ((c % 13 : Nat) : Int) + 1
  · rw [if_pos e]
    exact congrArg some (by omega)
  · rw [if_neg e]
    exact congrArg some (by omega)
theorem X7_pointsOf (p : Int64) : x_X7_pointsOf p = some ((psum pts (bs p) 52 : Nat) : Int) := by
  unfold x_X7_pointsOf
  obtain ⟨e, h1, h2⟩ := lup_for (f := fun (s8 : Int × Int) => x_X7_pointsOf_b4 p s8.1 s8.2) (fun i s => s = (((psum pts (bs p) i : Nat) : Int), (i : Int))) (fun e => e = ((psum pts (bs p) 52 : Nat) : Int)) 52 (fun i s hi hs => by
    subst hs
    refine ⟨_, ?_, rfl⟩
    show x_X7_pointsOf_b4 p _ _ = _
    unfold x_X7_pointsOf_b4
    rw [zw_eq (x := (52 : Int)) (by omega) (by omega), zwn (by omega), if_neg (by omega)]
    simp only [bit_1f p (show i < 64 by omega)]
    rw [X7_points (by omega)]
    by_cases e : bs p i = false
    · rw [if_pos e]
      simp [bnd_eq, psum, e]
    · rw [if_neg e]
      have e : bs p i = true := by simpa using e
      simp [bnd_eq, psum, e]) (fun s hs => by
    subst hs
    refine ⟨_, ?_, rfl⟩
    show x_X7_pointsOf_b4 p _ _ = _
    unfold x_X7_pointsOf_b4
    rw [if_pos (by show zw 52 ≤ zw ((52 : Nat) : Int); decide)]) (s := (0, 0)) rfl
  rw [h1, h2]
  rfl
theorem cnt_clr {x : Int64} {k : Nat} (h : isLow x k) : cnt (bs x) 64 = cnt (bs (x &&& (x - 1))) 64 + 1 := by
  rw [cnt_psum, cnt_psum, psum_one h.1 (low_lt h)]
  rw [psum_congr (fun c _ => (bs_clr h c).symm)]
  omega
theorem cnt_z {x : Int64} : cnt (bs x) 64 = 0 ↔ x = 0 := by
  constructor
  · intro h
    false_or_by_contra
    rename_i c
    obtain ⟨k, hk⟩ := low_ex c
    have := cnt_clr hk
    omega
  · intro h
    subst h
    decide +kernel
theorem X7_ones (p : Int64) : x_X7_ones p = some ((cnt (bs p) 64 : Nat) : Int) := by
  unfold x_X7_ones
  obtain ⟨e, h1, h2⟩ := lup_ind (f := fun (s4 : Int × Int64) => x_X7_ones_b4 s4.1 s4.2) (fun i s => s.1 = (i : Int) ∧ i + cnt (bs s.2) 64 = cnt (bs p) 64) (fun e => e = ((cnt (bs p) 64 : Nat) : Int)) (cnt (bs p) 64) (fun i s hs => by
    obtain ⟨u, x⟩ := s
    obtain ⟨hu, hx⟩ := hs
    simp only at hu hx
    subst hu
    show (∃ s', x_X7_ones_b4 (i : Int) x = _ ∧ _) ∨ (∃ e, x_X7_ones_b4 (i : Int) x = _ ∧ _)
    unfold x_X7_ones_b4
    by_cases e : x = 0
    · right
      rw [if_pos ((zcmp_e x 0).mpr e)]
      refine ⟨_, rfl, ?_⟩
      have := cnt_z.mpr e
      omega
    · left
      rw [if_neg (fun z => e ((zcmp_e x 0).mp z))]
      obtain ⟨k, hk⟩ := low_ex e
      have := cnt_clr hk
      refine ⟨_, rfl, by omega, rfl, by show i + 1 + cnt (bs (x &&& (x - 1))) 64 = _; omega⟩) (s := (0, p)) 0 ⟨rfl, by show 0 + cnt (bs p) 64 = _; omega⟩
  rw [h1, h2]
  rfl
theorem low_of {x : Int64} {k : Nat} (h : isLow x k) {n : Nat} (hn : ∀ j, j < n → bs x j = false) : n ≤ k := by
  rcases Nat.lt_or_ge k n with c | c
  · have := hn k c; rw [h.1] at this; cases this
  · exact c
theorem X7_lowest {p : Int64} {k : Nat} (h : isLow p k) : x_X7_lowest p = some (k : Int) := by
  unfold x_X7_lowest
  have hk := low_lt h
  obtain ⟨e, h1, h2⟩ := lup_ind (f := fun (s3 : Int) => x_X7_lowest_b2 p s3) (fun i s => s = (i : Int) ∧ i ≤ k) (fun e => e = (k : Int)) k (fun i s hs => by
    obtain ⟨hs, hi⟩ := hs
    subst hs
    show (∃ s', x_X7_lowest_b2 p (i : Int) = _ ∧ _) ∨ (∃ e, x_X7_lowest_b2 p (i : Int) = _ ∧ _)
    unfold x_X7_lowest_b2
    simp only [bit_0t p (show i < 64 by omega)]
    by_cases e : i = k
    · right
      subst e
      rw [if_pos h.1]
      exact ⟨_, rfl, rfl⟩
    · left
      rw [if_neg (by rw [h.2 i (by omega)]; decide)]
      exact ⟨_, rfl, by omega, rfl, by omega⟩) (s := 0) 0 ⟨rfl, by omega⟩
  rw [h1, h2]
  rfl
theorem cnt_below {k : Nat} : ∀ {n : Nat}, k ≤ n → cnt (fun c => decide (c < k)) n = k
  | 0, h => by have : k = 0 := by omega
               subst this; rfl
  | n + 1, h => by
    unfold cnt
    rcases Nat.lt_or_ge n k with c | c
    · have : k = n + 1 := by omega
      subst this
      rw [cnt_congr (T := fun c => decide (c < n)) (fun c hc => by simp; omega), cnt_below (Nat.le_refl n)]
      simp
    · rw [cnt_below c]
      simp; omega
theorem X6_lowestOf {p : Int64} {k : Nat} (h : isLow p k) : x_X6_lowestOf p = some (k : Int) := by
  unfold x_X6_lowestOf
  rw [bitCount_eq, cnt_congr (T := fun c => decide (c < k)) (fun c hc => bs_below h hc), cnt_below (by have := low_lt h; omega)]
  rfl
/-- within the cards -/
def cw (x : Int64) : Prop := ∀ c, 52 ≤ c → bs x c = false
theorem cw_lt {x : Int64} (h : cw x) {c : Nat} (hc : bs x c = true) : c < 52 := by
  rcases Nat.lt_or_ge c 52 with e | e
  · exact e
  · rw [h c e] at hc; cases hc
theorem cw_clr {x : Int64} (h : cw x) : cw (x &&& (x - 1)) := fun c hc => by rw [bs_and, h c hc]; rfl
theorem cnt52 {x : Int64} (h : cw x) : cnt (bs x) 64 = cnt (bs x) 52 := by
  rw [cnt_psum, cnt_psum, psum_up (by decide) (fun c h1 _ => h c h1)]
theorem psum_clr {f : Nat → Nat} {x : Int64} (hw : cw x) {k : Nat} (h : isLow x k) : psum f (bs x) 52 = f k + psum f (bs (x &&& (x - 1))) 52 := by
  rw [psum_one h.1 (cw_lt hw h.1), psum_congr (fun c _ => (bs_clr h c).symm)]
theorem X6_pointsOf {p : Int64} (hw : cw p) : x_X6_pointsOf p = some ((psum pts (bs p) 52 : Nat) : Int) := by
  unfold x_X6_pointsOf
  have h52 := cnt_le (bs p) 52
  rw [← cnt52 hw] at h52
  obtain ⟨e, h1, h2⟩ := lup_ind (f := fun (s8 : Int × Int64 × Int) => x_X6_pointsOf_b7 s8.1 s8.2.1 s8.2.2) (fun i s => s.2.2 = (i : Int) ∧ cw s.2.1 ∧ i + cnt (bs s.2.1) 64 = cnt (bs p) 64 ∧ s.1 + ((psum pts (bs s.2.1) 52 : Nat) : Int) = ((psum pts (bs p) 52 : Nat) : Int)) (fun e => e = ((psum pts (bs p) 52 : Nat) : Int)) (cnt (bs p) 64) (fun i s hs => by
    obtain ⟨u, x, v⟩ := s
    obtain ⟨hv, hx, hc, hu⟩ := hs
    simp only at hv hx hc hu
    subst hv
    show (∃ s', x_X6_pointsOf_b7 u x (i : Int) = _ ∧ _) ∨ (∃ e, x_X6_pointsOf_b7 u x (i : Int) = _ ∧ _)
    unfold x_X6_pointsOf_b7
    rw [zw_eq (x := (52 : Int)) (by omega) (by omega), zwn (by omega)]
    by_cases e : x = 0
    · right
      have hz : psum pts (bs x) 52 = 0 := psum_zero (fun c _ => by rw [e, bs_0])
      by_cases e2 : (52 : Int) ≤ (i : Int)
      · rw [if_pos e2]
        exact ⟨_, rfl, by omega⟩
      · rw [if_neg e2, if_pos ((zcmp_e x 0).mpr e)]
        exact ⟨_, rfl, by omega⟩
    · left
      obtain ⟨k, hk⟩ := low_ex e
      have h3 := cnt_clr hk
      rw [if_neg (by omega), if_neg (fun z => e ((zcmp_e x 0).mp z)), X6_lowestOf hk, Option.bind_some, X6_pointsFor (by have := low_lt hk; omega), Option.bind_some]
      have h4 := psum_clr (f := pts) hx hk
      exact ⟨_, rfl, by omega, rfl, cw_clr hx, by show i + 1 + cnt (bs (x &&& (x - 1))) 64 = _; omega, by show u + _ + ((psum pts (bs (x &&& (x - 1))) 52 : Nat) : Int) = _; omega⟩) (s := (0, p, 0)) 0 ⟨rfl, hw, by show 0 + cnt (bs p) 64 = _; omega, by show 0 + ((psum pts (bs p) 52 : Nat) : Int) = _; omega⟩
  rw [h1, h2]
  rfl
/-- the dearest of some below n -/
def pmax (S : Nat → Bool) : Nat → Nat
  | 0 => 0
  | n + 1 => max (pmax S n) (if S n then pts n else 0)
theorem pmax_congr {S T : Nat → Bool} : ∀ {n : Nat}, (∀ c, c < n → S c = T c) → pmax S n = pmax T n
  | 0, _ => rfl
  | n + 1, h => by unfold pmax; rw [pmax_congr (fun c hc => h c (by omega)), h n (by omega)]
theorem pmax_one {S : Nat → Bool} {k : Nat} (hS : S k = true) : ∀ {n : Nat}, k < n → pmax S n = max (pts k) (pmax (fun c => S c && decide (c ≠ k)) n)
  | 0, h => by omega
  | n + 1, h => by
    unfold pmax
    rcases Nat.lt_or_ge k n with c | c
    · rw [pmax_one hS c]
      have : n ≠ k := by omega
      simp [this]
    · have : k = n := by omega
      subst this
      have e9 : pmax S k = pmax (fun c => S c && decide (c ≠ k)) k := by
        refine pmax_congr (fun c hc => ?_)
        have : c ≠ k := by omega
        simp [this]
      rw [← e9]
      simp [hS]; omega
theorem pmax_zero {S : Nat → Bool} : ∀ {n : Nat}, (∀ c, c < n → S c = false) → pmax S n = 0
  | 0, _ => rfl
  | n + 1, h => by unfold pmax; rw [pmax_zero (fun c hc => h c (by omega)), h n (by omega)]; rfl
theorem pmax_le {S : Nat → Bool} {b : Nat} : ∀ {n : Nat}, (∀ c, c < n → S c = true → pts c ≤ b) → pmax S n ≤ b
  | 0, _ => Nat.zero_le _
  | n + 1, h => by
    unfold pmax
    have h1 := pmax_le (S := S) (b := b) (fun c hc => h c (Nat.lt_succ_of_lt hc))
    have h2 := h n (by omega)
    cases e : S n
    · simp [h1]
    · have := h2 e
      simp; omega
theorem pmax_ge {S : Nat → Bool} {k n : Nat} (hS : S k = true) (h : k < n) : pts k ≤ pmax S n := by rw [pmax_one hS h]; omega
theorem pmax_ex {S : Nat → Bool} : ∀ {n : Nat}, pmax S n = 0 ∨ ∃ k, k < n ∧ S k = true ∧ pts k = pmax S n
  | 0 => .inl rfl
  | n + 1 => by
    unfold pmax
    rcases pmax_ex (S := S) (n := n) with h | ⟨k, h1, h2, h3⟩
    · cases e : S n
      · left; simp [h]
      · right; exact ⟨n, by omega, e, by simp [h]⟩
    · cases e : S n
      · right; exact ⟨k, by omega, h2, by simp; omega⟩
      · right
        rcases Nat.lt_or_ge (pmax S n) (pts n) with c | c
        · exact ⟨n, by omega, e, by simp; omega⟩
        · exact ⟨k, by omega, h2, by simp; omega⟩
theorem zmax_n {a b : Nat} (ha : a < 2147483648) (hb : b < 2147483648) : zmax (a : Int) (b : Int) = ((max a b : Nat) : Int) := by
  unfold zmax
  rw [zwn ha, zwn hb]
  by_cases c : (a : Int) < (b : Int)
  · rw [if_pos c]; omega
  · rw [if_neg c]; omega
theorem X1_mostPointsOf {p : Int64} (hw : cw p) : x_X1_mostPointsOf p = some ((pmax (bs p) 52 : Nat) : Int) := by
  unfold x_X1_mostPointsOf
  have h52 := cnt_le (bs p) 52
  rw [← cnt52 hw] at h52
  obtain ⟨e, h1, h2⟩ := lup_ind (f := fun (s8 : Int × Int64 × Int) => x_X1_mostPointsOf_b7 s8.1 s8.2.1 s8.2.2) (fun i s => s.2.2 = (i : Int) ∧ cw s.2.1 ∧ i + cnt (bs s.2.1) 64 = cnt (bs p) 64 ∧ ∃ m : Nat, s.1 = (m : Int) ∧ m ≤ 10 ∧ max m (pmax (bs s.2.1) 52) = pmax (bs p) 52) (fun e => e = ((pmax (bs p) 52 : Nat) : Int)) (cnt (bs p) 64) (fun i s hs => by
    obtain ⟨u, x, v⟩ := s
    obtain ⟨hv, hx, hc, m, hm, hm10, hu⟩ := hs
    simp only at hv hx hc hu hm
    subst hv
    subst hm
    show (∃ s', x_X1_mostPointsOf_b7 (m : Int) x (i : Int) = _ ∧ _) ∨ (∃ e, x_X1_mostPointsOf_b7 (m : Int) x (i : Int) = _ ∧ _)
    unfold x_X1_mostPointsOf_b7
    rw [zw_eq (x := (52 : Int)) (by omega) (by omega), zwn (n := i) (by omega)]
    by_cases e : x = 0
    · right
      have hz : pmax (bs x) 52 = 0 := pmax_zero (fun c _ => by rw [e, bs_0])
      by_cases e2 : (52 : Int) ≤ (i : Int)
      · rw [if_pos e2]
        exact ⟨_, rfl, by omega⟩
      · rw [if_neg e2, if_pos ((zcmp_e x 0).mpr e)]
        exact ⟨_, rfl, by omega⟩
    · left
      obtain ⟨k, hk⟩ := low_ex e
      have h3 := cnt_clr hk
      have h5 := pts_le k
      rw [if_neg (by omega), if_neg (fun z => e ((zcmp_e x 0).mp z)), X6_lowestOf hk, Option.bind_some, X6_pointsFor (by have := low_lt hk; omega), Option.bind_some, bnd_eq, zmax_n (by omega) (by omega)]
      have h4 : pmax (bs x) 52 = max (pts k) (pmax (bs (x &&& (x - 1))) 52) := by
        rw [pmax_one hk.1 (cw_lt hx hk.1), pmax_congr (fun c _ => (bs_clr hk c).symm)]
      exact ⟨_, rfl, by omega, rfl, cw_clr hx, by show i + 1 + cnt (bs (x &&& (x - 1))) 64 = _; omega, max m (pts k), rfl, by omega, by show max _ (pmax (bs (x &&& (x - 1))) 52) = _; omega⟩) (s := (0, p, 0)) 0 ⟨rfl, hw, by show 0 + cnt (bs p) 64 = _; omega, 0, rfl, by omega, by show max 0 (pmax (bs p) 52) = _; omega⟩
  rw [h1, h2]
  rfl
theorem X6_bitOf {c : Nat} (h : c < 52) : x_X6_bitOf (c : Int) = some (zlshl 1 (c : Int)) := by
  unfold x_X6_bitOf
  rw [zw_eq (x := (52 : Int)) (by omega) (by omega), zwn (by omega), if_neg (by omega), if_neg (by omega)]
theorem X6_bitOf_out {x : Int} (h : ¬ (0 ≤ zw x ∧ zw x < 52)) : x_X6_bitOf x = some 0 := by
  unfold x_X6_bitOf
  rw [zw_eq (x := (52 : Int)) (by omega) (by omega)]
  by_cases e : zw x < 0
  · rw [if_pos e]
  · rw [if_neg e, if_pos (by omega)]
theorem and_bit (p : Int64) {c : Nat} (h : c < 64) : p &&& zlshl 1 (c : Int) = 0 ↔ bs p c = false := by
  rw [bs_nz]
  constructor
  · intro h2
    have := h2 c
    rw [bs_and, bs_one c h] at this
    simpa using this
  · intro h2 j
    rw [bs_and, bs_one c h]
    by_cases e : j = c
    · subst e; rw [h2]; rfl
    · simp [e]
theorem X6_has (p : Int64) {c : Nat} (h : c < 52) : x_X6_has p (c : Int) = some (if bs p c = true then 1 else 0) := by
  unfold x_X6_has
  rw [X6_bitOf h, Option.bind_some]
  simp only [zcmp_e, and_bit p (show c < 64 by omega)]
  cases bs p c <;> rfl
theorem X6_has_out (p : Int64) {x : Int} (h : ¬ (0 ≤ zw x ∧ zw x < 52)) : x_X6_has p x = some 0 := by
  unfold x_X6_has
  rw [X6_bitOf_out h, Option.bind_some, if_pos ((zcmp_e _ _).mpr (by apply bs_ext; intro c _; rw [bs_and, bs_0]; simp))]
