/-! The model's places: an int as a set of places of a hand -/
theorem zi2l_bit {a : Nat} (ha : a < 2147483648) (i : Nat) : bs (zi2l (a : Int)) i = a.testBit i := by
  unfold bs zi2l
  have h1 : (zJ (a : Int)).toInt64.toBitVec = (zJ (a : Int)).toBitVec.signExtend 64 := rfl
  rw [h1, zJ_tb]
  have hm : (BitVec.ofNat 32 a).msb = false := by
    rw [BitVec.msb_eq_false_iff_two_mul_lt, BitVec.toNat_ofNat, Nat.mod_eq_of_lt (by omega)]
    omega
  rw [BitVec.signExtend_eq_setWidth_of_msb_false hm, BitVec.getLsbD_setWidth, BitVec.getLsbD_ofNat]
  rcases Nat.lt_or_ge i 32 with h | h
  · simp [h, show i < 64 by omega]
  · have : a.testBit i = false := Nat.testBit_lt_two_pow (Nat.lt_of_lt_of_le ha (Nat.pow_le_pow_right (n := 2) (by decide) (show 31 ≤ i by omega)))
    simp [this]
theorem zi2l_cnt {a n : Nat} (ha : a < 2 ^ n) (hn : n ≤ 31) : cnt (bs (zi2l (a : Int))) 64 = cnt (fun i => a.testBit i) n := by
  have h31 : a < 2147483648 := Nat.lt_of_lt_of_le ha (Nat.pow_le_pow_right (n := 2) (by decide) hn)
  rw [cnt_congr (fun c _ => zi2l_bit h31 c), cnt_psum, cnt_psum]
  exact psum_up (by omega) (fun c h1 _ => Nat.testBit_lt_two_pow (Nat.lt_of_lt_of_le ha (Nat.pow_le_pow_right (by decide) h1)))
def ndif (a b : Nat) : Nat := a ^^^ (a &&& b)
theorem ndif_t (a b i : Nat) : (ndif a b).testBit i = (a.testBit i && !b.testBit i) := by
  unfold ndif
  rw [Nat.testBit_xor, Nat.testBit_and]
  cases a.testBit i <;> cases b.testBit i <;> rfl
theorem sub_le {x a : Nat} (h : ∀ i, x.testBit i = true → a.testBit i = true) : x ≤ a := by
  have e : x = a &&& x := by
    apply Nat.eq_of_testBit_eq
    intro i
    rw [Nat.testBit_and]
    cases e : x.testBit i
    · simp
    · rw [h i e]; rfl
  rw [e]
  exact Nat.and_le_left
theorem ndif_le (a b : Nat) : ndif a b ≤ a := sub_le (fun i h => by
  rw [ndif_t] at h
  simp only [Bool.and_eq_true] at h
  exact h.1)
theorem zdif {a b : Nat} (ha : a < 2147483648) (hb : b < 2147483648) : zand (a : Int) (zxor (b : Int) (-1)) = ((ndif a b : Nat) : Int) := by
  have hle := ndif_le a b
  unfold zand zxor
  rw [zJ_toInt]
  have h : zJ (a : Int) &&& (zJ (b : Int) ^^^ zJ (-1)) = zJ ((ndif a b : Nat) : Int) := by
    apply Int32.toBitVec_inj.mp
    rw [Int32.toBitVec_and, Int32.toBitVec_xor, zJ_tb, zJ_tb, zJ_tb]
    have hm : (zJ (-1)).toBitVec = BitVec.allOnes 32 := by decide
    rw [hm]
    apply BitVec.eq_of_getLsbD_eq
    intro i hi
    rw [BitVec.getLsbD_and, BitVec.getLsbD_xor, BitVec.getLsbD_ofNat, BitVec.getLsbD_ofNat, BitVec.getLsbD_ofNat, BitVec.getLsbD_allOnes, ndif_t]
    simp [hi]
  rw [h]
  exact zJ_toInt_eq (by omega) (by omega)
def nlow (a k : Nat) : Prop := a.testBit k = true ∧ ∀ j, j < k → a.testBit j = false
theorem nlow_ex {a : Nat} (h : a ≠ 0) : ∃ k, nlow a k := by
  obtain ⟨k, hk⟩ := Nat.exists_testBit_of_ne_zero h
  have : ∀ n, (∃ k, k < n ∧ a.testBit k = true) → ∃ k, nlow a k := by
    intro n
    induction n with
    | zero => rintro ⟨k, h, -⟩; omega
    | succ n ih =>
      rintro ⟨k, h, hk⟩
      by_cases e : ∃ j, j < n ∧ a.testBit j = true
      · exact ih e
      · exact ⟨k, hk, fun j hj => by cases e2 : a.testBit j <;> first | rfl | exact absurd ⟨j, by omega, e2⟩ e⟩
  exact this (k + 1) ⟨k, by omega, hk⟩
theorem nlow_lt {a k n : Nat} (h : nlow a k) (ha : a < 2 ^ n) : k < n := by
  rcases Nat.lt_or_ge k n with c | c
  · exact c
  · have := h.1
    rw [Nat.testBit_lt_two_pow (Nat.lt_of_lt_of_le ha (Nat.pow_le_pow_right (by decide) c))] at this
    cases this
theorem nlow_u {a k j : Nat} (h : nlow a k) (h2 : nlow a j) : k = j := by
  rcases Nat.lt_trichotomy k j with c | c | c
  · have := h2.2 k c; rw [h.1] at this; cases this
  · exact c
  · have := h.2 j c; rw [h2.1] at this; cases this
theorem zlow {a k : Nat} (ha : a < 2147483648) (h : nlow a k) : zand (a : Int) (-(a : Int)) = ((2 ^ k : Nat) : Int) := by
  have hk : k < 31 := nlow_lt (n := 31) h ha
  have hp : 2 ^ k < 2147483648 := Nat.pow_lt_pow_right (a := 2) (n := 31) (by decide) hk
  unfold zand
  rw [← zJ_neg]
  have hx : zJ (a : Int) &&& -zJ (a : Int) = zJ ((2 ^ k : Nat) : Int) := by
    apply Int32.toBitVec_inj.mp
    rw [Int32.toBitVec_and, Int32.toBitVec_neg, zJ_tb, zJ_tb]
    apply BitVec.eq_of_getLsbD_eq
    intro i hi
    rw [BitVec.getLsbD_and, BitVec.getLsbD_neg, BitVec.getLsbD_ofNat, BitVec.getLsbD_ofNat, Nat.testBit_two_pow]
    have he : decide (∃ j, j < i ∧ (BitVec.ofNat 32 a).getLsbD j = true) = decide (k < i) := by
      apply decide_eq_decide.mpr
      constructor
      · rintro ⟨j, j1, j2⟩
        rw [BitVec.getLsbD_ofNat, Bool.and_eq_true] at j2
        rcases Nat.lt_or_ge k i with c | c
        · exact c
        · rw [h.2 j (by omega)] at j2; cases j2.2
      · intro c
        exact ⟨k, c, by rw [BitVec.getLsbD_ofNat, h.1]; simp; omega⟩
    rw [he]
    rcases Nat.lt_trichotomy i k with c | c | c
    · rw [h.2 i c]
      have : k ≠ i := by omega
      simp [this]
    · subst c; simp [hi, h.1]
    · have : k ≠ i := by omega
      simp [hi, c, this]
  rw [hx]
  clear hx h
  generalize 2 ^ k = q at *
  exact zJ_toInt_eq (by omega) (by omega)
theorem bit_z {a i : Nat} (ha : a < 2147483648) (hi : i < 31) : (zw (zand (zshr (a : Int) (i : Int)) 1) ≠ zw 1) ↔ a.testBit i = false := by
  have h9 : a / 2 ^ i ≤ a := Nat.div_le_self _ _
  rw [zshr_nat (by omega) ha]
  have e : zand ((a / 2 ^ i : Nat) : Int) 1 = ((a / 2 ^ i % 2 : Nat) : Int) := by
    rw [show (1 : Int) = ((1 : Nat) : Int) from rfl, zand_nat (Nat.lt_of_le_of_lt h9 ha) (by decide), Nat.and_one_is_mod]
  rw [e, zwn (by omega), zw_eq (x := (1 : Int)) (by omega) (by omega), Nat.testBit_eq_decide_div_mod_eq]
  generalize a / 2 ^ i = q
  simp only [decide_eq_false_iff_not]
  omega
/-- a hand's cards in order -/
def HD (σ : Mm) (n : Nat) (H : Nat → Nat) : Prop := σ 0 12 = (n : Int) ∧ ∀ i, i < n → σ 20 i = (H i : Int)
def hOk (n : Nat) (H : Nat → Nat) : Prop := n ≤ 11 ∧ (∀ i, i < n → H i < 52) ∧ ∀ i j, i < j → j < n → H i < H j
/-- the cards at some places -/
def co (H : Nat → Nat) (a : Nat) : Nat → Int64
  | 0 => 0
  | n + 1 => if a.testBit n = true then co H a n ||| one (H n) else co H a n
theorem co_bs {H : Nat → Nat} {a : Nat} (c : Nat) : ∀ {n : Nat}, (∀ i, i < n → H i < 52) → (bs (co H a n) c = true ↔ ∃ i, i < n ∧ a.testBit i = true ∧ H i = c)
  | 0, _ => by
    constructor
    · intro h
      have h : bs 0 c = true := h
      rw [bs_0] at h; cases h
    · rintro ⟨i, h, -⟩; omega
  | n + 1, hH => by
    have ih := co_bs (a := a) c (fun i hi => hH i (Nat.lt_succ_of_lt hi))
    unfold co
    by_cases e : a.testBit n = true
    · rw [if_pos e, bs_or, Bool.or_eq_true_iff, ih, bs_one2 (by have := hH n (by omega); omega), decide_eq_true_eq]
      constructor
      · rintro (⟨i, h1, h2⟩ | h)
        · exact ⟨i, by omega, h2⟩
        · exact ⟨n, by omega, e, h.symm⟩
      · rintro ⟨i, h1, h2, h3⟩
        by_cases z : i = n
        · subst z; exact .inr h3.symm
        · exact .inl ⟨i, by omega, h2, h3⟩
    · rw [if_neg e, ih]
      constructor
      · rintro ⟨i, h1, h2⟩; exact ⟨i, by omega, h2⟩
      · rintro ⟨i, h1, h2, h3⟩
        by_cases z : i = n
        · subst z; exact absurd h2 e
        · exact ⟨i, by omega, h2, h3⟩
theorem hOk_inj {n : Nat} {H : Nat → Nat} (h : hOk n H) {i j : Nat} (hi : i < n) (hj : j < n) (e : H i = H j) : i = j := by
  rcases Nat.lt_trichotomy i j with c | c | c
  · have := h.2.2 i j c hj; omega
  · exact c
  · have := h.2.2 j i c hi; omega
theorem co_at {n : Nat} {H : Nat → Nat} (h : hOk n H) (a : Nat) {i : Nat} (hi : i < n) : bs (co H a n) (H i) = a.testBit i := by
  cases e : a.testBit i
  · cases e2 : bs (co H a n) (H i)
    · rfl
    · obtain ⟨j, h1, h2, h3⟩ := (co_bs (H i) h.2.1).mp e2
      have := hOk_inj h h1 hi h3
      rw [this, e] at h2; cases h2
  · exact (co_bs (H i) h.2.1).mpr ⟨i, hi, e, rfl⟩
theorem co_cw {n : Nat} {H : Nat → Nat} (h : hOk n H) (a : Nat) : cw (co H a n) := fun c hc => by
  cases e : bs (co H a n) c
  · rfl
  · obtain ⟨i, h1, h2, h3⟩ := (co_bs c h.2.1).mp e
    have := h.2.1 i h1
    omega
theorem co_sb {n : Nat} {H : Nat → Nat} (h : hOk n H) {a b : Nat} (ha : a < 2 ^ n) : sb (co H a n) (co H b n) ↔ ∀ i, a.testBit i = true → b.testBit i = true := by
  rw [sb_iff]
  constructor
  · intro h1 i hi
    have hin : i < n := by
      rcases Nat.lt_or_ge i n with c | c
      · exact c
      · rw [Nat.testBit_lt_two_pow (Nat.lt_of_lt_of_le ha (Nat.pow_le_pow_right (by decide) c))] at hi; cases hi
    have := h1 (H i) (by rw [co_at h a hin]; exact hi)
    rw [co_at h b hin] at this
    exact this
  · intro h1 c hc
    obtain ⟨i, i1, i2, i3⟩ := (co_bs c h.2.1).mp hc
    exact (co_bs c h.2.1).mpr ⟨i, i1, h1 i i2, i3⟩
theorem co_inj {n : Nat} {H : Nat → Nat} (h : hOk n H) {a b : Nat} (ha : a < 2 ^ n) (hb : b < 2 ^ n) (e : co H a n = co H b n) : a = b := by
  apply Nat.eq_of_testBit_eq
  intro i
  rcases Nat.lt_or_ge i n with c | c
  · rw [← co_at h a c, ← co_at h b c, e]
  · rw [Nat.testBit_lt_two_pow (Nat.lt_of_lt_of_le ha (Nat.pow_le_pow_right (by decide) c)), Nat.testBit_lt_two_pow (Nat.lt_of_lt_of_le hb (Nat.pow_le_pow_right (by decide) c))]
theorem co_dif {n : Nat} {H : Nat → Nat} (h : hOk n H) (a b : Nat) : co H (ndif a b) n = dif (co H a n) (co H b n) := by
  apply bs_ext
  intro c _
  rw [bs_dif2]
  cases e : bs (co H (ndif a b) n) c
  · symm
    cases e2 : bs (co H a n) c
    · rfl
    · obtain ⟨i, i1, i2, i3⟩ := (co_bs c h.2.1).mp e2
      subst i3
      rw [co_at h _ i1, ndif_t, i2] at e
      rw [co_at h _ i1]
      simpa using e
  · obtain ⟨i, i1, i2, i3⟩ := (co_bs c h.2.1).mp e
    subst i3
    rw [co_at h _ i1, co_at h _ i1, ← ndif_t]
    exact i2.symm
theorem co_low {n : Nat} {H : Nat → Nat} (h : hOk n H) {a k : Nat} (ha : a < 2 ^ n) (hk : nlow a k) : isLow (co H a n) (H k) := by
  have hkn := nlow_lt hk ha
  refine ⟨by rw [co_at h a hkn]; exact hk.1, fun j hj => ?_⟩
  cases e : bs (co H a n) j
  · rfl
  · obtain ⟨i, i1, i2, i3⟩ := (co_bs j h.2.1).mp e
    rcases Nat.lt_trichotomy i k with c | c | c
    · rw [hk.2 i c] at i2; cases i2
    · subst c; omega
    · have := h.2.2 k i c i1; omega
theorem co_one {n : Nat} {H : Nat → Nat} (h : hOk n H) {k : Nat} (hk : k < n) : co H (2 ^ k) n = one (H k) := by
  have h52 := h.2.1 k hk
  apply bs_ext
  intro c _
  rw [bs_one2 (by omega)]
  cases e : bs (co H (2 ^ k) n) c
  · symm
    rw [decide_eq_false_iff_not]
    intro z
    subst z
    rw [co_at h _ hk, Nat.testBit_two_pow_self] at e
    cases e
  · obtain ⟨i, i1, i2, i3⟩ := (co_bs c h.2.1).mp e
    rw [Nat.testBit_two_pow] at i2
    have : k = i := by simpa using i2
    subst this
    rw [i3]; simp
theorem co_z {n : Nat} {H : Nat → Nat} (h : hOk n H) : co H 0 n = 0 := by
  rw [bs_nz]
  intro c
  cases e : bs (co H 0 n) c
  · rfl
  · obtain ⟨i, i1, i2, i3⟩ := (co_bs c h.2.1).mp e
    rw [Nat.zero_testBit] at i2; cases i2
theorem co_cnt {H : Nat → Nat} {a : Nat} : ∀ {n : Nat}, hOk n H → cnt (bs (co H a n)) 64 = cnt (fun i => a.testBit i) n
  | 0, _ => by
    show cnt (bs 0) 64 = 0
    rw [cnt_psum]
    exact psum_zero (fun c _ => bs_0 c)
  | n + 1, h => by
    have h' : hOk n H := ⟨by have := h.1; omega, fun i hi => h.2.1 i (by omega), fun i j hi hj => h.2.2 i j hi (by omega)⟩
    have ih := co_cnt (a := a) h'
    show cnt (bs (if a.testBit n = true then co H a n ||| one (H n) else co H a n)) 64 = cnt (fun i => a.testBit i) n + (if a.testBit n = true then 1 else 0)
    cases e : a.testBit n
    · rw [if_neg (by decide), ih]; rfl
    · rw [if_pos rfl]
      have h52 := h.2.1 n (by omega)
      have hd : one (H n) &&& co H a n = 0 := (dj_iff _ _).mpr (fun c hc => by
        rw [bs_one2 (by omega)] at hc
        have hc : c = H n := by simpa using hc
        cases e : bs (co H a n) c
        · rfl
        · obtain ⟨i, i1, i2, i3⟩ := (co_bs c h'.2.1).mp e
          have := h.2.2 i n i1 (by omega)
          omega)
      rw [cnt_dj hd, ih, cnt_one (by omega)]
      rfl
theorem X7_cardsOf {σ : Mm} {n : Nat} {H : Nat → Nat} (hH : HD σ n H) (h : hOk n H) {a : Nat} (ha : a < 2147483648) : x_X7_cardsOf σ (a : Int) = some (co H a n) := by
  have h1 := h.1
  unfold x_X7_cardsOf
  obtain ⟨e9, b1, b2⟩ := lup_for (f := fun (s8 : Int64 × Int) => x_X7_cardsOf_b5 σ (a : Int) s8.1 s8.2) (fun i s => s = (co H a i, (i : Int))) (fun e => e = co H a n) n (fun i s hi hs => by
    subst hs
    show ∃ s', x_X7_cardsOf_b5 σ (a : Int) (co H a i) (i : Int) = _ ∧ _
    unfold x_X7_cardsOf_b5
    rw [hH.1, if_neg (by rw [zwn (by omega), zwn (by omega)]; omega)]
    simp only [bit_z ha (show i < 31 by omega)]
    cases e : a.testBit i
    · rw [if_pos rfl, bnd_eq, bnd_eq]
      refine ⟨_, rfl, ?_⟩
      have e1 : co H a (i + 1) = co H a i := by
        show (if _ then _ else _) = _
        rw [if_neg (by rw [e]; decide)]
      have e2 : co H a i ||| 0 = co H a i := by apply bs_ext; intro j _; rw [bs_or, bs_0]; simp
      rw [e1, e2]; rfl
    · rw [if_neg (by decide), if_pos (zin_i (by omega) (by omega) (by omega)), bnd_eq, bnd_eq, zix_nat (by omega), hH.2 i hi]
      refine ⟨_, rfl, ?_⟩
      have e1 : co H a (i + 1) = co H a i ||| one (H i) := by
        show (if _ then _ else _) = _
        rw [if_pos e]
      rw [e1]; rfl) (fun s hs => by
    subst hs
    refine ⟨_, ?_, rfl⟩
    show x_X7_cardsOf_b5 σ (a : Int) _ _ = _
    unfold x_X7_cardsOf_b5
    rw [hH.1, if_pos (Int.le_refl _)]) (s := (0, 0)) rfl
  rw [b1, b2]
  rfl
