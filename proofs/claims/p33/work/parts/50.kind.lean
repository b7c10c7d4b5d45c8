/-! Kinds of cards, on both sides -/
/-- all of one rank, that of k -/
def rkd (p : Int64) (k : Nat) : Prop := ∀ c, bs p c = true → c % 13 = k % 13
theorem c_set {p : Int64} (hp : cw p) {k : Nat} (hk : k < 52) : p &&& ((zlshl (549822930945 : Int64) (zrem (k : Int) 13)) ^^^ (-1)) = 0 ↔ rkd p k := by
  rw [zrem13 (by omega)]
  show sb p (zlshl oneRank ((k % 13 : Nat) : Int)) ↔ _
  rw [sb_iff]
  constructor
  · intro h c hc
    have := h c hc
    rw [bs_rank _ (by omega) c (bs_lt hc), decide_eq_true_eq] at this
    exact this.2
  · intro h c hc
    rw [bs_rank _ (by omega) c (bs_lt hc), decide_eq_true_eq]
    exact ⟨cw_lt hp hc, h c hc⟩
/-- all of one suit, s -/
def std (p : Int64) (s : Nat) : Prop := ∀ c, bs p c = true → 13 * s ≤ c ∧ c < 13 * s + 13
theorem c_suit {p : Int64} {s : Nat} (hs : s < 4) : p &&& ((zlshl (8191 : Int64) ((13 * s : Nat) : Int)) ^^^ (-1)) = 0 ↔ std p s := by
  rw [← sh_i]
  show sb p (zlshl 8191 ((s : Int) * 13)) ↔ _
  rw [sb_iff]
  constructor
  · intro h c hc
    have := h c hc
    rw [bs_suit s hs c (bs_lt hc), decide_eq_true_eq] at this
    exact this
  · intro h c hc
    rw [bs_suit s hs c (bs_lt hc), decide_eq_true_eq]
    exact h c hc
/-- how many ranks of the suit s follow none -/
def bgn (p : Int64) (s : Nat) (j : Nat) : Bool := bs p (13 * s + j) && !bs p (13 * s + (j + 12) % 13)
theorem bs_begin (p : Int64) {s : Nat} (hs : s < 4) {x : Int64} (hx : ∀ j, bs x j = (bs p (13 * s + j) && decide (j < 13))) : ∃ y, x_X6_beginningsOf x = some y ∧ ∀ j, bs y j = (decide (j < 13) && bgn p s j) := by
  unfold x_X6_beginningsOf
  rw [bnd_eq]
  refine ⟨_, rfl, fun j => ?_⟩
  rw [bs_dif, bs_and]
  have e1 : ∀ j, j < 13 → bs (zlshl x (1 : Int) ||| zlushr x (12 : Int)) j = bs p (13 * s + (j + 12) % 13) := fun j hj => by
    rw [bs_or, show (1 : Int) = ((1 : Nat) : Int) from rfl, bs_shl 1 (by decide) x (by omega), show (12 : Int) = ((12 : Nat) : Int) from rfl, bs_ushr 12 (by decide) x j, hx, hx]
    by_cases e : j = 0
    · subst e
      simp
    · have a1 : 1 ≤ j := by omega
      have a2 : ¬ 12 + j < 13 := by omega
      have a3 : j - 1 < 13 := by omega
      have a4 : (j + 12) % 13 = j - 1 := by omega
      simp [a1, a2, a3, a4]
  rcases Nat.lt_or_ge j 13 with h | h
  · rw [e1 j h, bs_8191 j (by omega), hx]
    unfold bgn
    simp [h]
  · rw [hx]
    have : ¬ j < 13 := by omega
    simp [this]
/-- the kind of some cards: 0 none, 1 a set, 2 a run -/
noncomputable def kK (p : Int64) : Nat := if cnt (bs p) 64 < 3 then 0 else @ite Nat (rkd p (lo p)) (Classical.propDecidable _) 1 (@ite Nat (std p (lo p / 13)) (Classical.propDecidable _) (if cnt (bgn p (lo p / 13)) 13 ≤ 1 then 2 else 0) 0)
theorem cnt_13 {T : Nat → Bool} : cnt (fun j => decide (j < 13) && T j) 64 = cnt T 13 := by
  have h0 : ∀ c, 13 ≤ c → c < 64 → (decide (c < 13) && T c) = false := fun c h1 _ => by
    have : ¬ c < 13 := by omega
    simp [this]
  rw [cnt_psum, cnt_psum, psum_up (n := 13) (by decide) h0]
  exact psum_congr (fun c hc => by simp [hc])
theorem X6_kindOf {p : Int64} (hp : cw p) : x_X6_kindOf p = some ((kK p : Nat) : Int) := by
  have hc := cnt_le (bs p) 64
  unfold x_X6_kindOf kK
  rw [bitCount_eq, Option.bind_some]
  by_cases e : cnt (bs p) 64 < 3
  · rw [if_pos e, if_neg (by rw [zw_eq (x := (3 : Int)) (by omega) (by omega), zwn (by omega)]; omega)]
    rfl
  · have hnz : p ≠ 0 := fun z => e (by rw [cnt_z.mpr z]; decide)
    have hl := lo_spec hnz
    have hl52 := cw_lt hp hl.1
    rw [if_neg e, if_pos (by rw [zw_eq (x := (3 : Int)) (by omega) (by omega), zwn (by omega)]; omega), X6_lowestOf hl, Option.bind_some]
    by_cases e1 : rkd p (lo p)
    · rw [if_pos e1, if_neg (by rw [Ne, zcmp_e, c_set hp hl52]; exact fun z => z e1)]
      rfl
    · have e13 : ((lo p / 13 : Nat) : Int) * 13 = ((13 * (lo p / 13) : Nat) : Int) := by omega
      rw [if_neg e1, if_pos (by rw [Ne, zcmp_e, c_set hp hl52]; exact e1), bnd_eq, zdiv13 (by omega), e13]
      have hs4 : lo p / 13 < 4 := by omega
      by_cases e2 : std p (lo p / 13)
      · rw [if_pos e2, if_pos (by rw [zcmp_e, c_suit hs4]; exact e2)]
        obtain ⟨y, y1, y2⟩ := bs_begin p hs4 (x := zlushr p ((13 * (lo p / 13) : Nat) : Int)) (fun j => by
          rw [bs_ushr _ (by omega)]
          rcases Nat.lt_or_ge j 13 with h | h
          · simp [h]
          · have : bs p (13 * (lo p / 13) + j) = false := by
              cases w : bs p (13 * (lo p / 13) + j)
              · rfl
              · have := e2 _ w; omega
            rw [this]; rfl)
        have hb := cnt_le (bs y) 64
        have hcy : cnt (bs y) 64 = cnt (bgn p (lo p / 13)) 13 := by
          rw [cnt_congr (fun c _ => y2 c)]
          exact cnt_13
        rw [y1, Option.bind_some, bitCount_eq, Option.bind_some, hcy, zw_eq (x := (1 : Int)) (by omega) (by omega), zwn (by omega)]
        by_cases e3 : cnt (bgn p (lo p / 13)) 13 ≤ 1
        · rw [if_pos e3, if_neg (by omega)]; rfl
        · rw [if_neg e3, if_pos (by omega)]; rfl
      · rw [if_neg e2, if_neg (by rw [zcmp_e, c_suit hs4]; exact e2)]
        rfl
theorem rank_mask {r : Nat} (hr : r < 13) {c : Nat} (hc : c < 64) : bs ((((zlshl (1 : Int64) (r : Int)) ||| (zlshl (1 : Int64) ((r : Int) + (13 : Int)))) ||| (zlshl (1 : Int64) ((r : Int) + (26 : Int)))) ||| (zlshl (1 : Int64) ((r : Int) + (39 : Int)))) c = decide (c < 52 ∧ c % 13 = r) := by
  rw [show (r : Int) + 13 = ((r + 13 : Nat) : Int) by omega, show (r : Int) + 26 = ((r + 26 : Nat) : Int) by omega, show (r : Int) + 39 = ((r + 39 : Nat) : Int) by omega]
  rw [bs_or, bs_or, bs_or, bs_one r (by omega), bs_one _ (by omega), bs_one _ (by omega), bs_one _ (by omega)]
  rw [← Bool.decide_or, ← Bool.decide_or, ← Bool.decide_or]
  apply decide_eq_decide.mpr
  omega
theorem X7_isSetOf {p : Int64} (hp : cw p) (hnz : p ≠ 0) : ∃ v : Int, x_X7_isSetOf p = some v ∧ ((v = 1 ∧ rkd p (lo p)) ∨ (v = 0 ∧ ¬ rkd p (lo p))) := by
  have hl := lo_spec hnz
  have hl52 := cw_lt hp hl.1
  unfold x_X7_isSetOf
  rw [X7_lowest hl, Option.bind_some, bnd_eq, zrem13 (by omega), bnd_eq]
  have hiff : p &&& (((((zlshl (1 : Int64) ((lo p % 13 : Nat) : Int)) ||| (zlshl (1 : Int64) (((lo p % 13 : Nat) : Int) + (13 : Int)))) ||| (zlshl (1 : Int64) (((lo p % 13 : Nat) : Int) + (26 : Int)))) ||| (zlshl (1 : Int64) (((lo p % 13 : Nat) : Int) + (39 : Int)))) ^^^ (-1)) = 0 ↔ rkd p (lo p) := by
    show sb p _ ↔ _
    rw [sb_iff]
    constructor
    · intro h c hc
      have := h c hc
      rw [rank_mask (by omega) (bs_lt hc), decide_eq_true_eq] at this
      exact this.2
    · intro h c hc
      rw [rank_mask (by omega) (bs_lt hc), decide_eq_true_eq]
      exact ⟨cw_lt hp hc, h c hc⟩
  by_cases e : rkd p (lo p)
  · rw [if_neg (by rw [Ne, zcmp_e, hiff]; exact fun z => z e)]
    exact ⟨1, rfl, .inl ⟨rfl, e⟩⟩
  · rw [if_pos (by rw [Ne, zcmp_e, hiff]; exact e)]
    exact ⟨0, rfl, .inr ⟨rfl, e⟩⟩
/-- the first rank of the suit that follows none -/
theorem X7_firstOf {p : Int64} (hp : cw p) (hnz : p ≠ 0) : ∃ f, x_X7_firstOf p = some ((13 * (lo p / 13) + f : Nat) : Int) ∧ ((f < 13 ∧ bgn p (lo p / 13) f = true ∧ ∀ j, j < f → bgn p (lo p / 13) j = false) ∨ (f = 0 ∧ ∀ j, j < 13 → bgn p (lo p / 13) j = false)) := by
  have hl := lo_spec hnz
  have hl52 := cw_lt hp hl.1
  have e13 : ((lo p / 13 : Nat) : Int) * 13 = ((13 * (lo p / 13) : Nat) : Int) := by omega
  unfold x_X7_firstOf
  rw [X7_lowest hl, Option.bind_some, bnd_eq, zdiv13 (by omega), e13]
  generalize hs : lo p / 13 = s
  have hs4 : s < 4 := by omega
  obtain ⟨e9, b1, b2⟩ := lup_ind (f := fun (s14 : Int) => x_X7_firstOf_b13 p ((13 * s : Nat) : Int) s14) (fun i t => t = (i : Int) ∧ i ≤ 13 ∧ ∀ j, j < i → bgn p s j = false) (fun e => (∃ f : Nat, e = .inl (f : Int) ∧ f < 13 ∧ bgn p s f = true ∧ ∀ j, j < f → bgn p s j = false) ∨ (e = .inr () ∧ ∀ j, j < 13 → bgn p s j = false)) 13 (fun i t ht => by
    obtain ⟨ht, hi, hb⟩ := ht
    subst ht
    show (∃ s', x_X7_firstOf_b13 p ((13 * s : Nat) : Int) (i : Int) = _ ∧ _) ∨ (∃ e, x_X7_firstOf_b13 p ((13 * s : Nat) : Int) (i : Int) = _ ∧ _)
    unfold x_X7_firstOf_b13
    by_cases e : i = 13
    · right
      subst e
      rw [if_pos (by decide)]
      exact ⟨_, rfl, .inr ⟨rfl, hb⟩⟩
    · have ei : ((13 * s : Nat) : Int) + (i : Int) = ((13 * s + i : Nat) : Int) := by omega
      have em : (i : Int) + 13 - 1 = ((i + 12 : Nat) : Int) := by omega
      have ej : ((13 * s : Nat) : Int) + (((i + 12) % 13 : Nat) : Int) = ((13 * s + (i + 12) % 13 : Nat) : Int) := by omega
      rw [if_neg (by rw [zw_eq (x := (13 : Int)) (by omega) (by omega), zwn (by omega)]; omega), ei]
      simp only [bit_1f p (show 13 * s + i < 64 by omega)]
      unfold x_X7_firstOf_j36_13
      rw [em, zrem13 (by omega), ej]
      simp only [bit_1f p (show 13 * s + (i + 12) % 13 < 64 by omega), bnd_eq]
      have hbi : bgn p s i = (bs p (13 * s + i) && !bs p (13 * s + (i + 12) % 13)) := rfl
      have next : bgn p s i = false → ∀ j, j < i + 1 → bgn p s j = false := fun z j hj => by
        by_cases w : j = i
        · rw [w]; exact z
        · exact hb j (by omega)
      cases c1 : bs p (13 * s + i)
      · left
        rw [c1] at hbi
        simp only [if_true]
        cases c2 : bs p (13 * s + (i + 12) % 13)
        · exact ⟨_, rfl, by omega, by omega, by omega, next hbi⟩
        · exact ⟨_, rfl, by omega, by omega, by omega, next hbi⟩
      · rw [c1] at hbi
        cases c2 : bs p (13 * s + (i + 12) % 13)
        · right
          rw [c2] at hbi
          exact ⟨_, rfl, .inl ⟨i, rfl, by omega, hbi, hb⟩⟩
        · left
          rw [c2] at hbi
          exact ⟨_, rfl, by omega, by omega, by omega, next hbi⟩) (s := 0) 0 ⟨rfl, by omega, fun j hj => by omega⟩
  rw [b1, Option.bind_some]
  rcases b2 with ⟨f, f1, f2, f3, f4⟩ | ⟨f1, f2⟩
  · subst f1
    exact ⟨f, congrArg some (by show ((13 * s : Nat) : Int) + (f : Int) = _; omega), .inl ⟨f2, f3, f4⟩⟩
  · subst f1
    exact ⟨0, congrArg some (by show ((13 * s : Nat) : Int) = _; omega), .inr ⟨rfl, f2⟩⟩
theorem X6_firstOf {p : Int64} (hp : cw p) (hnz : p ≠ 0) : ∃ f, x_X6_firstOf p = some ((13 * (lo p / 13) + f : Nat) : Int) ∧ ((f < 13 ∧ bgn p (lo p / 13) f = true ∧ ∀ j, j < f → bgn p (lo p / 13) j = false) ∨ (f = 0 ∧ ∀ j, j < 13 → bgn p (lo p / 13) j = false)) := by
  have hl := lo_spec hnz
  have hl52 := cw_lt hp hl.1
  have e13 : ((lo p / 13 : Nat) : Int) * 13 = ((13 * (lo p / 13) : Nat) : Int) := by omega
  have hs4 : lo p / 13 < 4 := by omega
  unfold x_X6_firstOf
  rw [X6_lowestOf hl, Option.bind_some, bnd_eq, zdiv13 (by omega), e13]
  obtain ⟨y, y1, y2⟩ := bs_begin p hs4 (x := (zlushr p ((13 * (lo p / 13) : Nat) : Int)) &&& 8191) (fun j => by
    rw [← sh_i]; exact bs_ranks p hs4 j)
  rw [y1, Option.bind_some]
  by_cases e : y = 0
  · rw [if_neg (by rw [Ne, zcmp_e]; exact fun z => z e)]
    refine ⟨0, rfl, .inr ⟨rfl, fun j hj => ?_⟩⟩
    have := bs_nz.mp e j
    rw [y2] at this
    simpa [hj] using this
  · rw [if_pos (by rw [Ne, zcmp_e]; exact e)]
    have hy := lo_spec e
    rw [X6_lowestOf hy, Option.bind_some]
    have h1 := hy.1
    rw [y2, Bool.and_eq_true, decide_eq_true_eq] at h1
    refine ⟨lo y, congrArg some (by omega), .inl ⟨h1.1, h1.2, fun j hj => ?_⟩⟩
    have := hy.2 j hj
    rw [y2] at this
    have h13 : j < 13 := by omega
    simpa [h13] using this
theorem first_u {p : Int64} {s f f' : Nat} (h : (f < 13 ∧ bgn p s f = true ∧ ∀ j, j < f → bgn p s j = false) ∨ (f = 0 ∧ ∀ j, j < 13 → bgn p s j = false)) (h' : (f' < 13 ∧ bgn p s f' = true ∧ ∀ j, j < f' → bgn p s j = false) ∨ (f' = 0 ∧ ∀ j, j < 13 → bgn p s j = false)) : f = f' := by
  rcases h with ⟨a1, a2, a3⟩ | ⟨a1, a2⟩ <;> rcases h' with ⟨b1, b2, b3⟩ | ⟨b1, b2⟩
  · rcases Nat.lt_trichotomy f f' with c | c | c
    · rw [b3 f c] at a2; cases a2
    · exact c
    · rw [a3 f' c] at b2; cases b2
  · rw [b2 f a1] at a2; cases a2
  · rw [a2 f' b1] at b2; cases b2
  · rw [a1, b1]
theorem firstOf_eq {p : Int64} (hp : cw p) (hnz : p ≠ 0) : x_X6_firstOf p = x_X7_firstOf p := by
  obtain ⟨f, h1, h2⟩ := X6_firstOf hp hnz
  obtain ⟨f', h3, h4⟩ := X7_firstOf hp hnz
  rw [h1, h3, first_u h2 h4]
