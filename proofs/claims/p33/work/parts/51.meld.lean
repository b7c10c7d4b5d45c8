/-! Melds: their kinds on both sides, and what they take -/
theorem un_63 {x : Int64} (h : bs x 63 = false) : x.toInt = (un x : Int) := by
  have hm : x.toBitVec.msb = false := by rw [BitVec.msb_eq_getLsbD_last]; exact h
  show x.toBitVec.toInt = _
  rw [BitVec.toInt_eq_toNat_of_msb hm]; rfl
theorem lt_un {x : Int64} (h : bs x 63 = false) {y : Int64} {n : Nat} (hy : y.toInt = (n : Int)) : x < y ↔ un x < n := by
  rw [Int64.lt_iff_toInt_lt, un_63 h, hy]; omega
theorem le_un {x : Int64} (h : bs x 63 = false) {y : Int64} {n : Nat} (hy : y.toInt = (n : Int)) : x ≤ y ↔ un x ≤ n := by
  rw [Int64.le_iff_toInt_le, un_63 h, hy]; omega
theorem un_bits {x : Int64} {n : Nat} : un x < 2 ^ n ↔ ∀ c, n ≤ c → bs x c = false := by
  constructor
  · intro h c hc
    rw [bs_un]
    exact Nat.testBit_lt_two_pow (Nat.lt_of_lt_of_le h (Nat.pow_le_pow_right (by decide) hc))
  · intro h
    exact Nat.lt_pow_two_of_testBit _ (fun i hi => by rw [← bs_un]; exact h i hi)
theorem bs_sshr2 (n : Nat) (hn : n < 64) {x : Int64} (h : bs x 63 = false) (c : Nat) : bs (zlshr x (n : Int)) c = bs x (n + c) := by
  rcases Nat.lt_or_ge (c + n) 64 with e | e
  · exact bs_sshr n hn x e
  · rw [bs_big x (by omega)]
    rcases Nat.lt_or_ge c 64 with e2 | e2
    · unfold bs zlshr
      rw [Int64.toBitVec_shiftRight]
      show (x.toBitVec.sshiftRight (((zJ (n : Int)).toInt64 &&& 63).toBitVec.smod 64).toNat).getLsbD c = _
      have hm : x.toBitVec.msb = false := by rw [BitVec.msb_eq_getLsbD_last]; exact h
      rw [bs_sl n hn, BitVec.getLsbD_sshiftRight]
      simp [show ¬ 64 ≤ c by omega, show ¬ n + c < 64 by omega, hm]
    · exact bs_big _ e2
theorem cnt_s (S : Nat → Bool) (n : Nat) : ((cnt S (n + 1) : Nat) : Int) = ((cnt S n : Nat) : Int) + (if S n = true then 1 else 0) := by
  show (((cnt S n + if S n = true then 1 else 0) : Nat) : Int) = _
  split <;> omega
theorem X7_kindOf {p : Int64} (hp : cw p) : x_X7_kindOf p = some ((kK p : Nat) : Int) := by
  have hc := cnt_le (bs p) 64
  have h63 : bs p 63 = false := hp 63 (by omega)
  unfold x_X7_kindOf kK
  rw [X7_ones, Option.bind_some]
  by_cases e : cnt (bs p) 64 < 3
  · rw [if_pos e, if_neg (by rw [zw_eq (x := (3 : Int)) (by omega) (by omega), zwn (by omega)]; omega)]
    rfl
  · have hnz : p ≠ 0 := fun z => e (by rw [cnt_z.mpr z]; decide)
    have hl := lo_spec hnz
    have hl52 := cw_lt hp hl.1
    rw [if_neg e, if_pos (by rw [zw_eq (x := (3 : Int)) (by omega) (by omega), zwn (by omega)]; omega)]
    obtain ⟨v, v1, ⟨v2, v3⟩ | ⟨v2, v3⟩⟩ := X7_isSetOf hp hnz
    · subst v2
      rw [v1, Option.bind_some, if_neg (by decide), if_pos v3]; rfl
    · subst v2
      have e13 : ((lo p / 13 : Nat) : Int) * 13 = ((13 * (lo p / 13) : Nat) : Int) := by omega
      rw [v1, Option.bind_some, if_pos (by decide), if_neg v3, X7_lowest hl, Option.bind_some, bnd_eq, zdiv13 (by omega), e13, bnd_eq]
      generalize hs : lo p / 13 = s
      have hs4 : s < 4 := by omega
      have hb : ∀ j, bs (zlshr p ((13 * s : Nat) : Int)) j = bs p (13 * s + j) := fun j => bs_sshr2 (13 * s) (by omega) h63 j
      have hstd : zlshr p ((13 * s : Nat) : Int) < 8192 ↔ std p s := by
        rw [lt_un (y := 8192) (n := 2 ^ 13) (by rw [hb]; exact hp _ (by omega)) (by decide), un_bits]
        constructor
        · intro h c hc
          have h1 : 13 * s ≤ c := by
            rcases Nat.lt_or_ge c (13 * s) with z | z
            · have := hl.2 c (by omega)
              rw [hc] at this; cases this
            · exact z
          refine ⟨h1, ?_⟩
          rcases Nat.lt_or_ge c (13 * s + 13) with z | z
          · exact z
          · have := h (c - 13 * s) (by omega)
            rw [hb, show 13 * s + (c - 13 * s) = c by omega, hc] at this
            cases this
        · intro h j hj
          rw [hb]
          cases z : bs p (13 * s + j)
          · rfl
          · have := h _ z; omega
      by_cases e2 : std p s
      · rw [if_pos ((zcmp_l _ _).mpr (hstd.mpr e2)), if_pos e2]
        obtain ⟨e9, b1, b2⟩ := lup_for (f := fun (s25 : Int × Int) => x_X7_kindOf_b54 (zlshr p ((13 * s : Nat) : Int)) s25.1 s25.2) (fun i t => t = (((cnt (bgn p s) i : Nat) : Int), (i : Int))) (fun e => e = ((cnt (bgn p s) 13 : Nat) : Int)) 13 (fun i t hi ht => by
          subst ht
          refine ⟨_, ?_, rfl⟩
          show x_X7_kindOf_b54 _ ((cnt (bgn p s) i : Nat) : Int) (i : Int) = _
          unfold x_X7_kindOf_b54 x_X7_kindOf_j78_54
          have em : (i : Int) + 13 - 1 = ((i + 12 : Nat) : Int) := by omega
          have ei : ((i + 1 : Nat) : Int) = (i : Int) + 1 := by omega
          rw [if_neg (by rw [zw_eq (x := (13 : Int)) (by omega) (by omega), zwn (by omega)]; omega), em, zrem13 (by omega), cnt_s, ei]
          have hbi : bgn p s i = (bs p (13 * s + i) && !bs p (13 * s + (i + 12) % 13)) := rfl
          simp only [bit_1f (zlshr p ((13 * s : Nat) : Int)) (show i < 64 by omega), bit_1f (zlshr p ((13 * s : Nat) : Int)) (show (i + 12) % 13 < 64 by omega), hb, bnd_eq, hbi]
          cases c1 : bs p (13 * s + i) <;> cases c2 : bs p (13 * s + (i + 12) % 13) <;> rfl) (fun t ht => by
          subst ht
          refine ⟨_, ?_, rfl⟩
          show x_X7_kindOf_b54 _ _ _ = _
          unfold x_X7_kindOf_b54
          rw [if_pos (by show zw 13 ≤ zw ((13 : Nat) : Int); decide)]) (s := (0, 0)) rfl
        have := cnt_le (bgn p s) 13
        rw [b1, b2, Option.bind_some, zw_eq (x := (1 : Int)) (by omega) (by omega), zwn (by omega)]
        by_cases e3 : cnt (bgn p s) 13 ≤ 1
        · rw [if_pos e3, if_neg (by omega)]; rfl
        · rw [if_neg e3, if_pos (by omega)]; rfl
      · rw [if_neg (fun z => e2 (hstd.mp ((zcmp_l _ _).mp z))), if_neg e2]
        rfl
theorem kK_1 {p : Int64} (h3 : 3 ≤ cnt (bs p) 64) (h : rkd p (lo p)) : kK p = 1 := by
  unfold kK
  rw [if_neg (by omega), if_pos h]
theorem kK_0 {p : Int64} (h : ¬ rkd p (lo p)) (h2 : ¬ std p (lo p / 13)) : kK p = 0 := by
  unfold kK
  rw [if_neg h, if_neg h2]
  split <;> rfl
theorem c3_nz {p : Int64} (h3 : 3 ≤ cnt (bs p) 64) : p ≠ 0 := fun z => by rw [cnt_z.mpr z] at h3; omega
theorem std_lo {p : Int64} {s : Nat} (hnz : p ≠ 0) (h : std p s) : lo p / 13 = s := by
  have := h _ (lo_spec hnz).1
  omega
theorem kK_r {p : Int64} {s : Nat} (h3 : 3 ≤ cnt (bs p) 64) (h : ¬ rkd p (lo p)) (h2 : std p s) : kK p = if cnt (bgn p s) 13 ≤ 1 then 2 else 0 := by
  have := std_lo (c3_nz h3) h2
  unfold kK
  rw [if_neg (by omega), if_neg h, this, if_pos h2]
theorem nrk {p : Int64} {a b k : Nat} (ha : bs p a = true) (hb : bs p b = true) (h : a % 13 ≠ b % 13) : ¬ rkd p k := fun z => h ((z a ha).trans (z b hb).symm)
theorem nst {p : Int64} {a b s : Nat} (ha : bs p a = true) (hb : bs p b = true) (h : a / 13 ≠ b / 13) : ¬ std p s := fun z => by
  have := z a ha
  have := z b hb
  omega
/-- the ranks of a run -/
def rb (f : Nat) : Nat → Nat → Bool
  | 0, _ => false
  | n + 1, j => rb f n j || decide (j = (f + n) % 13)
theorem rb_i {f j : Nat} : ∀ {n : Nat}, rb f n j = true ↔ ∃ i, i < n ∧ j = (f + i) % 13
  | 0 => by
    constructor
    · intro h; cases h
    · rintro ⟨i, h, -⟩; omega
  | n + 1 => by
    show (rb f n j || decide (j = (f + n) % 13)) = true ↔ _
    rw [Bool.or_eq_true_iff, rb_i, decide_eq_true_eq]
    constructor
    · rintro (⟨i, h1, h2⟩ | h)
      · exact ⟨i, by omega, h2⟩
      · exact ⟨n, by omega, h⟩
    · rintro ⟨i, h1, h2⟩
      by_cases e : i = n
      · subst e; exact .inr h2
      · exact .inl ⟨i, by omega, h2⟩
theorem bs_run2 {s f n : Nat} (hs : s < 4) {j : Nat} (hj : j < 13) : bs (run s f n) (13 * s + j) = rb f n j := by
  apply Bool.eq_iff_iff.mpr
  rw [bs_run hs, rb_i]
  constructor
  · rintro ⟨i, h1, h2⟩; exact ⟨i, h1, by omega⟩
  · rintro ⟨i, h1, h2⟩; exact ⟨i, h1, by omega⟩
theorem tb_1 : ∀ f, f < 13 → ∀ n, n < 14 → 3 ≤ n → ∀ r, r < 13 → rb f n r = false → (decide (cnt (fun j => (rb f n j || decide (j = r)) && !(rb f n ((j + 12) % 13) || decide ((j + 12) % 13 = r))) 13 ≤ 1) = decide (n ≠ 13 ∧ (r = (f + 12) % 13 ∨ r = (f + n) % 13))) := by decide +kernel
theorem tb_2 : ∀ f, f < 13 → ∀ n, n < 13 → 3 ≤ n → ∀ j, j < 13 → (rb f n j && !rb f n ((j + 12) % 13)) = decide (j = f) := by decide +kernel
theorem tb_3 : ∀ f, f < 13 → ∀ j, j < 13 → rb f 13 j = true := by decide +kernel
theorem tb_4 : ∀ f, f < 13 → ∀ n, n < 14 → 3 ≤ n → cnt (fun j => rb f n j && !rb f n ((j + 12) % 13)) 13 ≤ 1 := by decide +kernel
theorem std_run {s f n : Nat} (hs : s < 4) : std (run s f n) s := fun c hc => by
  obtain ⟨i, -, h⟩ := (bs_run hs c).mp hc
  omega
theorem bgn_run {s f n : Nat} (hs : s < 4) {j : Nat} (hj : j < 13) : bgn (run s f n) s j = (rb f n j && !rb f n ((j + 12) % 13)) := by
  unfold bgn
  rw [bs_run2 hs hj, bs_run2 hs (by omega)]
theorem nrk_run {s f n k : Nat} (hs : s < 4) (hn : 2 ≤ n) : ¬ rkd (run s f n) k :=
  nrk (a := 13 * s + (f + 0) % 13) (b := 13 * s + (f + 1) % 13) ((bs_run hs _).mpr ⟨0, by omega, rfl⟩) ((bs_run hs _).mpr ⟨1, by omega, rfl⟩) (by omega)
theorem kK_run {s f n : Nat} (hs : s < 4) (hf : f < 13) (h3 : 3 ≤ n) (hn : n ≤ 13) : kK (run s f n) = 2 := by
  have hc := cnt_run (f := f) hs hn
  rw [kK_r (by omega) (nrk_run hs (by omega)) (std_run hs), if_pos]
  rw [cnt_congr (fun j hj => bgn_run hs hj)]
  exact tb_4 f hf n (by omega) h3
theorem rkd_set {m : Int64} (h : isSet m) : rkd m (lo m) ∧ kK m = 1 := by
  obtain ⟨r, h1, h2, h3⟩ := h
  have hl := (lo_spec (c3_nz h3)).1
  have : rkd m (lo m) := fun c hc => (h2 c hc).2.trans (h2 _ hl).2.symm
  exact ⟨this, kK_1 h3 this⟩
/-- a meld on the table -/
def tM (m : Int64) : Prop := isSet m ∨ ∃ s f n, s < 4 ∧ f < 13 ∧ 3 ≤ n ∧ n ≤ 13 ∧ m = run s f n
theorem tM_of {m : Int64} (h : isSet m ∨ isRun m) : tM m := by
  rcases h with h | ⟨s, f, n, h1, h2, h3, h4, h5⟩
  · exact .inl h
  · exact .inr ⟨s, f, n, h1, h2, h3, by omega, h5⟩
theorem tM_cw {m : Int64} (h : tM m) : cw m := fun c hc => by
  cases e : bs m c
  · rfl
  · rcases h with ⟨r, -, h2, -⟩ | ⟨s, f, n, h1, h2, h3, h4, h5⟩
    · have := h2 c e; omega
    · rw [h5] at e
      obtain ⟨i, -, h⟩ := (bs_run h1 c).mp e
      omega
theorem tM_3 {m : Int64} (h : tM m) : 3 ≤ cnt (bs m) 64 := by
  rcases h with ⟨r, -, -, h3⟩ | ⟨s, f, n, h1, h2, h3, h4, h5⟩
  · exact h3
  · rw [h5, cnt_run h1 h4]; exact h3
theorem kK_kd {m : Int64} (h : isSet m ∨ isRun m) : kK m = kd m := by
  rcases h with h | h
  · rw [(rkd_set h).2, kd_1 h]
  · rw [kd_2 h]
    obtain ⟨s, f, n, h1, h2, h3, h4, h5⟩ := h
    rw [h5, kK_run h1 h2 h3 (by omega)]
theorem cnt_rank_4 {m : Int64} {r : Nat} (hr : r < 13) (h2 : ∀ c, bs m c = true → c < 52 ∧ c % 13 = r) : cnt (bs m) 64 ≤ 4 ∧ (cnt (bs m) 64 = 4 → ∀ i, i < 4 → bs m (13 * i + r) = true) ∧ (3 ≤ cnt (bs m) 64 → ∃ a b, bs m a = true ∧ bs m b = true ∧ a / 13 ≠ b / 13) := by
  have hc := cnt_rank hr h2
  rw [hc]
  have hi : ∀ i, i < 4 → i = 0 ∨ i = 1 ∨ i = 2 ∨ i = 3 := fun i hi => by omega
  cases c0 : bs m r <;> cases c1 : bs m (13 + r) <;> cases c2 : bs m (26 + r) <;> cases c3 : bs m (39 + r) <;> simp only [if_true, Bool.false_eq_true, if_false]
  all_goals refine ⟨by omega, fun h => ?_, fun h => ?_⟩
  all_goals first
    | omega
    | exact ⟨_, _, c0, c1, by omega⟩
    | exact ⟨_, _, c0, c2, by omega⟩
    | exact ⟨_, _, c1, c2, by omega⟩
    | (intro i hi2
       rcases hi i hi2 with z | z | z | z <;> subst z
       · rw [show 13 * 0 + r = r by omega]; exact c0
       · rw [show 13 * 1 + r = 13 + r by omega]; exact c1
       · rw [show 13 * 2 + r = 26 + r by omega]; exact c2
       · rw [show 13 * 3 + r = 39 + r by omega]; exact c3)
theorem bs_add (m : Int64) {c : Nat} (hc : c < 64) (j : Nat) : bs (m ||| one c) j = (bs m j || decide (j = c)) := by
  rw [bs_or, bs_one2 hc]
theorem cnt_add {m : Int64} {c : Nat} (hc : c < 64) (h : bs m c = false) : cnt (bs (m ||| one c)) 64 = cnt (bs m) 64 + 1 := by
  have : one c &&& m = 0 := (dj_iff _ _).mpr (fun j hj => by
    rw [bs_one2 hc, decide_eq_true_eq] at hj
    rw [hj]; exact h)
  rw [cnt_dj this, cnt_one hc]
theorem cw_add {m : Int64} {c : Nat} (hc : c < 52) (h : cw m) : cw (m ||| one c) := fun j hj => by
  rw [bs_add m (by omega), h j hj]
  have : j ≠ c := by omega
  simp [this]
theorem add_set {m : Int64} {r c : Nat} (hr : r < 13) (h2 : ∀ c, bs m c = true → c < 52 ∧ c % 13 = r) (h3 : 3 ≤ cnt (bs m) 64) (hc : c < 52) (hn : bs m c = false) : (c % 13 = r → kK (m ||| one c) = 1 ∧ rkd (m ||| one c) (lo (m ||| one c)) ∧ tM (m ||| one c)) ∧ (c % 13 ≠ r → kK (m ||| one c) = 0 ∧ ¬ rkd (m ||| one c) (lo (m ||| one c))) := by
  have hcn := cnt_add (by omega) hn
  have h3' : 3 ≤ cnt (bs (m ||| one c)) 64 := by omega
  obtain ⟨-, -, q3⟩ := cnt_rank_4 hr h2
  obtain ⟨a, b, ha, hb, hab⟩ := q3 h3
  have up : ∀ j, bs m j = true → bs (m ||| one c) j = true := fun j hj => by rw [bs_add m (by omega), hj]; rfl
  have hcc : bs (m ||| one c) c = true := by rw [bs_add m (by omega)]; simp
  constructor
  · intro e
    have hall : ∀ j, bs (m ||| one c) j = true → j < 52 ∧ j % 13 = r := fun j hj => by
      rw [bs_add m (by omega), Bool.or_eq_true_iff, decide_eq_true_eq] at hj
      rcases hj with hj | hj
      · exact h2 j hj
      · subst hj; exact ⟨hc, e⟩
    have hset : isSet (m ||| one c) := ⟨r, hr, hall, h3'⟩
    exact ⟨(rkd_set hset).2, (rkd_set hset).1, .inl hset⟩
  · intro e
    have hnr : ¬ rkd (m ||| one c) (lo (m ||| one c)) := nrk (up a ha) hcc (by rw [(h2 a ha).2]; exact fun z => e z.symm)
    exact ⟨kK_0 hnr (nst (up a ha) (up b hb) hab), hnr⟩
theorem add_run {s f n c : Nat} (hs : s < 4) (hf : f < 13) (h3 : 3 ≤ n) (hn : n ≤ 13) (hc : c < 52) (hb : bs (run s f n) c = false) : (kK (run s f n ||| one c) ≠ 0 ↔ n ≠ 13 ∧ c / 13 = s ∧ (c % 13 = (f + 12) % 13 ∨ c % 13 = (f + n) % 13)) ∧ (kK (run s f n ||| one c) ≠ 0 → tM (run s f n ||| one c)) := by
  have hcn := cnt_add (m := run s f n) (c := c) (by omega) hb
  rw [cnt_run hs hn] at hcn
  have up : ∀ j, bs (run s f n) j = true → bs (run s f n ||| one c) j = true := fun j hj => by rw [bs_add _ (by omega), hj]; rfl
  have hcc : bs (run s f n ||| one c) c = true := by rw [bs_add _ (by omega)]; simp
  have a0 := up _ ((bs_run hs (13 * s + (f + 0) % 13)).mpr ⟨0, by omega, rfl⟩)
  have a1 := up _ ((bs_run hs (13 * s + (f + 1) % 13)).mpr ⟨1, by omega, rfl⟩)
  have hnr : ¬ rkd (run s f n ||| one c) (lo (run s f n ||| one c)) := nrk a0 a1 (by omega)
  by_cases e : c / 13 = s
  · have hst : std (run s f n ||| one c) s := fun j hj => by
      rw [bs_add _ (by omega), Bool.or_eq_true_iff, decide_eq_true_eq] at hj
      rcases hj with hj | hj
      · exact std_run hs j hj
      · omega
    obtain ⟨r, hr, hcr⟩ : ∃ r, r < 13 ∧ c = 13 * s + r := ⟨c % 13, by omega, by omega⟩
    subst hcr
    have hm : (13 * s + r) % 13 = r := by omega
    have hrb : rb f n r = false := by rw [← bs_run2 (f := f) (n := n) hs hr]; exact hb
    have hk := kK_r (by omega) hnr hst
    have hcg : cnt (bgn (run s f n ||| one (13 * s + r)) s) 13 = cnt (fun j => (rb f n j || decide (j = r)) && !(rb f n ((j + 12) % 13) || decide ((j + 12) % 13 = r))) 13 := cnt_congr (fun j hj => by
      unfold bgn
      rw [bs_add _ (by omega), bs_add _ (by omega), bs_run2 hs hj, bs_run2 hs (by omega)]
      have q1 : (13 * s + j = 13 * s + r) ↔ j = r := by omega
      have q2 : (13 * s + (j + 12) % 13 = 13 * s + r) ↔ (j + 12) % 13 = r := by omega
      rw [decide_eq_decide.mpr q1, decide_eq_decide.mpr q2])
    have ht := tb_1 f hf n (by omega) h3 r hr hrb
    rw [← hcg, decide_eq_decide] at ht
    rw [hm]
    have hiff : kK (run s f n ||| one (13 * s + r)) ≠ 0 ↔ n ≠ 13 ∧ (r = (f + 12) % 13 ∨ r = (f + n) % 13) := by
      rw [hk, ← ht]
      split
      · rename_i z; exact ⟨fun _ => z, fun _ => by decide⟩
      · rename_i z; exact ⟨fun w => absurd rfl w, fun w => absurd w z⟩
    refine ⟨hiff.trans ⟨fun z => ⟨z.1, e, z.2⟩, fun z => ⟨z.1, z.2.2⟩⟩, fun z => ?_⟩
    obtain ⟨z1, z2⟩ := hiff.mp z
    right
    have hbits : ∀ f', (∀ j, j < 13 → rb f' (n + 1) j = (rb f n j || decide (j = r))) → run s f n ||| one (13 * s + r) = run s f' (n + 1) := fun f' hf' => by
      apply bs_ext
      intro j _
      rw [bs_add _ (by omega)]
      by_cases w : 13 * s ≤ j ∧ j < 13 * s + 13
      · obtain ⟨k, hk1, hk2⟩ : ∃ k, k < 13 ∧ j = 13 * s + k := ⟨j - 13 * s, by omega, by omega⟩
        subst hk2
        rw [bs_run2 hs hk1, bs_run2 hs hk1, hf' k hk1]
        have q1 : (13 * s + k = 13 * s + r) ↔ k = r := by omega
        rw [decide_eq_decide.mpr q1]
      · have q : ∀ f n, bs (run s f n) j = false := fun f n => by
          cases y : bs (run s f n) j
          · rfl
          · exact absurd (std_run hs j y) w
        have q2 : j ≠ 13 * s + r := by omega
        rw [q, q]; simp [q2]
    rcases z2 with z2 | z2
    · refine ⟨s, (f + 12) % 13, n + 1, hs, by omega, by omega, by omega, hbits _ (fun j hj => ?_)⟩
      apply Bool.eq_iff_iff.mpr
      rw [rb_i, Bool.or_eq_true_iff, rb_i, decide_eq_true_eq]
      constructor
      · rintro ⟨i, i1, i2⟩
        by_cases i0 : i = 0
        · subst i0; right; omega
        · left; exact ⟨i - 1, by omega, by omega⟩
      · rintro (⟨i, i1, i2⟩ | i2)
        · exact ⟨i + 1, by omega, by omega⟩
        · exact ⟨0, by omega, by omega⟩
    · refine ⟨s, f, n + 1, hs, hf, by omega, by omega, hbits _ (fun j hj => ?_)⟩
      show (rb f n j || decide (j = (f + n) % 13)) = _
      rw [z2]
  · have hns : ¬ std (run s f n ||| one c) (lo (run s f n ||| one c) / 13) := nst a0 hcc (by omega)
    rw [kK_0 hnr hns]
    exact ⟨⟨fun z => absurd rfl z, fun z => absurd z.2.1 e⟩, fun z => absurd rfl z⟩
theorem tM_add {m : Int64} (h : tM m) {c : Nat} (hc : c < 52) (hn : bs m c = false) (hk : kK (m ||| one c) ≠ 0) : tM (m ||| one c) := by
  rcases h with ⟨r, h1, h2, h3⟩ | ⟨s, f, n, h1, h2, h3, h4, h5⟩
  · obtain ⟨q1, q2⟩ := add_set h1 h2 h3 hc hn
    by_cases e : c % 13 = r
    · exact (q1 e).2.2
    · exact absurd (q2 e).1 hk
  · subst h5
    exact (add_run h1 h2 h3 h4 hc hn).2 hk
/-- where a run begins, in the model -/
theorem first_run {s f n : Nat} (hs : s < 4) (hf : f < 13) (h3 : 3 ≤ n) (hn : n ≤ 13) : x_X7_firstOf (run s f n) = some ((13 * s + (if n = 13 then 0 else f) : Nat) : Int) ∧ lo (run s f n) / 13 = s := by
  have hc := cnt_run (f := f) hs hn
  have hnz : run s f n ≠ 0 := c3_nz (by omega)
  have hcw : cw (run s f n) := tM_cw (.inr ⟨s, f, n, hs, hf, h3, hn, rfl⟩)
  have hl := std_lo hnz (std_run hs)
  obtain ⟨g, g1, g2⟩ := X7_firstOf hcw hnz
  rw [hl] at g1 g2
  refine ⟨?_, hl⟩
  rw [g1]
  by_cases e : n = 13
  · rw [if_pos e]
    subst e
    have hall : ∀ j, j < 13 → bgn (run s f 13) s j = false := fun j hj => by
      rw [bgn_run hs hj, tb_3 f hf j hj, tb_3 f hf _ (by omega)]; rfl
    rcases g2 with ⟨a1, a2, a3⟩ | ⟨a1, a2⟩
    · rw [hall g a1] at a2; cases a2
    · rw [a1]
  · rw [if_neg e]
    have hall : ∀ j, j < 13 → bgn (run s f n) s j = decide (j = f) := fun j hj => by
      rw [bgn_run hs hj, tb_2 f hf n (by omega) h3 j hj]
    rcases g2 with ⟨a1, a2, a3⟩ | ⟨a1, a2⟩
    · rw [hall g a1, decide_eq_true_eq] at a2
      rw [a2]
    · have := a2 f hf
      rw [hall f hf] at this
      simp at this
/-- what the model says a meld takes is what makes a meld in the class -/
theorem X7_takes {m : Int64} (h : tM m) {c : Nat} (hc : c < 52) (hn : bs m c = false) : x_X7_takes m (c : Int) = some (if kK (m ||| one c) = 0 then 0 else 1) := by
  have hcw := tM_cw h
  have hm3 := tM_3 h
  have hnz := c3_nz hm3
  have hcl := cnt_le (bs m) 64
  unfold x_X7_takes
  rcases h with ⟨r, h1, h2, h3⟩ | ⟨s, f, n, h1, h2, h3, h4, h5⟩
  · obtain ⟨q1, q2⟩ := add_set h1 h2 h3 hc hn
    obtain ⟨t1, t2, -⟩ := cnt_rank_4 h1 h2
    obtain ⟨v, v1, ⟨v2, v3⟩ | ⟨v2, v3⟩⟩ := X7_isSetOf hcw hnz
    · subst v2
      rw [v1, Option.bind_some, if_neg (by decide), X7_ones, Option.bind_some, zwn (by omega), zw_eq (x := (3 : Int)) (by omega) (by omega)]
      by_cases e3 : cnt (bs m) 64 = 3
      · rw [if_neg (by omega)]
        show (x_X7_isSetOf (m ||| one c)).bind _ = _
        obtain ⟨w, w1, ⟨w2, w3⟩ | ⟨w2, w3⟩⟩ := X7_isSetOf (cw_add hc hcw) (p := m ||| one c) (c3_nz (by rw [cnt_add (by omega) hn]; omega))
        · subst w2
          rw [w1, Option.bind_some, if_neg (by decide)]
          by_cases e : c % 13 = r
          · rw [(q1 e).1]; rfl
          · exact absurd w3 (q2 e).2
        · subst w2
          rw [w1, Option.bind_some, if_pos (by decide)]
          by_cases e : c % 13 = r
          · exact absurd (q1 e).2.1 w3
          · rw [(q2 e).1]; rfl
      · rw [if_pos (by omega)]
        have e4 := t2 (by omega)
        have e : c % 13 ≠ r := fun z => by
          have := e4 (c / 13) (by omega)
          rw [show 13 * (c / 13) + r = c by omega, hn] at this
          cases this
        rw [(q2 e).1]; rfl
    · exact absurd (rkd_set ⟨r, h1, h2, h3⟩).1 v3
  · obtain ⟨q1, -⟩ := add_run h1 h2 h3 h4 hc (by rw [← h5]; exact hn)
    obtain ⟨g1, g2⟩ := first_run h1 h2 h3 h4
    have hcn := cnt_run (f := f) h1 h4
    obtain ⟨v, v1, ⟨v2, v3⟩ | ⟨v2, v3⟩⟩ := X7_isSetOf hcw hnz
    · rw [h5] at v3; exact absurd v3 (nrk_run h1 (by omega))
    · subst v2
      have hl := lo_spec hnz
      have e13 : ((lo m / 13 : Nat) : Int) * 13 = ((13 * s : Nat) : Int) := by rw [h5, g2]; omega
      have hl52 := cw_lt hcw hl.1
      rw [v1, Option.bind_some, if_pos (by decide), X7_lowest hl, Option.bind_some, bnd_eq, zdiv13 (a := lo m) (by omega), e13, X7_ones, Option.bind_some]
      subst h5
      rw [hcn, zwn (by omega), zw_eq (x := (13 : Int)) (by omega) (by omega)]
      by_cases e : n = 13
      · rw [if_pos (by omega), if_pos]
        false_or_by_contra
        rename_i z
        exact (q1.mp z).1 e
      · rw [if_neg (by omega), zdiv13 (a := c) (by omega)]
        have ec : ((c / 13 : Nat) : Int) * 13 = ((13 * (c / 13) : Nat) : Int) := by omega
        rw [ec, zwn (by omega), zwn (by omega)]
        by_cases e2 : c / 13 = s
        · rw [if_pos (by omega), g1, if_neg e, Option.bind_some, bnd_eq, bnd_eq, zrem13 (by omega), zrem13 (by omega)]
          rw [show (13 * s + f) % 13 = f by omega, show (f : Int) + 13 - 1 = ((f + 12 : Nat) : Int) by omega, zrem13 (by omega), zwn (by omega), zwn (by omega)]
          by_cases e3 : c % 13 = (f + 12) % 13
          · rw [if_pos (by omega), if_neg]
            exact q1.mpr ⟨e, e2, .inl e3⟩
          · rw [if_neg (by omega), Option.bind_some, show (f : Int) + (n : Int) = ((f + n : Nat) : Int) by omega, zrem13 (by omega), zwn (by omega)]
            by_cases e4 : c % 13 = (f + n) % 13
            · rw [if_neg (by omega), if_neg]
              exact q1.mpr ⟨e, e2, .inr e4⟩
            · rw [if_pos (by omega), if_pos]
              false_or_by_contra
              rename_i z
              rcases (q1.mp z).2.2 with y | y
              · exact e3 y
              · exact e4 y
        · rw [if_neg (by omega), if_pos]
          false_or_by_contra
          rename_i z
          exact e2 (q1.mp z).2.1
