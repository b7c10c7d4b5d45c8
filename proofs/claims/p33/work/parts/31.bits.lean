/-! Bits of a long -/
def bs (x : Int64) (c : Nat) : Bool := x.toBitVec.getLsbD c
theorem bs_ext {x y : Int64} (h : ∀ c, c < 64 → bs x c = bs y c) : x = y := Int64.toBitVec_inj.mp (BitVec.eq_of_getLsbD_eq (fun i hi => h i hi))
theorem bs_or (x y : Int64) (c : Nat) : bs (x ||| y) c = (bs x c || bs y c) := by unfold bs; rw [Int64.toBitVec_or, BitVec.getLsbD_or]
theorem bs_and (x y : Int64) (c : Nat) : bs (x &&& y) c = (bs x c && bs y c) := by unfold bs; rw [Int64.toBitVec_and, BitVec.getLsbD_and]
theorem bs_xor (x y : Int64) (c : Nat) : bs (x ^^^ y) c = (bs x c ^^ bs y c) := by unfold bs; rw [Int64.toBitVec_xor, BitVec.getLsbD_xor]
theorem bs_big (x : Int64) {c : Nat} (h : 64 ≤ c) : bs x c = false := BitVec.getLsbD_of_ge _ _ h
theorem bs_0 (c : Nat) : bs 0 c = false := BitVec.getLsbD_zero
theorem bs_m1 : ∀ c, c < 64 → bs (-1) c = true := by decide +kernel
theorem bs_dif (x y : Int64) (c : Nat) : bs (x &&& (y ^^^ (-1))) c = (bs x c && !bs y c) := by
  rw [bs_and, bs_xor]
  rcases Nat.lt_or_ge c 64 with h | h
  · rw [bs_m1 c h]; cases bs y c <;> rfl
  · rw [bs_big x h]; rfl
theorem bs_lt {x : Int64} {c : Nat} (h : bs x c = true) : c < 64 := by
  rcases Nat.lt_or_ge c 64 with h2 | h2
  · exact h2
  · rw [bs_big x h2] at h; cases h
theorem bs_nz {x : Int64} : x = 0 ↔ ∀ c, bs x c = false := by
  constructor
  · intro h c; rw [h]; exact bs_0 c
  · intro h; exact bs_ext (fun c _ => by rw [h c, bs_0])
theorem bs_sl : ∀ n : Nat, n < 64 → (((zJ (n : Int)).toInt64 &&& 63).toBitVec.smod 64).toNat = n := by decide +kernel
theorem bs_su : ∀ n : Nat, n < 64 → (((zJ (n : Int)).toInt64.toUInt64 &&& Int64.toUInt64 63).toBitVec % 64).toNat = n := by decide +kernel
theorem bs_shl (n : Nat) (hn : n < 64) (x : Int64) {c : Nat} (hc : c < 64) : bs (zlshl x (n : Int)) c = (decide (n ≤ c) && bs x (c - n)) := by
  unfold bs zlshl
  rw [Int64.toBitVec_shiftLeft]
  show (x.toBitVec <<< (((zJ (n : Int)).toInt64 &&& 63).toBitVec.smod 64).toNat).getLsbD c = _
  rw [bs_sl n hn, BitVec.getLsbD_shiftLeft]
  rcases Nat.lt_or_ge c n with h | h
  · simp [h, Nat.not_le.mpr h]
  · simp [hc, h, Nat.not_lt.mpr h]
theorem bs_ushr (n : Nat) (hn : n < 64) (x : Int64) (c : Nat) : bs (zlushr x (n : Int)) c = bs x (n + c) := by
  unfold zlushr
  show (x.toUInt64 >>> ((zJ (n : Int)).toInt64.toUInt64 &&& Int64.toUInt64 63)).toBitVec.getLsbD c = x.toUInt64.toBitVec.getLsbD (n + c)
  rw [UInt64.toBitVec_shiftRight]
  show (x.toUInt64.toBitVec >>> (((zJ (n : Int)).toInt64.toUInt64 &&& Int64.toUInt64 63).toBitVec % 64).toNat).getLsbD c = _
  rw [bs_su n hn, BitVec.getLsbD_ushiftRight]
theorem bs_sshr (n : Nat) (hn : n < 64) (x : Int64) {c : Nat} (hc : c + n < 64) : bs (zlshr x (n : Int)) c = bs x (n + c) := by
  unfold bs zlshr
  rw [Int64.toBitVec_shiftRight]
  show (x.toBitVec.sshiftRight (((zJ (n : Int)).toInt64 &&& 63).toBitVec.smod 64).toNat).getLsbD c = _
  rw [bs_sl n hn, BitVec.getLsbD_sshiftRight]
  simp [show ¬ 64 ≤ c by omega, show n + c < 64 by omega]
theorem bs_one (n : Nat) (hn : n < 64) (c : Nat) : bs (zlshl 1 (n : Int)) c = decide (c = n) := by
  rcases Nat.lt_or_ge c 64 with h | h
  · rw [bs_shl n hn 1 h]
    have h1 : ∀ k, bs 1 k = decide (k = 0) := by
      intro k
      unfold bs
      show (1#64).getLsbD k = _
      rw [BitVec.getLsbD_one]
      simp
    rw [h1]
    by_cases e : c = n
    · subst e; simp
    · simp only [e, decide_false, Bool.and_eq_false_iff, decide_eq_false_iff_not]
      omega
  · rw [bs_big _ h]
    have : c ≠ n := by omega
    simp [this]
theorem bs_neg (x : Int64) {c : Nat} (hc : c < 64) : bs (-x) c = (bs x c ^^ decide (∃ j, j < c ∧ bs x j = true)) := by
  unfold bs
  rw [Int64.toBitVec_neg, BitVec.getLsbD_neg]
  simp [hc]
theorem bs_pred (x : Int64) {c : Nat} (hc : c < 64) : bs (x - 1) c = !(bs x c ^^ decide (∃ j, j < c ∧ bs x j = true)) := by
  have h : (x - 1).toBitVec = ~~~(-x).toBitVec := by
    rw [Int64.toBitVec_sub, Int64.toBitVec_neg, BitVec.not_neg]; rfl
  rw [← bs_neg x hc]
  unfold bs
  rw [h, BitVec.getLsbD_not]
  simp [hc]
/-- the least one -/
def isLow (x : Int64) (k : Nat) : Prop := bs x k = true ∧ ∀ j, j < k → bs x j = false
theorem low_ex {x : Int64} (h : x ≠ 0) : ∃ k, isLow x k := by
  have h1 : ∃ k, bs x k = true := by
    false_or_by_contra
    rename_i h2
    exact h (bs_nz.mpr (fun c => by cases e : bs x c <;> first | rfl | exact absurd ⟨c, e⟩ h2))
  obtain ⟨k, hk⟩ := h1
  have : ∀ n, (∃ k, k < n ∧ bs x k = true) → ∃ k, isLow x k := by
    intro n
    induction n with
    | zero => rintro ⟨k, h, -⟩; omega
    | succ n ih =>
      rintro ⟨k, h, hk⟩
      by_cases e : ∃ j, j < n ∧ bs x j = true
      · exact ih e
      · exact ⟨k, hk, fun j hj => by cases e2 : bs x j <;> first | rfl | exact absurd ⟨j, by omega, e2⟩ e⟩
  exact this (k + 1) ⟨k, by omega, hk⟩
theorem low_u {x : Int64} {k j : Nat} (h : isLow x k) (h2 : isLow x j) : k = j := by
  rcases Nat.lt_trichotomy k j with c | c | c
  · have := h2.2 k c; rw [h.1] at this; cases this
  · exact c
  · have := h.2 j c; rw [h2.1] at this; cases this
theorem low_e {x : Int64} {k : Nat} (h : isLow x k) (c : Nat) : decide (∃ j, j < c ∧ bs x j = true) = decide (k < c) := by
  apply decide_eq_decide.mpr
  constructor
  · rintro ⟨j, h1, h2⟩
    rcases Nat.lt_or_ge k c with c2 | c2
    · exact c2
    · rw [h.2 j (by omega)] at h2; cases h2
  · intro h1; exact ⟨k, h1, h.1⟩
theorem low_lt {x : Int64} {k : Nat} (h : isLow x k) : k < 64 := bs_lt h.1
/-- without its least one -/
theorem bs_clr {x : Int64} {k : Nat} (h : isLow x k) (c : Nat) : bs (x &&& (x - 1)) c = (bs x c && decide (c ≠ k)) := by
  rw [bs_and]
  rcases Nat.lt_or_ge c 64 with hc | hc
  · rw [bs_pred x hc, low_e h]
    rcases Nat.lt_trichotomy c k with e | e | e
    · rw [h.2 c e]; rfl
    · subst e; simp [h.1]
    · have : c ≠ k := by omega
      simp [e, this]
  · rw [bs_big x hc]; rfl
theorem bs_iso {x : Int64} {k : Nat} (h : isLow x k) (c : Nat) : bs (x &&& -x) c = decide (c = k) := by
  rw [bs_and]
  rcases Nat.lt_or_ge c 64 with hc | hc
  · rw [bs_neg x hc, low_e h]
    rcases Nat.lt_trichotomy c k with e | e | e
    · have : c ≠ k := by omega
      rw [h.2 c e]; simp [this]
    · subst e; simp [h.1]
    · have : c ≠ k := by omega
      simp [e, this]
  · have := low_lt h
    have : c ≠ k := by omega
    rw [bs_big x hc]; simp [this]
theorem bs_below {x : Int64} {k : Nat} (h : isLow x k) {c : Nat} (hc : c < 64) : bs ((x &&& -x) - 1) c = decide (c < k) := by
  have hl : isLow (x &&& -x) k := ⟨by rw [bs_iso h]; simp, fun j hj => by rw [bs_iso h]; simp; omega⟩
  rw [bs_pred _ hc, low_e hl, bs_iso h]
  rcases Nat.lt_trichotomy c k with e | e | e
  · have : c ≠ k := by omega
    simp [e, this]; omega
  · subst e; simp
  · have : c ≠ k := by omega
    have : ¬ c < k := by omega
    simp [e, *]
/-- how many below n -/
def cnt (S : Nat → Bool) : Nat → Nat
  | 0 => 0
  | n + 1 => cnt S n + if S n then 1 else 0
/-- the sum of f over those below n -/
def psum (f : Nat → Nat) (S : Nat → Bool) : Nat → Nat
  | 0 => 0
  | n + 1 => psum f S n + if S n then f n else 0
theorem cnt_psum (S : Nat → Bool) : ∀ n, cnt S n = psum (fun _ => 1) S n
  | 0 => rfl
  | n + 1 => by unfold cnt psum; rw [cnt_psum S n]
theorem psum_congr {f : Nat → Nat} {S T : Nat → Bool} : ∀ {n : Nat}, (∀ c, c < n → S c = T c) → psum f S n = psum f T n
  | 0, _ => rfl
  | n + 1, h => by unfold psum; rw [psum_congr (fun c hc => h c (by omega)), h n (by omega)]
theorem psum_add {f : Nat → Nat} {S T : Nat → Bool} : ∀ {n : Nat}, (∀ c, c < n → S c = true → T c = false) → psum f (fun c => S c || T c) n = psum f S n + psum f T n
  | 0, _ => rfl
  | n + 1, h => by
    unfold psum
    rw [psum_add (fun c hc => h c (by omega))]
    have := h n (by omega)
    cases e : S n <;> cases e2 : T n <;> simp_all <;> omega
theorem psum_le {f : Nat → Nat} {S T : Nat → Bool} : ∀ {n : Nat}, (∀ c, c < n → S c = true → T c = true) → psum f S n ≤ psum f T n
  | 0, _ => Nat.le_refl _
  | n + 1, h => by
    unfold psum
    have h1 := psum_le (f := f) (fun c hc => h c (Nat.lt_succ_of_lt hc))
    have := h n (by omega)
    cases e : S n <;> cases e2 : T n <;> simp_all <;> omega
theorem psum_one {f : Nat → Nat} {S : Nat → Bool} {k : Nat} (hS : S k = true) : ∀ {n : Nat}, k < n → psum f S n = f k + psum f (fun c => S c && decide (c ≠ k)) n
  | 0, h => by omega
  | n + 1, h => by
    unfold psum
    rcases Nat.lt_or_ge k n with c | c
    · rw [psum_one hS c]
      have : n ≠ k := by omega
      simp [this]; omega
    · have : k = n := by omega
      subst this
      have e9 : psum f S k = psum f (fun c => S c && decide (c ≠ k)) k := by
        refine psum_congr (fun c hc => ?_)
        have : c ≠ k := by omega
        simp [this]
      rw [← e9]
      simp [hS]; omega
theorem psum_zero {f : Nat → Nat} {S : Nat → Bool} : ∀ {n : Nat}, (∀ c, c < n → S c = false) → psum f S n = 0
  | 0, _ => rfl
  | n + 1, h => by unfold psum; rw [psum_zero (fun c hc => h c (by omega)), h n (by omega)]; rfl
theorem psum_up {f : Nat → Nat} {S : Nat → Bool} {n : Nat} : ∀ {m : Nat}, n ≤ m → (∀ c, n ≤ c → c < m → S c = false) → psum f S m = psum f S n
  | 0, h, _ => by have : n = 0 := by omega
                  rw [this]
  | m + 1, h, h2 => by
    rcases Nat.lt_or_ge m n with c | c
    · have : n = m + 1 := by omega
      rw [this]
    · have e : psum f S (m + 1) = psum f S m + if S m then f m else 0 := rfl
      rw [e, psum_up c (fun c h3 h4 => h2 c h3 (by omega)), h2 m c (by omega)]
      rfl
theorem psum_bound {f : Nat → Nat} {S : Nat → Bool} {b : Nat} (hf : ∀ c, f c ≤ b) : ∀ {n : Nat}, psum f S n ≤ b * cnt S n
  | 0 => Nat.zero_le _
  | n + 1 => by
    unfold psum cnt
    have h1 := psum_bound (S := S) hf (n := n)
    have h2 := hf n
    cases S n
    · simpa using h1
    · simp only [if_true, Nat.mul_add, Nat.mul_one]; omega
theorem cnt_le (S : Nat → Bool) : ∀ n, cnt S n ≤ n
  | 0 => Nat.le_refl _
  | n + 1 => by unfold cnt; have := cnt_le S n; cases S n <;> simp <;> omega
