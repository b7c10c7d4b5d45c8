/-! How many bits a long has: Long.bitCount, byte by byte -/
def un (x : Int64) : Nat := x.toBitVec.toNat
theorem un_lt (x : Int64) : un x < 18446744073709551616 := x.toBitVec.isLt
theorem un_add {x y : Int64} (h : un x + un y < 18446744073709551616) : un (x + y) = un x + un y := by
  unfold un at *
  rw [Int64.toBitVec_add, BitVec.toNat_add]
  exact Nat.mod_eq_of_lt h
theorem un_sub {x y : Int64} (h : un y ≤ un x) : un (x - y) = un x - un y := by
  have hx := un_lt x
  unfold un at *
  rw [Int64.toBitVec_sub, BitVec.toNat_sub]
  omega
theorem un_and (x y : Int64) : un (x &&& y) = un x &&& un y := by
  unfold un
  rw [Int64.toBitVec_and, BitVec.toNat_and]
theorem un_ushr (n : Nat) (hn : n < 64) (x : Int64) : un (zlushr x (n : Int)) = un x / 2 ^ n := by
  unfold zlushr un
  show (x.toUInt64 >>> ((zJ (n : Int)).toInt64.toUInt64 &&& Int64.toUInt64 63)).toBitVec.toNat = x.toUInt64.toBitVec.toNat / 2 ^ n
  rw [UInt64.toBitVec_shiftRight]
  show (x.toUInt64.toBitVec >>> (((zJ (n : Int)).toInt64.toUInt64 &&& Int64.toUInt64 63).toBitVec % 64).toNat).toNat = _
  rw [bs_su n hn, BitVec.toNat_ushiftRight, Nat.shiftRight_eq_div_pow]
theorem bs_un (x : Int64) (c : Nat) : bs x c = (un x).testBit c := rfl
def mB (b : Nat) : Nat → Nat
  | 0 => 0
  | n + 1 => b + 256 * mB b n
theorem and_B (u M : Nat) {b : Nat} (hb : b < 256) : u &&& (b + 256 * M) = (u % 256 &&& b) + 256 * (u / 256 &&& M) := by
  have h1 : (u &&& (b + 256 * M)) % 2 ^ 8 = u % 256 &&& b := by
    rw [Nat.and_mod_two_pow]
    congr 1
    omega
  have h2 : (u &&& (b + 256 * M)) / 2 ^ 8 = u / 256 &&& M := by
    rw [Nat.and_div_two_pow]
    congr 1
    omega
  have := Nat.div_add_mod (u &&& (b + 256 * M)) (2 ^ 8)
  rw [h1, h2] at this
  omega
def s1 (n u : Nat) : Nat := u - (u / 2 &&& mB 85 n)
def s2 (n v : Nat) : Nat := (v &&& mB 51 n) + (v / 4 &&& mB 51 n)
def s3 (n v : Nat) : Nat := (v + v / 16) &&& mB 15 n
theorem bt_1 : ∀ t, t < 2 → ∀ b, b < 256 → (b / 2 + 128 * t) &&& 85 = b / 2 &&& 85 := by decide +kernel
theorem bt_2 : ∀ t, t < 4 → ∀ b, b < 256 → (b / 4 + 64 * t) &&& 51 = b / 4 &&& 51 := by decide +kernel
theorem bt_3 : ∀ t, t < 5 → ∀ b, b < 69 → (b + b / 16 + 16 * t) &&& 15 = (b + b / 16) &&& 15 := by decide +kernel
theorem s1_s (n u : Nat) : s1 (n + 1) u = s1 1 (u % 256) + 256 * s1 n (u / 256) := by
  unfold s1
  rw [show mB 85 (n + 1) = 85 + 256 * mB 85 n from rfl, show mB 85 1 = 85 from rfl, and_B _ _ (by decide)]
  have h1 : u / 2 % 256 = u % 256 / 2 + 128 * (u / 256 % 2) := by omega
  have h2 : u / 2 / 256 = u / 256 / 2 := by omega
  rw [h1, h2, bt_1 _ (by omega) _ (by omega)]
  have h3 := @Nat.and_le_left (u % 256 / 2) 85
  have h4 := @Nat.and_le_left (u / 256 / 2) (mB 85 n)
  omega
theorem s2_s (n v : Nat) : s2 (n + 1) v = s2 1 (v % 256) + 256 * s2 n (v / 256) := by
  unfold s2
  rw [show mB 51 (n + 1) = 51 + 256 * mB 51 n from rfl, show mB 51 1 = 51 from rfl, and_B _ _ (by decide), and_B _ _ (by decide)]
  have h1 : v / 4 % 256 = v % 256 / 4 + 64 * (v / 256 % 4) := by omega
  have h2 : v / 4 / 256 = v / 256 / 4 := by omega
  rw [h1, h2, bt_2 _ (by omega) _ (by omega)]
  omega
theorem s3_s (n v : Nat) (hb : v % 256 < 69) (ht : v / 256 % 16 < 5) : s3 (n + 1) v = s3 1 (v % 256) + 256 * s3 n (v / 256) := by
  unfold s3
  rw [show mB 15 (n + 1) = 15 + 256 * mB 15 n from rfl, show mB 15 1 = 15 from rfl, and_B _ _ (by decide)]
  have h1 : (v + v / 16) % 256 = v % 256 + v % 256 / 16 + 16 * (v / 256 % 16) := by omega
  have h2 : (v + v / 16) / 256 = v / 256 + v / 256 / 16 := by omega
  rw [h1, h2, bt_3 _ ht _ hb]
def pc8 (b : Nat) : Nat := s3 1 (s2 1 (s1 1 b))
theorem bt_4 : ∀ b, b < 256 → s2 1 (s1 1 b) < 69 ∧ s2 1 (s1 1 b) % 16 < 5 ∧ s1 1 b < 256 ∧ pc8 b = cnt (fun c => b.testBit c) 8 ∧ pc8 b < 9 := by decide +kernel
def pcs : Nat → Nat → Nat
  | 0, _ => 0
  | n + 1, u => pc8 (u % 256) + 256 * pcs n (u / 256)
theorem pcs_eq : ∀ (n u : Nat), u < 256 ^ n → s3 n (s2 n (s1 n u)) = pcs n u ∧ s2 n (s1 n u) % 16 < 5
  | 0, u, h => by
    have : u = 0 := by simpa using h
    subst this
    exact ⟨rfl, by decide⟩
  | n + 1, u, h => by
    have hb : u % 256 < 256 := Nat.mod_lt _ (by decide)
    obtain ⟨q1, q2, q3, -, -⟩ := bt_4 _ hb
    obtain ⟨i1, i2⟩ := pcs_eq n (u / 256) (by rw [Nat.pow_succ] at h; omega)
    have e1 := s1_s n u
    have m1 : s1 (n + 1) u % 256 = s1 1 (u % 256) := by omega
    have d1 : s1 (n + 1) u / 256 = s1 n (u / 256) := by omega
    have e2 := s2_s n (s1 (n + 1) u)
    rw [m1, d1] at e2
    have m2 : s2 (n + 1) (s1 (n + 1) u) % 256 = s2 1 (s1 1 (u % 256)) := by omega
    have d2 : s2 (n + 1) (s1 (n + 1) u) / 256 = s2 n (s1 n (u / 256)) := by omega
    have e3 := s3_s n (s2 (n + 1) (s1 (n + 1) u)) (by rw [m2]; exact q1) (by rw [d2]; exact i2)
    rw [m2, d2, i1] at e3
    refine ⟨e3, ?_⟩
    have : s2 (n + 1) (s1 (n + 1) u) % 16 = s2 (n + 1) (s1 (n + 1) u) % 256 % 16 := by omega
    rw [this, m2]
    exact q2
theorem cnt_split (S : Nat → Bool) (k : Nat) : ∀ n, cnt S (k + n) = cnt S k + cnt (fun c => S (k + c)) n
  | 0 => rfl
  | n + 1 => by
    show cnt S (k + n) + (if S (k + n) = true then 1 else 0) = cnt S k + (cnt (fun c => S (k + c)) n + (if S (k + n) = true then 1 else 0))
    rw [cnt_split S k n]
    omega
theorem cnt_congr {S T : Nat → Bool} {n : Nat} (h : ∀ c, c < n → S c = T c) : cnt S n = cnt T n := by rw [cnt_psum, cnt_psum, psum_congr h]
def bsum : Nat → Nat → Nat
  | 0, _ => 0
  | n + 1, u => pc8 (u % 256) + bsum n (u / 256)
theorem bsum_eq : ∀ (n u : Nat), bsum n u = cnt (fun c => u.testBit c) (8 * n)
  | 0, _ => rfl
  | n + 1, u => by
    rw [show 8 * (n + 1) = 8 + 8 * n by omega, cnt_split]
    unfold bsum
    rw [bsum_eq n, (bt_4 _ (Nat.mod_lt _ (by decide))).2.2.2.1]
    congr 1
    · exact cnt_congr (fun c hc => by rw [show u % 256 = u % 2 ^ 8 from rfl, Nat.testBit_mod_two_pow]; simp [hc])
    · exact cnt_congr (fun c hc => by rw [show u / 256 = u / 2 ^ 8 from rfl, Nat.testBit_div_two_pow, Nat.add_comm])
theorem pc8_lt (u : Nat) : pc8 (u % 256) < 9 := (bt_4 _ (Nat.mod_lt _ (by decide))).2.2.2.2
theorem z127 (x : Int64) : zand (zl2i x) 127 = ((un x % 128 : Nat) : Int) := by
  unfold zand zl2i
  rw [zJ_toInt]
  have h : x.toInt32 &&& zJ 127 = zJ ((un x % 128 : Nat) : Int) := by
    apply Int32.toBitVec_inj.mp
    rw [Int32.toBitVec_and, Int64.toBitVec_toInt32, zJ_tb, show zJ 127 = zJ ((127 : Nat) : Int) from rfl, zJ_tb, BitVec.signExtend_eq_setWidth_of_le _ (by decide)]
    apply BitVec.eq_of_toNat_eq
    rw [BitVec.toNat_and, BitVec.toNat_setWidth, BitVec.toNat_ofNat, BitVec.toNat_ofNat]
    show un x % 2 ^ 32 &&& 127 % 2 ^ 32 = _
    rw [show 127 % 2 ^ 32 = 2 ^ 7 - 1 from rfl, Nat.and_two_pow_sub_one_eq_mod]
    omega
  rw [h]
  exact zJ_toInt_eq (by omega) (by omega)
