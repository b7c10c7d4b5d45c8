/-! numbers of the law's turns -/
theorem zw_lt2 (x : Int) : zJ x = zJ (zw x) := (zJ_toInt (zJ x)).symm
theorem xor_sg (x : Int) {b : Nat} (hb : b < 2147483648) : (0 ≤ zw (zxor x (b : Int))) ↔ 0 ≤ zw x := by
  have e : zw (zxor x (b : Int)) = (zJ x ^^^ zJ (b : Int)).toInt := by
    unfold zxor zw
    rw [zJ_toInt]
  rw [e]
  have h1 : (zJ x ^^^ zJ (b : Int)).toInt = ((zJ x).toBitVec ^^^ (zJ (b : Int)).toBitVec).toInt := by
    rw [← Int32.toBitVec_xor]; rfl
  have h2 : zw x = (zJ x).toBitVec.toInt := rfl
  have h3 : (zJ (b : Int)).toBitVec.msb = false := by
    have := BitVec.msb_eq_toInt (x := (zJ (b : Int)).toBitVec)
    rw [this, decide_eq_false_iff_not]
    have : (zJ (b : Int)).toBitVec.toInt = (b : Int) := zwn hb
    omega
  have h4 := BitVec.msb_eq_toInt (x := (zJ x).toBitVec ^^^ (zJ (b : Int)).toBitVec)
  have h5 := BitVec.msb_eq_toInt (x := (zJ x).toBitVec)
  rw [BitVec.msb_xor, h3, Bool.xor_false, h5] at h4
  have h6 := decide_eq_decide.mp h4
  rw [h1, h2]
  omega
theorem zrem_neg {n b : Nat} (hn : n ≤ 2147483648) (hb : b < 2147483648) (hb0 : 1 < b) : zrem (-(n : Int)) (b : Int) = -((n % b : Nat) : Int) := by
  have hd := Nat.div_le_self n b
  have hq : zJ (-(n : Int)) / zJ (b : Int) = zJ (-((n / b : Nat) : Int)) := by
    rw [← zJ_toInt (zJ (-(n : Int)) / zJ (b : Int)), Int32.toInt_div, zJ_toInt_eq (x := -(n : Int)) (by omega) (by omega), zJ_toInt_eq (x := (b : Int)) (by omega) (by omega), Int.neg_tdiv, show Int.tdiv (n : Int) (b : Int) = ((n / b : Nat) : Int) from rfl]
    have h2 : n / b ≤ n / 2 := Nat.div_le_div_left (by omega) (by omega)
    generalize n / b = q at *
    rw [Int.bmod_eq_of_le (by omega) (by omega)]
  unfold zrem
  have h2 : n / b * b ≤ n := Nat.div_mul_le_self n b
  have h3 : n % b = n - n / b * b := by
    have := Nat.div_add_mod n b
    have : n / b * b = b * (n / b) := Nat.mul_comm _ _
    omega
  have h4 : -((n / b : Nat) : Int) * (b : Int) = -((n / b * b : Nat) : Int) := by rw [Int.neg_mul, Int.natCast_mul]
  rw [hq, zJ_mul, zJ_sub, h4, h3]
  have h5 : n % b < b := Nat.mod_lt _ (by omega)
  rw [h3] at h5
  generalize n / b * b = q at *
  rw [zJ_toInt_eq (by omega) (by omega)]
  omega
theorem fmod_ok (x : Int) {b : Nat} (hb : b < 2147483648) (hb0 : 1 < b) : ∃ w : Nat, w < b ∧ x_J_Math_floorMod x (b : Int) = some (w : Int) := by
  have hr := zw_rng x
  have e : zrem x (b : Int) = zrem (zw x) (b : Int) := by unfold zrem; rw [zw_lt2 x]
  unfold x_J_Math_floorMod
  rw [if_neg (by rw [zwn hb]; omega), bnd_eq, e]
  by_cases h : 0 ≤ zw x
  · rw [if_pos ((xor_sg x hb).mpr h)]
    obtain ⟨n, hn⟩ : ∃ n : Nat, zw x = (n : Int) := ⟨(zw x).toNat, by omega⟩
    rw [hn, zrem_nat (by omega) hb (by omega)]
    exact ⟨n % b, Nat.mod_lt _ (by omega), rfl⟩
  · rw [if_neg (fun z => h ((xor_sg x hb).mp z))]
    obtain ⟨n, hn⟩ : ∃ n : Nat, zw x = -(n : Int) := ⟨(-zw x).toNat, by omega⟩
    rw [hn, zrem_neg (by omega) hb hb0]
    have h5 : n % b < b := Nat.mod_lt _ (by omega)
    generalize n % b = q at *
    by_cases w : zw (-(q : Int)) = 0
    · rw [if_pos w]
      rw [zw_eq (by omega) (by omega)] at w
      exact ⟨0, by omega, by rw [w]; rfl⟩
    · rw [if_neg w]
      rw [zw_eq (by omega) (by omega)] at w
      exact ⟨b - q, by omega, by congr 1; omega⟩
theorem cell_ok (xs : Mm) {L : Nat} (hL : L ≤ 260) (k : Nat) (hk : k < 1000) : ∃ v, x_L_cell xs L (k : Int) = some v := by
  unfold x_L_cell
  by_cases e : zw (L : Int) ≤ zw (k : Int)
  · rw [if_pos e]; exact ⟨_, rfl⟩
  · rw [if_neg e]
    rw [zwn (by omega), zwn (by omega)] at e
    rw [if_pos (zin_i (by omega) (by omega) (by omega))]
    exact ⟨_, rfl⟩
theorem of_ok (xs : Mm) {L : Nat} (hL : L ≤ 260) (k : Nat) (hk : k < 1000) (a : Int) {b : Nat} (hb : b < 2147483648) (hb0 : 1 < b) : ∃ w : Nat, w < b ∧ x_L_of xs L (k : Int) a (b : Int) = some (a + (w : Int)) := by
  obtain ⟨v, hv⟩ := cell_ok xs hL k hk
  obtain ⟨w, w1, w2⟩ := fmod_ok v hb hb0
  unfold x_L_of
  rw [hv, Option.bind_some, w2, Option.bind_some]
  exact ⟨w, w1, rfl⟩
theorem zand_31 (x : Int) : ∃ b : Nat, b < 2147483648 ∧ zand x 2147483647 = (b : Int) := by
  have h : (zJ x &&& zJ 2147483647).toBitVec.toNat ≤ 2147483647 := by
    rw [Int32.toBitVec_and, BitVec.toNat_and]
    exact Nat.and_le_right
  refine ⟨(zJ x &&& zJ 2147483647).toBitVec.toNat, by omega, ?_⟩
  show (zJ x &&& zJ 2147483647).toBitVec.toInt = _
  exact BitVec.toInt_eq_toNat_of_lt (by omega)
