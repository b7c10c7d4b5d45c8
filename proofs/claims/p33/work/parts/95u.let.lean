/-! a letter out of a word -/
theorem zushr_s {a : Nat} (ha : a < 2147483648) {y : Int} {s : Nat} (hs : ((zJ y).toUInt32 &&& Int32.toUInt32 31).toNat = s) (h32 : s < 32) : zushr (a : Int) y = ((a / 2 ^ s : Nat) : Int) := by
  have h1 : ((zJ (a : Int)).toUInt32 >>> ((zJ y).toUInt32 &&& Int32.toUInt32 31)).toNat = a / 2 ^ s := by
    rw [UInt32.toNat_shiftRight, hs, Nat.mod_eq_of_lt h32, Nat.shiftRight_eq_div_pow]
    congr 1
    show (zJ (a : Int)).toBitVec.toNat = a
    rw [zJ_tb, BitVec.toNat_ofNat, Nat.mod_eq_of_lt (by omega)]
  have h2 : a / 2 ^ s ≤ a := Nat.div_le_self _ _
  have e : zushr (a : Int) y = ((zJ (a : Int)).toUInt32 >>> ((zJ y).toUInt32 &&& Int32.toUInt32 31)).toBitVec.toInt := rfl
  rw [e, BitVec.toInt_eq_toNat_of_lt (by
    show 2 * ((zJ (a : Int)).toUInt32 >>> ((zJ y).toUInt32 &&& Int32.toUInt32 31)).toNat < _
    rw [h1]; omega)]
  show ((((zJ (a : Int)).toUInt32 >>> ((zJ y).toUInt32 &&& Int32.toUInt32 31)).toNat : Nat) : Int) = _
  rw [h1]
theorem zand_m {a : Nat} (ha : a < 2147483648) : zand (a : Int) 255 = ((a % 256 : Nat) : Int) := by
  have := zand_nat (a := a) (b := 255) ha (by omega)
  rw [show a &&& 255 = a % 256 from Nat.and_two_pow_sub_one_eq_mod a 8] at this
  exact this
theorem wd4_at {a b c d : Nat} (ha : a < 128) (hb : b < 128) (hc : c < 128) (hd : d < 128) : zand (zushr ((wd4 a b c d : Nat) : Int) 24) 255 = (a : Int) ∧ zand (zushr ((wd4 a b c d : Nat) : Int) 16) 255 = (b : Int) ∧ zand (zushr ((wd4 a b c d : Nat) : Int) 8) 255 = (c : Int) ∧ zand (zushr ((wd4 a b c d : Nat) : Int) 0) 255 = (d : Int) := by
  have hw : wd4 a b c d < 2147483648 := by unfold wd4; omega
  rw [zushr_s hw (y := 24) (s := 24) (by decide) (by decide), zushr_s hw (y := 16) (s := 16) (by decide) (by decide), zushr_s hw (y := 8) (s := 8) (by decide) (by decide), zushr_s hw (y := 0) (s := 0) (by decide) (by decide)]
  have f1 : wd4 a b c d / 2 ^ 24 = a := by unfold wd4; omega
  have f2 : wd4 a b c d / 2 ^ 16 % 256 = b := by unfold wd4; omega
  have f3 : wd4 a b c d / 2 ^ 8 % 256 = c := by unfold wd4; omega
  have f4 : wd4 a b c d / 2 ^ 0 % 256 = d := by unfold wd4; omega
  have g : ∀ n : Nat, wd4 a b c d / 2 ^ n < 2147483648 := fun n => Nat.lt_of_le_of_lt (Nat.div_le_self _ _) hw
  rw [zand_m (g 24), zand_m (g 16), zand_m (g 8), zand_m (g 0), f1, f2, f3, f4, Nat.mod_eq_of_lt (by omega)]
  exact ⟨rfl, rfl, rfl, rfl⟩
