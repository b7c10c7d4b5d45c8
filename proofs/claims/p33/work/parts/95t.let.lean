/-! four letters in a word -/
theorem or_add {a b n : Nat} (h : b < 2 ^ n) : a * 2 ^ n ||| b = a * 2 ^ n + b := by
  rw [Nat.mul_comm]
  exact (Nat.two_pow_add_eq_or_of_lt h a).symm
/-- four letters' word -/
def wd4 (a b c d : Nat) : Nat := ((a * 256 + b) * 256 + c) * 256 + d
theorem wd4_z {a b c d : Nat} (ha : a < 128) (hb : b < 128) (hc : c < 128) (hd : d < 128) : zor (zor (zor (zor 0 (zshl (a : Int) 24)) (zshl (b : Int) 16)) (zshl (c : Int) 8)) (zshl (d : Int) 0) = ((wd4 a b c d : Nat) : Int) := by
  have e1 : zshl (a : Int) 24 = ((a * 2 ^ 24 : Nat) : Int) := zshl_nat (n := 24) (by omega) (by omega)
  have e2 : zshl (b : Int) 16 = ((b * 2 ^ 16 : Nat) : Int) := zshl_nat (n := 16) (by omega) (by omega)
  have e3 : zshl (c : Int) 8 = ((c * 2 ^ 8 : Nat) : Int) := zshl_nat (n := 8) (by omega) (by omega)
  have e4 : zshl (d : Int) 0 = ((d * 2 ^ 0 : Nat) : Int) := zshl_nat (n := 0) (by omega) (by omega)
  have o1 : zor 0 ((a * 2 ^ 24 : Nat) : Int) = ((a * 2 ^ 24 : Nat) : Int) := by
    have := zor_nat (a := 0) (b := a * 2 ^ 24) (by omega) (by omega)
    rw [Nat.zero_or] at this
    exact this
  rw [e1, e2, e3, e4, o1, zor_nat (by omega) (by omega), or_add (a := a) (b := b * 2 ^ 16) (n := 24) (by omega)]
  rw [zor_nat (by omega) (by omega), show a * 2 ^ 24 + b * 2 ^ 16 = (a * 2 ^ 8 + b) * 2 ^ 16 by omega, or_add (b := c * 2 ^ 8) (n := 16) (by omega)]
  rw [zor_nat (by omega) (by omega), show (a * 2 ^ 8 + b) * 2 ^ 16 + c * 2 ^ 8 = ((a * 2 ^ 8 + b) * 2 ^ 8 + c) * 2 ^ 8 by omega, or_add (b := d * 2 ^ 0) (n := 8) (by omega)]
  have e5 : ((a * 2 ^ 8 + b) * 2 ^ 8 + c) * 2 ^ 8 + d * 2 ^ 0 = wd4 a b c d := by
    unfold wd4
    omega
  rw [e5]
