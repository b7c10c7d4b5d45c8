/-! the words of the row -/
theorem wrow_st (t : Nat → Int) (n at_ i k : Nat) : wrow t n at_ (i + 1) k = if k = i / 4 then zor (wrow t n at_ i (i / 4)) (zshl (wch t n (at_ + i)) (24 - 8 * ((i % 4 : Nat) : Int))) else wrow t n at_ i k := by
  show zr (wrow t n at_ i) (i / 4) _ k = _
  unfold zr
  rfl
theorem wrow_4 (t : Nat → Int) (n at_ q k : Nat) (hk : k ≠ q) : wrow t n at_ (4 * q + 4) k = wrow t n at_ (4 * q) k := by
  rw [wrow_st, if_neg (by omega), wrow_st, if_neg (by omega), wrow_st, if_neg (by omega), wrow_st, if_neg (by omega)]
