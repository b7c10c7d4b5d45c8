theorem b55 : un 6148914691236517205 = mB 85 8 := by decide +kernel
theorem b33 : un 3689348814741910323 = mB 51 8 := by decide +kernel
theorem b0f : un 1085102592571150095 = mB 15 8 := by decide +kernel
theorem b33v : mB 51 8 = 3689348814741910323 := by decide +kernel
theorem pop_1 (x : Int64) : un (x - ((zlushr x (1 : Int)) &&& (6148914691236517205 : Int64))) = s1 8 (un x) := by
  have h1 : un ((zlushr x (1 : Int)) &&& (6148914691236517205 : Int64)) = un x / 2 &&& mB 85 8 := by
    rw [un_and, b55]
    exact congrArg (· &&& mB 85 8) (un_ushr 1 (by decide) x)
  have h2 := @Nat.and_le_left (un x / 2) (mB 85 8)
  unfold s1
  rw [un_sub (by rw [h1]; exact Nat.le_trans h2 (Nat.div_le_self _ _)), h1]
theorem pop_2 (x : Int64) : un ((x &&& (3689348814741910323 : Int64)) + ((zlushr x (2 : Int)) &&& (3689348814741910323 : Int64))) = s2 8 (un x) ∧ s2 8 (un x) ≤ 7378697629483820646 := by
  have h1 : un ((zlushr x (2 : Int)) &&& (3689348814741910323 : Int64)) = un x / 4 &&& mB 51 8 := by
    rw [un_and, b33]
    exact congrArg (· &&& mB 51 8) (un_ushr 2 (by decide) x)
  have h0 : un (x &&& (3689348814741910323 : Int64)) = un x &&& mB 51 8 := by rw [un_and, b33]
  have h2 := @Nat.and_le_right (un x / 4) (mB 51 8)
  have h3 := @Nat.and_le_right (un x) (mB 51 8)
  have h4 := b33v
  unfold s2
  generalize mB 51 8 = M at *
  constructor
  · rw [un_add (by rw [h0, h1]; omega), h0, h1]
  · omega
theorem pop_3 (x : Int64) (h : un x ≤ 7378697629483820646) : un ((x + (zlushr x (4 : Int))) &&& (1085102592571150095 : Int64)) = s3 8 (un x) := by
  have h1 : un (zlushr x (4 : Int)) = un x / 16 := un_ushr 4 (by decide) x
  unfold s3
  rw [un_and, b0f, un_add (by rw [h1]; omega), h1]
theorem pop_n {a0 a1 a2 a3 a4 a5 a6 a7 y1 y2 y3 y4 y5 y6 V3 : Nat} (p0 : a0 < 9) (p1 : a1 < 9) (p2 : a2 < 9) (p3 : a3 < 9) (p4 : a4 < 9) (p5 : a5 < 9) (p6 : a6 < 9) (p7 : a7 < 9) (e3 : V3 = a0 + 256 * y1) (hy1 : y1 = a1 + 256 * y2) (hy2 : y2 = a2 + 256 * y3) (hy3 : y3 = a3 + 256 * y4) (hy4 : y4 = a4 + 256 * y5) (hy5 : y5 = a5 + 256 * y6) (hy6 : y6 = a6 + 256 * a7) : V3 + V3 / 256 < 18446744073709551616 ∧ V3 + V3 / 256 + (V3 + V3 / 256) / 65536 < 18446744073709551616 ∧ V3 + V3 / 256 + (V3 + V3 / 256) / 65536 + (V3 + V3 / 256 + (V3 + V3 / 256) / 65536) / 4294967296 < 18446744073709551616 ∧ (V3 + V3 / 256 + (V3 + V3 / 256) / 65536 + (V3 + V3 / 256 + (V3 + V3 / 256) / 65536) / 4294967296) % 128 = a0 + a1 + a2 + a3 + a4 + a5 + a6 + a7 := by
  have b6 : y6 < 9 * 257 := by omega
  have b5 : y5 < 9 * 65793 := by clear hy4 hy3 hy2 hy1 e3; omega
  have b4 : y4 < 9 * 16843009 := by clear hy5 hy3 hy2 hy1 e3; omega
  have b3 : y3 < 9 * 4311810305 := by clear hy5 hy4 hy2 hy1 e3; omega
  have b2 : y2 < 9 * 1103823438081 := by clear hy5 hy4 hy3 hy1 e3; omega
  have b1 : y1 < 9 * 282578800148737 := by clear hy5 hy4 hy3 hy2 e3; omega
  have d3 : V3 / 256 = y1 := by clear hy1 hy2 hy3 hy4 hy5 hy6 b1 b2 b3 b4 b5 b6; omega
  have q4 : V3 + V3 / 256 = (a0 + a1) + 256 * (a1 + a2) + 65536 * (y2 + y3) := by
    rw [d3, e3, hy1, hy2]
    omega
  have l4 : V3 + V3 / 256 < 18446744073709551616 := by
    rw [d3, e3]
    clear q4 d3 hy1 hy2 hy3 hy4 hy5 hy6
    omega
  generalize V3 + V3 / 256 = V4 at *
  have d4 : V4 / 65536 = y2 + y3 := by
    clear hy1 hy2 hy3 hy4 hy5 hy6 e3 d3 b1 b2 b3 b4 b5 b6
    generalize y2 + y3 = t at *
    omega
  have q5 : V4 + V4 / 65536 = (a0 + a1 + a2 + a3) + 256 * (a1 + a2 + a3 + a4) + 65536 * (y2 + y3 + y4 + y5) := by
    rw [d4, q4, hy2, hy3, hy4]
    clear hy1 hy2 hy3 hy4 hy5 hy6 e3 d3 b1 b2 b3 b4 b5 b6 d4 q4
    omega
  have l5 : V4 + V4 / 65536 < 18446744073709551616 := by
    rw [q5]
    clear hy1 hy2 hy3 hy4 hy5 hy6 e3 d3 d4 q4 q5
    omega
  generalize V4 + V4 / 65536 = V5 at *
  have q5b : y2 + y3 + y4 + y5 = (a2 + a3 + a4 + a5) + 256 * (a3 + a4 + a5 + a6) + 65536 * (y4 + y5 + y6 + a7) := by
    rw [hy2, hy3, hy4, hy5, hy6]
    clear hy1 hy2 hy3 hy4 hy5 hy6 e3 d3 d4 q4 q5 b1 b2 b3 b4 b5 b6 l4 l5
    omega
  have q7 : y4 + y5 + y6 + a7 = (a4 + a5 + a6 + a7) + 256 * (y5 + y6 + a7) := by
    rw [hy4, hy5, hy6]
    clear hy1 hy2 hy3 hy4 hy5 hy6 e3 d3 d4 q4 q5 b1 b2 b3 b4 b5 b6 l4 l5 q5b
    omega
  rw [q5b] at q5
  have bz : y4 + y5 + y6 + a7 < 153000000 := by
    clear q4 q5 q5b q7 d3 d4 e3 hy1 hy2 hy3 hy4 hy5 hy6 l4 l5
    omega
  generalize y4 + y5 + y6 + a7 = z2 at *
  generalize y5 + y6 + a7 = z3 at *
  clear hy1 hy2 hy3 hy4 hy5 hy6 e3 d3 d4 q4 b1 b2 b3 b4 b5 b6 q5b
  have d5 : V5 / 4294967296 = z2 := by clear q7 l4 l5; omega
  rw [d5]
  refine ⟨l4, l5, by clear l4 l5 d5 q7; omega, ?_⟩
  rw [q5, q7]
  clear l4 l5 q5 d5 q7 bz
  omega
theorem bitCount_eq (x : Int64) : x_J_Long_bitCount x = some ((cnt (bs x) 64 : Nat) : Int) := by
  unfold x_J_Long_bitCount
  simp only [bnd_eq]
  have e1 := pop_1 x
  generalize x - ((zlushr x (1 : Int)) &&& (6148914691236517205 : Int64)) = v1 at e1 ⊢
  obtain ⟨e2, l2⟩ := pop_2 v1
  generalize (v1 &&& (3689348814741910323 : Int64)) + ((zlushr v1 (2 : Int)) &&& (3689348814741910323 : Int64)) = v2 at e2 ⊢
  have e3 := pop_3 v2 (by rw [e2]; exact l2)
  generalize (v2 + (zlushr v2 (4 : Int))) &&& (1085102592571150095 : Int64) = v3 at e3 ⊢
  have hp := (pcs_eq 8 (un x) (by have := un_lt x; simpa using this)).1
  rw [e2, e1, hp] at e3
  have hc : cnt (bs x) 64 = bsum 8 (un x) := (bsum_eq 8 (un x)).symm
  rw [hc]
  clear hp hc e1 e2 l2
  obtain ⟨l4, l5, l6, q⟩ := pop_n (pc8_lt (un x)) (pc8_lt (un x / 256)) (pc8_lt (un x / 256 / 256)) (pc8_lt (un x / 256 / 256 / 256)) (pc8_lt (un x / 256 / 256 / 256 / 256)) (pc8_lt (un x / 256 / 256 / 256 / 256 / 256)) (pc8_lt (un x / 256 / 256 / 256 / 256 / 256 / 256)) (pc8_lt (un x / 256 / 256 / 256 / 256 / 256 / 256 / 256)) (V3 := un v3) e3 rfl rfl rfl rfl rfl rfl
  have h4 : un (v3 + zlushr v3 (8 : Int)) = un v3 + un v3 / 256 := by
    have h1 : un (zlushr v3 (8 : Int)) = un v3 / 256 := un_ushr 8 (by decide) v3
    rw [un_add (by rw [h1]; exact l4), h1]
  rw [← h4] at l5 l6 q
  generalize v3 + zlushr v3 (8 : Int) = v4 at *
  have h5 : un (v4 + zlushr v4 (16 : Int)) = un v4 + un v4 / 65536 := by
    have h1 : un (zlushr v4 (16 : Int)) = un v4 / 65536 := un_ushr 16 (by decide) v4
    rw [un_add (by rw [h1]; exact l5), h1]
  rw [← h5] at l6 q
  generalize v4 + zlushr v4 (16 : Int) = v5 at *
  have h6 : un (v5 + zlushr v5 (32 : Int)) = un v5 + un v5 / 4294967296 := by
    have h1 : un (zlushr v5 (32 : Int)) = un v5 / 4294967296 := un_ushr 32 (by decide) v5
    rw [un_add (by rw [h1]; exact l6), h1]
  rw [← h6] at q
  rw [z127, q]
  unfold bsum bsum bsum bsum bsum bsum bsum bsum bsum
  exact congrArg some (congrArg Int.ofNat (by omega))
