/-! The beginning's worlds, by their checks -/
set_option maxRecDepth 100000 in
theorem zk_P1_14_0 : zex shX (shE0g 14) = true := by decide +kernel
set_option maxRecDepth 100000 in
theorem zk_P1_14_1 : zk (shU 14) (shE0g 14) [101, 102] = true := by decide +kernel
set_option maxRecDepth 100000 in
theorem zk_P1_14_2 : zno (shE0g 14) [101, 102] 200 0 = true := by decide +kernel
set_option maxRecDepth 100000 in
theorem zk_P1_14_3 : zcs (shE0g 14) (shE0 14) [(200, 0)] = true := by decide +kernel
set_option maxRecDepth 100000 in
theorem zk_P1_15_0 : zex shX (shE0g 15) = true := by decide +kernel
set_option maxRecDepth 100000 in
theorem zk_P1_15_1 : zk (shU 15) (shE0g 15) [101, 102] = true := by decide +kernel
set_option maxRecDepth 100000 in
theorem zk_P1_15_2 : zno (shE0g 15) [101, 102] 200 0 = true := by decide +kernel
set_option maxRecDepth 100000 in
theorem zk_P1_15_3 : zcs (shE0g 15) (shE0 15) [(200, 0)] = true := by decide +kernel
set_option maxRecDepth 100000 in
theorem zk_P1_16_0 : zex shX (shE0g 16) = true := by decide +kernel
set_option maxRecDepth 100000 in
theorem zk_P1_16_1 : zk (shU 16) (shE0g 16) [101, 102] = true := by decide +kernel
set_option maxRecDepth 100000 in
theorem zk_P1_16_2 : zno (shE0g 16) [101, 102] 200 0 = true := by decide +kernel
set_option maxRecDepth 100000 in
theorem zk_P1_16_3 : zcs (shE0g 16) (shE0 16) [(200, 0)] = true := by decide +kernel
set_option maxRecDepth 100000 in
theorem zk_P1_17_0 : zex shX (shE0g 17) = true := by decide +kernel
set_option maxRecDepth 100000 in
theorem zk_P1_17_1 : zk (shU 17) (shE0g 17) [101, 102] = true := by decide +kernel
set_option maxRecDepth 100000 in
theorem zk_P1_17_2 : zno (shE0g 17) [101, 102] 200 0 = true := by decide +kernel
set_option maxRecDepth 100000 in
theorem zk_P1_17_3 : zcs (shE0g 17) (shE0 17) [(200, 0)] = true := by decide +kernel
set_option maxRecDepth 100000 in
theorem zk_P1_18_0 : zex shX (shE0g 18) = true := by decide +kernel
set_option maxRecDepth 100000 in
theorem zk_P1_18_1 : zk (shU 18) (shE0g 18) [101, 102] = true := by decide +kernel
set_option maxRecDepth 100000 in
theorem zk_P1_18_2 : zno (shE0g 18) [101, 102] 200 0 = true := by decide +kernel
set_option maxRecDepth 100000 in
theorem zk_P1_18_3 : zcs (shE0g 18) (shE0 18) [(200, 0)] = true := by decide +kernel
set_option maxRecDepth 100000 in
theorem zk_P1_19_0 : zex shX (shE0g 19) = true := by decide +kernel
set_option maxRecDepth 100000 in
theorem zk_P1_19_1 : zk (shU 19) (shE0g 19) [101, 102] = true := by decide +kernel
set_option maxRecDepth 100000 in
theorem zk_P1_19_2 : zno (shE0g 19) [101, 102] 200 0 = true := by decide +kernel
set_option maxRecDepth 100000 in
theorem zk_P1_19_3 : zcs (shE0g 19) (shE0 19) [(200, 0)] = true := by decide +kernel
set_option maxRecDepth 100000 in
theorem zk_P1_20_0 : zex shX (shE0g 20) = true := by decide +kernel
set_option maxRecDepth 100000 in
theorem zk_P1_20_1 : zk (shU 20) (shE0g 20) [101, 102] = true := by decide +kernel
set_option maxRecDepth 100000 in
theorem zk_P1_20_2 : zno (shE0g 20) [101, 102] 200 0 = true := by decide +kernel
set_option maxRecDepth 100000 in
theorem zk_P1_20_3 : zcs (shE0g 20) (shE0 20) [(200, 0)] = true := by decide +kernel
set_option maxRecDepth 100000 in
theorem zk_P1_21_0 : zex shX (shE0g 21) = true := by decide +kernel
set_option maxRecDepth 100000 in
theorem zk_P1_21_1 : zk (shU 21) (shE0g 21) [101, 102] = true := by decide +kernel
set_option maxRecDepth 100000 in
theorem zk_P1_21_2 : zno (shE0g 21) [101, 102] 200 0 = true := by decide +kernel
set_option maxRecDepth 100000 in
theorem zk_P1_21_3 : zcs (shE0g 21) (shE0 21) [(200, 0)] = true := by decide +kernel
set_option maxRecDepth 100000 in
theorem zk_P1_22_0 : zex shX (shE0g 22) = true := by decide +kernel
set_option maxRecDepth 100000 in
theorem zk_P1_22_1 : zk (shU 22) (shE0g 22) [101, 102] = true := by decide +kernel
set_option maxRecDepth 100000 in
theorem zk_P1_22_2 : zno (shE0g 22) [101, 102] 200 0 = true := by decide +kernel
set_option maxRecDepth 100000 in
theorem zk_P1_22_3 : zcs (shE0g 22) (shE0 22) [(200, 0)] = true := by decide +kernel
set_option maxRecDepth 100000 in
theorem zk_P1_23_0 : zex shX (shE0g 23) = true := by decide +kernel
set_option maxRecDepth 100000 in
theorem zk_P1_23_1 : zk (shU 23) (shE0g 23) [101, 102] = true := by decide +kernel
set_option maxRecDepth 100000 in
theorem zk_P1_23_2 : zno (shE0g 23) [101, 102] 200 0 = true := by decide +kernel
set_option maxRecDepth 100000 in
theorem zk_P1_23_3 : zcs (shE0g 23) (shE0 23) [(200, 0)] = true := by decide +kernel
theorem zk_P1 {n : Nat} (h : 14 ≤ n ∧ n ≤ 23) : zex shX (shE0g n) = true ∧ zk (shU n) (shE0g n) [101, 102] = true ∧ zno (shE0g n) [101, 102] 200 0 = true ∧ zcs (shE0g n) (shE0 n) [(200, 0)] = true := by
  obtain rfl | rfl | rfl | rfl | rfl | rfl | rfl | rfl | rfl | rfl : n = 14 ∨ n = 15 ∨ n = 16 ∨ n = 17 ∨ n = 18 ∨ n = 19 ∨ n = 20 ∨ n = 21 ∨ n = 22 ∨ n = 23 := by omega
  · exact ⟨zk_P1_14_0, zk_P1_14_1, zk_P1_14_2, zk_P1_14_3⟩
  · exact ⟨zk_P1_15_0, zk_P1_15_1, zk_P1_15_2, zk_P1_15_3⟩
  · exact ⟨zk_P1_16_0, zk_P1_16_1, zk_P1_16_2, zk_P1_16_3⟩
  · exact ⟨zk_P1_17_0, zk_P1_17_1, zk_P1_17_2, zk_P1_17_3⟩
  · exact ⟨zk_P1_18_0, zk_P1_18_1, zk_P1_18_2, zk_P1_18_3⟩
  · exact ⟨zk_P1_19_0, zk_P1_19_1, zk_P1_19_2, zk_P1_19_3⟩
  · exact ⟨zk_P1_20_0, zk_P1_20_1, zk_P1_20_2, zk_P1_20_3⟩
  · exact ⟨zk_P1_21_0, zk_P1_21_1, zk_P1_21_2, zk_P1_21_3⟩
  · exact ⟨zk_P1_22_0, zk_P1_22_1, zk_P1_22_2, zk_P1_22_3⟩
  · exact ⟨zk_P1_23_0, zk_P1_23_1, zk_P1_23_2, zk_P1_23_3⟩
set_option maxRecDepth 100000 in
theorem zk_P2_14_0 : zex (shE0 14) (shE1g 14) = true := by decide +kernel
set_option maxRecDepth 100000 in
theorem zk_P2_14_1 : zcs (shE1g 14) (shE1 14) [(200, 0)] = true := by decide +kernel
set_option maxRecDepth 100000 in
theorem zk_P2_14_2 : zk [(0, 5, ([], 0, 0), none)] (shE1g 14) [103] = true := by decide +kernel
set_option maxRecDepth 100000 in
theorem zk_P2_14_3 : zno (shE1g 14) [103] 200 0 = true := by decide +kernel
set_option maxRecDepth 100000 in
theorem zk_P2_15_0 : zex (shE0 15) (shE1g 15) = true := by decide +kernel
set_option maxRecDepth 100000 in
theorem zk_P2_15_1 : zcs (shE1g 15) (shE1 15) [(200, 0)] = true := by decide +kernel
set_option maxRecDepth 100000 in
theorem zk_P2_15_2 : zk [(0, 5, ([], 0, 0), none)] (shE1g 15) [103] = true := by decide +kernel
set_option maxRecDepth 100000 in
theorem zk_P2_15_3 : zno (shE1g 15) [103] 200 0 = true := by decide +kernel
set_option maxRecDepth 100000 in
theorem zk_P2_16_0 : zex (shE0 16) (shE1g 16) = true := by decide +kernel
set_option maxRecDepth 100000 in
theorem zk_P2_16_1 : zcs (shE1g 16) (shE1 16) [(200, 0)] = true := by decide +kernel
set_option maxRecDepth 100000 in
theorem zk_P2_16_2 : zk [(0, 5, ([], 0, 0), none)] (shE1g 16) [103] = true := by decide +kernel
set_option maxRecDepth 100000 in
theorem zk_P2_16_3 : zno (shE1g 16) [103] 200 0 = true := by decide +kernel
set_option maxRecDepth 100000 in
theorem zk_P2_17_0 : zex (shE0 17) (shE1g 17) = true := by decide +kernel
set_option maxRecDepth 100000 in
theorem zk_P2_17_1 : zcs (shE1g 17) (shE1 17) [(200, 0)] = true := by decide +kernel
set_option maxRecDepth 100000 in
theorem zk_P2_17_2 : zk [(0, 5, ([], 0, 0), none)] (shE1g 17) [103] = true := by decide +kernel
set_option maxRecDepth 100000 in
theorem zk_P2_17_3 : zno (shE1g 17) [103] 200 0 = true := by decide +kernel
set_option maxRecDepth 100000 in
theorem zk_P2_18_0 : zex (shE0 18) (shE1g 18) = true := by decide +kernel
set_option maxRecDepth 100000 in
theorem zk_P2_18_1 : zcs (shE1g 18) (shE1 18) [(200, 0)] = true := by decide +kernel
set_option maxRecDepth 100000 in
theorem zk_P2_18_2 : zk [(0, 5, ([], 0, 0), none)] (shE1g 18) [103] = true := by decide +kernel
set_option maxRecDepth 100000 in
theorem zk_P2_18_3 : zno (shE1g 18) [103] 200 0 = true := by decide +kernel
set_option maxRecDepth 100000 in
theorem zk_P2_19_0 : zex (shE0 19) (shE1g 19) = true := by decide +kernel
set_option maxRecDepth 100000 in
theorem zk_P2_19_1 : zcs (shE1g 19) (shE1 19) [(200, 0)] = true := by decide +kernel
set_option maxRecDepth 100000 in
theorem zk_P2_19_2 : zk [(0, 5, ([], 0, 0), none)] (shE1g 19) [103] = true := by decide +kernel
set_option maxRecDepth 100000 in
theorem zk_P2_19_3 : zno (shE1g 19) [103] 200 0 = true := by decide +kernel
set_option maxRecDepth 100000 in
theorem zk_P2_20_0 : zex (shE0 20) (shE1g 20) = true := by decide +kernel
set_option maxRecDepth 100000 in
theorem zk_P2_20_1 : zcs (shE1g 20) (shE1 20) [(200, 0)] = true := by decide +kernel
set_option maxRecDepth 100000 in
theorem zk_P2_20_2 : zk [(0, 5, ([], 0, 0), none)] (shE1g 20) [103] = true := by decide +kernel
set_option maxRecDepth 100000 in
theorem zk_P2_20_3 : zno (shE1g 20) [103] 200 0 = true := by decide +kernel
set_option maxRecDepth 100000 in
theorem zk_P2_21_0 : zex (shE0 21) (shE1g 21) = true := by decide +kernel
set_option maxRecDepth 100000 in
theorem zk_P2_21_1 : zcs (shE1g 21) (shE1 21) [(200, 0)] = true := by decide +kernel
set_option maxRecDepth 100000 in
theorem zk_P2_21_2 : zk [(0, 5, ([], 0, 0), none)] (shE1g 21) [103] = true := by decide +kernel
set_option maxRecDepth 100000 in
theorem zk_P2_21_3 : zno (shE1g 21) [103] 200 0 = true := by decide +kernel
set_option maxRecDepth 100000 in
theorem zk_P2_22_0 : zex (shE0 22) (shE1g 22) = true := by decide +kernel
set_option maxRecDepth 100000 in
theorem zk_P2_22_1 : zcs (shE1g 22) (shE1 22) [(200, 0)] = true := by decide +kernel
set_option maxRecDepth 100000 in
theorem zk_P2_22_2 : zk [(0, 5, ([], 0, 0), none)] (shE1g 22) [103] = true := by decide +kernel
set_option maxRecDepth 100000 in
theorem zk_P2_22_3 : zno (shE1g 22) [103] 200 0 = true := by decide +kernel
set_option maxRecDepth 100000 in
theorem zk_P2_23_0 : zex (shE0 23) (shE1g 23) = true := by decide +kernel
set_option maxRecDepth 100000 in
theorem zk_P2_23_1 : zcs (shE1g 23) (shE1 23) [(200, 0)] = true := by decide +kernel
set_option maxRecDepth 100000 in
theorem zk_P2_23_2 : zk [(0, 5, ([], 0, 0), none)] (shE1g 23) [103] = true := by decide +kernel
set_option maxRecDepth 100000 in
theorem zk_P2_23_3 : zno (shE1g 23) [103] 200 0 = true := by decide +kernel
theorem zk_P2 {n : Nat} (h : 14 ≤ n ∧ n ≤ 23) : zex (shE0 n) (shE1g n) = true ∧ zcs (shE1g n) (shE1 n) [(200, 0)] = true ∧ zk [(0, 5, ([], 0, 0), none)] (shE1g n) [103] = true ∧ zno (shE1g n) [103] 200 0 = true := by
  obtain rfl | rfl | rfl | rfl | rfl | rfl | rfl | rfl | rfl | rfl : n = 14 ∨ n = 15 ∨ n = 16 ∨ n = 17 ∨ n = 18 ∨ n = 19 ∨ n = 20 ∨ n = 21 ∨ n = 22 ∨ n = 23 := by omega
  · exact ⟨zk_P2_14_0, zk_P2_14_1, zk_P2_14_2, zk_P2_14_3⟩
  · exact ⟨zk_P2_15_0, zk_P2_15_1, zk_P2_15_2, zk_P2_15_3⟩
  · exact ⟨zk_P2_16_0, zk_P2_16_1, zk_P2_16_2, zk_P2_16_3⟩
  · exact ⟨zk_P2_17_0, zk_P2_17_1, zk_P2_17_2, zk_P2_17_3⟩
  · exact ⟨zk_P2_18_0, zk_P2_18_1, zk_P2_18_2, zk_P2_18_3⟩
  · exact ⟨zk_P2_19_0, zk_P2_19_1, zk_P2_19_2, zk_P2_19_3⟩
  · exact ⟨zk_P2_20_0, zk_P2_20_1, zk_P2_20_2, zk_P2_20_3⟩
  · exact ⟨zk_P2_21_0, zk_P2_21_1, zk_P2_21_2, zk_P2_21_3⟩
  · exact ⟨zk_P2_22_0, zk_P2_22_1, zk_P2_22_2, zk_P2_22_3⟩
  · exact ⟨zk_P2_23_0, zk_P2_23_1, zk_P2_23_2, zk_P2_23_3⟩
set_option maxRecDepth 100000 in
theorem zk_P3_14_0 : zk (shU 14) (shE0 14) [101, 102] = true := by decide +kernel
set_option maxRecDepth 100000 in
theorem zk_P3_14_1 : zs (shE0 14) [101, 102] = true := by decide +kernel
set_option maxRecDepth 100000 in
theorem zk_P3_14_2 : zk (shU 14) (shE1 14) [101, 102] = true := by decide +kernel
set_option maxRecDepth 100000 in
theorem zk_P3_14_3 : zs (shE1 14) [101, 102] = true := by decide +kernel
set_option maxRecDepth 100000 in
theorem zk_P3_15_0 : zk (shU 15) (shE0 15) [101, 102] = true := by decide +kernel
set_option maxRecDepth 100000 in
theorem zk_P3_15_1 : zs (shE0 15) [101, 102] = true := by decide +kernel
set_option maxRecDepth 100000 in
theorem zk_P3_15_2 : zk (shU 15) (shE1 15) [101, 102] = true := by decide +kernel
set_option maxRecDepth 100000 in
theorem zk_P3_15_3 : zs (shE1 15) [101, 102] = true := by decide +kernel
set_option maxRecDepth 100000 in
theorem zk_P3_16_0 : zk (shU 16) (shE0 16) [101, 102] = true := by decide +kernel
set_option maxRecDepth 100000 in
theorem zk_P3_16_1 : zs (shE0 16) [101, 102] = true := by decide +kernel
set_option maxRecDepth 100000 in
theorem zk_P3_16_2 : zk (shU 16) (shE1 16) [101, 102] = true := by decide +kernel
set_option maxRecDepth 100000 in
theorem zk_P3_16_3 : zs (shE1 16) [101, 102] = true := by decide +kernel
set_option maxRecDepth 100000 in
theorem zk_P3_17_0 : zk (shU 17) (shE0 17) [101, 102] = true := by decide +kernel
set_option maxRecDepth 100000 in
theorem zk_P3_17_1 : zs (shE0 17) [101, 102] = true := by decide +kernel
set_option maxRecDepth 100000 in
theorem zk_P3_17_2 : zk (shU 17) (shE1 17) [101, 102] = true := by decide +kernel
set_option maxRecDepth 100000 in
theorem zk_P3_17_3 : zs (shE1 17) [101, 102] = true := by decide +kernel
set_option maxRecDepth 100000 in
theorem zk_P3_18_0 : zk (shU 18) (shE0 18) [101, 102] = true := by decide +kernel
set_option maxRecDepth 100000 in
theorem zk_P3_18_1 : zs (shE0 18) [101, 102] = true := by decide +kernel
set_option maxRecDepth 100000 in
theorem zk_P3_18_2 : zk (shU 18) (shE1 18) [101, 102] = true := by decide +kernel
set_option maxRecDepth 100000 in
theorem zk_P3_18_3 : zs (shE1 18) [101, 102] = true := by decide +kernel
set_option maxRecDepth 100000 in
theorem zk_P3_19_0 : zk (shU 19) (shE0 19) [101, 102] = true := by decide +kernel
set_option maxRecDepth 100000 in
theorem zk_P3_19_1 : zs (shE0 19) [101, 102] = true := by decide +kernel
set_option maxRecDepth 100000 in
theorem zk_P3_19_2 : zk (shU 19) (shE1 19) [101, 102] = true := by decide +kernel
set_option maxRecDepth 100000 in
theorem zk_P3_19_3 : zs (shE1 19) [101, 102] = true := by decide +kernel
set_option maxRecDepth 100000 in
theorem zk_P3_20_0 : zk (shU 20) (shE0 20) [101, 102] = true := by decide +kernel
set_option maxRecDepth 100000 in
theorem zk_P3_20_1 : zs (shE0 20) [101, 102] = true := by decide +kernel
set_option maxRecDepth 100000 in
theorem zk_P3_20_2 : zk (shU 20) (shE1 20) [101, 102] = true := by decide +kernel
set_option maxRecDepth 100000 in
theorem zk_P3_20_3 : zs (shE1 20) [101, 102] = true := by decide +kernel
set_option maxRecDepth 100000 in
theorem zk_P3_21_0 : zk (shU 21) (shE0 21) [101, 102] = true := by decide +kernel
set_option maxRecDepth 100000 in
theorem zk_P3_21_1 : zs (shE0 21) [101, 102] = true := by decide +kernel
set_option maxRecDepth 100000 in
theorem zk_P3_21_2 : zk (shU 21) (shE1 21) [101, 102] = true := by decide +kernel
set_option maxRecDepth 100000 in
theorem zk_P3_21_3 : zs (shE1 21) [101, 102] = true := by decide +kernel
set_option maxRecDepth 100000 in
theorem zk_P3_22_0 : zk (shU 22) (shE0 22) [101, 102] = true := by decide +kernel
set_option maxRecDepth 100000 in
theorem zk_P3_22_1 : zs (shE0 22) [101, 102] = true := by decide +kernel
set_option maxRecDepth 100000 in
theorem zk_P3_22_2 : zk (shU 22) (shE1 22) [101, 102] = true := by decide +kernel
set_option maxRecDepth 100000 in
theorem zk_P3_22_3 : zs (shE1 22) [101, 102] = true := by decide +kernel
set_option maxRecDepth 100000 in
theorem zk_P3_23_0 : zk (shU 23) (shE0 23) [101, 102] = true := by decide +kernel
set_option maxRecDepth 100000 in
theorem zk_P3_23_1 : zs (shE0 23) [101, 102] = true := by decide +kernel
set_option maxRecDepth 100000 in
theorem zk_P3_23_2 : zk (shU 23) (shE1 23) [101, 102] = true := by decide +kernel
set_option maxRecDepth 100000 in
theorem zk_P3_23_3 : zs (shE1 23) [101, 102] = true := by decide +kernel
theorem zk_P3 {n : Nat} (h : 14 ≤ n ∧ n ≤ 23) : zk (shU n) (shE0 n) [101, 102] = true ∧ zs (shE0 n) [101, 102] = true ∧ zk (shU n) (shE1 n) [101, 102] = true ∧ zs (shE1 n) [101, 102] = true := by
  obtain rfl | rfl | rfl | rfl | rfl | rfl | rfl | rfl | rfl | rfl : n = 14 ∨ n = 15 ∨ n = 16 ∨ n = 17 ∨ n = 18 ∨ n = 19 ∨ n = 20 ∨ n = 21 ∨ n = 22 ∨ n = 23 := by omega
  · exact ⟨zk_P3_14_0, zk_P3_14_1, zk_P3_14_2, zk_P3_14_3⟩
  · exact ⟨zk_P3_15_0, zk_P3_15_1, zk_P3_15_2, zk_P3_15_3⟩
  · exact ⟨zk_P3_16_0, zk_P3_16_1, zk_P3_16_2, zk_P3_16_3⟩
  · exact ⟨zk_P3_17_0, zk_P3_17_1, zk_P3_17_2, zk_P3_17_3⟩
  · exact ⟨zk_P3_18_0, zk_P3_18_1, zk_P3_18_2, zk_P3_18_3⟩
  · exact ⟨zk_P3_19_0, zk_P3_19_1, zk_P3_19_2, zk_P3_19_3⟩
  · exact ⟨zk_P3_20_0, zk_P3_20_1, zk_P3_20_2, zk_P3_20_3⟩
  · exact ⟨zk_P3_21_0, zk_P3_21_1, zk_P3_21_2, zk_P3_21_3⟩
  · exact ⟨zk_P3_22_0, zk_P3_22_1, zk_P3_22_2, zk_P3_22_3⟩
  · exact ⟨zk_P3_23_0, zk_P3_23_1, zk_P3_23_2, zk_P3_23_3⟩
set_option maxRecDepth 100000 in
theorem zk_P4_14_0 : zk shX (shE1 14) zl_101 = true := by decide +kernel
set_option maxRecDepth 100000 in
theorem zk_P4_14_1 : zs (shE1 14) zl_101 = true := by decide +kernel
set_option maxRecDepth 100000 in
theorem zk_P4_14_2 : zk shX (shE0 14) zl_101 = true := by decide +kernel
set_option maxRecDepth 100000 in
theorem zk_P4_14_3 : zs (shE0 14) zl_101 = true := by decide +kernel
set_option maxRecDepth 100000 in
theorem zk_P4_14_4 : zkn shX (shE0 14) zl_101 = true := by decide +kernel
set_option maxRecDepth 100000 in
theorem zk_P4_15_0 : zk shX (shE1 15) zl_101 = true := by decide +kernel
set_option maxRecDepth 100000 in
theorem zk_P4_15_1 : zs (shE1 15) zl_101 = true := by decide +kernel
set_option maxRecDepth 100000 in
theorem zk_P4_15_2 : zk shX (shE0 15) zl_101 = true := by decide +kernel
set_option maxRecDepth 100000 in
theorem zk_P4_15_3 : zs (shE0 15) zl_101 = true := by decide +kernel
set_option maxRecDepth 100000 in
theorem zk_P4_15_4 : zkn shX (shE0 15) zl_101 = true := by decide +kernel
set_option maxRecDepth 100000 in
theorem zk_P4_16_0 : zk shX (shE1 16) zl_101 = true := by decide +kernel
set_option maxRecDepth 100000 in
theorem zk_P4_16_1 : zs (shE1 16) zl_101 = true := by decide +kernel
set_option maxRecDepth 100000 in
theorem zk_P4_16_2 : zk shX (shE0 16) zl_101 = true := by decide +kernel
set_option maxRecDepth 100000 in
theorem zk_P4_16_3 : zs (shE0 16) zl_101 = true := by decide +kernel
set_option maxRecDepth 100000 in
theorem zk_P4_16_4 : zkn shX (shE0 16) zl_101 = true := by decide +kernel
set_option maxRecDepth 100000 in
theorem zk_P4_17_0 : zk shX (shE1 17) zl_101 = true := by decide +kernel
set_option maxRecDepth 100000 in
theorem zk_P4_17_1 : zs (shE1 17) zl_101 = true := by decide +kernel
set_option maxRecDepth 100000 in
theorem zk_P4_17_2 : zk shX (shE0 17) zl_101 = true := by decide +kernel
set_option maxRecDepth 100000 in
theorem zk_P4_17_3 : zs (shE0 17) zl_101 = true := by decide +kernel
set_option maxRecDepth 100000 in
theorem zk_P4_17_4 : zkn shX (shE0 17) zl_101 = true := by decide +kernel
set_option maxRecDepth 100000 in
theorem zk_P4_18_0 : zk shX (shE1 18) zl_101 = true := by decide +kernel
set_option maxRecDepth 100000 in
theorem zk_P4_18_1 : zs (shE1 18) zl_101 = true := by decide +kernel
set_option maxRecDepth 100000 in
theorem zk_P4_18_2 : zk shX (shE0 18) zl_101 = true := by decide +kernel
set_option maxRecDepth 100000 in
theorem zk_P4_18_3 : zs (shE0 18) zl_101 = true := by decide +kernel
set_option maxRecDepth 100000 in
theorem zk_P4_18_4 : zkn shX (shE0 18) zl_101 = true := by decide +kernel
set_option maxRecDepth 100000 in
theorem zk_P4_19_0 : zk shX (shE1 19) zl_101 = true := by decide +kernel
set_option maxRecDepth 100000 in
theorem zk_P4_19_1 : zs (shE1 19) zl_101 = true := by decide +kernel
set_option maxRecDepth 100000 in
theorem zk_P4_19_2 : zk shX (shE0 19) zl_101 = true := by decide +kernel
set_option maxRecDepth 100000 in
theorem zk_P4_19_3 : zs (shE0 19) zl_101 = true := by decide +kernel
set_option maxRecDepth 100000 in
theorem zk_P4_19_4 : zkn shX (shE0 19) zl_101 = true := by decide +kernel
set_option maxRecDepth 100000 in
theorem zk_P4_20_0 : zk shX (shE1 20) zl_101 = true := by decide +kernel
set_option maxRecDepth 100000 in
theorem zk_P4_20_1 : zs (shE1 20) zl_101 = true := by decide +kernel
set_option maxRecDepth 100000 in
theorem zk_P4_20_2 : zk shX (shE0 20) zl_101 = true := by decide +kernel
set_option maxRecDepth 100000 in
theorem zk_P4_20_3 : zs (shE0 20) zl_101 = true := by decide +kernel
set_option maxRecDepth 100000 in
theorem zk_P4_20_4 : zkn shX (shE0 20) zl_101 = true := by decide +kernel
set_option maxRecDepth 100000 in
theorem zk_P4_21_0 : zk shX (shE1 21) zl_101 = true := by decide +kernel
set_option maxRecDepth 100000 in
theorem zk_P4_21_1 : zs (shE1 21) zl_101 = true := by decide +kernel
set_option maxRecDepth 100000 in
theorem zk_P4_21_2 : zk shX (shE0 21) zl_101 = true := by decide +kernel
set_option maxRecDepth 100000 in
theorem zk_P4_21_3 : zs (shE0 21) zl_101 = true := by decide +kernel
set_option maxRecDepth 100000 in
theorem zk_P4_21_4 : zkn shX (shE0 21) zl_101 = true := by decide +kernel
set_option maxRecDepth 100000 in
theorem zk_P4_22_0 : zk shX (shE1 22) zl_101 = true := by decide +kernel
set_option maxRecDepth 100000 in
theorem zk_P4_22_1 : zs (shE1 22) zl_101 = true := by decide +kernel
set_option maxRecDepth 100000 in
theorem zk_P4_22_2 : zk shX (shE0 22) zl_101 = true := by decide +kernel
set_option maxRecDepth 100000 in
theorem zk_P4_22_3 : zs (shE0 22) zl_101 = true := by decide +kernel
set_option maxRecDepth 100000 in
theorem zk_P4_22_4 : zkn shX (shE0 22) zl_101 = true := by decide +kernel
set_option maxRecDepth 100000 in
theorem zk_P4_23_0 : zk shX (shE1 23) zl_101 = true := by decide +kernel
set_option maxRecDepth 100000 in
theorem zk_P4_23_1 : zs (shE1 23) zl_101 = true := by decide +kernel
set_option maxRecDepth 100000 in
theorem zk_P4_23_2 : zk shX (shE0 23) zl_101 = true := by decide +kernel
set_option maxRecDepth 100000 in
theorem zk_P4_23_3 : zs (shE0 23) zl_101 = true := by decide +kernel
set_option maxRecDepth 100000 in
theorem zk_P4_23_4 : zkn shX (shE0 23) zl_101 = true := by decide +kernel
theorem zk_P4 {n : Nat} (h : 14 ≤ n ∧ n ≤ 23) : zk shX (shE1 n) zl_101 = true ∧ zs (shE1 n) zl_101 = true ∧ zk shX (shE0 n) zl_101 = true ∧ zs (shE0 n) zl_101 = true ∧ zkn shX (shE0 n) zl_101 = true := by
  obtain rfl | rfl | rfl | rfl | rfl | rfl | rfl | rfl | rfl | rfl : n = 14 ∨ n = 15 ∨ n = 16 ∨ n = 17 ∨ n = 18 ∨ n = 19 ∨ n = 20 ∨ n = 21 ∨ n = 22 ∨ n = 23 := by omega
  · exact ⟨zk_P4_14_0, zk_P4_14_1, zk_P4_14_2, zk_P4_14_3, zk_P4_14_4⟩
  · exact ⟨zk_P4_15_0, zk_P4_15_1, zk_P4_15_2, zk_P4_15_3, zk_P4_15_4⟩
  · exact ⟨zk_P4_16_0, zk_P4_16_1, zk_P4_16_2, zk_P4_16_3, zk_P4_16_4⟩
  · exact ⟨zk_P4_17_0, zk_P4_17_1, zk_P4_17_2, zk_P4_17_3, zk_P4_17_4⟩
  · exact ⟨zk_P4_18_0, zk_P4_18_1, zk_P4_18_2, zk_P4_18_3, zk_P4_18_4⟩
  · exact ⟨zk_P4_19_0, zk_P4_19_1, zk_P4_19_2, zk_P4_19_3, zk_P4_19_4⟩
  · exact ⟨zk_P4_20_0, zk_P4_20_1, zk_P4_20_2, zk_P4_20_3, zk_P4_20_4⟩
  · exact ⟨zk_P4_21_0, zk_P4_21_1, zk_P4_21_2, zk_P4_21_3, zk_P4_21_4⟩
  · exact ⟨zk_P4_22_0, zk_P4_22_1, zk_P4_22_2, zk_P4_22_3, zk_P4_22_4⟩
  · exact ⟨zk_P4_23_0, zk_P4_23_1, zk_P4_23_2, zk_P4_23_3, zk_P4_23_4⟩
set_option maxRecDepth 100000 in
theorem zk_P5 : zkw shX = true := by decide +kernel
