noncomputable def x_X0_init (σ : Mm) : Option (Mm) :=
  bnd (zu (zj zl_2 σ (fun _ _ => 0)) 0 0 1) fun σ1 => (if ∀ g ∈ ([(0, 0)] : List (Nat × Nat)), σ1 g.1 g.2 ≠ 0 then some σ1 else none)
def rm_X0_init : Room := { frames := 2, cells := 1, slots := 10, locals := 80 }
noncomputable def x_X2_init (σ : Mm) : Option (Mm) :=
  bnd (zu (zj [1] σ (fun _ _ => 0)) 0 11 1) fun σ1 => bnd (zu (zj [2] σ1 (fun _ _ => 0)) 0 12 1) fun σ2 => bnd (zu (zj [3] σ2 (fun _ _ => 0)) 0 13 1) fun σ3 => bnd (zu (zj [4] σ3 (fun _ _ => 0)) 0 15 1) fun σ4 => (if ∀ g ∈ ([(0, 11), (0, 12), (0, 13), (0, 15)] : List (Nat × Nat)), σ4 g.1 g.2 ≠ 0 then some σ4 else none)
def rm_X2_init : Room := { frames := 2, cells := 4, slots := 108, locals := 80 }
noncomputable def x_X2_copyFrom (σ : Mm) : Option (Mm) :=
  bnd (zu σ 0 0 (σ 5 0)) fun σ1 => bnd (zu σ1 0 1 (σ1 5 1)) fun σ2 => bnd (zu σ2 0 2 (σ2 5 2)) fun σ3 => bnd (zu σ3 0 3 (Int64.toInt (zL (σ3 5 3)))) fun σ4 => bnd (zu σ4 0 4 (σ4 5 4)) fun σ5 => bnd (zu σ5 0 5 (σ5 5 5)) fun σ6 => (if zw (σ6 5 6) = 0 ∨ zw (σ6 5 6) = 1 then bnd (zu σ6 0 6 (σ6 5 6)) fun σ7 => bnd (zu σ7 0 7 (σ7 5 7)) fun σ8 => (if zw (σ8 5 8) = 0 ∨ zw (σ8 5 8) = 1 then bnd (zu σ8 0 8 (σ8 5 8)) fun σ9 => bnd (zu σ9 0 9 (σ9 5 9)) fun σ10 => bnd (zu σ10 0 10 (σ10 5 10)) fun σ11 => bnd (zu σ11 0 14 (σ11 5 14)) fun σ12 => bnd (zu σ12 0 16 (σ12 5 16)) fun σ13 => bnd (zcp σ13 6 1 2) fun σ14 => bnd (zcp σ14 7 2 2) fun σ15 => bnd (zcp σ15 8 3 52) fun σ16 => bnd (zcp σ16 9 4 52) fun σ17 => some σ17 else none) else none)
def rm_X2_copyFrom : Room := { frames := 2, cells := 0, slots := 0, locals := 80 }
noncomputable def x_X0_push (σ : Mm) : Option (Mm) :=
  (if zw (σ 0 1) < 0 then (if zin (0 : Int) 10 then (if σ 1 (zix (0 : Int)) = 0 then (if zin (0 : Int) 10 then (x_X2_init (fun _ _ => 0)).bind fun σ2 => bnd (zu (zj (zl_5 (zix (0 : Int))) σ σ2) 1 (zix (0 : Int)) 1) fun σ1 => (if zin (0 : Int) 10 then (if σ1 1 (zix (0 : Int)) = 0 then none else (x_X2_copyFrom (zb (zl_6 (zix (0 : Int))) σ1)).bind fun σ4 => bnd (zj (zl_6 (zix (0 : Int))) σ1 σ4) fun σ5 => bnd (zu σ5 0 1 ((0 : Int) + (1 : Int))) fun σ6 => bnd (zu σ6 0 2 (zmin ((σ6 0 2) + (1 : Int)) (10 : Int))) fun σ7 => some σ7) else none) else none) else (if zin (0 : Int) 10 then (if σ 1 (zix (0 : Int)) = 0 then none else (x_X2_copyFrom (zb (zl_6 (zix (0 : Int))) σ)).bind fun σ9 => bnd (zj (zl_6 (zix (0 : Int))) σ σ9) fun σ10 => bnd (zu σ10 0 1 ((0 : Int) + (1 : Int))) fun σ11 => bnd (zu σ11 0 2 (zmin ((σ11 0 2) + (1 : Int)) (10 : Int))) fun σ12 => some σ12) else none)) else none) else (if zw (10 : Int) ≤ zw (σ 0 1) then (if zin (0 : Int) 10 then (if σ 1 (zix (0 : Int)) = 0 then (if zin (0 : Int) 10 then (x_X2_init (fun _ _ => 0)).bind fun σ16 => bnd (zu (zj (zl_5 (zix (0 : Int))) σ σ16) 1 (zix (0 : Int)) 1) fun σ15 => (if zin (0 : Int) 10 then (if σ15 1 (zix (0 : Int)) = 0 then none else (x_X2_copyFrom (zb (zl_6 (zix (0 : Int))) σ15)).bind fun σ18 => bnd (zj (zl_6 (zix (0 : Int))) σ15 σ18) fun σ19 => bnd (zu σ19 0 1 ((0 : Int) + (1 : Int))) fun σ20 => bnd (zu σ20 0 2 (zmin ((σ20 0 2) + (1 : Int)) (10 : Int))) fun σ21 => some σ21) else none) else none) else (if zin (0 : Int) 10 then (if σ 1 (zix (0 : Int)) = 0 then none else (x_X2_copyFrom (zb (zl_6 (zix (0 : Int))) σ)).bind fun σ23 => bnd (zj (zl_6 (zix (0 : Int))) σ σ23) fun σ24 => bnd (zu σ24 0 1 ((0 : Int) + (1 : Int))) fun σ25 => bnd (zu σ25 0 2 (zmin ((σ25 0 2) + (1 : Int)) (10 : Int))) fun σ26 => some σ26) else none)) else none) else bnd ((σ 0 1)) fun v29 => (if zin v29 10 then (if σ 1 (zix v29) = 0 then (if zin v29 10 then (x_X2_init (fun _ _ => 0)).bind fun σ31 => bnd (zu (zj (zl_5 (zix v29)) σ σ31) 1 (zix v29) 1) fun σ30 => (if zin v29 10 then (if σ30 1 (zix v29) = 0 then none else (x_X2_copyFrom (zb (zl_6 (zix v29)) σ30)).bind fun σ33 => bnd (zj (zl_6 (zix v29)) σ30 σ33) fun σ34 => bnd (zu σ34 0 1 (v29 + (1 : Int))) fun σ35 => bnd (zu σ35 0 2 (zmin ((σ35 0 2) + (1 : Int)) (10 : Int))) fun σ36 => some σ36) else none) else none) else (if zin v29 10 then (if σ 1 (zix v29) = 0 then none else (x_X2_copyFrom (zb (zl_6 (zix v29)) σ)).bind fun σ38 => bnd (zj (zl_6 (zix v29)) σ σ38) fun σ39 => bnd (zu σ39 0 1 (v29 + (1 : Int))) fun σ40 => bnd (zu σ40 0 2 (zmin ((σ40 0 2) + (1 : Int)) (10 : Int))) fun σ41 => some σ41) else none)) else none)))
def rm_X0_push : Room := { frames := 3, cells := 5, slots := 125, locals := 101 }
noncomputable def x_X0_pop_j27 (σ_27 : Mm) (w0_27 : Int) : Option (Mm × Int) :=
  (if zin w0_27 10 then (if σ_27 1 (zix w0_27) = 0 then (if zw (σ_27 0 2) = 0 then some (σ_27, (0 : Int)) else some (σ_27, (0 : Int))) else (if zw (σ_27 0 2) = 0 then some (σ_27, (0 : Int)) else (if zin w0_27 10 then (if σ_27 1 (zix w0_27) = 0 then none else (x_X2_copyFrom (zb (zl_7 (zix w0_27)) σ_27)).bind fun σ2 => bnd (zj (zl_7 (zix w0_27)) σ_27 σ2) fun σ3 => bnd (zu σ3 0 1 w0_27) fun σ4 => bnd (zu σ4 0 2 ((σ4 0 2) - (1 : Int))) fun σ5 => some (σ5, (1 : Int))) else none))) else none)
noncomputable def x_X0_pop_j25 (σ_25 : Mm) : Option (Mm × Int) :=
  x_X0_pop_j27 σ_25 (9 : Int)
noncomputable def x_X0_pop (σ : Mm) : Option (Mm × Int) :=
  (if zw (σ 0 1) ≤ 0 then x_X0_pop_j25 σ else (if zw (10 : Int) < zw (σ 0 1) then x_X0_pop_j25 σ else x_X0_pop_j27 σ ((σ 0 1) - (1 : Int))))
def rm_X0_pop : Room := { frames := 3, cells := 0, slots := 0, locals := 101 }
noncomputable def x_X0_forget (σ : Mm) : Option (Mm) :=
  bnd (zu σ 0 2 (0 : Int)) fun σ1 => some σ1
def rm_X0_forget : Room := { frames := 0, cells := 0, slots := 0, locals := 0 }
noncomputable def x_X1_init (σ : Mm) : Option (Mm) :=
  bnd (zu (zj [1] σ (fun _ _ => 0)) 0 0 1) fun σ1 => bnd (zu (zj [2] σ1 (fun _ _ => 0)) 0 1 1) fun σ2 => bnd (zu (zj [3] σ2 (fun _ _ => 0)) 0 2 1) fun σ3 => bnd (zu (zj [4] σ3 (fun _ _ => 0)) 0 3 1) fun σ4 => bnd (zu (zj [5] σ4 (fun _ _ => 0)) 0 5 1) fun σ5 => bnd (zu (zj [6] σ5 (fun _ _ => 0)) 0 6 1) fun σ6 => (if ∀ g ∈ ([(0, 0), (0, 1), (0, 2), (0, 3), (0, 5), (0, 6)] : List (Nat × Nat)), σ6 g.1 g.2 ≠ 0 then some σ6 else none)
def rm_X1_init : Room := { frames := 2, cells := 6, slots := 264, locals := 80 }
noncomputable def x_J_Long_bitCount (p0 : Int64) : Option (Int) :=
  bnd ((p0 - ((zlushr p0 (1 : Int)) &&& (6148914691236517205 : Int64)))) fun v1 => bnd (((v1 &&& (3689348814741910323 : Int64)) + ((zlushr v1 (2 : Int)) &&& (3689348814741910323 : Int64)))) fun v2 => bnd (((v2 + (zlushr v2 (4 : Int))) &&& (1085102592571150095 : Int64))) fun v3 => bnd ((v3 + (zlushr v3 (8 : Int)))) fun v4 => bnd ((v4 + (zlushr v4 (16 : Int)))) fun v5 => bnd ((v5 + (zlushr v5 (32 : Int)))) fun v6 => some (zand (zl2i v6) (127 : Int))
def rm_J_Long_bitCount : Room := { frames := 0, cells := 0, slots := 0, locals := 0 }
noncomputable def x_X1_addMeld (σ : Mm) (p1 : Int64) (p3 : Int) : Option (Mm) :=
  (if zw (64 : Int) ≤ zw (σ 0 4) then some σ else (if zin (σ 0 4) 64 then bnd (zu σ 1 (zix (σ 0 4)) (Int64.toInt p1)) fun σ1 => (if zin (σ1 0 4) 64 then bnd (zu σ1 2 (zix (σ1 0 4)) p3) fun σ3 => bnd (zu σ3 0 4 ((σ3 0 4) + (1 : Int))) fun σ5 => some σ5 else none) else none))
def rm_X1_addMeld : Room := { frames := 0, cells := 0, slots := 0, locals := 0 }
noncomputable def x_X1_collectSets_b20 (p1 : Int64) (v1 : Int) (σ20 : Mm) (u4_20 : Int) : Option ((Mm × Int) ⊕ Mm) :=
  (if zw (4 : Int) ≤ zw u4_20 then some (.inr σ20) else (if zw v1 ≠ zw (4 : Int) then some (.inr σ20) else (x_X1_addMeld σ20 (p1 &&& ((zlshl (8191 : Int64) (u4_20 * (13 : Int))) ^^^ (-1 : Int64))) (1 : Int)).bind fun σ3 => bnd (u4_20 + 1) fun v4 => some (.inl (σ3, v4))))
noncomputable def x_X1_collectSets (σ : Mm) (p1 : Int64) : Option (Mm) :=
  (x_J_Long_bitCount p1).bind fun v1 => (if zw (3 : Int) ≤ zw v1 then (x_X1_addMeld σ p1 (1 : Int)).bind fun σ2 => (lup (fun (s7 : Mm × Int) => x_X1_collectSets_b20 p1 v1 s7.1 s7.2) (σ2, (0 : Int))).bind fun σ9 => some σ9 else some σ)
def rm_X1_collectSets : Room := { frames := 1, cells := 0, slots := 0, locals := 23 }
noncomputable def x_X1_collectRuns_b39 (p1 : Int64) (p3 : Int) (v4_34 : Int) (w0_34 : Int) (σ39 : Mm) (u5_39 : Int64) (u8_39 : Int) : Option ((Mm × Int64 × Int) ⊕ ((Mm) ⊕ (Mm))) :=
  (if zw w0_34 < zw u8_39 then some (.inr (.inr σ39)) else bnd ((zlshl (1 : Int64) (zrem ((v4_34 + u8_39) - (1 : Int)) (13 : Int)))) fun v2 => (if zw (zcmp (p1 &&& v2) (0 : Int64)) ≠ 0 then bnd ((u5_39 ||| v2)) fun v3 => (if zw u8_39 < zw (3 : Int) then bnd (u8_39 + 1) fun v4 => some (.inl (σ39, v3, v4)) else (x_X1_addMeld σ39 (zlshl v3 p3) (2 : Int)).bind fun σ5 => bnd (u8_39 + 1) fun v6 => some (.inl (σ5, v3, v6))) else some (.inr (.inl σ39))))
noncomputable def x_X1_collectRuns_j34_12 (p1 : Int64) (p3 : Int) (σ_34 : Mm) (v4_34 : Int) (v5_34 : Int64) (w0_34 : Int) : Option ((Mm × Int) ⊕ Mm) :=
  (lup (fun (s10 : Mm × Int64 × Int) => x_X1_collectRuns_b39 p1 p3 v4_34 w0_34 s10.1 s10.2.1 s10.2.2) (σ_34, v5_34, (1 : Int))).bind fun e11 => zel e11 (fun σ12 => bnd (v4_34 + 1) fun v13 => some (.inl (σ12, v13))) (fun σ14 => bnd (v4_34 + 1) fun v15 => some (.inl (σ14, v15)))
noncomputable def x_X1_collectRuns_b12 (p1 : Int64) (p3 : Int) (σ12 : Mm) (u4_12 : Int) : Option ((Mm × Int) ⊕ Mm) :=
  (if zw (13 : Int) ≤ zw u4_12 then some (.inr σ12) else (if zw u4_12 ≠ 0 then x_X1_collectRuns_j34_12 p1 p3 σ12 u4_12 (0 : Int64) (12 : Int) else x_X1_collectRuns_j34_12 p1 p3 σ12 u4_12 (0 : Int64) (13 : Int)))
noncomputable def x_X1_collectRuns (σ : Mm) (p1 : Int64) (p3 : Int) : Option (Mm) :=
  (x_J_Long_bitCount p1).bind fun v1 => (if zw (3 : Int) ≤ zw v1 then (lup (fun (s18 : Mm × Int) => x_X1_collectRuns_b12 p1 p3 s18.1 s18.2) (σ, (0 : Int))).bind fun σ20 => some σ20 else some σ)
def rm_X1_collectRuns : Room := { frames := 1, cells := 0, slots := 0, locals := 23 }
noncomputable def x_X1_collect_b7 (p1 : Int64) (σ7 : Mm) (u3_7 : Int) : Option ((Mm × Int) ⊕ Mm) :=
  (if zw (13 : Int) ≤ zw u3_7 then some (.inr σ7) else (x_X1_collectSets σ7 (p1 &&& (zlshl (549822930945 : Int64) u3_7))).bind fun σ2 => bnd (u3_7 + 1) fun v3 => some (.inl (σ2, v3)))
noncomputable def x_X1_collect_b32 (p1 : Int64) (σ32 : Mm) (u3_32 : Int) : Option ((Mm × Int) ⊕ Mm) :=
  (if zw (4 : Int) ≤ zw u3_32 then some (.inr σ32) else (x_X1_collectRuns σ32 ((zlushr p1 (u3_32 * (13 : Int))) &&& (8191 : Int64)) (u3_32 * (13 : Int))).bind fun σ8 => bnd (u3_32 + 1) fun v9 => some (.inl (σ8, v9)))
noncomputable def x_X1_collect (σ : Mm) (p1 : Int64) : Option (Mm) :=
  bnd (zu σ 0 4 (0 : Int)) fun σ1 => (lup (fun (s5 : Mm × Int) => x_X1_collect_b7 p1 s5.1 s5.2) (σ1, (0 : Int))).bind fun σ7 => (lup (fun (s11 : Mm × Int) => x_X1_collect_b32 p1 s11.1 s11.2) (σ7, (0 : Int))).bind fun σ13 => some σ13
def rm_X1_collect : Room := { frames := 2, cells := 0, slots := 0, locals := 53 }
noncomputable def x_X6_lowestOf (p0 : Int64) : Option (Int) :=
  (x_J_Long_bitCount ((p0 &&& (-p0)) - (1 : Int64))).bind fun v1 => some v1
def rm_X6_lowestOf : Room := { frames := 1, cells := 0, slots := 0, locals := 21 }
noncomputable def x_X1_keyOf (p0 : Int64) (p2 : Int) : Option (Int) :=
  (x_X6_lowestOf p0).bind fun v1 => (x_J_Long_bitCount p0).bind fun v2 => some ((((v1 * (14 : Int)) + v2) * (4 : Int)) + p2)
def rm_X1_keyOf : Room := { frames := 2, cells := 0, slots := 0, locals := 42 }
noncomputable def x_X6_pointsFor (p0 : Int) : Option (Int) :=
  some (zmin ((zrem p0 (13 : Int)) + (1 : Int)) (10 : Int))
def rm_X6_pointsFor : Room := { frames := 2, cells := 0, slots := 0, locals := 80 }
noncomputable def x_X6_pointsOf_b7 (u2_7 : Int) (u3_7 : Int64) (u5_7 : Int) : Option ((Int × Int64 × Int) ⊕ Int) :=
  (if zw (52 : Int) ≤ zw u5_7 then some (.inr u2_7) else (if zw (zcmp u3_7 (0 : Int64)) = 0 then some (.inr u2_7) else (x_X6_lowestOf u3_7).bind fun v1 => (x_X6_pointsFor v1).bind fun v2 => bnd ((u2_7 + v2)) fun v3 => bnd ((u3_7 &&& (u3_7 - (1 : Int64)))) fun v4 => bnd (u5_7 + 1) fun v5 => some (.inl (v3, v4, v5))))
noncomputable def x_X6_pointsOf (p0 : Int64) : Option (Int) :=
  (lup (fun (s8 : Int × Int64 × Int) => x_X6_pointsOf_b7 s8.1 s8.2.1 s8.2.2) ((0 : Int), p0, (0 : Int))).bind fun v10 => some v10
def rm_X6_pointsOf : Room := { frames := 3, cells := 0, slots := 0, locals := 100 }
noncomputable def x_X1_isAhead (σ : Mm) (p1 : Int) (p2 : Int) : Option (Int) :=
  (if zin p1 64 then (if zin p2 64 then (if zw (σ 3 (zix p1)) = zw (σ 3 (zix p2)) then (if zin p1 64 then (if zin p2 64 then bnd (((zL (σ 1 (zix p1))) ^^^ (zL (σ 1 (zix p2))))) fun v5 => (if zin p1 64 then (if zw (zcmp (((zL (σ 1 (zix p1))) &&& v5) &&& (-v5)) (0 : Int64)) = 0 then some (0 : Int) else some (1 : Int)) else none) else none) else none) else (if zin p1 64 then (if zin p2 64 then (if zw (σ 3 (zix p2)) ≤ zw (σ 3 (zix p1)) then some (0 : Int) else some (1 : Int)) else none) else none)) else none) else none)
def rm_X1_isAhead : Room := { frames := 0, cells := 0, slots := 0, locals := 0 }
noncomputable def x_X1_sort_b18 (u1_2 : Int) (σ18 : Mm) (u2_18 : Int) : Option ((Mm × Int) ⊕ Mm) :=
  (if zw u2_18 ≤ 0 then some (.inr σ18) else (x_X1_isAhead σ18 u2_18 (u2_18 - (1 : Int))).bind fun v1 => (if zw v1 = 0 then some (.inr σ18) else (if zin u2_18 64 then bnd ((zL (σ18 1 (zix u2_18)))) fun v3 => (if zin (u2_18 - (1 : Int)) 64 then (if zin u2_18 64 then bnd (zu σ18 1 (zix u2_18) (Int64.toInt (zL (σ18 1 (zix (u2_18 - (1 : Int))))))) fun σ5 => (if zin (u2_18 - (1 : Int)) 64 then bnd (zu σ5 1 (zix (u2_18 - (1 : Int))) (Int64.toInt v3)) fun σ7 => (if zin u2_18 64 then bnd ((σ7 3 (zix u2_18))) fun v10 => (if zin (u2_18 - (1 : Int)) 64 then (if zin u2_18 64 then bnd (zu σ7 3 (zix u2_18) (σ7 3 (zix (u2_18 - (1 : Int))))) fun σ12 => (if zin (u2_18 - (1 : Int)) 64 then bnd (zu σ12 3 (zix (u2_18 - (1 : Int))) v10) fun σ14 => (if zin u2_18 64 then bnd ((σ14 4 (zix u2_18))) fun v17 => (if zin (u2_18 - (1 : Int)) 64 then (if zin u2_18 64 then bnd (zu σ14 4 (zix u2_18) (σ14 4 (zix (u2_18 - (1 : Int))))) fun σ19 => (if zin (u2_18 - (1 : Int)) 64 then bnd (zu σ19 4 (zix (u2_18 - (1 : Int))) v17) fun σ21 => bnd (u2_18 + (-1 : Int)) fun v23 => some (.inl (σ21, v23)) else none) else none) else none) else none) else none) else none) else none) else none) else none) else none) else none) else none)))
noncomputable def x_X1_sort_b2 (σ2 : Mm) (u1_2 : Int) : Option ((Mm × Int) ⊕ Mm) :=
  (if zw (σ2 0 4) ≤ zw u1_2 then some (.inr σ2) else (if zw (64 : Int) ≤ zw u1_2 then some (.inr σ2) else (lup (fun (s26 : Mm × Int) => x_X1_sort_b18 u1_2 s26.1 s26.2) (σ2, u1_2)).bind fun σ28 => bnd (u1_2 + 1) fun v29 => some (.inl (σ28, v29))))
noncomputable def x_X1_sort (σ : Mm) : Option (Mm) :=
  (lup (fun (s32 : Mm × Int) => x_X1_sort_b2 s32.1 s32.2) (σ, (1 : Int))).bind fun σ34 => some σ34
def rm_X1_sort : Room := { frames := 1, cells := 0, slots := 0, locals := 24 }
noncomputable def x_X1_search_b15 (R : Mm → Int → Int64 → Int → Int → Option (Mm)) (p2 : Int64) (p4 : Int) (p5 : Int) (σ15 : Mm) (u6_15 : Int) : Option ((Mm × Int) ⊕ Mm) :=
  (if zw u6_15 < 0 then some (.inr σ15) else (if zw (σ15 0 4) ≤ zw u6_15 then some (.inr σ15) else (if zw (64 : Int) ≤ zw u6_15 then some (.inr σ15) else (if zw (4 : Int) ≤ zw p5 then some (.inr σ15) else (if zin u6_15 64 then (if zw (zcmp ((zL (σ15 1 (zix u6_15))) &&& p2) (0 : Int64)) ≠ 0 then bnd (u6_15 + 1) fun v2 => some (.inl (σ15, v2)) else (if zin u6_15 64 then (if zin p5 4 then bnd (zu σ15 5 (zix p5) (Int64.toInt (zL (σ15 1 (zix u6_15))))) fun σ4 => (if zin u6_15 64 then (if zin u6_15 64 then (R σ4 (u6_15 + (1 : Int)) (p2 ||| (zL (σ4 1 (zix u6_15)))) (p4 + (σ4 4 (zix u6_15))) (p5 + (1 : Int))).bind fun σ8 => bnd (u6_15 + 1) fun v9 => some (.inl (σ8, v9)) else none) else none) else none) else none)) else none)))))
noncomputable def x_X1_search_b131 (R : Mm → Int → Int64 → Int → Int → Option (Mm)) (v5_107 : Int) (σ131 : Mm) (u6_131 : Int) : Option ((Mm × Int) ⊕ Mm) :=
  (if zw v5_107 ≤ zw u6_131 then some (.inr σ131) else (if zw (4 : Int) ≤ zw u6_131 then some (.inr σ131) else (if zin u6_131 4 then (if zin u6_131 4 then bnd (zu σ131 6 (zix u6_131) (Int64.toInt (zL (σ131 5 (zix u6_131))))) fun σ21 => bnd (u6_131 + 1) fun v23 => some (.inl (σ21, v23)) else none) else none)))
noncomputable def x_X1_search_j107 (R : Mm → Int → Int64 → Int → Int → Option (Mm)) (σ_107 : Mm) (v4_107 : Int) (v5_107 : Int) : Option (Mm) :=
  (if zw v4_107 ≤ zw (σ_107 0 8) then some σ_107 else bnd (zu σ_107 0 8 v4_107) fun σ18 => bnd (zu σ18 0 7 v5_107) fun σ19 => (lup (fun (s26 : Mm × Int) => x_X1_search_b131 R v5_107 s26.1 s26.2) (σ19, (0 : Int))).bind fun σ28 => some σ28)
noncomputable def x_X1_search_1 (R : Mm → Int → Int64 → Int → Int → Option (Mm)) (σ : Mm) (p1 : Int) (p2 : Int64) (p4 : Int) (p5 : Int) : Option (Mm) :=
  (if zw p5 < 0 then some σ else (if zw p5 ≤ zw (4 : Int) then (lup (fun (s15 : Mm × Int) => x_X1_search_b15 R p2 p4 p5 s15.1 s15.2) (σ, p1)).bind fun σ17 => x_X1_search_j107 R σ17 p4 p5 else some σ))
noncomputable def x_X1_search : Nat → Mm → Int → Int64 → Int → Int → Option (Mm)
  | 0, _, _, _, _, _ => none
  | n + 1, σ, p1, p2, p4, p5 => x_X1_search_1 (x_X1_search n) σ p1 p2 p4 p5
def rm_X1_search (d : Nat) : Room := { frames := 0 + d, cells := 0, slots := 0, locals := 0 + 26 * d }
noncomputable def x_X1_lay_b7 (p1 : Int64) (σ7 : Mm) (u3_7 : Int) : Option ((Mm × Int) ⊕ Mm) :=
  (if zw (σ7 0 4) ≤ zw u3_7 then some (.inr σ7) else (if zw (64 : Int) ≤ zw u3_7 then some (.inr σ7) else (if zin u3_7 64 then (if zin u3_7 64 then (x_X1_keyOf (zL (σ7 1 (zix u3_7))) (σ7 2 (zix u3_7))).bind fun v4 => (if zin u3_7 64 then bnd (zu σ7 3 (zix u3_7) v4) fun σ5 => (if zin u3_7 64 then (x_X6_pointsOf (zL (σ5 1 (zix u3_7)))).bind fun v8 => (if zin u3_7 64 then bnd (zu σ5 4 (zix u3_7) v8) fun σ9 => bnd (u3_7 + 1) fun v11 => some (.inl (σ9, v11)) else none) else none) else none) else none) else none)))
noncomputable def x_X1_lay_b92 (σ92 : Mm) (u3_92 : Int) : Option ((Mm × Int) ⊕ Mm) :=
  (if zw (σ92 0 7) ≤ zw u3_92 then some (.inr σ92) else (if zw (4 : Int) ≤ zw u3_92 then some (.inr σ92) else (if zin u3_92 4 then bnd (zu σ92 0 9 (Int64.toInt ((zL (σ92 0 9)) &&& ((zL (σ92 6 (zix u3_92))) ^^^ (-1 : Int64))))) fun σ23 => bnd (u3_92 + 1) fun v24 => some (.inl (σ23, v24)) else none)))
noncomputable def x_X1_lay_j63 (σ_63 : Mm) (v1_63 : Int64) : Option (Mm) :=
  (x_X1_sort σ_63).bind fun σ17 => bnd (zu σ17 0 7 (0 : Int)) fun σ18 => bnd (zu σ18 0 8 (-1 : Int)) fun σ19 => (x_X1_search 6 σ19 (0 : Int) (0 : Int64) (0 : Int) (0 : Int)).bind fun σ20 => bnd (zu σ20 0 9 (Int64.toInt v1_63)) fun σ21 => (lup (fun (s27 : Mm × Int) => x_X1_lay_b92 s27.1 s27.2) (σ21, (0 : Int))).bind fun σ29 => (x_X6_pointsOf (zL (σ29 0 9))).bind fun v30 => bnd (zu σ29 0 10 v30) fun σ31 => some σ31
noncomputable def x_X1_lay (σ : Mm) (p1 : Int64) : Option (Mm) :=
  (x_X1_collect σ p1).bind fun σ1 => (lup (fun (s14 : Mm × Int) => x_X1_lay_b7 p1 s14.1 s14.2) (σ1, (0 : Int))).bind fun σ16 => x_X1_lay_j63 σ16 p1
def rm_X1_lay : Room := { frames := 7, cells := 0, slots := 0, locals := 182 }
noncomputable def x_X6_bitOf (p0 : Int) : Option (Int64) :=
  (if zw p0 < 0 then some (0 : Int64) else (if zw (52 : Int) ≤ zw p0 then some (0 : Int64) else some (zlshl (1 : Int64) p0)))
def rm_X6_bitOf : Room := { frames := 0, cells := 0, slots := 0, locals := 0 }
noncomputable def x_X1_mostPointsOf_b7 (u2_7 : Int) (u3_7 : Int64) (u5_7 : Int) : Option ((Int × Int64 × Int) ⊕ Int) :=
  (if zw (52 : Int) ≤ zw u5_7 then some (.inr u2_7) else (if zw (zcmp u3_7 (0 : Int64)) = 0 then some (.inr u2_7) else (x_X6_lowestOf u3_7).bind fun v1 => (x_X6_pointsFor v1).bind fun v2 => bnd ((zmax u2_7 v2)) fun v3 => bnd ((u3_7 &&& (u3_7 - (1 : Int64)))) fun v4 => bnd (u5_7 + 1) fun v5 => some (.inl (v3, v4, v5))))
noncomputable def x_X1_mostPointsOf (p0 : Int64) : Option (Int) :=
  (lup (fun (s8 : Int × Int64 × Int) => x_X1_mostPointsOf_b7 s8.1 s8.2.1 s8.2.2) ((0 : Int), p0, (0 : Int))).bind fun v10 => some v10
def rm_X1_mostPointsOf : Room := { frames := 3, cells := 0, slots := 0, locals := 100 }
noncomputable def x_X1_searchDrop_b15 (R : Mm → Int → Int64 → Int → Option (Mm)) (p2 : Int64) (p4 : Int) (σ15 : Mm) (u5_15 : Int) : Option ((Mm × Int) ⊕ Mm) :=
  (if zw u5_15 < 0 then some (.inr σ15) else (if zw (σ15 0 4) ≤ zw u5_15 then some (.inr σ15) else (if zw (64 : Int) ≤ zw u5_15 then some (.inr σ15) else (if zin u5_15 64 then (if zw (zcmp ((zL (σ15 1 (zix u5_15))) &&& p2) (0 : Int64)) ≠ 0 then bnd (u5_15 + 1) fun v2 => some (.inl (σ15, v2)) else (if zin u5_15 64 then (R σ15 (u5_15 + (1 : Int)) (p2 ||| (zL (σ15 1 (zix u5_15)))) (p4 + (1 : Int))).bind fun σ4 => bnd (u5_15 + 1) fun v5 => some (.inl (σ4, v5)) else none)) else none))))
noncomputable def x_X1_searchDrop_j77 (R : Mm → Int → Int64 → Int → Option (Mm)) (σ_77 : Mm) (v2_77 : Int64) : Option (Mm) :=
  (x_X1_mostPointsOf ((zL (σ_77 0 12)) &&& (v2_77 ^^^ (-1 : Int64)))).bind fun v13 => (x_X6_pointsOf ((zL (σ_77 0 11)) &&& (v2_77 ^^^ (-1 : Int64)))).bind fun v14 => bnd ((v14 - v13)) fun v15 => (if zw v13 ≤ 0 then some σ_77 else (if zw (σ_77 0 13) = zw (-1 : Int) then bnd (zu σ_77 0 13 v15) fun σ16 => some σ16 else (if zw (σ_77 0 13) ≤ zw v15 then some σ_77 else bnd (zu σ_77 0 13 v15) fun σ17 => some σ17)))
noncomputable def x_X1_searchDrop_1 (R : Mm → Int → Int64 → Int → Option (Mm)) (σ : Mm) (p1 : Int) (p2 : Int64) (p4 : Int) : Option (Mm) :=
  (if zw p4 < 0 then some σ else (if zw p4 ≤ zw (4 : Int) then (lup (fun (s10 : Mm × Int) => x_X1_searchDrop_b15 R p2 p4 s10.1 s10.2) (σ, p1)).bind fun σ12 => x_X1_searchDrop_j77 R σ12 p2 else some σ))
noncomputable def x_X1_searchDrop : Nat → Mm → Int → Int64 → Int → Option (Mm)
  | 0, _, _, _, _ => none
  | n + 1, σ, p1, p2, p4 => x_X1_searchDrop_1 (x_X1_searchDrop n) σ p1 p2 p4
def rm_X1_searchDrop (d : Nat) : Room := { frames := 4 + d, cells := 0, slots := 0, locals := 125 + 26 * d }
noncomputable def x_X1_restBehindDrop (σ : Mm) (p1 : Int64) (p3 : Int) : Option (Mm × Int) :=
  (x_X1_collect σ p1).bind fun σ1 => bnd (zu σ1 0 11 (Int64.toInt p1)) fun σ2 => (x_X6_bitOf p3).bind fun v3 => bnd (zu σ2 0 12 (Int64.toInt (p1 &&& (v3 ^^^ (-1 : Int64))))) fun σ4 => bnd (zu σ4 0 13 (-1 : Int)) fun σ5 => (x_X1_searchDrop 6 σ5 (0 : Int) (0 : Int64) (0 : Int)).bind fun σ6 => some (σ6, (σ6 0 13))
def rm_X1_restBehindDrop : Room := { frames := 11, cells := 0, slots := 0, locals := 307 }
noncomputable def x_X1_foundAt (σ : Mm) (p1 : Int) : Option (Int64) :=
  (if zw p1 < 0 then some (0 : Int64) else (if zw (σ 0 7) ≤ zw p1 then some (0 : Int64) else (if zw (4 : Int) ≤ zw p1 then some (0 : Int64) else (if zin p1 4 then some (zL (σ 6 (zix p1))) else none))))
def rm_X1_foundAt : Room := { frames := 0, cells := 0, slots := 0, locals := 0 }
noncomputable def x_X6_has (p0 : Int64) (p2 : Int) : Option (Int) :=
  (x_X6_bitOf p2).bind fun v1 => (if zw (zcmp (p0 &&& v1) (0 : Int64)) = 0 then some (0 : Int) else some (1 : Int))
def rm_X6_has : Room := { frames := 1, cells := 0, slots := 0, locals := 20 }
noncomputable def x_X1_indexOf_b2 (σ : Mm) (p1 : Int) (u2_2 : Int) : Option (Int ⊕ ((Int) ⊕ (Unit))) :=
  (if zw (σ 0 7) ≤ zw u2_2 then some (.inr (.inr ())) else (x_X1_foundAt σ u2_2).bind fun v1 => (x_X6_has v1 p1).bind fun v2 => (if zw v2 = 0 then bnd (u2_2 + 1) fun v3 => some (.inl v3) else some (.inr (.inl u2_2))))
noncomputable def x_X1_indexOf (σ : Mm) (p1 : Int) : Option (Int) :=
  (lup (fun (s6 : Int) => x_X1_indexOf_b2 σ p1 s6) (0 : Int)).bind fun e7 => zel e7 (fun v8 => some v8) (fun _ => some (-1 : Int))
def rm_X1_indexOf : Room := { frames := 2, cells := 0, slots := 0, locals := 42 }
noncomputable def x_X6_beginningsOf (p0 : Int64) : Option (Int64) :=
  bnd ((((zlshl p0 (1 : Int)) ||| (zlushr p0 (12 : Int))) &&& (8191 : Int64))) fun v1 => some (p0 &&& (v1 ^^^ (-1 : Int64)))
def rm_X6_beginningsOf : Room := { frames := 0, cells := 0, slots := 0, locals := 0 }
noncomputable def x_X6_kindOf (p0 : Int64) : Option (Int) :=
  (x_J_Long_bitCount p0).bind fun v1 => (if zw (3 : Int) ≤ zw v1 then (x_X6_lowestOf p0).bind fun v2 => (if zw (zcmp (p0 &&& ((zlshl (549822930945 : Int64) (zrem v2 (13 : Int))) ^^^ (-1 : Int64))) (0 : Int64)) ≠ 0 then bnd (((zdiv v2 (13 : Int)) * (13 : Int))) fun v3 => (if zw (zcmp (p0 &&& ((zlshl (8191 : Int64) v3) ^^^ (-1 : Int64))) (0 : Int64)) = 0 then (x_X6_beginningsOf (zlushr p0 v3)).bind fun v4 => (x_J_Long_bitCount v4).bind fun v5 => (if zw (1 : Int) < zw v5 then some (0 : Int) else some (2 : Int)) else some (0 : Int)) else some (1 : Int)) else some (0 : Int))
def rm_X6_kindOf : Room := { frames := 2, cells := 0, slots := 0, locals := 42 }
noncomputable def x_X1_countKind_b4 (σ : Mm) (p1 : Int) (u2_4 : Int) (u3_4 : Int) : Option ((Int × Int) ⊕ Int) :=
  (if zw (σ 0 7) ≤ zw u3_4 then some (.inr u2_4) else (x_X1_foundAt σ u3_4).bind fun v1 => (x_X6_kindOf v1).bind fun v2 => (if zw v2 ≠ zw p1 then bnd (u3_4 + 1) fun v3 => some (.inl (u2_4, v3)) else bnd (u2_4 + 1) fun v4 => bnd (u3_4 + 1) fun v5 => some (.inl (v4, v5))))
noncomputable def x_X1_countKind (σ : Mm) (p1 : Int) : Option (Int) :=
  (lup (fun (s8 : Int × Int) => x_X1_countKind_b4 σ p1 s8.1 s8.2) ((0 : Int), (0 : Int))).bind fun v10 => some v10
def rm_X1_countKind : Room := { frames := 3, cells := 0, slots := 0, locals := 65 }
noncomputable def x_X6_firstOf (p0 : Int64) : Option (Int) :=
  (x_X6_lowestOf p0).bind fun v1 => bnd (((zdiv v1 (13 : Int)) * (13 : Int))) fun v2 => (x_X6_beginningsOf ((zlushr p0 v2) &&& (8191 : Int64))).bind fun v3 => (if zw (zcmp v3 (0 : Int64)) ≠ 0 then (x_X6_lowestOf v3).bind fun v4 => some (v2 + v4) else some v2)
def rm_X6_firstOf : Room := { frames := 2, cells := 0, slots := 0, locals := 42 }
noncomputable def x_X1_countWrapped_j34_4 (σ : Mm) (v1_34 : Int) (v2_34 : Int) (v3_34 : Int64) (w0_34 : Int) : Option ((Int × Int) ⊕ Int) :=
  (if zw w0_34 = zw (-1 : Int) then bnd (v2_34 + 1) fun v3 => some (.inl (v1_34, v3)) else (if zw (zrem w0_34 (13 : Int)) ≤ 0 then bnd (v2_34 + 1) fun v4 => some (.inl (v1_34, v4)) else (x_X6_has v3_34 ((zdiv w0_34 (13 : Int)) * (13 : Int))).bind fun v5 => (if zw v5 = 0 then bnd (v2_34 + 1) fun v6 => some (.inl (v1_34, v6)) else bnd (v1_34 + 1) fun v7 => bnd (v2_34 + 1) fun v8 => some (.inl (v7, v8)))))
noncomputable def x_X1_countWrapped_b4 (σ : Mm) (u1_4 : Int) (u2_4 : Int) : Option ((Int × Int) ⊕ Int) :=
  (if zw (σ 0 7) ≤ zw u2_4 then some (.inr u1_4) else (x_X1_foundAt σ u2_4).bind fun v1 => (x_X6_kindOf v1).bind fun v2 => (if zw v2 ≠ zw (2 : Int) then x_X1_countWrapped_j34_4 σ u1_4 u2_4 v1 (-1 : Int) else (x_X6_firstOf v1).bind fun v12 => x_X1_countWrapped_j34_4 σ u1_4 u2_4 v1 v12))
noncomputable def x_X1_countWrapped (σ : Mm) : Option (Int) :=
  (lup (fun (s15 : Int × Int) => x_X1_countWrapped_b4 σ s15.1 s15.2) ((0 : Int), (0 : Int))).bind fun v17 => some v17
def rm_X1_countWrapped : Room := { frames := 3, cells := 0, slots := 0, locals := 66 }
noncomputable def x_X1_foundPoints_b4 (σ : Mm) (u1_4 : Int) (u2_4 : Int) : Option ((Int × Int) ⊕ Int) :=
  (if zw (σ 0 7) ≤ zw u2_4 then some (.inr u1_4) else (x_X1_foundAt σ u2_4).bind fun v1 => (x_X6_pointsOf v1).bind fun v2 => bnd ((u1_4 + v2)) fun v3 => bnd (u2_4 + 1) fun v4 => some (.inl (v3, v4)))
noncomputable def x_X1_foundPoints (σ : Mm) : Option (Int) :=
  (lup (fun (s6 : Int × Int) => x_X1_foundPoints_b4 σ s6.1 s6.2) ((0 : Int), (0 : Int))).bind fun v8 => some v8
def rm_X1_foundPoints : Room := { frames := 4, cells := 0, slots := 0, locals := 125 }
noncomputable def x_X1_widen (σ : Mm) (p1 : Int) (p2 : Int) : Option (Mm) :=
  (if zw p1 < 0 then some σ else (if zw (σ 0 7) ≤ zw p1 then some σ else (if zw (4 : Int) ≤ zw p1 then some σ else (if zin p1 4 then (x_X6_bitOf p2).bind fun v2 => (if zin p1 4 then bnd (zu σ 6 (zix p1) (Int64.toInt ((zL (σ 6 (zix p1))) ||| v2))) fun σ3 => some σ3 else none) else none))))
def rm_X1_widen : Room := { frames := 1, cells := 0, slots := 0, locals := 20 }
noncomputable def x_X2_begin (σ : Mm) : Option (Mm) :=
  bnd (zu σ 0 4 (0 : Int)) fun σ1 => bnd (zu σ1 0 9 (0 : Int)) fun σ2 => bnd (zu σ2 0 10 (-1 : Int)) fun σ3 => (if zin (0 : Int) 2 then bnd (zu σ3 1 (zix (0 : Int)) (0 : Int)) fun σ4 => (if zin (1 : Int) 2 then bnd (zu σ4 1 (zix (1 : Int)) (0 : Int)) fun σ6 => some σ6 else none) else none)
def rm_X2_begin : Room := { frames := 0, cells := 0, slots := 0, locals := 0 }
noncomputable def x_X2_shuffle_b2 (σ2 : Mm) (u1_2 : Int) : Option ((Mm × Int) ⊕ Mm) :=
  (if zw (52 : Int) ≤ zw u1_2 then some (.inr σ2) else (if zin u1_2 52 then bnd (zu σ2 3 (zix u1_2) u1_2) fun σ1 => bnd (u1_2 + 1) fun v3 => some (.inl (σ1, v3)) else none))
noncomputable def x_X2_shuffle_b24 (σ24 : Mm) (u1_24 : Int) : Option ((Mm × Int) ⊕ Mm) :=
  (if zw u1_24 ≤ 0 then some (.inr σ24) else bnd (zu σ24 0 3 (Int64.toInt (zlrem (((zL (σ24 0 3)) * (1103515245 : Int64)) + (12345 : Int64)) (2147483648 : Int64)))) fun σ8 => (if (zi2l (u1_24 + (1 : Int))) = 0 then none else bnd ((zl2i (zlrem ((zL (σ8 0 3)) / (65536 : Int64)) (zi2l (u1_24 + (1 : Int)))))) fun v9 => (if zw v9 < 0 then bnd (u1_24 + (-1 : Int)) fun v10 => some (.inl (σ8, v10)) else (if zw (52 : Int) ≤ zw v9 then bnd (u1_24 + (-1 : Int)) fun v11 => some (.inl (σ8, v11)) else (if zin u1_24 52 then bnd ((σ8 3 (zix u1_24))) fun v13 => (if zin v9 52 then (if zin u1_24 52 then bnd (zu σ8 3 (zix u1_24) (σ8 3 (zix v9))) fun σ15 => (if zin v9 52 then bnd (zu σ15 3 (zix v9) v13) fun σ17 => bnd (u1_24 + (-1 : Int)) fun v19 => some (.inl (σ17, v19)) else none) else none) else none) else none)))))
noncomputable def x_X2_shuffle (σ : Mm) : Option (Mm) :=
  (lup (fun (s5 : Mm × Int) => x_X2_shuffle_b2 s5.1 s5.2) (σ, (0 : Int))).bind fun σ7 => (lup (fun (s23 : Mm × Int) => x_X2_shuffle_b24 s23.1 s23.2) (σ7, (51 : Int))).bind fun σ25 => some σ25
def rm_X2_shuffle : Room := { frames := 0, cells := 0, slots := 0, locals := 0 }
noncomputable def x_X2_deckAt (σ : Mm) (p1 : Int) : Option (Int) :=
  (if zw p1 < 0 then some (-1 : Int) else (if zw (52 : Int) ≤ zw p1 then some (-1 : Int) else (if zin p1 52 then some (σ 3 (zix p1)) else none)))
def rm_X2_deckAt : Room := { frames := 0, cells := 0, slots := 0, locals := 0 }
noncomputable def x_X2_dealOut_b16 (u1_2 : Int) (σ16 : Mm) (u2_16 : Int) : Option ((Mm × Int) ⊕ Mm) :=
  (if zw (σ16 0 0) ≤ zw u2_16 then some (.inr σ16) else (if zin u1_2 2 then (x_X2_deckAt σ16 ((u1_2 * (σ16 0 0)) + u2_16)).bind fun v4 => (x_X6_bitOf v4).bind fun v5 => (if zin u1_2 2 then bnd (zu σ16 2 (zix u1_2) (Int64.toInt ((zL (σ16 2 (zix u1_2))) ||| v5))) fun σ6 => bnd (u2_16 + 1) fun v8 => some (.inl (σ6, v8)) else none) else none))
noncomputable def x_X2_dealOut_b2 (σ2 : Mm) (u1_2 : Int) : Option ((Mm × Int) ⊕ Mm) :=
  (if zw (2 : Int) ≤ zw u1_2 then some (.inr σ2) else (if zin u1_2 2 then bnd (zu σ2 2 (zix u1_2) (Int64.toInt (0 : Int64))) fun σ1 => (lup (fun (s10 : Mm × Int) => x_X2_dealOut_b16 u1_2 s10.1 s10.2) (σ1, (0 : Int))).bind fun σ12 => bnd (u1_2 + 1) fun v13 => some (.inl (σ12, v13)) else none))
noncomputable def x_X2_dealOut (σ : Mm) : Option (Mm) :=
  (lup (fun (s15 : Mm × Int) => x_X2_dealOut_b2 s15.1 s15.2) (σ, (0 : Int))).bind fun σ17 => (x_X2_deckAt σ17 ((2 : Int) * (σ17 0 0))).bind fun v18 => (if zin (0 : Int) 52 then bnd (zu σ17 4 (zix (0 : Int)) v18) fun σ19 => bnd (zu σ19 0 16 (1 : Int)) fun σ21 => bnd (zu σ21 0 14 (((2 : Int) * (σ21 0 0)) + (1 : Int))) fun σ22 => (if zw (zand (σ22 0 4) (1 : Int)) ≠ 0 then bnd (zu σ22 0 5 (1 : Int)) fun σ23 => bnd (zu σ23 0 6 (0 : Int)) fun σ24 => bnd (zu σ24 0 7 (-1 : Int)) fun σ25 => bnd (zu σ25 0 8 (0 : Int)) fun σ26 => some σ26 else bnd (zu σ22 0 5 (0 : Int)) fun σ27 => bnd (zu σ27 0 6 (0 : Int)) fun σ28 => bnd (zu σ28 0 7 (-1 : Int)) fun σ29 => bnd (zu σ29 0 8 (0 : Int)) fun σ30 => some σ30) else none)
def rm_X2_dealOut : Room := { frames := 1, cells := 0, slots := 0, locals := 21 }
noncomputable def x_X2_beginNextRound (σ : Mm) : Option (Mm) :=
  bnd (zu σ 0 4 ((σ 0 4) + (1 : Int))) fun σ1 => (x_X2_shuffle σ1).bind fun σ2 => (x_X2_dealOut σ2).bind fun σ3 => some σ3
def rm_X2_beginNextRound : Room := { frames := 2, cells := 0, slots := 0, locals := 43 }
noncomputable def x_X2_topOfPile (σ : Mm) : Option (Int) :=
  (if zw (σ 0 16) ≤ 0 then some (-1 : Int) else (if zw (52 : Int) < zw (σ 0 16) then some (-1 : Int) else (if zin ((σ 0 16) - (1 : Int)) 52 then some (σ 4 (zix ((σ 0 16) - (1 : Int)))) else none)))
def rm_X2_topOfPile : Room := { frames := 0, cells := 0, slots := 0, locals := 0 }
noncomputable def x_X2_takeCard_j59 (σ_59 : Mm) (v2_59 : Int) : Option (Mm × Int) :=
  (if zin (zand (σ_59 0 5) (1 : Int)) 2 then (x_X6_bitOf v2_59).bind fun v4 => (if zin (zand (σ_59 0 5) (1 : Int)) 2 then bnd (zu σ_59 2 (zix (zand (σ_59 0 5) (1 : Int))) (Int64.toInt ((zL (σ_59 2 (zix (zand (σ_59 0 5) (1 : Int))))) ||| v4))) fun σ5 => bnd (zu σ5 0 6 (1 : Int)) fun σ7 => some (σ7, v2_59) else none) else none)
noncomputable def x_X2_takeCard_j19 (σ_19 : Mm) (v1_19 : Int) (w0_19 : Int) : Option (Mm × Int) :=
  (if zw w0_19 ≠ zw (-1 : Int) then (if zw v1_19 = 0 then bnd (zu σ_19 0 14 ((σ_19 0 14) + (1 : Int))) fun σ2 => x_X2_takeCard_j59 σ2 w0_19 else bnd (zu σ_19 0 16 ((σ_19 0 16) - (1 : Int))) fun σ8 => bnd (zu σ8 0 7 w0_19) fun σ9 => x_X2_takeCard_j59 σ9 w0_19) else some (σ_19, (-1 : Int)))
noncomputable def x_X2_takeCard (σ : Mm) (p1 : Int) : Option (Mm × Int) :=
  (if zw p1 = 0 then (x_X2_deckAt σ (σ 0 14)).bind fun v1 => x_X2_takeCard_j19 σ p1 v1 else (x_X2_topOfPile σ).bind fun v12 => x_X2_takeCard_j19 σ p1 v12)
def rm_X2_takeCard : Room := { frames := 1, cells := 0, slots := 0, locals := 21 }
noncomputable def x_X2_putDown (σ : Mm) (p1 : Int) : Option (Mm) :=
  (if zin (zand (σ 0 5) (1 : Int)) 2 then (x_X6_bitOf p1).bind fun v2 => (if zin (zand (σ 0 5) (1 : Int)) 2 then bnd (zu σ 2 (zix (zand (σ 0 5) (1 : Int))) (Int64.toInt ((zL (σ 2 (zix (zand (σ 0 5) (1 : Int))))) &&& (v2 ^^^ (-1 : Int64))))) fun σ3 => (if zw (σ3 0 16) < 0 then bnd (zu σ3 0 6 (0 : Int)) fun σ5 => bnd (zu σ5 0 7 (-1 : Int)) fun σ6 => some σ6 else (if zw (52 : Int) ≤ zw (σ3 0 16) then bnd (zu σ3 0 6 (0 : Int)) fun σ7 => bnd (zu σ7 0 7 (-1 : Int)) fun σ8 => some σ8 else (if zin (σ3 0 16) 52 then bnd (zu σ3 4 (zix (σ3 0 16)) p1) fun σ9 => bnd (zu σ9 0 16 ((σ9 0 16) + (1 : Int))) fun σ11 => bnd (zu σ11 0 6 (0 : Int)) fun σ12 => bnd (zu σ12 0 7 (-1 : Int)) fun σ13 => some σ13 else none))) else none) else none)
def rm_X2_putDown : Room := { frames := 1, cells := 0, slots := 0, locals := 20 }
noncomputable def x_X2_stockCount (σ : Mm) : Option (Int) :=
  some ((52 : Int) - (σ 0 14))
def rm_X2_stockCount : Room := { frames := 0, cells := 0, slots := 0, locals := 0 }
noncomputable def x_X2_endTurn (σ : Mm) (p1 : Int) : Option (Mm) :=
  (x_X2_putDown σ p1).bind fun σ1 => (x_X2_stockCount σ1).bind fun v2 => (if zw v2 ≤ 0 then bnd (zu σ1 0 8 (1 : Int)) fun σ3 => bnd (zu σ3 0 9 (0 : Int)) fun σ4 => bnd (zu σ4 0 10 (-1 : Int)) fun σ5 => some σ5 else bnd (zu σ1 0 5 ((1 : Int) - (σ1 0 5))) fun σ6 => some σ6)
def rm_X2_endTurn : Room := { frames := 2, cells := 0, slots := 0, locals := 41 }
noncomputable def x_X2_endRound (σ : Mm) (p1 : Int) (p2 : Int) : Option (Mm) :=
  (x_X2_putDown σ p1).bind fun σ1 => bnd (zu σ1 0 8 (1 : Int)) fun σ2 => bnd (zu σ2 0 9 (zabs p2)) fun σ3 => (if zw p2 ≤ 0 then bnd (zu σ3 0 10 ((1 : Int) - (σ3 0 5))) fun σ4 => (if zin (zand (σ4 0 10) (1 : Int)) 2 then (if zin (zand (σ4 0 10) (1 : Int)) 2 then bnd (zu σ4 1 (zix (zand (σ4 0 10) (1 : Int))) ((σ4 1 (zix (zand (σ4 0 10) (1 : Int)))) + (σ4 0 9))) fun σ6 => some σ6 else none) else none) else bnd (zu σ3 0 10 (σ3 0 5)) fun σ8 => (if zin (zand (σ8 0 10) (1 : Int)) 2 then (if zin (zand (σ8 0 10) (1 : Int)) 2 then bnd (zu σ8 1 (zix (zand (σ8 0 10) (1 : Int))) ((σ8 1 (zix (zand (σ8 0 10) (1 : Int)))) + (σ8 0 9))) fun σ10 => some σ10 else none) else none))
def rm_X2_endRound : Room := { frames := 2, cells := 0, slots := 0, locals := 80 }
noncomputable def x_X2_reasonAgainstDraw (σ : Mm) : Option (Int) :=
  (if zw (σ 0 8) = 0 then (if zw (σ 0 6) = 0 then some (0 : Int) else some (3 : Int)) else some (2 : Int))
def rm_X2_reasonAgainstDraw : Room := { frames := 0, cells := 0, slots := 0, locals := 0 }
noncomputable def x_X2_reasonAgainstDrop (σ : Mm) (p1 : Int) : Option (Int) :=
  (if zw (σ 0 8) = 0 then (if zw (σ 0 6) ≠ 0 then (if zw p1 ≠ zw (σ 0 7) then some (0 : Int) else some (5 : Int)) else some (4 : Int)) else some (2 : Int))
def rm_X2_reasonAgainstDrop : Room := { frames := 0, cells := 0, slots := 0, locals := 0 }
noncomputable def x_X2_reasonAgainstKnock (σ : Mm) (p1 : Int) (p2 : Int) : Option (Int) :=
  (x_X2_reasonAgainstDrop σ p1).bind fun v1 => (if zw v1 = 0 then (if zw p2 ≤ zw (σ 0 1) then some (0 : Int) else some (6 : Int)) else some v1)
def rm_X2_reasonAgainstKnock : Room := { frames := 1, cells := 0, slots := 0, locals := 21 }
noncomputable def x_X2_isMatchOver (σ : Mm) : Option (Int) :=
  (if zw (σ 0 8) = 0 then some (0 : Int) else (if zin (0 : Int) 2 then (if zw (σ 0 2) ≤ zw (σ 1 (zix (0 : Int))) then some (1 : Int) else (if zin (1 : Int) 2 then (if zw (σ 1 (zix (1 : Int))) < zw (σ 0 2) then some (0 : Int) else some (1 : Int)) else none)) else none))
def rm_X2_isMatchOver : Room := { frames := 0, cells := 0, slots := 0, locals := 0 }
noncomputable def x_X2_reasonAgainstDeal (σ : Mm) : Option (Int) :=
  (if zw (σ 0 8) ≠ 0 then (x_X2_isMatchOver σ).bind fun v1 => (if zw v1 = 0 then some (0 : Int) else some (8 : Int)) else some (7 : Int))
def rm_X2_reasonAgainstDeal : Room := { frames := 1, cells := 0, slots := 0, locals := 20 }
noncomputable def x_X2_isDropDue (σ : Mm) : Option (Int) :=
  (if zw (σ 0 6) = 0 then some (0 : Int) else (if zw (σ 0 8) ≠ 0 then some (0 : Int) else some (1 : Int)))
def rm_X2_isDropDue : Room := { frames := 0, cells := 0, slots := 0, locals := 0 }
noncomputable def x_X2_score (σ : Mm) (p1 : Int) : Option (Int) :=
  (if zin (zand p1 (1 : Int)) 2 then some (σ 1 (zix (zand p1 (1 : Int)))) else none)
def rm_X2_score : Room := { frames := 0, cells := 0, slots := 0, locals := 0 }
noncomputable def x_X2_handOf (σ : Mm) (p1 : Int) : Option (Int64) :=
  (if zin (zand p1 (1 : Int)) 2 then some (zL (σ 2 (zix (zand p1 (1 : Int))))) else none)
def rm_X2_handOf : Room := { frames := 0, cells := 0, slots := 0, locals := 0 }
noncomputable def x_X2_otherHand (σ : Mm) : Option (Int64) :=
  (x_X2_handOf σ ((1 : Int) - (σ 0 5))).bind fun v1 => some v1
def rm_X2_otherHand : Room := { frames := 1, cells := 0, slots := 0, locals := 21 }
noncomputable def x_X2_handWithout (σ : Mm) (p1 : Int) : Option (Int64) :=
  (x_X2_handOf σ (σ 0 5)).bind fun v1 => (x_X6_bitOf p1).bind fun v2 => some (v1 &&& (v2 ^^^ (-1 : Int64)))
def rm_X2_handWithout : Room := { frames := 1, cells := 0, slots := 0, locals := 21 }
noncomputable def x_X2_placeOf_b2 (σ : Mm) (p1 : Int) (u2_2 : Int) : Option (Int ⊕ ((Int) ⊕ (Unit))) :=
  (if zw (2 : Int) ≤ zw u2_2 then some (.inr (.inr ())) else (if zin u2_2 2 then (x_X6_has (zL (σ 2 (zix u2_2))) p1).bind fun v2 => (if zw v2 = 0 then bnd (u2_2 + 1) fun v3 => some (.inl v3) else some (.inr (.inl u2_2))) else none))
noncomputable def x_X2_placeOf_b30 (σ : Mm) (p1 : Int) (u2_30 : Int) : Option (Int ⊕ ((Unit) ⊕ (Unit))) :=
  (if zw (σ 0 16) ≤ zw u2_30 then some (.inr (.inr ())) else (if zw (52 : Int) ≤ zw u2_30 then some (.inr (.inr ())) else (if zin u2_30 52 then (if zw (σ 4 (zix u2_30)) ≠ zw p1 then bnd (u2_30 + 1) fun v10 => some (.inl v10) else some (.inr (.inl ()))) else none)))
noncomputable def x_X2_placeOf (σ : Mm) (p1 : Int) : Option (Int) :=
  (lup (fun (s6 : Int) => x_X2_placeOf_b2 σ p1 s6) (0 : Int)).bind fun e7 => zel e7 (fun v8 => some v8) (fun _ => (lup (fun (s14 : Int) => x_X2_placeOf_b30 σ p1 s14) (0 : Int)).bind fun e15 => zel e15 (fun _ => some (2 : Int)) (fun _ => some (3 : Int)))
def rm_X2_placeOf : Room := { frames := 2, cells := 0, slots := 0, locals := 42 }
noncomputable def x_X3_init (σ : Mm) : Option (Mm) :=
  bnd (zu (zj [1] σ (fun _ _ => 0)) 0 0 1) fun σ1 => bnd (zu (zj [2] σ1 (fun _ _ => 0)) 0 6 1) fun σ2 => (if ∀ g ∈ ([(0, 0), (0, 6)] : List (Nat × Nat)), σ2 g.1 g.2 ≠ 0 then some σ2 else none)
def rm_X3_init : Room := { frames := 2, cells := 2, slots := 552, locals := 80 }
noncomputable def x_X3_writeByte (σ : Mm) (p1 : Int) : Option (Mm) :=
  (if zw (σ 0 1) < 0 then some σ else (if zw (500 : Int) ≤ zw (σ 0 1) then some σ else (if zin (σ 0 1) 500 then bnd (zu σ 1 (zix (σ 0 1)) (zi2b (zi2b p1))) fun σ1 => bnd (zu σ1 0 1 ((σ1 0 1) + (1 : Int))) fun σ3 => some σ3 else none)))
def rm_X3_writeByte : Room := { frames := 0, cells := 0, slots := 0, locals := 0 }
noncomputable def x_X3_writeFour_b3 (p1 : Int) (σ3 : Mm) (u2_3 : Int) : Option ((Mm × Int) ⊕ Mm) :=
  (if zw u2_3 < 0 then some (.inr σ3) else (x_X3_writeByte σ3 (zushr p1 u2_3)).bind fun σ1 => bnd (u2_3 + (-8 : Int)) fun v2 => some (.inl (σ1, v2)))
noncomputable def x_X3_writeFour (σ : Mm) (p1 : Int) : Option (Mm) :=
  (lup (fun (s4 : Mm × Int) => x_X3_writeFour_b3 p1 s4.1 s4.2) (σ, (24 : Int))).bind fun σ6 => some σ6
def rm_X3_writeFour : Room := { frames := 1, cells := 0, slots := 0, locals := 21 }
noncomputable def x_X3_write_b2 (p1 : Nat) (σ2 : Mm) (u2_2 : Int) : Option ((Mm × Int) ⊕ Mm) :=
  (x_zlen p1).bind fun v1 => (if zw v1 ≤ zw u2_2 then some (.inr σ2) else (x_zchr p1 u2_2).bind fun v2 => (x_X3_writeByte σ2 v2).bind fun σ3 => bnd (u2_2 + 1) fun v4 => some (.inl (σ3, v4)))
noncomputable def x_X3_write (σ : Mm) (p1 : Nat) : Option (Mm) :=
  (lup (fun (s6 : Mm × Int) => x_X3_write_b2 p1 s6.1 s6.2) (σ, (0 : Int))).bind fun σ8 => some σ8
def rm_X3_write : Room := { frames := 4, cells := 0, slots := 0, locals := 85 }
noncomputable def x_X3_shorten (σ : Mm) (p1 : Int) : Option (Mm) :=
  bnd (zu σ 0 1 p1) fun σ1 => some σ1
def rm_X3_shorten : Room := { frames := 0, cells := 0, slots := 0, locals := 0 }
noncomputable def x_X3_signAt (σ : Mm) (p1 : Int) : Option (Int) :=
  (if zw p1 < 0 then some (-1 : Int) else (if zw (σ 0 1) ≤ zw p1 then some (-1 : Int) else (if zw (500 : Int) ≤ zw p1 then some (-1 : Int) else (if zin p1 500 then some (zand (σ 1 (zix p1)) (255 : Int)) else none))))
def rm_X3_signAt : Room := { frames := 0, cells := 0, slots := 0, locals := 0 }
noncomputable def x_X3_isBlank (p0 : Int) : Option (Int) :=
  (if zw p0 = zw (32 : Int) then some (1 : Int) else (if zw p0 ≠ zw (10 : Int) then some (0 : Int) else some (1 : Int)))
def rm_X3_isBlank : Room := { frames := 0, cells := 0, slots := 0, locals := 0 }
noncomputable def x_X3_isLetter (p0 : Int) : Option (Int) :=
  (if zw p0 < zw (97 : Int) then some (0 : Int) else (if zw (122 : Int) < zw p0 then some (0 : Int) else some (1 : Int)))
def rm_X3_isLetter : Room := { frames := 0, cells := 0, slots := 0, locals := 0 }
noncomputable def x_X3_isFigure (p0 : Int) : Option (Int) :=
  (if zw p0 < zw (48 : Int) then some (0 : Int) else (if zw (57 : Int) < zw p0 then some (0 : Int) else some (1 : Int)))
def rm_X3_isFigure : Room := { frames := 0, cells := 0, slots := 0, locals := 0 }
noncomputable def x_X3_readFigures_b0 (σ0 : Mm) : Option (Mm ⊕ Mm) :=
  (if zw (σ0 0 1) ≤ zw (σ0 0 2) then some (.inr σ0) else (x_X3_signAt σ0 (σ0 0 2)).bind fun v1 => (x_X3_isFigure v1).bind fun v2 => (if zw v2 = 0 then some (.inr σ0) else (if zw (9 : Int) ≤ zw ((σ0 0 2) - (σ0 0 3)) then bnd (zu σ0 0 2 ((σ0 0 2) + (1 : Int))) fun σ3 => some (.inl σ3) else (x_X3_signAt σ0 (σ0 0 2)).bind fun v4 => bnd (zu σ0 0 5 ((((σ0 0 5) * (10 : Int)) + v4) - (48 : Int))) fun σ5 => bnd (zu σ5 0 2 ((σ5 0 2) + (1 : Int))) fun σ6 => some (.inl σ6))))
noncomputable def x_X3_readFigures (σ : Mm) : Option (Mm) :=
  (lup (fun (s10 : Mm) => x_X3_readFigures_b0 s10) σ).bind fun σ12 => (if zw (9 : Int) < zw ((σ12 0 2) - (σ12 0 3)) then bnd (zu σ12 0 4 (4 : Int)) fun σ13 => some σ13 else bnd (zu σ12 0 4 (2 : Int)) fun σ14 => some σ14)
def rm_X3_readFigures : Room := { frames := 1, cells := 0, slots := 0, locals := 21 }
noncomputable def x_X3_advance_b0 (σ0 : Mm) : Option (Mm ⊕ Mm) :=
  (if zw (σ0 0 1) ≤ zw (σ0 0 2) then some (.inr σ0) else (x_X3_signAt σ0 (σ0 0 2)).bind fun v1 => (x_X3_isBlank v1).bind fun v2 => (if zw v2 = 0 then some (.inr σ0) else bnd (zu σ0 0 2 ((σ0 0 2) + (1 : Int))) fun σ3 => some (.inl σ3)))
noncomputable def x_X3_advance_b85 (σ85 : Mm) : Option (Mm ⊕ Mm) :=
  (if zw (σ85 0 1) ≤ zw (σ85 0 2) then some (.inr σ85) else (x_X3_signAt σ85 (σ85 0 2)).bind fun v22 => (x_X3_isLetter v22).bind fun v23 => (if zw v23 = 0 then some (.inr σ85) else bnd (zu σ85 0 2 ((σ85 0 2) + (1 : Int))) fun σ24 => some (.inl σ24)))
noncomputable def x_X3_advance_j38 (σ_38 : Mm) : Option (Mm) :=
  bnd (zu σ_38 0 3 (σ_38 0 2)) fun σ9 => bnd (zu σ9 0 5 (0 : Int)) fun σ10 => (x_X3_signAt σ10 (σ10 0 2)).bind fun v11 => (if zw v11 ≠ zw (-1 : Int) then (x_X3_isLetter v11).bind fun v12 => (if zw v12 = 0 then (x_X3_isFigure v11).bind fun v13 => (if zw v13 = 0 then (if zw v11 ≠ zw (59 : Int) then bnd (zu σ10 0 4 (4 : Int)) fun σ14 => bnd (zu σ14 0 2 ((σ14 0 2) + (1 : Int))) fun σ15 => some σ15 else bnd (zu σ10 0 4 (3 : Int)) fun σ16 => bnd (zu σ16 0 2 ((σ16 0 2) + (1 : Int))) fun σ17 => some σ17) else (x_X3_readFigures σ10).bind fun σ19 => some σ19) else bnd (zu σ10 0 4 (1 : Int)) fun σ21 => (lup (fun (s27 : Mm) => x_X3_advance_b85 s27) σ21).bind fun σ29 => some σ29) else bnd (zu σ10 0 4 (0 : Int)) fun σ31 => some σ31)
noncomputable def x_X3_advance (σ : Mm) : Option (Mm) :=
  (lup (fun (s6 : Mm) => x_X3_advance_b0 s6) σ).bind fun σ8 => x_X3_advance_j38 σ8
def rm_X3_advance : Room := { frames := 2, cells := 0, slots := 0, locals := 41 }
noncomputable def x_X3_isWord_b28 (σ : Mm) (p1 : Nat) (u2_28 : Int) : Option (Int ⊕ ((Unit) ⊕ (Unit))) :=
  (x_zlen p1).bind fun v2 => (if zw v2 ≤ zw u2_28 then some (.inr (.inr ())) else (x_X3_signAt σ ((σ 0 3) + u2_28)).bind fun v3 => (x_zchr p1 u2_28).bind fun v4 => (if zw v3 = zw v4 then bnd (u2_28 + 1) fun v5 => some (.inl v5) else some (.inr (.inl ()))))
noncomputable def x_X3_isWord (σ : Mm) (p1 : Nat) : Option (Int) :=
  (if zw (σ 0 4) ≠ zw (1 : Int) then some (0 : Int) else (x_zlen p1).bind fun v1 => (if zw ((σ 0 2) - (σ 0 3)) = zw v1 then (lup (fun (s8 : Int) => x_X3_isWord_b28 σ p1 s8) (0 : Int)).bind fun e9 => zel e9 (fun _ => some (0 : Int)) (fun _ => some (1 : Int)) else some (0 : Int)))
def rm_X3_isWord : Room := { frames := 4, cells := 0, slots := 0, locals := 85 }
noncomputable def x_X3_errorAs (σ : Mm) (p1 : Int) : Option (Int) :=
  some (((8 : Int) * (σ 0 3)) + p1)
def rm_X3_errorAs : Room := { frames := 0, cells := 0, slots := 0, locals := 0 }
noncomputable def x_X3_rangeError (σ : Mm) (p1 : Int) (p2 : Int) : Option (Int) :=
  (if zw (σ 0 5) < zw p1 then (x_X3_errorAs σ (2 : Int)).bind fun v1 => some v1 else (if zw (σ 0 5) ≤ zw p2 then some (0 : Int) else (x_X3_errorAs σ (2 : Int)).bind fun v2 => some v2))
def rm_X3_rangeError : Room := { frames := 1, cells := 0, slots := 0, locals := 21 }
noncomputable def x_X3_readNumber (σ : Mm) (p1 : Int) (p2 : Int) : Option (Mm × Int) :=
  (x_X3_advance σ).bind fun σ1 => (if zw (σ1 0 4) ≠ zw (2 : Int) then (x_X3_errorAs σ1 (1 : Int)).bind fun v2 => some (σ1, v2) else (x_X3_rangeError σ1 p1 p2).bind fun v3 => some (σ1, v3))
def rm_X3_readNumber : Room := { frames := 3, cells := 0, slots := 0, locals := 62 }
noncomputable def x_X3_readSemicolon (σ : Mm) : Option (Mm × Int) :=
  (x_X3_advance σ).bind fun σ1 => (if zw (σ1 0 4) ≠ zw (3 : Int) then (x_X3_errorAs σ1 (1 : Int)).bind fun v2 => some (σ1, v2) else some (σ1, (0 : Int)))
def rm_X3_readSemicolon : Room := { frames := 3, cells := 0, slots := 0, locals := 62 }
noncomputable def x_X3_readHead_j77 (σ_77 : Mm) (v2_77 : Int) : Option (Mm × Int) :=
  (if zw v2_77 ≠ 0 then (if zw v2_77 ≠ 0 then some (σ_77, v2_77) else (x_X3_readSemicolon (zb zl_13 σ_77)).bind fun o => un2 o fun σ8 v9 => bnd (zj zl_13 σ_77 σ8) fun σ10 => some (σ10, v9)) else (x_X3_readNumber (zb zl_13 σ_77) (20 : Int) (500 : Int)).bind fun o => un2 o fun σ12 v13 => bnd (zj zl_13 σ_77 σ12) fun σ14 => bnd (zu σ14 3 2 (σ14 0 5)) fun σ15 => (if zw v13 ≠ 0 then some (σ15, v13) else (x_X3_readSemicolon (zb zl_13 σ15)).bind fun o => un2 o fun σ16 v17 => bnd (zj zl_13 σ15 σ16) fun σ18 => some (σ18, v17)))
noncomputable def x_X3_readHead_j57 (σ_57 : Mm) (v2_57 : Int) : Option (Mm × Int) :=
  (if zw v2_57 ≠ 0 then x_X3_readHead_j77 σ_57 v2_57 else (x_X3_readNumber (zb zl_13 σ_57) (0 : Int) (20 : Int)).bind fun o => un2 o fun σ21 v22 => bnd (zj zl_13 σ_57 σ21) fun σ23 => bnd (zu σ23 3 1 (σ23 0 5)) fun σ24 => x_X3_readHead_j77 σ24 v22)
noncomputable def x_X3_readHead (σ : Mm) : Option (Mm × Int) :=
  (x_X3_advance (zb zl_13 σ)).bind fun σ1 => bnd (zj zl_13 σ σ1) fun σ2 => (x_X3_isWord (zb zl_13 σ2) 1).bind fun v3 => (if zw v3 ≠ 0 then (x_X3_readNumber (zb zl_13 σ2) (0 : Int) (999999999 : Int)).bind fun o => un2 o fun σ4 v5 => bnd (zj zl_13 σ2 σ4) fun σ6 => bnd (zu σ6 3 3 (Int64.toInt (zi2l (σ6 0 5)))) fun σ7 => (if zw v5 ≠ 0 then x_X3_readHead_j57 σ7 v5 else (x_X3_readNumber (zb zl_13 σ7) (7 : Int) (10 : Int)).bind fun o => un2 o fun σ26 v27 => bnd (zj zl_13 σ7 σ26) fun σ28 => bnd (zu σ28 3 0 (σ28 0 5)) fun σ29 => x_X3_readHead_j57 σ29 v27) else (x_X3_errorAs (zb zl_13 σ2) (1 : Int)).bind fun v31 => some (σ2, v31))
def rm_X3_readHead : Room := { frames := 5, cells := 0, slots := 0, locals := 107 }
noncomputable def x_X3_readDeck_b33 (σ33 : Mm) (u1_33 : Int64) (u3_33 : Int) (u4_33 : Int) : Option ((Mm × Int64 × Int × Int) ⊕ ((Mm) ⊕ (Mm × Int))) :=
  (if zw (52 : Int) < zw u4_33 then some (.inr (.inr (σ33, u3_33))) else (if zw u3_33 ≠ 0 then some (.inr (.inr (σ33, u3_33))) else (if zw (σ33 0 4) ≠ zw (2 : Int) then some (.inr (.inr (σ33, u3_33))) else (x_X6_has u1_33 (σ33 0 5)).bind fun v6 => (if zw v6 ≠ 0 then some (.inr (.inl σ33)) else (if zw (σ33 0 7) < zw (52 : Int) then (x_X6_bitOf (σ33 0 5)).bind fun v7 => bnd ((u1_33 ||| v7)) fun v8 => (if zin (σ33 0 7) 52 then bnd (zu σ33 2 (zix (σ33 0 7)) (σ33 0 5)) fun σ9 => bnd (zu σ9 0 7 ((σ9 0 7) + (1 : Int))) fun σ11 => (x_X3_advance σ11).bind fun σ12 => (if zw (σ12 0 4) ≠ zw (2 : Int) then bnd (u4_33 + 1) fun v13 => some (.inl (σ12, v8, u3_33, v13)) else (x_X3_rangeError σ12 (0 : Int) (51 : Int)).bind fun v14 => bnd (u4_33 + 1) fun v15 => some (.inl (σ12, v8, v14, v15))) else none) else some (.inr (.inl σ33)))))))
noncomputable def x_X3_readDeck_j137 (σ_137 : Mm) (v3_137 : Int) : Option (Mm × Int) :=
  (if zw v3_137 = 0 then (if zw (σ_137 0 4) = zw (3 : Int) then (x_X3_advance σ_137).bind fun σ28 => some (σ28, (0 : Int)) else (x_X3_errorAs σ_137 (1 : Int)).bind fun v29 => some (σ_137, v29)) else some (σ_137, v3_137))
noncomputable def x_X3_readDeck (σ : Mm) : Option (Mm × Int) :=
  bnd (zu σ 0 7 (0 : Int)) fun σ1 => (x_X3_advance σ1).bind fun σ2 => (x_X3_isWord σ2 2).bind fun v3 => (if zw v3 ≠ 0 then (x_X3_readNumber σ2 (0 : Int) (51 : Int)).bind fun o => un2 o fun σ4 v5 => (lup (fun (s22 : Mm × Int64 × Int × Int) => x_X3_readDeck_b33 s22.1 s22.2.1 s22.2.2.1 s22.2.2.2) (σ4, (0 : Int64), v5, (0 : Int))).bind fun e23 => zel e23 (fun σ24 => (x_X3_errorAs σ24 (3 : Int)).bind fun v25 => some (σ24, v25)) (fun e => un2 e fun σ26 v27 => x_X3_readDeck_j137 σ26 v27) else some (σ2, (0 : Int)))
def rm_X3_readDeck : Room := { frames := 5, cells := 0, slots := 0, locals := 107 }
noncomputable def x_X3_arrange_b5 (σ : Mm) (u2_5 : Int64) (u4_5 : Int) : Option ((Int64 × Int) ⊕ Int64) :=
  (if zw (σ 0 7) ≤ zw u4_5 then some (.inr u2_5) else (if zw (52 : Int) ≤ zw u4_5 then some (.inr u2_5) else (if zin u4_5 52 then (x_X6_bitOf (σ 2 (zix u4_5))).bind fun v2 => bnd ((u2_5 ||| v2)) fun v3 => bnd (u4_5 + 1) fun v4 => some (.inl (v3, v4)) else none)))
noncomputable def x_X3_arrange_b49 (v2_40 : Int64) (σ49 : Mm) (u4_49 : Int) (u5_49 : Int) : Option ((Mm × Int × Int) ⊕ Mm) :=
  (if zw (52 : Int) ≤ zw u5_49 then some (.inr σ49) else (if zw (52 : Int) ≤ zw u4_49 then some (.inr σ49) else (x_X2_deckAt (zb zl_15 σ49) u5_49).bind fun v11 => (x_X6_has v2_40 v11).bind fun v12 => (if zw v12 ≠ 0 then bnd (u5_49 + 1) fun v13 => some (.inl (σ49, u4_49, v13)) else (if zin u4_49 52 then bnd (zu σ49 2 (zix u4_49) v11) fun σ14 => bnd (u4_49 + 1) fun v16 => bnd (u5_49 + 1) fun v17 => some (.inl (σ14, v16, v17)) else none))))
noncomputable def x_X3_arrange_j40 (σ_40 : Mm) (v2_40 : Int64) : Option (Mm) :=
  bnd ((σ_40 0 7)) fun v10 => (lup (fun (s21 : Mm × Int × Int) => x_X3_arrange_b49 v2_40 s21.1 s21.2.1 s21.2.2) (σ_40, v10, (0 : Int))).bind fun σ23 => bnd (zcp σ23 2 6 52) fun σ24 => some σ24
noncomputable def x_X3_arrange (σ : Mm) : Option (Mm) :=
  (lup (fun (s7 : Int64 × Int) => x_X3_arrange_b5 σ s7.1 s7.2) ((0 : Int64), (0 : Int))).bind fun v9 => x_X3_arrange_j40 σ v9
def rm_X3_arrange : Room := { frames := 2, cells := 0, slots := 0, locals := 80 }
noncomputable def x_X3_readDeal (σ : Mm) : Option (Mm × Int) :=
  bnd (zu σ 0 2 (0 : Int)) fun σ1 => (x_X3_readHead σ1).bind fun o => un2 o fun σ2 v3 => (if zw v3 ≠ 0 then (if zw v3 ≠ 0 then some (σ2, v3) else (x_X2_begin (zb zl_15 σ2)).bind fun σ4 => bnd (zj zl_15 σ2 σ4) fun σ5 => (x_X2_shuffle (zb zl_15 σ5)).bind fun σ6 => bnd (zj zl_15 σ5 σ6) fun σ7 => (x_X3_arrange σ7).bind fun σ8 => (x_X2_dealOut (zb zl_15 σ8)).bind fun σ9 => bnd (zj zl_15 σ8 σ9) fun σ10 => some (σ10, v3)) else (x_X3_readDeck (zb zl_13 σ2)).bind fun o => un2 o fun σ12 v13 => bnd (zj zl_13 σ2 σ12) fun σ14 => (if zw v13 ≠ 0 then some (σ14, v13) else (x_X2_begin (zb zl_15 σ14)).bind fun σ15 => bnd (zj zl_15 σ14 σ15) fun σ16 => (x_X2_shuffle (zb zl_15 σ16)).bind fun σ17 => bnd (zj zl_15 σ16 σ17) fun σ18 => (x_X3_arrange σ18).bind fun σ19 => (x_X2_dealOut (zb zl_15 σ19)).bind fun σ20 => bnd (zj zl_15 σ19 σ20) fun σ21 => some (σ21, v13)))
def rm_X3_readDeal : Room := { frames := 6, cells := 0, slots := 0, locals := 131 }
noncomputable def x_X3_isAtEnd (σ : Mm) : Option (Int) :=
  (if zw (σ 0 4) ≠ 0 then some (0 : Int) else some (1 : Int))
def rm_X3_isAtEnd : Room := { frames := 0, cells := 0, slots := 0, locals := 0 }
noncomputable def x_X3_moveTold (σ : Mm) : Option (Int) :=
  (x_X3_isWord σ 3).bind fun v1 => (if zw v1 = 0 then (x_X3_isWord σ 4).bind fun v2 => (if zw v2 = 0 then (x_X3_isWord σ 5).bind fun v3 => (if zw v3 = 0 then (x_X3_isWord σ 6).bind fun v4 => (if zw v4 = 0 then (x_X3_isWord σ 7).bind fun v5 => (if zw v5 = 0 then some (0 : Int) else some (5 : Int)) else some (4 : Int)) else some (3 : Int)) else some (2 : Int)) else some (1 : Int))
def rm_X3_moveTold : Room := { frames := 5, cells := 0, slots := 0, locals := 107 }
noncomputable def x_X3_readHeldCard (σ : Mm) : Option (Mm × Int) :=
  (x_X3_readNumber (zb zl_13 σ) (0 : Int) (51 : Int)).bind fun o => un2 o fun σ1 v2 => bnd (zj zl_13 σ σ1) fun σ3 => (if zw v2 ≠ 0 then some (σ3, v2) else (x_X2_handOf (zb zl_15 σ3) (σ3 3 5)).bind fun v4 => (x_X6_has v4 (σ3 0 5)).bind fun v5 => (if zw v5 ≠ 0 then some (σ3, v2) else (x_X3_errorAs (zb zl_13 σ3) (3 : Int)).bind fun v6 => some (σ3, v6)))
def rm_X3_readHeldCard : Room := { frames := 4, cells := 0, slots := 0, locals := 84 }
noncomputable def x_X5_addOne_b11 (σ : Mm) (p1 : Int64) (u3_2 : Int) (u4_11 : Int) : Option (Int ⊕ ((Int) ⊕ (Unit))) :=
  (if zw (σ 1 7) ≤ zw u4_11 then some (.inr (.inr ())) else (x_X6_has p1 u3_2).bind fun v1 => (if zw v1 = 0 then some (.inr (.inr ())) else (x_X1_foundAt (zb zl_16 σ) u4_11).bind fun v2 => (x_X6_bitOf u3_2).bind fun v3 => (x_X6_kindOf (v2 ||| v3)).bind fun v4 => (if zw v4 = 0 then bnd (u4_11 + 1) fun v5 => some (.inl v5) else some (.inr (.inl u4_11)))))
noncomputable def x_X5_addOne_b2 (σ : Mm) (p1 : Int64) (u3_2 : Int) : Option (Int ⊕ ((Int × Int) ⊕ (Unit))) :=
  (if zw (52 : Int) ≤ zw u3_2 then some (.inr (.inr ())) else (lup (fun (s9 : Int) => x_X5_addOne_b11 σ p1 u3_2 s9) (0 : Int)).bind fun e10 => zel e10 (fun v11 => some (.inr (.inl (u3_2, v11)))) (fun _ => bnd (u3_2 + 1) fun v12 => some (.inl v12)))
noncomputable def x_X5_addOne (σ : Mm) (p1 : Int64) : Option (Mm × Int) :=
  (lup (fun (s14 : Int) => x_X5_addOne_b2 σ p1 s14) (0 : Int)).bind fun e15 => zel e15 (fun e => un2 e fun v16 v17 => (x_X1_widen (zb zl_16 σ) v17 v16).bind fun σ18 => bnd (zj zl_16 σ σ18) fun σ19 => some (σ19, v16)) (fun _ => some (σ, (-1 : Int)))
def rm_X5_addOne : Room := { frames := 3, cells := 0, slots := 0, locals := 65 }
noncomputable def x_X5_settle_b44 (σ44 : Mm) (u5_44 : Int64) (u7_44 : Int) : Option ((Mm × Int64 × Int) ⊕ ((Mm × Int64) ⊕ (Mm × Int64))) :=
  (if zw (52 : Int) ≤ zw u7_44 then some (.inr (.inr (σ44, u5_44))) else (if zw (σ44 0 2) ≤ 0 then some (.inr (.inr (σ44, u5_44))) else (x_X5_addOne σ44 u5_44).bind fun o => un2 o fun σ8 v9 => (if zw v9 ≠ zw (-1 : Int) then (x_X6_bitOf v9).bind fun v10 => bnd ((u5_44 &&& (v10 ^^^ (-1 : Int64)))) fun v11 => bnd (zu σ8 0 4 ((σ8 0 4) + (1 : Int))) fun σ12 => bnd (u7_44 + 1) fun v13 => some (.inl (σ12, v11, v13)) else some (.inr (.inl (σ8, u5_44))))))
noncomputable def x_X5_settle (σ : Mm) (p1 : Int64) (p3 : Int64) : Option (Mm) :=
  (x_X1_lay (zb zl_16 σ) p1).bind fun σ1 => bnd (zj zl_16 σ σ1) fun σ2 => (x_X1_lay (zb zl_18 σ2) p3).bind fun σ3 => bnd (zj zl_18 σ2 σ3) fun σ4 => bnd (zu σ4 0 2 (σ4 1 10)) fun σ5 => bnd (zu σ5 0 4 (0 : Int)) fun σ6 => bnd ((zL (σ6 8 9))) fun v7 => (lup (fun (s17 : Mm × Int64 × Int) => x_X5_settle_b44 s17.1 s17.2.1 s17.2.2) (σ6, v7, (0 : Int))).bind fun e18 => zel e18 (fun e => un2 e fun σ19 v20 => (x_X6_pointsOf v20).bind fun v21 => bnd (zu σ19 0 3 v21) fun σ22 => some σ22) (fun e => un2 e fun σ23 v24 => (x_X6_pointsOf v24).bind fun v25 => bnd (zu σ23 0 3 v25) fun σ26 => some σ26)
def rm_X5_settle : Room := { frames := 8, cells := 0, slots := 0, locals := 205 }
noncomputable def x_X5_gain (σ : Mm) : Option (Int) :=
  (if zw (σ 0 2) ≠ 0 then (if zw (σ 0 3) ≤ zw (σ 0 2) then some (((σ 0 3) - (σ 0 2)) - (10 : Int)) else some ((σ 0 3) - (σ 0 2))) else some ((σ 0 3) + (20 : Int)))
def rm_X5_gain : Room := { frames := 0, cells := 0, slots := 0, locals := 0 }
noncomputable def x_X3_play (σ : Mm) (p1 : Int) (p2 : Int) : Option (Mm × Int) :=
  (if zw p1 = 3 then (x_X2_reasonAgainstDrop (zb zl_19 σ) p2).bind fun v1 => (if zw v1 ≠ 0 then (if zw v1 ≠ 0 then some (σ, (0 : Int)) else some (σ, (1 : Int))) else (x_X2_endTurn (zb zl_19 σ) p2).bind fun σ3 => bnd (zj zl_19 σ σ3) fun σ4 => (if zw v1 ≠ 0 then some (σ4, (0 : Int)) else some (σ4, (1 : Int)))) else (if zw p1 = 4 then (x_X2_handWithout (zb zl_19 σ) p2).bind fun v7 => (x_X2_otherHand (zb zl_19 σ)).bind fun v8 => (x_X5_settle (zb zl_20 σ) v7 v8).bind fun σ9 => bnd (zj zl_20 σ σ9) fun σ10 => (x_X2_reasonAgainstKnock (zb zl_19 σ10) p2 (σ10 5 2)).bind fun v11 => (if zw v11 ≠ 0 then (if zw v11 ≠ 0 then some (σ10, (0 : Int)) else some (σ10, (1 : Int))) else (x_X5_gain (zb zl_20 σ10)).bind fun v13 => (x_X2_endRound (zb zl_19 σ10) p2 v13).bind fun σ14 => bnd (zj zl_19 σ10 σ14) fun σ15 => (if zw v11 ≠ 0 then some (σ15, (0 : Int)) else some (σ15, (1 : Int)))) else (if zw p1 = 5 then (x_X2_reasonAgainstDeal (zb zl_19 σ)).bind fun v18 => (if zw v18 ≠ 0 then (if zw v18 ≠ 0 then some (σ, (0 : Int)) else some (σ, (1 : Int))) else (x_X2_beginNextRound (zb zl_19 σ)).bind fun σ20 => bnd (zj zl_19 σ σ20) fun σ21 => (if zw v18 ≠ 0 then some (σ21, (0 : Int)) else some (σ21, (1 : Int)))) else (x_X2_reasonAgainstDraw (zb zl_19 σ)).bind fun v24 => (if zw v24 ≠ 0 then (if zw v24 ≠ 0 then some (σ, (0 : Int)) else some (σ, (1 : Int))) else (if zw p1 ≠ zw (2 : Int) then (x_X2_takeCard (zb zl_19 σ) (0 : Int)).bind fun o => un2 o fun σ26 v27 => bnd (zj zl_19 σ σ26) fun σ28 => (if zw v24 ≠ 0 then some (σ28, (0 : Int)) else some (σ28, (1 : Int))) else (x_X2_takeCard (zb zl_19 σ) (1 : Int)).bind fun o => un2 o fun σ30 v31 => bnd (zj zl_19 σ σ30) fun σ32 => (if zw v24 ≠ 0 then some (σ32, (0 : Int)) else some (σ32, (1 : Int))))))))
def rm_X3_play : Room := { frames := 9, cells := 0, slots := 0, locals := 233 }
noncomputable def x_X3_readMove_j55 (σ_55 : Mm) (v3_55 : Int) (v4_55 : Int) (v5_55 : Int) : Option (Mm × Int) :=
  (if zw v5_55 = 0 then (x_X3_play (zb zl_23 σ_55) v3_55 v4_55).bind fun o => un2 o fun σ6 v7 => bnd (zj zl_23 σ_55 σ6) fun σ8 => (if zw v7 ≠ 0 then (x_X3_advance (zb zl_21 σ8)).bind fun σ9 => bnd (zj zl_21 σ8 σ9) fun σ10 => some (σ10, (0 : Int)) else (x_X3_errorAs (zb zl_21 σ8) (4 : Int)).bind fun v11 => some (σ8, v11)) else some (σ_55, v5_55))
noncomputable def x_X3_readMove_j44 (σ_44 : Mm) (v3_44 : Int) (v4_44 : Int) (v5_44 : Int) : Option (Mm × Int) :=
  (if zw v5_44 ≠ 0 then x_X3_readMove_j55 σ_44 v3_44 v4_44 v5_44 else (x_X3_readSemicolon (zb zl_21 σ_44)).bind fun o => un2 o fun σ14 v15 => bnd (zj zl_21 σ_44 σ14) fun σ16 => x_X3_readMove_j55 σ16 v3_44 v4_44 v15)
noncomputable def x_X3_readMove_j31 (σ_31 : Mm) (v3_31 : Int) : Option (Mm × Int) :=
  (x_X3_readHeldCard (zb zl_22 σ_31)).bind fun o => un2 o fun σ2 v3 => bnd (zj zl_22 σ_31 σ2) fun σ4 => bnd ((σ4 0 5)) fun v5 => x_X3_readMove_j44 σ4 v3_31 v5 v3
noncomputable def x_X3_readMove (σ : Mm) : Option (Mm × Int) :=
  (x_X3_moveTold (zb zl_21 σ)).bind fun v1 => (if zw v1 ≠ 0 then (if zw v1 = zw (3 : Int) then x_X3_readMove_j31 σ v1 else (if zw v1 ≠ zw (4 : Int) then x_X3_readMove_j44 σ v1 (-1 : Int) (0 : Int) else x_X3_readMove_j31 σ v1)) else (x_X3_errorAs (zb zl_21 σ) (1 : Int)).bind fun v20 => some (σ, v20))
def rm_X3_readMove : Room := { frames := 10, cells := 0, slots := 0, locals := 257 }
noncomputable def x_X4_init (σ : Mm) : Option (Mm) :=
  bnd (zu (zj [1] σ (fun _ _ => 0)) 0 0 1) fun σ1 => (if ∀ g ∈ ([(0, 0)] : List (Nat × Nat)), σ1 g.1 g.2 ≠ 0 then some σ1 else none)
def rm_X4_init : Room := { frames := 2, cells := 1, slots := 64, locals := 80 }
noncomputable def x_X4_writeSign (σ : Mm) (p1 : Int) : Option (Mm) :=
  (if zw (σ 0 1) < 0 then some σ else (if zw (64 : Int) ≤ zw (σ 0 1) then some σ else (if zin (σ 0 1) 64 then bnd (zu σ 1 (zix (σ 0 1)) (zi2b (zi2b p1))) fun σ1 => bnd (zu σ1 0 1 ((σ1 0 1) + (1 : Int))) fun σ3 => some σ3 else none)))
def rm_X4_writeSign : Room := { frames := 0, cells := 0, slots := 0, locals := 0 }
noncomputable def x_X4_writeCard (σ : Mm) (p1 : Int) : Option (Mm) :=
  bnd ((zrem p1 (13 : Int))) fun v1 => bnd ((zdiv p1 (13 : Int))) fun v2 => (if zw v1 < 0 then some σ else (x_zlen 11).bind fun v3 => (if zw v3 ≤ zw v1 then some σ else (if zw v2 < 0 then some σ else (x_zlen 12).bind fun v4 => (if zw v4 ≤ zw v2 then some σ else (x_zchr 11 v1).bind fun v5 => (x_X4_writeSign σ v5).bind fun σ6 => (x_zchr 12 v2).bind fun v7 => (x_X4_writeSign σ6 v7).bind fun σ8 => some σ8))))
def rm_X4_writeCard : Room := { frames := 4, cells := 0, slots := 0, locals := 85 }
noncomputable def x_X4_writeCards_b6 (p1 : Int64) (p3 : Int) (σ6 : Mm) (u4_6 : Int) (u5_6 : Int) : Option ((Mm × Int × Int) ⊕ Mm) :=
  (if zw (52 : Int) ≤ zw u5_6 then some (.inr σ6) else bnd ((zrem (p3 + u5_6) (52 : Int))) fun v1 => (x_X6_has p1 v1).bind fun v2 => (if zw v2 = 0 then bnd (u5_6 + 1) fun v3 => some (.inl (σ6, u4_6, v3)) else (if zw u4_6 = 0 then (x_X4_writeCard σ6 v1).bind fun σ4 => bnd (u5_6 + 1) fun v5 => some (.inl (σ4, (1 : Int), v5)) else (x_X4_writeSign σ6 (44 : Int)).bind fun σ6 => (x_X4_writeCard σ6 v1).bind fun σ7 => bnd (u5_6 + 1) fun v8 => some (.inl (σ7, (1 : Int), v8)))))
noncomputable def x_X4_writeCards (σ : Mm) (p1 : Int64) (p3 : Int) : Option (Mm) :=
  (lup (fun (s12 : Mm × Int × Int) => x_X4_writeCards_b6 p1 p3 s12.1 s12.2.1 s12.2.2) (σ, (0 : Int), (0 : Int))).bind fun σ14 => some σ14
def rm_X4_writeCards : Room := { frames := 5, cells := 0, slots := 0, locals := 108 }
noncomputable def x_X4_writeMeld (σ : Mm) (p1 : Int64) : Option (Mm) :=
  (x_X6_kindOf p1).bind fun v1 => (if zw v1 ≠ zw (2 : Int) then (x_X6_lowestOf p1).bind fun v2 => (x_X4_writeCards σ p1 v2).bind fun σ3 => some σ3 else (x_X6_firstOf p1).bind fun v4 => (x_X4_writeCards σ p1 v4).bind fun σ5 => some σ5)
def rm_X4_writeMeld : Room := { frames := 6, cells := 0, slots := 0, locals := 134 }
noncomputable def x_X4_write_b7 (σ7 : Mm) (u2_7 : Int) : Option ((Mm × Int) ⊕ Mm) :=
  (if zw (σ7 2 7) ≤ zw u2_7 then some (.inr σ7) else (if zw u2_7 ≤ 0 then (x_X1_foundAt (zb zl_26 σ7) u2_7).bind fun v2 => (x_X4_writeMeld (zb zl_27 σ7) v2).bind fun σ3 => bnd (zj zl_27 σ7 σ3) fun σ4 => bnd (u2_7 + 1) fun v5 => some (.inl (σ4, v5)) else (x_X4_writeSign (zb zl_27 σ7) (32 : Int)).bind fun σ6 => bnd (zj zl_27 σ7 σ6) fun σ7 => (x_X1_foundAt (zb zl_26 σ7) u2_7).bind fun v8 => (x_X4_writeMeld (zb zl_27 σ7) v8).bind fun σ9 => bnd (zj zl_27 σ7 σ9) fun σ10 => bnd (u2_7 + 1) fun v11 => some (.inl (σ10, v11))))
noncomputable def x_X4_write (σ : Mm) : Option (Mm) :=
  bnd (zu σ 0 1 (0 : Int)) fun σ1 => (lup (fun (s14 : Mm × Int) => x_X4_write_b7 s14.1 s14.2) (σ1, (0 : Int))).bind fun σ16 => (if zw (zcmp (zL (σ16 2 9)) (0 : Int64)) = 0 then some σ16 else (if zw (σ16 0 1) ≤ 0 then (x_X4_writeSign (zb zl_27 σ16) (45 : Int)).bind fun σ17 => bnd (zj zl_27 σ16 σ17) fun σ18 => (x_X6_lowestOf (zL (σ18 2 9))).bind fun v19 => (x_X4_writeCards (zb zl_27 σ18) (zL (σ18 2 9)) v19).bind fun σ20 => bnd (zj zl_27 σ18 σ20) fun σ21 => some σ21 else (x_X4_writeSign (zb zl_27 σ16) (32 : Int)).bind fun σ22 => bnd (zj zl_27 σ16 σ22) fun σ23 => (x_X4_writeSign (zb zl_27 σ23) (45 : Int)).bind fun σ24 => bnd (zj zl_27 σ23 σ24) fun σ25 => (x_X6_lowestOf (zL (σ25 2 9))).bind fun v26 => (x_X4_writeCards (zb zl_27 σ25) (zL (σ25 2 9)) v26).bind fun σ27 => bnd (zj zl_27 σ25 σ27) fun σ28 => some σ28))
def rm_X4_write : Room := { frames := 7, cells := 0, slots := 0, locals := 156 }
noncomputable def x_X4_signAt (σ : Mm) (p1 : Int) : Option (Int) :=
  (if zw p1 < 0 then some (-1 : Int) else (if zw (σ 0 1) ≤ zw p1 then some (-1 : Int) else (if zw (64 : Int) ≤ zw p1 then some (-1 : Int) else (if zin p1 64 then some (σ 1 (zix p1)) else none))))
def rm_X4_signAt : Room := { frames := 0, cells := 0, slots := 0, locals := 0 }
noncomputable def x_X5_init (σ : Mm) : Option (Mm) :=
  (x_X1_init (fun _ _ => 0)).bind fun σ2 => bnd (zu (zj zl_29 σ σ2) 0 0 1) fun σ1 => (x_X1_init (fun _ _ => 0)).bind fun σ4 => bnd (zu (zj zl_30 σ1 σ4) 0 1 1) fun σ3 => (if ∀ g ∈ ([(0, 0), (0, 1)] : List (Nat × Nat)), σ3 g.1 g.2 ≠ 0 then some σ3 else none)
def rm_X5_init : Room := { frames := 3, cells := 14, slots := 556, locals := 100 }
noncomputable def x_X6_init (σ : Mm) : Option (Mm) :=
  (x_X2_init (fun _ _ => 0)).bind fun σ2 => bnd (zu (zj zl_32 σ σ2) 0 0 1) fun σ1 => (x_X2_init (fun _ _ => 0)).bind fun σ4 => bnd (zu (zj zl_33 σ1 σ4) 0 1 1) fun σ3 => (x_X0_init (fun _ _ => 0)).bind fun σ6 => bnd (zu (zj zl_34 σ3 σ6) 0 2 1) fun σ5 => bnd (zu (zj zl_35 σ5 (fun _ _ => 0)) 0 3 1) fun σ7 => (x_X3_init (fun _ _ => 0)).bind fun σ9 => bnd (zu (zj zl_36 σ7 σ9) 0 4 1) fun σ8 => (x_X1_init (fun _ _ => 0)).bind fun σ11 => bnd (zu (zj zl_37 σ8 σ11) 0 5 1) fun σ10 => (x_X5_init (fun _ _ => 0)).bind fun σ13 => bnd (zu (zj zl_38 σ10 σ13) 0 6 1) fun σ12 => (x_X4_init (fun _ _ => 0)).bind fun σ15 => bnd (zu (zj zl_39 σ12 σ15) 0 7 1) fun σ14 => (if ∀ g ∈ ([(0, 0), (0, 1), (0, 2), (0, 3), (0, 4), (0, 5), (0, 6), (0, 7)] : List (Nat × Nat)), σ14 g.1 g.2 ≠ 0 then (x_X3_write (zb zl_41 σ14) 0).bind fun σ16 => bnd (zj zl_41 σ14 σ16) fun σ17 => (x_X3_readDeal (zb zl_42 σ17)).bind fun o => un2 o fun σ18 v19 => bnd (zj zl_42 σ17 σ18) fun σ20 => (x_X3_shorten (zb zl_41 σ20) (0 : Int)).bind fun σ21 => bnd (zj zl_41 σ20 σ21) fun σ22 => some σ22 else none)
def rm_X6_init : Room := { frames := 7, cells := 40, slots := 1730, locals := 153 }
noncomputable def x_X6_load_b14 (σ14 : Mm) (u1_14 : Int) (u2_14 : Int) : Option ((Mm × Int × Int) ⊕ (Mm × Int)) :=
  (if zw (500 : Int) ≤ zw u2_14 then some (.inr (σ14, u1_14)) else (if zw u1_14 ≠ 0 then some (.inr (σ14, u1_14)) else (x_X3_isAtEnd (zb zl_41 σ14)).bind fun v4 => (if zw v4 ≠ 0 then some (.inr (σ14, u1_14)) else (x_X3_readMove (zb zl_44 σ14)).bind fun o => un2 o fun σ5 v6 => bnd (zj zl_44 σ14 σ5) fun σ7 => bnd (u2_14 + 1) fun v8 => some (.inl (σ7, v6, v8)))))
noncomputable def x_X6_load (σ : Mm) : Option (Mm × Int) :=
  (x_X3_readDeal (zb zl_43 σ)).bind fun o => un2 o fun σ1 v2 => bnd (zj zl_43 σ σ1) fun σ3 => (lup (fun (s12 : Mm × Int × Int) => x_X6_load_b14 s12.1 s12.2.1 s12.2.2) (σ3, v2, (0 : Int))).bind fun e => un2 e fun σ14 v15 => (x_X3_shorten (zb zl_41 σ14) (0 : Int)).bind fun σ16 => bnd (zj zl_41 σ14 σ16) fun σ17 => (if zw v15 = 0 then (x_X0_push (zb zl_45 σ17)).bind fun σ18 => bnd (zj zl_45 σ17 σ18) fun σ19 => (x_X2_copyFrom (zb zl_46 σ19)).bind fun σ20 => bnd (zj zl_46 σ19 σ20) fun σ21 => some (σ21, (σ21 1 0)) else some (σ17, ((-30 : Int) - v15)))
def rm_X6_load : Room := { frames := 11, cells := 5, slots := 125, locals := 282 }
noncomputable def x_X6_draw (σ : Mm) (p1 : Int) : Option (Mm × Int) :=
  (x_X2_reasonAgainstDraw (zb zl_47 σ)).bind fun v1 => (if zw v1 = 0 then (x_X0_push (zb zl_45 σ)).bind fun σ2 => bnd (zj zl_45 σ σ2) fun σ3 => (x_X2_takeCard (zb zl_47 σ3) p1).bind fun o => un2 o fun σ4 v5 => bnd (zj zl_47 σ3 σ4) fun σ6 => some (σ6, v5) else some (σ, ((-100 : Int) - v1)))
def rm_X6_draw : Room := { frames := 4, cells := 5, slots := 125, locals := 124 }
noncomputable def x_X6_requireHeld (σ : Mm) (p1 : Int) (p2 : Int) : Option ((Unit) ⊕ Nat) :=
  (x_X2_handOf (zb zl_47 σ) p1).bind fun v1 => (x_X6_has v1 p2).bind fun v2 => (if zw v2 ≠ 0 then inlO (some ()) else some (.inr 1))
def rm_X6_requireHeld : Room := { frames := 12, cells := 0, slots := 0, locals := 250 }
def rmx_X6_requireHeld : Room := { frames := 12, cells := 1, slots := 6, locals := 250 }
noncomputable def x_X6_drop (σ : Mm) (p1 : Int) : Option ((Mm × Int) ⊕ Nat) :=
  (x_X6_requireHeld σ (σ 1 5) p1).bind fun r => thr r (fun _ => inlO ((x_X2_reasonAgainstDrop (zb zl_47 σ) p1).bind fun v1 => (if zw v1 = 0 then (x_X0_push (zb zl_45 σ)).bind fun σ2 => bnd (zj zl_45 σ σ2) fun σ3 => (x_X2_endTurn (zb zl_47 σ3) p1).bind fun σ4 => bnd (zj zl_47 σ3 σ4) fun σ5 => (x_X2_stockCount (zb zl_47 σ5)).bind fun v6 => some (σ5, v6) else some (σ, ((-100 : Int) - v1)))))
def rm_X6_drop : Room := { frames := 13, cells := 5, slots := 125, locals := 272 }
def rmx_X6_drop : Room := { frames := 13, cells := 1, slots := 6, locals := 272 }
noncomputable def x_X6_knock (σ : Mm) (p1 : Int) : Option ((Mm × Int) ⊕ Nat) :=
  (x_X6_requireHeld σ (σ 1 5) p1).bind fun r => thr r (fun _ => inlO ((x_X2_handWithout (zb zl_47 σ) p1).bind fun v1 => (x_X2_otherHand (zb zl_47 σ)).bind fun v2 => (x_X5_settle (zb zl_49 σ) v1 v2).bind fun σ3 => bnd (zj zl_49 σ σ3) fun σ4 => (x_X2_reasonAgainstKnock (zb zl_47 σ4) p1 (σ4 84 2)).bind fun v5 => (if zw v5 = 0 then (x_X0_push (zb zl_45 σ4)).bind fun σ6 => bnd (zj zl_45 σ4 σ6) fun σ7 => (x_X5_gain (zb zl_49 σ7)).bind fun v8 => (x_X2_endRound (zb zl_47 σ7) p1 v8).bind fun σ9 => bnd (zj zl_47 σ7 σ9) fun σ10 => (x_X5_gain (zb zl_49 σ10)).bind fun v11 => some (σ10, v11) else some (σ4, ((-1000 : Int) - v5)))))
def rm_X6_knock : Room := { frames := 13, cells := 5, slots := 125, locals := 272 }
def rmx_X6_knock : Room := { frames := 13, cells := 1, slots := 6, locals := 272 }
noncomputable def x_X6_deal (σ : Mm) : Option (Mm × Int) :=
  (x_X2_reasonAgainstDeal (zb zl_47 σ)).bind fun v1 => (if zw v1 = 0 then (x_X0_push (zb zl_45 σ)).bind fun σ2 => bnd (zj zl_45 σ σ2) fun σ3 => (x_X2_beginNextRound (zb zl_47 σ3)).bind fun σ4 => bnd (zj zl_47 σ3 σ4) fun σ5 => some (σ5, (σ5 1 4)) else some (σ, (-v1)))
def rm_X6_deal : Room := { frames := 4, cells := 5, slots := 125, locals := 124 }
noncomputable def x_X6_isWithin (p0 : Int) (p1 : Int) (p2 : Int) : Option (Int) :=
  (if zw p0 < zw p1 then some (0 : Int) else (if zw p2 < zw p0 then some (0 : Int) else some (1 : Int)))
def rm_X6_isWithin : Room := { frames := 0, cells := 0, slots := 0, locals := 0 }
noncomputable def x_X6_require (p0 : Int) : Option ((Unit) ⊕ Nat) :=
  (if zw p0 ≠ 0 then inlO (some ()) else some (.inr 0))
def rm_X6_require : Room := { frames := 12, cells := 0, slots := 0, locals := 250 }
def rmx_X6_require : Room := { frames := 12, cells := 1, slots := 6, locals := 250 }
noncomputable def x_X6_set (σ : Mm) (p1 : Int) (p2 : Int) : Option ((Mm × Int) ⊕ Nat) :=
  (if zw p1 = 0 then (x_X6_isWithin p2 (0 : Int) (20 : Int)).bind fun v1 => (x_X6_require v1).bind fun r => thr r (fun _ => inlO ((x_X0_push (zb zl_45 σ)).bind fun σ2 => bnd (zj zl_45 σ σ2) fun σ3 => (if zw p1 = 0 then bnd ((σ3 1 1)) fun v4 => (if zw p1 = 0 then bnd (zu σ3 1 1 p2) fun σ5 => some (σ5, v4) else bnd (zu σ3 1 2 p2) fun σ6 => some (σ6, v4)) else bnd ((σ3 1 2)) fun v8 => (if zw p1 = 0 then bnd (zu σ3 1 1 p2) fun σ9 => some (σ9, v8) else bnd (zu σ3 1 2 p2) fun σ10 => some (σ10, v8))))) else (x_X6_isWithin p2 (20 : Int) (500 : Int)).bind fun v13 => (x_X6_require v13).bind fun r => thr r (fun _ => inlO ((x_X0_push (zb zl_45 σ)).bind fun σ14 => bnd (zj zl_45 σ σ14) fun σ15 => (if zw p1 = 0 then bnd ((σ15 1 1)) fun v16 => (if zw p1 = 0 then bnd (zu σ15 1 1 p2) fun σ17 => some (σ17, v16) else bnd (zu σ15 1 2 p2) fun σ18 => some (σ18, v16)) else bnd ((σ15 1 2)) fun v20 => (if zw p1 = 0 then bnd (zu σ15 1 1 p2) fun σ21 => some (σ21, v20) else bnd (zu σ15 1 2 p2) fun σ22 => some (σ22, v20))))))
def rm_X6_set : Room := { frames := 13, cells := 5, slots := 125, locals := 270 }
def rmx_X6_set : Room := { frames := 13, cells := 1, slots := 6, locals := 270 }
noncomputable def x_X6_undo (σ : Mm) : Option (Mm × Int) :=
  (x_X0_pop (zb zl_45 σ)).bind fun o => un2 o fun σ1 v2 => bnd (zj zl_45 σ σ1) fun σ3 => (if zw v2 = 0 then some (σ3, (-1 : Int)) else some (σ3, (σ3 11 2)))
def rm_X6_undo : Room := { frames := 4, cells := 0, slots := 0, locals := 124 }
noncomputable def x_X6_keep (σ : Mm) (p1 : Int) : Option ((Mm × Int) ⊕ Nat) :=
  (if zw p1 < 0 then (x_X6_require (0 : Int)).bind fun r => thr r (fun _ => inlO ((if zin p1 2 then (if σ 63 (zix p1) = 0 then (if zin p1 2 then (x_X2_init (fun _ _ => 0)).bind fun σ2 => bnd (zu (zj (zl_50 (zix p1)) σ σ2) 63 (zix p1) 1) fun σ1 => (if zin p1 2 then (if σ1 63 (zix p1) = 0 then none else (x_X2_copyFrom (zb (zl_51 (zix p1)) σ1)).bind fun σ4 => bnd (zj (zl_51 (zix p1)) σ1 σ4) fun σ5 => some (σ5, (σ5 1 4))) else none) else none) else (if zin p1 2 then (if σ 63 (zix p1) = 0 then none else (x_X2_copyFrom (zb (zl_51 (zix p1)) σ)).bind fun σ7 => bnd (zj (zl_51 (zix p1)) σ σ7) fun σ8 => some (σ8, (σ8 1 4))) else none)) else none))) else (if zw (2 : Int) ≤ zw p1 then (x_X6_require (0 : Int)).bind fun r => thr r (fun _ => inlO ((if zin p1 2 then (if σ 63 (zix p1) = 0 then (if zin p1 2 then (x_X2_init (fun _ _ => 0)).bind fun σ12 => bnd (zu (zj (zl_50 (zix p1)) σ σ12) 63 (zix p1) 1) fun σ11 => (if zin p1 2 then (if σ11 63 (zix p1) = 0 then none else (x_X2_copyFrom (zb (zl_51 (zix p1)) σ11)).bind fun σ14 => bnd (zj (zl_51 (zix p1)) σ11 σ14) fun σ15 => some (σ15, (σ15 1 4))) else none) else none) else (if zin p1 2 then (if σ 63 (zix p1) = 0 then none else (x_X2_copyFrom (zb (zl_51 (zix p1)) σ)).bind fun σ17 => bnd (zj (zl_51 (zix p1)) σ σ17) fun σ18 => some (σ18, (σ18 1 4))) else none)) else none))) else (x_X6_require (1 : Int)).bind fun r => thr r (fun _ => inlO ((if zin p1 2 then (if σ 63 (zix p1) = 0 then (if zin p1 2 then (x_X2_init (fun _ _ => 0)).bind fun σ22 => bnd (zu (zj (zl_50 (zix p1)) σ σ22) 63 (zix p1) 1) fun σ21 => (if zin p1 2 then (if σ21 63 (zix p1) = 0 then none else (x_X2_copyFrom (zb (zl_51 (zix p1)) σ21)).bind fun σ24 => bnd (zj (zl_51 (zix p1)) σ21 σ24) fun σ25 => some (σ25, (σ25 1 4))) else none) else none) else (if zin p1 2 then (if σ 63 (zix p1) = 0 then none else (x_X2_copyFrom (zb (zl_51 (zix p1)) σ)).bind fun σ27 => bnd (zj (zl_51 (zix p1)) σ σ27) fun σ28 => some (σ28, (σ28 1 4))) else none)) else none)))))
def rm_X6_keep : Room := { frames := 13, cells := 5, slots := 125, locals := 270 }
def rmx_X6_keep : Room := { frames := 13, cells := 1, slots := 6, locals := 270 }
noncomputable def x_X6_restore_j18 (σ : Mm) (v1_18 : Int) (w0_18 : Int) : Option ((Mm × Int) ⊕ Nat) :=
  (x_X6_require w0_18).bind fun r => thr r (fun _ => (if zin v1_18 2 then (if σ 63 (zix v1_18) = 0 then some (.inr 2) else inlO ((if zin v1_18 2 then (if σ 63 (zix v1_18) = 0 then none else (x_X2_copyFrom (zb (zl_52 (zix v1_18)) σ)).bind fun σ1 => bnd (zj (zl_52 (zix v1_18)) σ σ1) fun σ2 => (x_X0_forget (zb zl_53 σ2)).bind fun σ3 => bnd (zj zl_53 σ2 σ3) fun σ4 => some (σ4, (σ4 1 4))) else none))) else none))
noncomputable def x_X6_restore_j17 (σ : Mm) (v1_17 : Int) : Option ((Mm × Int) ⊕ Nat) :=
  x_X6_restore_j18 σ v1_17 (0 : Int)
noncomputable def x_X6_restore (σ : Mm) (p1 : Int) : Option ((Mm × Int) ⊕ Nat) :=
  (if zw p1 < 0 then x_X6_restore_j17 σ p1 else (if zw (2 : Int) ≤ zw p1 then x_X6_restore_j17 σ p1 else x_X6_restore_j18 σ p1 (1 : Int)))
def rm_X6_restore : Room := { frames := 13, cells := 0, slots := 0, locals := 270 }
def rmx_X6_restore : Room := { frames := 13, cells := 1, slots := 6, locals := 270 }
noncomputable def x_X6_append (σ : Mm) (p1 : Int) (p2 : Int) (p3 : Int) (p4 : Int) (p5 : Int) : Option (Mm × Int) :=
  (if zw ((σ 74 1) + (20 : Int)) ≤ zw (500 : Int) then (x_X3_writeFour (zb zl_41 σ) p1).bind fun σ1 => bnd (zj zl_41 σ σ1) fun σ2 => (x_X3_writeFour (zb zl_41 σ2) p2).bind fun σ3 => bnd (zj zl_41 σ2 σ3) fun σ4 => (x_X3_writeFour (zb zl_41 σ4) p3).bind fun σ5 => bnd (zj zl_41 σ4 σ5) fun σ6 => (x_X3_writeFour (zb zl_41 σ6) p4).bind fun σ7 => bnd (zj zl_41 σ6 σ7) fun σ8 => (x_X3_writeFour (zb zl_41 σ8) p5).bind fun σ9 => bnd (zj zl_41 σ8 σ9) fun σ10 => some (σ10, (σ10 74 1)) else some (σ, (-20 : Int)))
def rm_X6_append : Room := { frames := 2, cells := 0, slots := 0, locals := 43 }
noncomputable def x_X6_truncate (σ : Mm) (p1 : Int) : Option ((Mm × Int) ⊕ Nat) :=
  (x_X6_isWithin p1 (0 : Int) (σ 74 1)).bind fun v1 => (x_X6_require v1).bind fun r => thr r (fun _ => inlO ((x_X3_shorten (zb zl_41 σ) p1).bind fun σ2 => bnd (zj zl_41 σ σ2) fun σ3 => some (σ3, p1)))
def rm_X6_truncate : Room := { frames := 13, cells := 0, slots := 0, locals := 270 }
def rmx_X6_truncate : Room := { frames := 13, cells := 1, slots := 6, locals := 270 }
noncomputable def x_X6_match (σ : Mm) (p1 : Int) : Option ((Int) ⊕ Nat) :=
  (x_X6_isWithin p1 (0 : Int) (16 : Int)).bind fun v1 => (x_X6_require v1).bind fun r => thr r (fun _ => inlO ((if zw p1 = 0 then some (σ 1 0) else (if zw p1 = 1 then some (σ 1 1) else (if zw p1 = 2 then some (σ 1 2) else (if zw p1 = 3 then some (σ 1 4) else (if zw p1 = 4 then some (σ 1 5) else (if zw p1 = 5 then (if zw (σ 1 6) = 0 then some (0 : Int) else some (1 : Int)) else (if zw p1 = 6 then (if zw (σ 1 8) = 0 then some (0 : Int) else some (1 : Int)) else (if zw p1 = 7 then (x_X2_isMatchOver (zb zl_47 σ)).bind fun v4 => (if zw v4 = 0 then some (0 : Int) else some (1 : Int)) else (if zw p1 = 8 then (x_X2_stockCount (zb zl_47 σ)).bind fun v6 => some v6 else (if zw p1 = 9 then some (σ 1 16) else (if zw p1 = 10 then (x_X2_topOfPile (zb zl_47 σ)).bind fun v7 => some v7 else (if zw p1 = 11 then (x_X2_score (zb zl_47 σ) (0 : Int)).bind fun v8 => some v8 else (if zw p1 = 12 then (x_X2_score (zb zl_47 σ) (1 : Int)).bind fun v9 => some v9 else (if zw p1 = 13 then some (σ 1 9) else (if zw p1 = 14 then some (σ 1 10) else (if zw p1 = 15 then some (σ 11 2) else some (σ 74 1)))))))))))))))))))
def rm_X6_match : Room := { frames := 13, cells := 0, slots := 0, locals := 270 }
def rmx_X6_match : Room := { frames := 13, cells := 1, slots := 6, locals := 270 }
noncomputable def x_X6_number (σ : Mm) : Option (Int64) :=
  some (zL (σ 1 3))
def rm_X6_number : Room := { frames := 0, cells := 0, slots := 0, locals := 0 }
noncomputable def x_X6_isPlayer (p0 : Int) : Option (Int) :=
  (if zw p0 < 0 then some (0 : Int) else (if zw (2 : Int) ≤ zw p0 then some (0 : Int) else some (1 : Int)))
def rm_X6_isPlayer : Room := { frames := 0, cells := 0, slots := 0, locals := 0 }
noncomputable def x_X6_player_j22 (σ : Mm) (v1_22 : Int) (v2_22 : Int) (w0_22 : Int) : Option ((Mm × Int) ⊕ Nat) :=
  (x_X6_require w0_22).bind fun r => thr r (fun _ => inlO ((x_X2_handOf (zb zl_47 σ) v1_22).bind fun v2 => (x_X1_lay (zb zl_54 σ) v2).bind fun σ3 => bnd (zj zl_54 σ σ3) fun σ4 => (if zw v2_22 = 0 then (x_J_Long_bitCount v2).bind fun v5 => some (σ4, v5) else (if zw v2_22 = 1 then some (σ4, (σ4 77 10)) else (if zw v2_22 = 2 then some (σ4, (σ4 77 7)) else (if zw v2_22 = 3 then (x_J_Long_bitCount (zL (σ4 77 9))).bind fun v6 => some (σ4, v6) else (if zw v2_22 = 4 then (x_X1_countKind (zb zl_54 σ4) (1 : Int)).bind fun v7 => some (σ4, v7) else (if zw v2_22 = 5 then (x_X1_countKind (zb zl_54 σ4) (2 : Int)).bind fun v8 => some (σ4, v8) else (if zw v2_22 = 6 then (x_X6_pointsOf v2).bind fun v9 => some (σ4, v9) else (x_X1_countWrapped (zb zl_54 σ4)).bind fun v10 => some (σ4, v10))))))))))
noncomputable def x_X6_player_j21 (σ : Mm) (v1_21 : Int) (v2_21 : Int) : Option ((Mm × Int) ⊕ Nat) :=
  x_X6_player_j22 σ v1_21 v2_21 (0 : Int)
noncomputable def x_X6_player (σ : Mm) (p1 : Int) (p2 : Int) : Option ((Mm × Int) ⊕ Nat) :=
  (x_X6_isPlayer p1).bind fun v1 => (if zw v1 = 0 then x_X6_player_j21 σ p1 p2 else (x_X6_isWithin p2 (0 : Int) (7 : Int)).bind fun v11 => (if zw v11 = 0 then x_X6_player_j21 σ p1 p2 else x_X6_player_j22 σ p1 p2 (1 : Int)))
def rm_X6_player : Room := { frames := 13, cells := 0, slots := 0, locals := 270 }
def rmx_X6_player : Room := { frames := 13, cells := 1, slots := 6, locals := 270 }
noncomputable def x_X6_card_b33 (σ : Mm) (p2 : Int) (u3_33 : Int64) (u5_33 : Int) : Option ((Int64 × Int) ⊕ Int64) :=
  (if zw p2 ≤ zw u5_33 then some (.inr u3_33) else (if zw (52 : Int) ≤ zw u5_33 then some (.inr u3_33) else bnd ((u3_33 &&& (u3_33 - (1 : Int64)))) fun v4 => bnd (u5_33 + 1) fun v5 => some (.inl (v4, v5))))
noncomputable def x_X6_card (σ : Mm) (p1 : Int) (p2 : Int) : Option ((Int) ⊕ Nat) :=
  (x_X6_isPlayer p1).bind fun v1 => (x_X6_require v1).bind fun r => thr r (fun _ => inlO ((x_X2_handOf (zb zl_47 σ) p1).bind fun v2 => (if zw p2 < 0 then some (-1 : Int) else (x_J_Long_bitCount v2).bind fun v3 => (if zw p2 < zw v3 then (lup (fun (s8 : Int64 × Int) => x_X6_card_b33 σ p2 s8.1 s8.2) (v2, (0 : Int))).bind fun v10 => (x_X6_lowestOf v10).bind fun v11 => some v11 else some (-1 : Int)))))
def rm_X6_card : Room := { frames := 13, cells := 0, slots := 0, locals := 270 }
def rmx_X6_card : Room := { frames := 13, cells := 1, slots := 6, locals := 270 }
noncomputable def x_X6_where (σ : Mm) (p1 : Int) : Option ((Int) ⊕ Nat) :=
  (x_X6_isWithin p1 (0 : Int) (51 : Int)).bind fun v1 => (x_X6_require v1).bind fun r => thr r (fun _ => inlO ((x_X2_placeOf (zb zl_47 σ) p1).bind fun v2 => some v2))
def rm_X6_where : Room := { frames := 13, cells := 0, slots := 0, locals := 270 }
def rmx_X6_where : Room := { frames := 13, cells := 1, slots := 6, locals := 270 }
noncomputable def x_X6_meldOf (σ : Mm) (p1 : Int) (p2 : Int) : Option ((Mm × Int) ⊕ Nat) :=
  (x_X6_isPlayer p1).bind fun v1 => (x_X6_require v1).bind fun r => thr r (fun _ => (x_X6_requireHeld σ p1 p2).bind fun r => thr r (fun _ => inlO ((x_X2_handOf (zb zl_47 σ) p1).bind fun v2 => (x_X1_lay (zb zl_54 σ) v2).bind fun σ3 => bnd (zj zl_54 σ σ3) fun σ4 => (x_X1_indexOf (zb zl_54 σ4) p2).bind fun v5 => some (σ4, v5))))
def rm_X6_meldOf : Room := { frames := 13, cells := 0, slots := 0, locals := 272 }
def rmx_X6_meldOf : Room := { frames := 13, cells := 1, slots := 6, locals := 272 }
noncomputable def x_X6_meld_j80 (σ_80 : Mm) (v3_80 : Int) (v4_80 : Int64) (w0_80 : Int) : Option (Mm × Int) :=
  (if zw v3_80 = 0 then (x_J_Long_bitCount v4_80).bind fun v7 => some (σ_80, v7) else (if zw v3_80 = 1 then (if zw w0_80 = 0 then some (σ_80, (0 : Int)) else some (σ_80, (1 : Int))) else (if zw v3_80 = 2 then (if zw w0_80 = 0 then (x_X6_lowestOf v4_80).bind fun v9 => some (σ_80, (zrem v9 (13 : Int))) else (x_X6_firstOf v4_80).bind fun v10 => some (σ_80, v10)) else (x_X6_pointsOf v4_80).bind fun v12 => some (σ_80, v12))))
noncomputable def x_X6_meld_j21 (σ : Mm) (v1_21 : Int) (v2_21 : Int) (v3_21 : Int) (w0_21 : Int) : Option ((Mm × Int) ⊕ Nat) :=
  (x_X6_require w0_21).bind fun r => thr r (fun _ => inlO ((x_X2_handOf (zb zl_47 σ) v1_21).bind fun v2 => (x_X1_lay (zb zl_54 σ) v2).bind fun σ3 => bnd (zj zl_54 σ σ3) fun σ4 => (if zw v2_21 < 0 then some (σ4, (-1 : Int)) else (if zw v2_21 < zw (σ4 77 7) then (x_X1_foundAt (zb zl_54 σ4) v2_21).bind fun v5 => (x_X6_kindOf v5).bind fun v6 => (if zw v6 ≠ zw (2 : Int) then x_X6_meld_j80 σ4 v3_21 v5 (0 : Int) else x_X6_meld_j80 σ4 v3_21 v5 (1 : Int)) else some (σ4, (-1 : Int))))))
noncomputable def x_X6_meld_j20 (σ : Mm) (v1_20 : Int) (v2_20 : Int) (v3_20 : Int) : Option ((Mm × Int) ⊕ Nat) :=
  x_X6_meld_j21 σ v1_20 v2_20 v3_20 (0 : Int)
noncomputable def x_X6_meld (σ : Mm) (p1 : Int) (p2 : Int) (p3 : Int) : Option ((Mm × Int) ⊕ Nat) :=
  (x_X6_isPlayer p1).bind fun v1 => (if zw v1 = 0 then x_X6_meld_j20 σ p1 p2 p3 else (x_X6_isWithin p3 (0 : Int) (3 : Int)).bind fun v16 => (if zw v16 = 0 then x_X6_meld_j20 σ p1 p2 p3 else x_X6_meld_j21 σ p1 p2 p3 (1 : Int)))
def rm_X6_meld : Room := { frames := 13, cells := 0, slots := 0, locals := 270 }
def rmx_X6_meld : Room := { frames := 13, cells := 1, slots := 6, locals := 270 }
noncomputable def x_X6_restWithout (σ : Mm) (p1 : Int) : Option ((Mm × Int) ⊕ Nat) :=
  (x_X6_requireHeld σ (σ 1 5) p1).bind fun r => thr r (fun _ => inlO ((x_X2_handWithout (zb zl_47 σ) p1).bind fun v1 => (x_X1_lay (zb zl_54 σ) v1).bind fun σ2 => bnd (zj zl_54 σ σ2) fun σ3 => some (σ3, (σ3 77 10))))
def rm_X6_restWithout : Room := { frames := 13, cells := 0, slots := 0, locals := 272 }
def rmx_X6_restWithout : Room := { frames := 13, cells := 1, slots := 6, locals := 272 }
noncomputable def x_X6_bestDrop_j107_18 (σ_107 : Mm) (v1_107 : Int) (v2_107 : Int) (v3_107 : Int) : Option ((Mm × Int × Int × Int) ⊕ (Mm × Int)) :=
  (if zw v1_107 = zw (-1 : Int) then bnd ((σ_107 77 10)) fun v8 => bnd (v3_107 + 1) fun v9 => some (.inl (σ_107, v3_107, v8, v9)) else (if zw (1 : Int) = 0 then bnd (v3_107 + 1) fun v10 => some (.inl (σ_107, v1_107, v2_107, v10)) else bnd ((σ_107 77 10)) fun v11 => bnd (v3_107 + 1) fun v12 => some (.inl (σ_107, v3_107, v11, v12))))
noncomputable def x_X6_bestDrop_j111_18 (σ_111 : Mm) (v1_111 : Int) (v2_111 : Int) (v3_111 : Int) : Option ((Mm × Int × Int × Int) ⊕ (Mm × Int)) :=
  (if zw v1_111 = zw (-1 : Int) then bnd ((σ_111 77 10)) fun v15 => bnd (v3_111 + 1) fun v16 => some (.inl (σ_111, v3_111, v15, v16)) else (if zw (0 : Int) = 0 then bnd (v3_111 + 1) fun v17 => some (.inl (σ_111, v1_111, v2_111, v17)) else bnd ((σ_111 77 10)) fun v18 => bnd (v3_111 + 1) fun v19 => some (.inl (σ_111, v3_111, v18, v19))))
noncomputable def x_X6_bestDrop_b18 (σ18 : Mm) (u1_18 : Int) (u2_18 : Int) (u3_18 : Int) : Option ((Mm × Int × Int × Int) ⊕ (Mm × Int)) :=
  (if zw (52 : Int) ≤ zw u3_18 then some (.inr (σ18, u1_18)) else (x_X2_handOf (zb zl_47 σ18) (σ18 1 5)).bind fun v2 => (x_X6_has v2 u3_18).bind fun v3 => (if zw v3 = 0 then bnd (u3_18 + 1) fun v4 => some (.inl (σ18, u1_18, u2_18, v4)) else (if zw u3_18 ≠ zw (σ18 1 7) then (x_X2_handWithout (zb zl_47 σ18) u3_18).bind fun v5 => (x_X1_lay (zb zl_54 σ18) v5).bind fun σ6 => bnd (zj zl_54 σ18 σ6) fun σ7 => (if zw (σ7 77 10) < zw u2_18 then x_X6_bestDrop_j107_18 σ7 u1_18 u2_18 u3_18 else (if zw (σ7 77 10) ≠ zw u2_18 then x_X6_bestDrop_j111_18 σ7 u1_18 u2_18 u3_18 else (x_X6_pointsFor u3_18).bind fun v22 => (x_X6_pointsFor u1_18).bind fun v23 => (if zw v22 ≤ zw v23 then x_X6_bestDrop_j111_18 σ7 u1_18 u2_18 u3_18 else x_X6_bestDrop_j107_18 σ7 u1_18 u2_18 u3_18))) else bnd (u3_18 + 1) fun v27 => some (.inl (σ18, u1_18, u2_18, v27)))))
noncomputable def x_X6_bestDrop (σ : Mm) : Option (Mm × Int) :=
  (x_X2_isDropDue (zb zl_47 σ)).bind fun v1 => (if zw v1 ≠ 0 then (lup (fun (s31 : Mm × Int × Int × Int) => x_X6_bestDrop_b18 s31.1 s31.2.1 s31.2.2.1 s31.2.2.2) (σ, (-1 : Int), (0 : Int), (0 : Int))).bind fun e => un2 e fun σ33 v34 => some (σ33, v34) else some (σ, (-1 : Int)))
def rm_X6_bestDrop : Room := { frames := 8, cells := 0, slots := 0, locals := 205 }
noncomputable def x_X6_restByPile (σ : Mm) : Option (Mm × Int) :=
  (x_X2_topOfPile (zb zl_47 σ)).bind fun v1 => (if zw (σ 1 6) ≠ 0 then some (σ, (-1 : Int)) else (if zw (σ 1 8) ≠ 0 then some (σ, (-1 : Int)) else (if zw v1 ≠ zw (-1 : Int) then (x_X2_handOf (zb zl_47 σ) (σ 1 5)).bind fun v2 => (x_X6_bitOf v1).bind fun v3 => (x_X1_restBehindDrop (zb zl_54 σ) (v2 ||| v3) v1).bind fun o => un2 o fun σ4 v5 => bnd (zj zl_54 σ σ4) fun σ6 => some (σ6, v5) else some (σ, (-1 : Int)))))
def rm_X6_restByPile : Room := { frames := 12, cells := 0, slots := 0, locals := 330 }
noncomputable def x_X6_helping_b55 (v2 : Int64) (v6 : Int) (σ55 : Mm) (u5_55 : Int) (u6_55 : Int) : Option ((Mm × Int × Int) ⊕ (Mm × Int)) :=
  (if zw (52 : Int) ≤ zw u6_55 then some (.inr (σ55, u5_55)) else (x_X6_has v2 u6_55).bind fun v7 => (if zw v7 ≠ 0 then bnd (u6_55 + 1) fun v8 => some (.inl (σ55, u5_55, v8)) else (x_X6_bitOf u6_55).bind fun v9 => (x_X1_restBehindDrop (zb zl_54 σ55) (v2 ||| v9) u6_55).bind fun o => un2 o fun σ10 v11 => bnd (zj zl_54 σ55 σ10) fun σ12 => (if zw v6 ≤ zw v11 then bnd (u6_55 + 1) fun v13 => some (.inl (σ12, u5_55, v13)) else bnd (u5_55 + 1) fun v14 => bnd (u6_55 + 1) fun v15 => some (.inl (σ12, v14, v15)))))
noncomputable def x_X6_helping (σ : Mm) (p1 : Int) : Option ((Mm × Int) ⊕ Nat) :=
  (x_X6_isPlayer p1).bind fun v1 => (x_X6_require v1).bind fun r => thr r (fun _ => inlO ((x_X2_handOf (zb zl_47 σ) p1).bind fun v2 => (x_J_Long_bitCount v2).bind fun v3 => (if zw v3 = zw (σ 1 0) then (x_X1_lay (zb zl_54 σ) v2).bind fun σ4 => bnd (zj zl_54 σ σ4) fun σ5 => bnd ((σ5 77 10)) fun v6 => (lup (fun (s19 : Mm × Int × Int) => x_X6_helping_b55 v2 v6 s19.1 s19.2.1 s19.2.2) (σ5, (0 : Int), (0 : Int))).bind fun e => un2 e fun σ21 v22 => some (σ21, v22) else some (σ, (-1 : Int)))))
def rm_X6_helping : Room := { frames := 13, cells := 0, slots := 0, locals := 330 }
def rmx_X6_helping : Room := { frames := 13, cells := 1, slots := 6, locals := 330 }
noncomputable def x_X6_ifKnock (σ : Mm) (p1 : Int) (p2 : Int) : Option ((Mm × Int) ⊕ Nat) :=
  (x_X6_requireHeld σ (σ 1 5) p1).bind fun r => thr r (fun _ => (x_X6_isWithin p2 (0 : Int) (3 : Int)).bind fun v1 => (x_X6_require v1).bind fun r => thr r (fun _ => inlO ((x_X2_handWithout (zb zl_47 σ) p1).bind fun v2 => (x_X2_otherHand (zb zl_47 σ)).bind fun v3 => (x_X5_settle (zb zl_49 σ) v2 v3).bind fun σ4 => bnd (zj zl_49 σ σ4) fun σ5 => (if zw p2 ≠ 0 then (x_X2_isDropDue (zb zl_47 σ5)).bind fun v6 => (if zw v6 ≠ 0 then (if zw p2 = 1 then some (σ5, (σ5 84 2)) else (if zw p2 = 2 then some (σ5, (σ5 84 3)) else some (σ5, (σ5 84 4)))) else some (σ5, (-1 : Int))) else (x_X2_reasonAgainstKnock (zb zl_47 σ5) p1 (σ5 84 2)).bind fun v8 => some (σ5, v8)))))
def rm_X6_ifKnock : Room := { frames := 13, cells := 0, slots := 0, locals := 272 }
def rmx_X6_ifKnock : Room := { frames := 13, cells := 1, slots := 6, locals := 272 }
noncomputable def x_X6_needed (σ : Mm) : Option (Mm × Int) :=
  (x_X2_isDropDue (zb zl_47 σ)).bind fun v1 => (if zw v1 = 0 then some (σ, (-1 : Int)) else (x_X2_handOf (zb zl_47 σ) (σ 1 5)).bind fun v2 => (x_X1_restBehindDrop (zb zl_54 σ) v2 (σ 1 7)).bind fun o => un2 o fun σ3 v4 => bnd (zj zl_54 σ σ3) fun σ5 => some (σ5, v4))
def rm_X6_needed : Room := { frames := 12, cells := 0, slots := 0, locals := 330 }
noncomputable def x_X6_kind (σ : Mm) (p1 : Int64) : Option ((Int) ⊕ Nat) :=
  (if zw (zcmp p1 (0 : Int64)) < 0 then (x_X6_require (0 : Int)).bind fun r => thr r (fun _ => inlO ((x_X6_kindOf p1).bind fun v1 => some v1)) else (if 0 < zw (zcmp p1 (4503599627370495 : Int64)) then (x_X6_require (0 : Int)).bind fun r => thr r (fun _ => inlO ((x_X6_kindOf p1).bind fun v2 => some v2)) else (x_X6_require (1 : Int)).bind fun r => thr r (fun _ => inlO ((x_X6_kindOf p1).bind fun v3 => some v3))))
def rm_X6_kind : Room := { frames := 13, cells := 0, slots := 0, locals := 270 }
def rmx_X6_kind : Room := { frames := 13, cells := 1, slots := 6, locals := 270 }
noncomputable def x_X6_gap_b50 (σ50 : Mm) (u2_50 : Int) (u3_50 : Int) : Option ((Mm × Int × Int) ⊕ (Mm × Int)) :=
  (if zw (2 : Int) ≤ zw u3_50 then some (.inr (σ50, u2_50)) else (x_X2_handOf (zb zl_47 σ50) u3_50).bind fun v8 => (x_X1_lay (zb zl_54 σ50) v8).bind fun σ9 => bnd (zj zl_54 σ50 σ9) fun σ10 => (x_X1_foundPoints (zb zl_54 σ10)).bind fun v11 => (x_X2_handOf (zb zl_47 σ10) u3_50).bind fun v12 => (x_X6_pointsOf v12).bind fun v13 => bnd ((u2_50 + (zabs ((v11 + (σ10 77 10)) - v13)))) fun v14 => (x_X1_countKind (zb zl_54 σ10) (0 : Int)).bind fun v15 => bnd ((v14 + v15)) fun v16 => bnd (u3_50 + 1) fun v17 => some (.inl (σ10, v16, v17)))
noncomputable def x_X6_gap (σ : Mm) : Option (Mm × Int) :=
  (x_X2_handOf (zb zl_47 σ) (0 : Int)).bind fun v1 => (x_J_Long_bitCount v1).bind fun v2 => (x_X2_handOf (zb zl_47 σ) (1 : Int)).bind fun v3 => (x_J_Long_bitCount v3).bind fun v4 => bnd ((v2 + v4)) fun v5 => (x_X2_stockCount (zb zl_47 σ)).bind fun v6 => bnd ((zabs ((((52 : Int) - v5) - v6) - (σ 1 16)))) fun v7 => (lup (fun (s19 : Mm × Int × Int) => x_X6_gap_b50 s19.1 s19.2.1 s19.2.2) (σ, v7, (0 : Int))).bind fun e => un2 e fun σ21 v22 => some (σ21, v22)
def rm_X6_gap : Room := { frames := 8, cells := 0, slots := 0, locals := 205 }
noncomputable def x_X6_meanRest (σ : Mm) : Option (Mm × UInt64) :=
  (x_X2_handOf (zb zl_47 σ) (0 : Int)).bind fun v1 => (x_X1_lay (zb zl_54 σ) v1).bind fun σ2 => bnd (zj zl_54 σ σ2) fun σ3 => bnd ((σ3 77 10)) fun v4 => (x_X2_handOf (zb zl_47 σ3) (1 : Int)).bind fun v5 => (x_X1_lay (zb zl_54 σ3) v5).bind fun σ6 => bnd (zj zl_54 σ3 σ6) fun σ7 => bnd ((v4 + (σ7 77 10))) fun v8 => (if (FP.ddiv (FP.i2d (zJ v8)) (4611686018427387904 : UInt64)) &&& 0x7fffffffffffffff ≤ 0x7ff0000000000000 then some (σ7, (FP.ddiv (FP.i2d (zJ v8)) (4611686018427387904 : UInt64))) else none)
def rm_X6_meanRest : Room := { frames := 8, cells := 0, slots := 0, locals := 205 }
noncomputable def x_X6_laid (σ : Mm) (p1 : Int) : Option ((Mm × UInt32) ⊕ Nat) :=
  (x_X6_isPlayer p1).bind fun v1 => (x_X6_require v1).bind fun r => thr r (fun _ => inlO ((x_X2_handOf (zb zl_47 σ) p1).bind fun v2 => (x_J_Long_bitCount v2).bind fun v3 => (x_X2_handOf (zb zl_47 σ) p1).bind fun v4 => (x_X1_lay (zb zl_54 σ) v4).bind fun σ5 => bnd (zj zl_54 σ σ5) fun σ6 => (x_J_Long_bitCount (zL (σ6 77 9))).bind fun v7 => (if zw v3 ≤ 0 then some (σ6, FP.fconst0) else (if (FP.fdiv (FP.i2f (zJ (v3 - v7))) (FP.i2f (zJ v3))) &&& 0x7fffffff ≤ 0x7f800000 then some (σ6, (FP.fdiv (FP.i2f (zJ (v3 - v7))) (FP.i2f (zJ v3)))) else none))))
def rm_X6_laid : Room := { frames := 13, cells := 0, slots := 0, locals := 270 }
def rmx_X6_laid : Room := { frames := 13, cells := 1, slots := 6, locals := 270 }
noncomputable def x_X6_writeLaying (σ : Mm) (p1 : Int) : Option ((Mm × Int) ⊕ Nat) :=
  (x_X6_isPlayer p1).bind fun v1 => (x_X6_require v1).bind fun r => thr r (fun _ => inlO ((x_X2_handOf (zb zl_47 σ) p1).bind fun v2 => (x_X1_lay (zb zl_54 σ) v2).bind fun σ3 => bnd (zj zl_54 σ σ3) fun σ4 => (x_X4_write (zb zl_55 σ4)).bind fun σ5 => bnd (zj zl_55 σ4 σ5) fun σ6 => some (σ6, (σ6 99 1))))
def rm_X6_writeLaying : Room := { frames := 13, cells := 0, slots := 0, locals := 270 }
def rmx_X6_writeLaying : Room := { frames := 13, cells := 1, slots := 6, locals := 270 }
noncomputable def x_X6_reportByte (σ : Mm) (p1 : Int) : Option (Int) :=
  (x_X4_signAt (zb zl_56 σ) p1).bind fun v1 => some v1
def rm_X6_reportByte : Room := { frames := 1, cells := 0, slots := 0, locals := 21 }
noncomputable def x_X7_shuffle_b2 (σ2 : Mm) (u1_2 : Int) : Option ((Mm × Int) ⊕ Mm) :=
  (if zw (52 : Int) ≤ zw u1_2 then some (.inr σ2) else (if zin ((15 : Int) + u1_2) 171 then bnd (zu σ2 1 (zix ((15 : Int) + u1_2)) u1_2) fun σ1 => bnd (u1_2 + 1) fun v3 => some (.inl (σ1, v3)) else none))
noncomputable def x_X7_shuffle_b27 (σ27 : Mm) (u1_27 : Int) : Option ((Mm × Int) ⊕ Mm) :=
  (if zw u1_27 ≤ 0 then some (.inr σ27) else (if zin (12 : Int) 171 then (if zin (12 : Int) 171 then bnd (zu σ27 1 (zix (12 : Int)) (zl2i (zlrem (((zi2l (σ27 1 (zix (12 : Int)))) * (1103515245 : Int64)) + (12345 : Int64)) (2147483648 : Int64)))) fun σ9 => (if zin (12 : Int) 171 then (if zw (u1_27 + (1 : Int)) = 0 then none else bnd ((zrem (zdiv (σ9 1 (zix (12 : Int))) (65536 : Int)) (u1_27 + (1 : Int)))) fun v12 => (if zin ((15 : Int) + u1_27) 171 then bnd ((σ9 1 (zix ((15 : Int) + u1_27)))) fun v14 => (if zin ((15 : Int) + v12) 171 then (if zin ((15 : Int) + u1_27) 171 then bnd (zu σ9 1 (zix ((15 : Int) + u1_27)) (σ9 1 (zix ((15 : Int) + v12)))) fun σ16 => (if zin ((15 : Int) + v12) 171 then bnd (zu σ16 1 (zix ((15 : Int) + v12)) v14) fun σ18 => bnd (u1_27 + (-1 : Int)) fun v20 => some (.inl (σ18, v20)) else none) else none) else none) else none)) else none) else none) else none))
noncomputable def x_X7_shuffle (σ : Mm) : Option (Mm) :=
  (lup (fun (s5 : Mm × Int) => x_X7_shuffle_b2 s5.1 s5.2) (σ, (0 : Int))).bind fun σ7 => (lup (fun (s22 : Mm × Int) => x_X7_shuffle_b27 s22.1 s22.2) (σ7, (51 : Int))).bind fun σ24 => some σ24
def rm_X7_shuffle : Room := { frames := 0, cells := 0, slots := 0, locals := 0 }
noncomputable def x_X7_putFirst_b13 (σ7 : Mm) (u1_7 : Int) (u2_13 : Int) : Option (Int ⊕ Int) :=
  (if zin ((15 : Int) + u2_13) 171 then (if zin u1_7 52 then (if zw (σ7 1 (zix ((15 : Int) + u2_13))) = zw (σ7 25 (zix u1_7)) then some (.inr u2_13) else bnd (u2_13 + 1) fun v4 => some (.inl v4)) else none) else none)
noncomputable def x_X7_putFirst_b37 (u1_7 : Int) (σ37 : Mm) (u2_37 : Int) : Option ((Mm × Int) ⊕ Mm) :=
  (if zw u2_37 ≤ 0 then some (.inr σ37) else (if zin (((15 : Int) + u2_37) - (1 : Int)) 171 then (if zin ((15 : Int) + u2_37) 171 then bnd (zu σ37 1 (zix ((15 : Int) + u2_37)) (σ37 1 (zix (((15 : Int) + u2_37) - (1 : Int))))) fun σ10 => bnd (u2_37 + (-1 : Int)) fun v12 => some (.inl (σ10, v12)) else none) else none))
noncomputable def x_X7_putFirst_b7 (σ7 : Mm) (u1_7 : Int) : Option ((Mm × Int) ⊕ Mm) :=
  (if zw u1_7 < 0 then some (.inr σ7) else (lup (fun (s6 : Int) => x_X7_putFirst_b13 σ7 u1_7 s6) (0 : Int)).bind fun v8 => (lup (fun (s14 : Mm × Int) => x_X7_putFirst_b37 u1_7 s14.1 s14.2) (σ7, v8)).bind fun σ16 => (if zin u1_7 52 then (if zin (15 : Int) 171 then bnd (zu σ16 1 (zix (15 : Int)) (σ16 25 (zix u1_7))) fun σ18 => bnd (u1_7 + (-1 : Int)) fun v20 => some (.inl (σ18, v20)) else none) else none))
noncomputable def x_X7_putFirst (σ : Mm) : Option (Mm) :=
  bnd (((σ 0 26) - (1 : Int))) fun v1 => (lup (fun (s22 : Mm × Int) => x_X7_putFirst_b7 s22.1 s22.2) (σ, v1)).bind fun σ24 => some σ24
def rm_X7_putFirst : Room := { frames := 0, cells := 0, slots := 0, locals := 0 }
noncomputable def x_X7_dealOut_j47_9 (v2 : Int) (σ_47 : Mm) (v2_47 : Int) (w0_47 : Int) : Option ((Mm × Int) ⊕ Mm) :=
  (if zin ((15 : Int) + v2_47) 171 then (if zin ((119 : Int) + (σ_47 1 (zix ((15 : Int) + v2_47)))) 171 then bnd (zu σ_47 1 (zix ((119 : Int) + (σ_47 1 (zix ((15 : Int) + v2_47))))) w0_47) fun σ4 => bnd (v2_47 + 1) fun v6 => some (.inl (σ4, v6)) else none) else none)
noncomputable def x_X7_dealOut_b9 (v2 : Int) (σ9 : Mm) (u2_9 : Int) : Option ((Mm × Int) ⊕ Mm) :=
  (if zw (52 : Int) ≤ zw u2_9 then some (.inr σ9) else (if zw v2 ≤ zw u2_9 then (if zw ((2 : Int) * v2) ≤ zw u2_9 then (if zw u2_9 ≠ zw ((2 : Int) * v2) then x_X7_dealOut_j47_9 v2 σ9 u2_9 (3 : Int) else x_X7_dealOut_j47_9 v2 σ9 u2_9 (2 : Int)) else x_X7_dealOut_j47_9 v2 σ9 u2_9 (1 : Int)) else x_X7_dealOut_j47_9 v2 σ9 u2_9 (0 : Int)))
noncomputable def x_X7_dealOut (σ : Mm) : Option (Mm) :=
  (if zin (0 : Int) 171 then bnd ((σ 1 (zix (0 : Int)))) fun v2 => (lup (fun (s11 : Mm × Int) => x_X7_dealOut_b9 v2 s11.1 s11.2) (σ, (0 : Int))).bind fun σ13 => (if zin ((15 : Int) + ((2 : Int) * v2)) 171 then (if zin (67 : Int) 171 then bnd (zu σ13 1 (zix (67 : Int)) (σ13 1 (zix ((15 : Int) + ((2 : Int) * v2))))) fun σ15 => (if zin (14 : Int) 171 then bnd (zu σ15 1 (zix (14 : Int)) (1 : Int)) fun σ17 => (if zin (13 : Int) 171 then bnd (zu σ17 1 (zix (13 : Int)) (((2 : Int) * v2) + (1 : Int))) fun σ19 => (if zin (3 : Int) 171 then (if zin (4 : Int) 171 then bnd (zu σ19 1 (zix (4 : Int)) (zrem (σ19 1 (zix (3 : Int))) (2 : Int))) fun σ22 => (if zin (5 : Int) 171 then bnd (zu σ22 1 (zix (5 : Int)) (0 : Int)) fun σ24 => (if zin (6 : Int) 171 then bnd (zu σ24 1 (zix (6 : Int)) (0 : Int)) fun σ26 => (if zin (7 : Int) 171 then bnd (zu σ26 1 (zix (7 : Int)) (-1 : Int)) fun σ28 => some σ28 else none) else none) else none) else none) else none) else none) else none) else none) else none) else none)
def rm_X7_dealOut : Room := { frames := 0, cells := 0, slots := 0, locals := 0 }
noncomputable def x_X7_begin_b3 (p1 : Int) (p2 : Int) (p3 : Int) (p4 : Int) (σ3 : Mm) (u5_3 : Int) : Option ((Mm × Int) ⊕ Mm) :=
  (if zw (171 : Int) ≤ zw u5_3 then some (.inr σ3) else (if zin u5_3 171 then bnd (zu σ3 1 (zix u5_3) (0 : Int)) fun σ1 => bnd (u5_3 + 1) fun v3 => some (.inl (σ1, v3)) else none))
noncomputable def x_X7_begin (σ : Mm) (p1 : Int) (p2 : Int) (p3 : Int) (p4 : Int) : Option (Mm) :=
  (lup (fun (s5 : Mm × Int) => x_X7_begin_b3 p1 p2 p3 p4 s5.1 s5.2) (σ, (0 : Int))).bind fun σ7 => (if zin (0 : Int) 171 then bnd (zu σ7 1 (zix (0 : Int)) p2) fun σ8 => (if zin (1 : Int) 171 then bnd (zu σ8 1 (zix (1 : Int)) p3) fun σ10 => (if zin (2 : Int) 171 then bnd (zu σ10 1 (zix (2 : Int)) p4) fun σ12 => (if zin (12 : Int) 171 then bnd (zu σ12 1 (zix (12 : Int)) p1) fun σ14 => (if zin (11 : Int) 171 then bnd (zu σ14 1 (zix (11 : Int)) (-1 : Int)) fun σ16 => (x_X7_shuffle σ16).bind fun σ18 => (x_X7_putFirst σ18).bind fun σ19 => (x_X7_dealOut σ19).bind fun σ20 => some σ20 else none) else none) else none) else none) else none)
def rm_X7_begin : Room := { frames := 1, cells := 0, slots := 0, locals := 23 }
noncomputable def x_X7_init (σ : Mm) : Option (Mm) :=
  bnd (zu (zj [1] σ (fun _ _ => 0)) 0 1 1) fun σ1 => bnd (zu (zj zl_57 σ1 (fun _ _ => 0)) 0 2 1) fun σ2 => bnd (zu (zj zl_58 σ2 (fun _ _ => 0)) 0 4 1) fun σ3 => bnd (zu (zj [16] σ3 (fun _ _ => 0)) 0 5 1) fun σ4 => bnd (zu (zj [17] σ4 (fun _ _ => 0)) 0 6 1) fun σ5 => bnd (zu (zj [18] σ5 (fun _ _ => 0)) 0 7 1) fun σ6 => bnd (zu (zj [19] σ6 (fun _ _ => 0)) 0 9 1) fun σ7 => bnd (zu (zj [20] σ7 (fun _ _ => 0)) 0 11 1) fun σ8 => bnd (zu (zj [21] σ8 (fun _ _ => 0)) 0 13 1) fun σ9 => bnd (zu (zj [22] σ9 (fun _ _ => 0)) 0 15 1) fun σ10 => bnd (zu (zj [23] σ10 (fun _ _ => 0)) 0 16 1) fun σ11 => bnd (zu (zj [24] σ11 (fun _ _ => 0)) 0 20 1) fun σ12 => bnd (zu (zj [25] σ12 (fun _ _ => 0)) 0 25 1) fun σ13 => (if ∀ g ∈ ([(0, 1), (0, 2), (0, 4), (0, 5), (0, 6), (0, 7), (0, 9), (0, 11), (0, 13), (0, 15), (0, 16), (0, 20), (0, 25)] : List (Nat × Nat)), σ13 g.1 g.2 ≠ 0 then bnd (zdr σ13 2 10 3) fun σ14 => bnd (zdr σ14 13 2 14) fun σ15 => bnd (zu σ15 0 26 (14 : Int)) fun σ16 => (if zin (0 : Int) 52 then bnd (zu σ16 25 (zix (0 : Int)) (12 : Int)) fun σ17 => (if zin (1 : Int) 52 then bnd (zu σ17 25 (zix (1 : Int)) (0 : Int)) fun σ19 => (if zin (2 : Int) 52 then bnd (zu σ19 25 (zix (2 : Int)) (1 : Int)) fun σ21 => (if zin (3 : Int) 52 then bnd (zu σ21 25 (zix (3 : Int)) (26 : Int)) fun σ23 => (if zin (4 : Int) 52 then bnd (zu σ23 25 (zix (4 : Int)) (39 : Int)) fun σ25 => (if zin (5 : Int) 52 then bnd (zu σ25 25 (zix (5 : Int)) (13 : Int)) fun σ27 => (if zin (6 : Int) 52 then bnd (zu σ27 25 (zix (6 : Int)) (45 : Int)) fun σ29 => (if zin (7 : Int) 52 then bnd (zu σ29 25 (zix (7 : Int)) (25 : Int)) fun σ31 => (if zin (8 : Int) 52 then bnd (zu σ31 25 (zix (8 : Int)) (11 : Int)) fun σ33 => (if zin (9 : Int) 52 then bnd (zu σ33 25 (zix (9 : Int)) (24 : Int)) fun σ35 => (if zin (10 : Int) 52 then bnd (zu σ35 25 (zix (10 : Int)) (2 : Int)) fun σ37 => (if zin (11 : Int) 52 then bnd (zu σ37 25 (zix (11 : Int)) (3 : Int)) fun σ39 => (if zin (12 : Int) 52 then bnd (zu σ39 25 (zix (12 : Int)) (4 : Int)) fun σ41 => (if zin (13 : Int) 52 then bnd (zu σ41 25 (zix (13 : Int)) (30 : Int)) fun σ43 => (x_X7_begin σ43 (1 : Int) (7 : Int) (10 : Int) (100 : Int)).bind fun σ45 => some σ45 else none) else none) else none) else none) else none) else none) else none) else none) else none) else none) else none) else none) else none) else none) else none)
def rm_X7_init : Room := { frames := 2, cells := 25, slots := 5441, locals := 80 }
noncomputable def x_X7_thrown (σ : Mm) : Option (Int) :=
  some (σ 0 0)
def rm_X7_thrown : Room := { frames := 0, cells := 0, slots := 0, locals := 0 }
noncomputable def x_X7_copy_b2 (σ2 : Mm) (u2_2 : Int) : Option ((Mm × Int) ⊕ Mm) :=
  (if zw (171 : Int) ≤ zw u2_2 then some (.inr σ2) else (if zin u2_2 171 then (if zin u2_2 171 then bnd (zu σ2 1 (zix u2_2) (σ2 0 (zix u2_2))) fun σ2 => bnd (u2_2 + 1) fun v4 => some (.inl (σ2, v4)) else none) else none))
noncomputable def x_X7_copy (σ : Mm) : Option (Mm) :=
  (lup (fun (s6 : Mm × Int) => x_X7_copy_b2 s6.1 s6.2) (σ, (0 : Int))).bind fun σ8 => some σ8
def rm_X7_copy : Room := { frames := 0, cells := 0, slots := 0, locals := 0 }
noncomputable def x_X7_keepPast_w_b18 (σ18 : Mm) (u3_18 : Int) : Option ((Mm × Int) ⊕ Mm) :=
  (if zw (10 : Int) ≤ zw u3_18 then some (.inr σ18) else (if zin u3_18 10 then (if (3 : Int) ≤ (σ18 2 (zix u3_18)) ∧ (σ18 2 (zix u3_18)) < (13 : Int) then (if zin (u3_18 - (1 : Int)) 10 then (if (3 : Int) ≤ (σ18 2 (zix u3_18)) ∧ (σ18 2 (zix u3_18)) < (13 : Int) then bnd (zu σ18 2 (zix (u3_18 - (1 : Int))) (σ18 2 (zix u3_18))) fun σ6 => bnd (u3_18 + 1) fun v8 => some (.inl (σ6, v8)) else none) else none) else none) else none))
noncomputable def x_X7_keepPast_w (σ : Mm) : Option (Mm) :=
  (if zw (σ 0 3) ≠ zw (10 : Int) then (if zin (σ 0 3) 10 then (if (3 : Int) ≤ (σ 2 (zix (σ 0 3))) ∧ (σ 2 (zix (σ 0 3))) < (13 : Int) then (if (3 : Int) ≤ (σ 2 (zix (σ 0 3))) ∧ (σ 2 (zix (σ 0 3))) < (13 : Int) then (x_X7_copy (zb [1, (Int.toNat (σ 2 (zix (σ 0 3))))] σ)).bind fun σ1 => bnd (zj [1, (Int.toNat (σ 2 (zix (σ 0 3))))] σ σ1) fun σ2 => bnd (zu σ2 0 3 ((σ2 0 3) + (1 : Int))) fun σ3 => some σ3 else none) else none) else none) else (if zin (0 : Int) 10 then (if (3 : Int) ≤ (σ 2 (zix (0 : Int))) ∧ (σ 2 (zix (0 : Int))) < (13 : Int) then (lup (fun (s11 : Mm × Int) => x_X7_keepPast_w_b18 s11.1 s11.2) (σ, (1 : Int))).bind fun σ13 => (if zin (9 : Int) 10 then (if (3 : Int) ≤ (σ 2 (zix (0 : Int))) ∧ (σ 2 (zix (0 : Int))) < (13 : Int) then bnd (zu σ13 2 (zix (9 : Int)) (σ 2 (zix (0 : Int)))) fun σ14 => bnd (zu σ14 0 3 ((σ14 0 3) - (1 : Int))) fun σ16 => (if zin (σ16 0 3) 10 then (if (3 : Int) ≤ (σ16 2 (zix (σ16 0 3))) ∧ (σ16 2 (zix (σ16 0 3))) < (13 : Int) then (if (3 : Int) ≤ (σ16 2 (zix (σ16 0 3))) ∧ (σ16 2 (zix (σ16 0 3))) < (13 : Int) then (x_X7_copy (zb [1, (Int.toNat (σ16 2 (zix (σ16 0 3))))] σ16)).bind fun σ17 => bnd (zj [1, (Int.toNat (σ16 2 (zix (σ16 0 3))))] σ16 σ17) fun σ18 => bnd (zu σ18 0 3 ((σ18 0 3) + (1 : Int))) fun σ19 => some σ19 else none) else none) else none) else none) else none) else none) else none))
def rm_X7_keepPast_w : Room := { frames := 1, cells := 0, slots := 0, locals := 22 }
noncomputable def x_X7_keepPast_b_b18 (σ18 : Mm) (u3_18 : Int) : Option ((Mm × Int) ⊕ Mm) :=
  (if zw (10 : Int) ≤ zw u3_18 then some (.inr σ18) else (if zin u3_18 10 then (if (3 : Int) ≤ (σ18 2 (zix u3_18)) ∧ (σ18 2 (zix u3_18)) < (13 : Int) then (if zin (u3_18 - (1 : Int)) 10 then (if (3 : Int) ≤ (σ18 2 (zix u3_18)) ∧ (σ18 2 (zix u3_18)) < (13 : Int) then bnd (zu σ18 2 (zix (u3_18 - (1 : Int))) (σ18 2 (zix u3_18))) fun σ6 => bnd (u3_18 + 1) fun v8 => some (.inl (σ6, v8)) else none) else none) else none) else none))
noncomputable def x_X7_keepPast_b (σ : Mm) : Option (Mm) :=
  (if zw (σ 0 3) ≠ zw (10 : Int) then (if zin (σ 0 3) 10 then (if (3 : Int) ≤ (σ 2 (zix (σ 0 3))) ∧ (σ 2 (zix (σ 0 3))) < (13 : Int) then (if (3 : Int) ≤ (σ 2 (zix (σ 0 3))) ∧ (σ 2 (zix (σ 0 3))) < (13 : Int) then (x_X7_copy (zb [17, (Int.toNat (σ 2 (zix (σ 0 3))))] σ)).bind fun σ1 => bnd (zj [17, (Int.toNat (σ 2 (zix (σ 0 3))))] σ σ1) fun σ2 => bnd (zu σ2 0 3 ((σ2 0 3) + (1 : Int))) fun σ3 => some σ3 else none) else none) else none) else (if zin (0 : Int) 10 then (if (3 : Int) ≤ (σ 2 (zix (0 : Int))) ∧ (σ 2 (zix (0 : Int))) < (13 : Int) then (lup (fun (s11 : Mm × Int) => x_X7_keepPast_b_b18 s11.1 s11.2) (σ, (1 : Int))).bind fun σ13 => (if zin (9 : Int) 10 then (if (3 : Int) ≤ (σ 2 (zix (0 : Int))) ∧ (σ 2 (zix (0 : Int))) < (13 : Int) then bnd (zu σ13 2 (zix (9 : Int)) (σ 2 (zix (0 : Int)))) fun σ14 => bnd (zu σ14 0 3 ((σ14 0 3) - (1 : Int))) fun σ16 => (if zin (σ16 0 3) 10 then (if (3 : Int) ≤ (σ16 2 (zix (σ16 0 3))) ∧ (σ16 2 (zix (σ16 0 3))) < (13 : Int) then (if (3 : Int) ≤ (σ16 2 (zix (σ16 0 3))) ∧ (σ16 2 (zix (σ16 0 3))) < (13 : Int) then (x_X7_copy (zb [17, (Int.toNat (σ16 2 (zix (σ16 0 3))))] σ16)).bind fun σ17 => bnd (zj [17, (Int.toNat (σ16 2 (zix (σ16 0 3))))] σ16 σ17) fun σ18 => bnd (zu σ18 0 3 ((σ18 0 3) + (1 : Int))) fun σ19 => some σ19 else none) else none) else none) else none) else none) else none) else none))
def rm_X7_keepPast_b : Room := { frames := 1, cells := 0, slots := 0, locals := 22 }
noncomputable def x_X7_bad (σ : Mm) (p1 : Int64) (p3 : Int64) (p5 : Int64) (p7 : Int) : Option (Mm × Int) :=
  (if zw (zcmp p1 p3) < 0 then bnd (zu σ 0 0 p7) fun σ1 => some (σ1, (1 : Int)) else (if zw (zcmp p1 p5) ≤ 0 then some (σ, (0 : Int)) else bnd (zu σ 0 0 p7) fun σ2 => some (σ2, (1 : Int))))
def rm_X7_bad : Room := { frames := 0, cells := 0, slots := 0, locals := 0 }
noncomputable def x_X7_noPlayer (σ : Mm) (p1 : Int) : Option (Mm × Int) :=
  (x_X7_bad σ (zi2l p1) (0 : Int64) (1 : Int64) (1 : Int)).bind fun o => un2 o fun σ1 v2 => (if zw v2 = 0 ∨ zw v2 = 1 then some (σ1, v2) else none)
def rm_X7_noPlayer : Room := { frames := 1, cells := 0, slots := 0, locals := 27 }
noncomputable def x_X7_owns (σ : Mm) (p1 : Int) (p2 : Int) : Option (Int) :=
  (if zw p2 < 0 then some (0 : Int) else (if zw (52 : Int) ≤ zw p2 then some (0 : Int) else (if zin ((119 : Int) + p2) 171 then (if zw (σ 1 (zix ((119 : Int) + p2))) ≠ zw p1 then some (0 : Int) else some (1 : Int)) else none)))
def rm_X7_owns : Room := { frames := 0, cells := 0, slots := 0, locals := 0 }
noncomputable def x_X7_noCard (σ : Mm) (p1 : Int) : Option (Mm × Int) :=
  (if zin (4 : Int) 171 then (x_X7_owns σ (σ 1 (zix (4 : Int))) p1).bind fun v2 => (if zw v2 ≠ 0 then some (σ, (0 : Int)) else bnd (zu σ 0 0 (1 : Int)) fun σ3 => some (σ3, (1 : Int))) else none)
def rm_X7_noCard : Room := { frames := 1, cells := 0, slots := 0, locals := 22 }
noncomputable def x_X7_points (p0 : Int) : Option (Int) :=
  bnd ((zrem p0 (13 : Int))) fun v1 => (if zw v1 ≤ zw (8 : Int) then some (v1 + (1 : Int)) else some (10 : Int))
def rm_X7_points : Room := { frames := 0, cells := 0, slots := 0, locals := 0 }
noncomputable def x_X7_pointsOf_b4 (p0 : Int64) (u2_4 : Int) (u3_4 : Int) : Option ((Int × Int) ⊕ Int) :=
  (if zw (52 : Int) ≤ zw u3_4 then some (.inr u2_4) else (if zw (zcmp ((zlshr p0 u3_4) &&& (1 : Int64)) (1 : Int64)) ≠ 0 then bnd ((u2_4 + (0 : Int))) fun v1 => bnd (u3_4 + 1) fun v2 => some (.inl (v1, v2)) else (x_X7_points u3_4).bind fun v3 => bnd ((u2_4 + v3)) fun v4 => bnd (u3_4 + 1) fun v5 => some (.inl (v4, v5))))
noncomputable def x_X7_pointsOf (p0 : Int64) : Option (Int) :=
  (lup (fun (s8 : Int × Int) => x_X7_pointsOf_b4 p0 s8.1 s8.2) ((0 : Int), (0 : Int))).bind fun v10 => some v10
def rm_X7_pointsOf : Room := { frames := 1, cells := 0, slots := 0, locals := 21 }
noncomputable def x_X7_ones_b4 (u2_4 : Int) (u3_4 : Int64) : Option ((Int × Int64) ⊕ Int) :=
  (if zw (zcmp u3_4 (0 : Int64)) = 0 then some (.inr u2_4) else bnd (u2_4 + 1) fun v1 => bnd ((u3_4 &&& (u3_4 - (1 : Int64)))) fun v2 => some (.inl (v1, v2)))
noncomputable def x_X7_ones (p0 : Int64) : Option (Int) :=
  (lup (fun (s4 : Int × Int64) => x_X7_ones_b4 s4.1 s4.2) ((0 : Int), p0)).bind fun v6 => some v6
def rm_X7_ones : Room := { frames := 0, cells := 0, slots := 0, locals := 0 }
noncomputable def x_X7_stocked (σ : Mm) : Option (Int) :=
  (if zin (13 : Int) 171 then some ((52 : Int) - (σ 1 (zix (13 : Int)))) else none)
def rm_X7_stocked : Room := { frames := 0, cells := 0, slots := 0, locals := 0 }
noncomputable def x_X7_topOfPile (σ : Mm) : Option (Int) :=
  (if zin (14 : Int) 171 then (if zw (σ 1 (zix (14 : Int))) ≠ 0 then (if zin (14 : Int) 171 then (if zin (((67 : Int) + (σ 1 (zix (14 : Int)))) - (1 : Int)) 171 then some (σ 1 (zix (((67 : Int) + (σ 1 (zix (14 : Int)))) - (1 : Int)))) else none) else none) else some (-1 : Int)) else none)
def rm_X7_topOfPile : Room := { frames := 0, cells := 0, slots := 0, locals := 0 }
noncomputable def x_X7_takeHand_b8 (p1 : Int) (p2 : Int) (p3 : Int) (σ8 : Mm) (u4_8 : Int) : Option ((Mm × Int) ⊕ Mm) :=
  (if zw (52 : Int) ≤ zw u4_8 then some (.inr σ8) else (if zw u4_8 = zw p2 then bnd (u4_8 + 1) fun v2 => some (.inl (σ8, v2)) else (x_X7_owns σ8 p1 u4_8).bind fun v3 => (if zw v3 ≠ 0 then (if zin (σ8 0 12) 11 then bnd (zu σ8 20 (zix (σ8 0 12)) u4_8) fun σ4 => bnd (zu σ4 0 12 ((σ4 0 12) + (1 : Int))) fun σ6 => bnd (u4_8 + 1) fun v7 => some (.inl (σ6, v7)) else none) else (if zw u4_8 ≠ zw p3 then bnd (u4_8 + 1) fun v8 => some (.inl (σ8, v8)) else (if zin (σ8 0 12) 11 then bnd (zu σ8 20 (zix (σ8 0 12)) u4_8) fun σ9 => bnd (zu σ9 0 12 ((σ9 0 12) + (1 : Int))) fun σ11 => bnd (u4_8 + 1) fun v12 => some (.inl (σ11, v12)) else none)))))
noncomputable def x_X7_takeHand (σ : Mm) (p1 : Int) (p2 : Int) (p3 : Int) : Option (Mm) :=
  bnd (zu σ 0 12 (0 : Int)) fun σ1 => (lup (fun (s17 : Mm × Int) => x_X7_takeHand_b8 p1 p2 p3 s17.1 s17.2) (σ1, (0 : Int))).bind fun σ19 => some σ19
def rm_X7_takeHand : Room := { frames := 1, cells := 0, slots := 0, locals := 22 }
noncomputable def x_X7_placeOf_b2 (σ : Mm) (p1 : Int) (u2_2 : Int) : Option (Int ⊕ ((Int) ⊕ (Unit))) :=
  (if zw (σ 0 12) ≤ zw u2_2 then some (.inr (.inr ())) else (if zin u2_2 11 then (if zw (σ 20 (zix u2_2)) ≠ zw p1 then bnd (u2_2 + 1) fun v2 => some (.inl v2) else some (.inr (.inl u2_2))) else none))
noncomputable def x_X7_placeOf (σ : Mm) (p1 : Int) : Option (Int) :=
  (lup (fun (s5 : Int) => x_X7_placeOf_b2 σ p1 s5) (0 : Int)).bind fun e6 => zel e6 (fun v7 => some v7) (fun _ => some (-1 : Int))
def rm_X7_placeOf : Room := { frames := 0, cells := 0, slots := 0, locals := 0 }
noncomputable def x_X7_isSet_b7 (σ : Mm) (p1 : Int) (u2_7 : Int) (u3_7 : Int) (u4_7 : Int) : Option ((Int × Int × Int) ⊕ Int) :=
  (if zw (σ 0 12) ≤ zw u4_7 then some (.inr u3_7) else (if zw (zand (zshr p1 u4_7) (1 : Int)) ≠ zw (1 : Int) then bnd (u4_7 + 1) fun v1 => some (.inl (u2_7, u3_7, v1)) else (if zw u3_7 = 0 then (if zin u4_7 11 then bnd ((zrem (σ 20 (zix u4_7)) (13 : Int))) fun v3 => bnd (u4_7 + 1) fun v4 => some (.inl (v3, (0 : Int), v4)) else none) else (if zw u2_7 = zw (-1 : Int) then (if zin u4_7 11 then bnd ((zrem (σ 20 (zix u4_7)) (13 : Int))) fun v6 => bnd (u4_7 + 1) fun v7 => some (.inl (v6, (1 : Int), v7)) else none) else (if zin u4_7 11 then (if zw (zrem (σ 20 (zix u4_7)) (13 : Int)) ≠ zw u2_7 then (if zin u4_7 11 then bnd ((zrem (σ 20 (zix u4_7)) (13 : Int))) fun v10 => bnd (u4_7 + 1) fun v11 => some (.inl (v10, (0 : Int), v11)) else none) else (if zin u4_7 11 then bnd ((zrem (σ 20 (zix u4_7)) (13 : Int))) fun v13 => bnd (u4_7 + 1) fun v14 => some (.inl (v13, (1 : Int), v14)) else none)) else none)))))
noncomputable def x_X7_isSet (σ : Mm) (p1 : Int) : Option (Int) :=
  (lup (fun (s20 : Int × Int × Int) => x_X7_isSet_b7 σ p1 s20.1 s20.2.1 s20.2.2) ((-1 : Int), (1 : Int), (0 : Int))).bind fun v22 => (if zw v22 = 0 ∨ zw v22 = 1 then some v22 else none)
def rm_X7_isSet : Room := { frames := 0, cells := 0, slots := 0, locals := 0 }
noncomputable def x_X7_isAhead (σ : Mm) (p1 : Int) (p2 : Int) : Option (Int) :=
  (x_X7_ones (zi2l p1)).bind fun v1 => (x_X7_ones (zi2l p2)).bind fun v2 => (if zw v1 = zw v2 then (x_X7_isSet σ p1).bind fun v3 => (x_X7_isSet σ p2).bind fun v4 => (if zw v3 = zw v4 then bnd ((zxor p1 p2)) fun v5 => (if zw (zand (zand p1 v5) (-v5)) = 0 then some (0 : Int) else some (1 : Int)) else (x_X7_isSet σ p1).bind fun v7 => (if zw v7 = 0 ∨ zw v7 = 1 then some v7 else none)) else (if zw v2 ≤ zw v1 then some (0 : Int) else some (1 : Int)))
def rm_X7_isAhead : Room := { frames := 1, cells := 0, slots := 0, locals := 24 }
noncomputable def x_X7_addMeld_b5 (p1 : Int) (σ5 : Mm) (u2_5 : Int) : Option ((Mm × Int) ⊕ (Mm × Int)) :=
  (if zw u2_5 ≤ 0 then some (.inr (σ5, u2_5)) else (if zin (u2_5 - (1 : Int)) 200 then (x_X7_isAhead σ5 p1 (σ5 21 (zix (u2_5 - (1 : Int))))).bind fun v3 => (if zw v3 = 0 then some (.inr (σ5, u2_5)) else (if zin (u2_5 - (1 : Int)) 200 then (if zin u2_5 200 then bnd (zu σ5 21 (zix u2_5) (σ5 21 (zix (u2_5 - (1 : Int))))) fun σ5 => bnd (u2_5 + (-1 : Int)) fun v7 => some (.inl (σ5, v7)) else none) else none)) else none))
noncomputable def x_X7_addMeld (σ : Mm) (p1 : Int) : Option (Mm) :=
  bnd ((σ 0 14)) fun v1 => (lup (fun (s10 : Mm × Int) => x_X7_addMeld_b5 p1 s10.1 s10.2) (σ, v1)).bind fun e => un2 e fun σ12 v13 => (if zin v13 200 then bnd (zu σ12 21 (zix v13) p1) fun σ14 => bnd (zu σ14 0 14 ((σ14 0 14) + (1 : Int))) fun σ16 => some σ16 else none)
def rm_X7_addMeld : Room := { frames := 2, cells := 0, slots := 0, locals := 49 }
noncomputable def x_X7_findSets_b12 (σ2 : Mm) (u1_2 : Int) (u2_12 : Int) (u3_12 : Int) : Option ((Int × Int) ⊕ Int) :=
  (if zw (σ2 0 12) ≤ zw u3_12 then some (.inr u2_12) else (if zin u3_12 11 then (if zw (zrem (σ2 20 (zix u3_12)) (13 : Int)) ≠ zw u1_2 then bnd ((zor u2_12 (0 : Int))) fun v2 => bnd (u3_12 + 1) fun v3 => some (.inl (v2, v3)) else bnd ((zor u2_12 (zshl (1 : Int) u3_12))) fun v4 => bnd (u3_12 + 1) fun v5 => some (.inl (v4, v5))) else none))
noncomputable def x_X7_findSets_b65 (v1_63 : Int) (v2_63 : Int) (σ65 : Mm) (u3_65 : Int) : Option ((Mm × Int) ⊕ Mm) :=
  (if zw (σ65 0 12) ≤ zw u3_65 then some (.inr σ65) else (x_X7_ones (zi2l v2_63)).bind fun v12 => (if zw v12 ≠ zw (4 : Int) then some (.inr σ65) else (if zw (zand (zshr v2_63 u3_65) (1 : Int)) ≠ zw (1 : Int) then bnd (u3_65 + 1) fun v13 => some (.inl (σ65, v13)) else (x_X7_addMeld σ65 (zand v2_63 (zxor (zshl (1 : Int) u3_65) (-1 : Int)))).bind fun σ14 => bnd (u3_65 + 1) fun v15 => some (.inl (σ14, v15)))))
noncomputable def x_X7_findSets_j63_2 (σ_63 : Mm) (v1_63 : Int) (v2_63 : Int) : Option ((Mm × Int) ⊕ Mm) :=
  (lup (fun (s19 : Mm × Int) => x_X7_findSets_b65 v1_63 v2_63 s19.1 s19.2) (σ_63, (0 : Int))).bind fun σ21 => bnd (v1_63 + 1) fun v22 => some (.inl (σ21, v22))
noncomputable def x_X7_findSets_b2 (σ2 : Mm) (u1_2 : Int) : Option ((Mm × Int) ⊕ Mm) :=
  (if zw (13 : Int) ≤ zw u1_2 then some (.inr σ2) else (lup (fun (s8 : Int × Int) => x_X7_findSets_b12 σ2 u1_2 s8.1 s8.2) ((0 : Int), (0 : Int))).bind fun v10 => (x_X7_ones (zi2l v10)).bind fun v11 => (if zw v11 < zw (3 : Int) then x_X7_findSets_j63_2 σ2 u1_2 v10 else (x_X7_addMeld σ2 v10).bind fun σ23 => x_X7_findSets_j63_2 σ23 u1_2 v10))
noncomputable def x_X7_findSets (σ : Mm) : Option (Mm) :=
  (lup (fun (s26 : Mm × Int) => x_X7_findSets_b2 s26.1 s26.2) (σ, (0 : Int))).bind fun σ28 => some σ28
def rm_X7_findSets : Room := { frames := 3, cells := 0, slots := 0, locals := 71 }
noncomputable def x_X7_findRuns_j84_42 (u1_2 : Int) (v2 : Int) (v4 : Int) (σ_84 : Mm) (v4_84 : Int) (v6_84 : Int) (v7_84 : Int) (w0_84 : Int) : Option ((Mm × Int × Int × Int) ⊕ Mm) :=
  (if zw w0_84 = 0 then bnd ((zor v4_84 (0 : Int))) fun v6 => (if zw w0_84 = 0 then bnd (v6_84 + 1) fun v7 => some (.inl (σ_84, v6, w0_84, v7)) else (if zw v6_84 < zw (3 : Int) then bnd (v6_84 + 1) fun v8 => some (.inl (σ_84, v6, w0_84, v8)) else (x_X7_addMeld σ_84 v6).bind fun σ9 => bnd (v6_84 + 1) fun v10 => some (.inl (σ9, v6, w0_84, v10)))) else bnd ((zor v4_84 (zshl (1 : Int) v7_84))) fun v13 => (if zw w0_84 = 0 then bnd (v6_84 + 1) fun v14 => some (.inl (σ_84, v13, w0_84, v14)) else (if zw v6_84 < zw (3 : Int) then bnd (v6_84 + 1) fun v15 => some (.inl (σ_84, v13, w0_84, v15)) else (x_X7_addMeld σ_84 v13).bind fun σ16 => bnd (v6_84 + 1) fun v17 => some (.inl (σ16, v13, w0_84, v17)))))
noncomputable def x_X7_findRuns_b42 (u1_2 : Int) (v2 : Int) (v4 : Int) (σ42 : Mm) (u4_42 : Int) (u5_42 : Int) (u6_42 : Int) : Option ((Mm × Int × Int × Int) ⊕ Mm) :=
  (if zw (σ42 0 12) < zw u6_42 then some (.inr σ42) else (if zw u5_42 = 0 then some (.inr σ42) else (x_X7_placeOf σ42 (v2 + (zrem ((v4 + u6_42) - (1 : Int)) (13 : Int)))).bind fun v5 => (if zw v5 = zw (-1 : Int) then x_X7_findRuns_j84_42 u1_2 v2 v4 σ42 u4_42 u6_42 v5 (0 : Int) else x_X7_findRuns_j84_42 u1_2 v2 v4 σ42 u4_42 u6_42 v5 (1 : Int))))
noncomputable def x_X7_findRuns_b2 (σ2 : Mm) (u1_2 : Int) : Option ((Mm × Int) ⊕ Mm) :=
  (if zw (σ2 0 12) ≤ zw u1_2 then some (.inr σ2) else (if zin u1_2 11 then bnd (((zdiv (σ2 20 (zix u1_2)) (13 : Int)) * (13 : Int))) fun v2 => (if zin u1_2 11 then bnd ((zrem (σ2 20 (zix u1_2)) (13 : Int))) fun v4 => (lup (fun (s24 : Mm × Int × Int × Int) => x_X7_findRuns_b42 u1_2 v2 v4 s24.1 s24.2.1 s24.2.2.1 s24.2.2.2) (σ2, (0 : Int), (1 : Int), (1 : Int))).bind fun σ26 => bnd (u1_2 + 1) fun v27 => some (.inl (σ26, v27)) else none) else none))
noncomputable def x_X7_findRuns (σ : Mm) : Option (Mm) :=
  (lup (fun (s29 : Mm × Int) => x_X7_findRuns_b2 s29.1 s29.2) (σ, (0 : Int))).bind fun σ31 => some σ31
def rm_X7_findRuns : Room := { frames := 3, cells := 0, slots := 0, locals := 71 }
noncomputable def x_X7_findRests_b70 (σ22 : Mm) (u1_22 : Int) (v6 : Int) (u4_70 : Int) (u5_70 : Int) : Option ((Int × Int) ⊕ Int) :=
  (if zw (σ22 0 14) ≤ zw u5_70 then some (.inr u4_70) else (if zin u5_70 200 then (if zin u5_70 200 then (if zw (zand (σ22 21 (zix u5_70)) (-(σ22 21 (zix u5_70)))) ≠ zw v6 then bnd (u5_70 + 1) fun v15 => some (.inl (u4_70, v15)) else (if zin u5_70 200 then (if zw (zand (σ22 21 (zix u5_70)) (zxor u1_22 (-1 : Int))) ≠ 0 then bnd (u5_70 + 1) fun v17 => some (.inl (u4_70, v17)) else (if zin u5_70 200 then (if zin (zand u1_22 (zxor (σ22 21 (zix u5_70)) (-1 : Int))) 2048 then (if zw u4_70 ≤ zw (σ22 22 (zix (zand u1_22 (zxor (σ22 21 (zix u5_70)) (-1 : Int))))) then bnd (u5_70 + 1) fun v20 => some (.inl (u4_70, v20)) else (if zin u5_70 200 then (if zin (zand u1_22 (zxor (σ22 21 (zix u5_70)) (-1 : Int))) 2048 then bnd ((σ22 22 (zix (zand u1_22 (zxor (σ22 21 (zix u5_70)) (-1 : Int)))))) fun v23 => bnd (u5_70 + 1) fun v24 => some (.inl (v23, v24)) else none) else none)) else none) else none)) else none)) else none) else none))
noncomputable def x_X7_findRests_b22 (σ22 : Mm) (u1_22 : Int) : Option ((Mm × Int) ⊕ Mm) :=
  (if zw (zshl (1 : Int) (σ22 0 12)) ≤ zw u1_22 then some (.inr σ22) else bnd ((zand u1_22 (-u1_22))) fun v6 => (x_X7_ones (zi2l (v6 - (1 : Int)))).bind fun v7 => (if zin v7 11 then bnd ((σ22 20 (zix v7))) fun v9 => (x_X7_points v9).bind fun v10 => (if zin (zand u1_22 (zxor v6 (-1 : Int))) 2048 then bnd ((v10 + (σ22 22 (zix (zand u1_22 (zxor v6 (-1 : Int))))))) fun v12 => (lup (fun (s29 : Int × Int) => x_X7_findRests_b70 σ22 u1_22 v6 s29.1 s29.2) (v12, (0 : Int))).bind fun v31 => (if zin u1_22 2048 then bnd (zu σ22 22 (zix u1_22) v31) fun σ32 => bnd (u1_22 + 1) fun v34 => some (.inl (σ32, v34)) else none) else none) else none))
noncomputable def x_X7_findRests (σ : Mm) : Option (Mm × Int) :=
  bnd (zu σ 0 14 (0 : Int)) fun σ1 => (x_X7_findSets σ1).bind fun σ2 => (x_X7_findRuns σ2).bind fun σ3 => (if zin (0 : Int) 2048 then bnd (zu σ3 22 (zix (0 : Int)) (0 : Int)) fun σ4 => (lup (fun (s36 : Mm × Int) => x_X7_findRests_b22 s36.1 s36.2) (σ4, (1 : Int))).bind fun σ38 => (if zin ((zshl (1 : Int) (σ38 0 12)) - (1 : Int)) 2048 then some (σ38, (σ38 22 (zix ((zshl (1 : Int) (σ38 0 12)) - (1 : Int))))) else none) else none)
def rm_X7_findRests : Room := { frames := 4, cells := 0, slots := 0, locals := 98 }
noncomputable def x_X7_cardsOf_b5 (σ : Mm) (p1 : Int) (u2_5 : Int64) (u4_5 : Int) : Option ((Int64 × Int) ⊕ Int64) :=
  (if zw (σ 0 12) ≤ zw u4_5 then some (.inr u2_5) else (if zw (zand (zshr p1 u4_5) (1 : Int)) ≠ zw (1 : Int) then bnd ((u2_5 ||| (0 : Int64))) fun v1 => bnd (u4_5 + 1) fun v2 => some (.inl (v1, v2)) else (if zin u4_5 11 then bnd ((u2_5 ||| (zlshl (1 : Int64) (σ 20 (zix u4_5))))) fun v4 => bnd (u4_5 + 1) fun v5 => some (.inl (v4, v5)) else none)))
noncomputable def x_X7_cardsOf (σ : Mm) (p1 : Int) : Option (Int64) :=
  (lup (fun (s8 : Int64 × Int) => x_X7_cardsOf_b5 σ p1 s8.1 s8.2) ((0 : Int64), (0 : Int))).bind fun v10 => some v10
def rm_X7_cardsOf : Room := { frames := 0, cells := 0, slots := 0, locals := 0 }
noncomputable def x_X7_layOut_b41 (σ29 : Mm) (u1_29 : Int) (u2_29 : Int) (v7 : Int) (u4_41 : Int) : Option (Int ⊕ Int) :=
  (if zw (σ29 0 14) ≤ zw u4_41 then some (.inr u4_41) else (if zin u4_41 200 then (if zw (zand (σ29 21 (zix u4_41)) v7) = 0 then bnd (u4_41 + 1) fun v9 => some (.inl v9) else (if zin u4_41 200 then (if zw (zand (σ29 21 (zix u4_41)) (zxor u1_29 (-1 : Int))) ≠ 0 then bnd (u4_41 + 1) fun v11 => some (.inl v11) else (if zin u4_41 200 then (if zin (zand u1_29 (zxor (σ29 21 (zix u4_41)) (-1 : Int))) 2048 then (if zw (u2_29 + (σ29 22 (zix (zand u1_29 (zxor (σ29 21 (zix u4_41)) (-1 : Int)))))) ≤ zw (σ29 0 19) then some (.inr u4_41) else bnd (u4_41 + 1) fun v14 => some (.inl v14)) else none) else none)) else none)) else none))
noncomputable def x_X7_layOut_j107_29 (σ_107 : Mm) (v1_107 : Int) (v2_107 : Int) (v3_107 : Int) (v4_107 : Int) : Option ((Mm × Int × Int) ⊕ Mm) :=
  (if zw (σ_107 0 14) ≤ zw v4_107 then (x_X7_cardsOf σ_107 v3_107).bind fun v22 => bnd (zu σ_107 0 18 (Int64.toInt ((zL (σ_107 0 18)) ||| v22))) fun σ23 => (x_X7_ones (zi2l (v3_107 - (1 : Int)))).bind fun v24 => (if zin v24 11 then (x_X7_points (σ23 20 (zix v24))).bind fun v26 => bnd ((v2_107 + v26)) fun v27 => bnd ((zand v1_107 (zxor v3_107 (-1 : Int)))) fun v28 => some (.inl (σ23, v28, v27)) else none) else (if zin v4_107 200 then (x_X7_cardsOf σ_107 (σ_107 21 (zix v4_107))).bind fun v30 => (if zin (σ_107 0 17) 11 then bnd (zu σ_107 23 (zix (σ_107 0 17)) (Int64.toInt v30)) fun σ31 => bnd (zu σ31 0 17 ((σ31 0 17) + (1 : Int))) fun σ33 => (if zin v4_107 200 then bnd ((zand v1_107 (zxor (σ33 21 (zix v4_107)) (-1 : Int)))) fun v35 => some (.inl (σ33, v35, v2_107)) else none) else none) else none))
noncomputable def x_X7_layOut_b29 (σ29 : Mm) (u1_29 : Int) (u2_29 : Int) : Option ((Mm × Int × Int) ⊕ Mm) :=
  (if zw u1_29 = 0 then some (.inr σ29) else bnd ((zand u1_29 (-u1_29))) fun v7 => (lup (fun (s19 : Int) => x_X7_layOut_b41 σ29 u1_29 u2_29 v7 s19) (0 : Int)).bind fun v21 => x_X7_layOut_j107_29 σ29 u1_29 u2_29 v7 v21)
noncomputable def x_X7_layOut (σ : Mm) : Option (Mm) :=
  (x_X7_findRests σ).bind fun o => un2 o fun σ1 v2 => bnd (zu σ1 0 19 v2) fun σ3 => bnd (zu σ3 0 17 (0 : Int)) fun σ4 => bnd (zu σ4 0 18 (Int64.toInt (0 : Int64))) fun σ5 => bnd (((zshl (1 : Int) (σ5 0 12)) - (1 : Int))) fun v6 => (lup (fun (s38 : Mm × Int × Int) => x_X7_layOut_b29 s38.1 s38.2.1 s38.2.2) (σ5, v6, (0 : Int))).bind fun σ40 => some σ40
def rm_X7_layOut : Room := { frames := 5, cells := 0, slots := 0, locals := 123 }
noncomputable def x_X7_layOutOf (σ : Mm) (p1 : Int) : Option (Mm) :=
  (x_X7_takeHand σ p1 (-1 : Int) (-1 : Int)).bind fun σ1 => (x_X7_layOut σ1).bind fun σ2 => some σ2
def rm_X7_layOutOf : Room := { frames := 6, cells := 0, slots := 0, locals := 147 }
noncomputable def x_X7_lowest_b2 (p0 : Int64) (u2_2 : Int) : Option (Int ⊕ Int) :=
  (if zw (zcmp ((zlshr p0 u2_2) &&& (1 : Int64)) (0 : Int64)) ≠ 0 then some (.inr u2_2) else bnd (u2_2 + 1) fun v1 => some (.inl v1))
noncomputable def x_X7_lowest (p0 : Int64) : Option (Int) :=
  (lup (fun (s3 : Int) => x_X7_lowest_b2 p0 s3) (0 : Int)).bind fun v5 => some v5
def rm_X7_lowest : Room := { frames := 0, cells := 0, slots := 0, locals := 0 }
noncomputable def x_X7_isSetOf (p0 : Int64) : Option (Int) :=
  (x_X7_lowest p0).bind fun v1 => bnd ((zrem v1 (13 : Int))) fun v2 => bnd (((((zlshl (1 : Int64) v2) ||| (zlshl (1 : Int64) (v2 + (13 : Int)))) ||| (zlshl (1 : Int64) (v2 + (26 : Int)))) ||| (zlshl (1 : Int64) (v2 + (39 : Int))))) fun v3 => (if zw (zcmp (p0 &&& (v3 ^^^ (-1 : Int64))) (0 : Int64)) ≠ 0 then some (0 : Int) else some (1 : Int))
def rm_X7_isSetOf : Room := { frames := 1, cells := 0, slots := 0, locals := 22 }
noncomputable def x_X7_firstOf_j36_13 (p0 : Int64) (v2 : Int) (v3_36 : Int) (w0_36 : Int) : Option (Int ⊕ ((Int) ⊕ (Unit))) :=
  (if zw (zcmp ((zlshr p0 (v2 + (zrem ((v3_36 + (13 : Int)) - (1 : Int)) (13 : Int)))) &&& (1 : Int64)) (1 : Int64)) ≠ 0 then (if zw w0_36 = 0 then bnd (v3_36 + 1) fun v3 => some (.inl v3) else (if zw (0 : Int) ≠ 0 then bnd (v3_36 + 1) fun v4 => some (.inl v4) else some (.inr (.inl v3_36)))) else (if zw w0_36 = 0 then bnd (v3_36 + 1) fun v7 => some (.inl v7) else (if zw (1 : Int) ≠ 0 then bnd (v3_36 + 1) fun v8 => some (.inl v8) else some (.inr (.inl v3_36)))))
noncomputable def x_X7_firstOf_b13 (p0 : Int64) (v2 : Int) (u3_13 : Int) : Option (Int ⊕ ((Int) ⊕ (Unit))) :=
  (if zw (13 : Int) ≤ zw u3_13 then some (.inr (.inr ())) else (if zw (zcmp ((zlshr p0 (v2 + u3_13)) &&& (1 : Int64)) (1 : Int64)) ≠ 0 then x_X7_firstOf_j36_13 p0 v2 u3_13 (0 : Int) else x_X7_firstOf_j36_13 p0 v2 u3_13 (1 : Int)))
noncomputable def x_X7_firstOf (p0 : Int64) : Option (Int) :=
  (x_X7_lowest p0).bind fun v1 => bnd (((zdiv v1 (13 : Int)) * (13 : Int))) fun v2 => (lup (fun (s14 : Int) => x_X7_firstOf_b13 p0 v2 s14) (0 : Int)).bind fun e15 => zel e15 (fun v16 => some (v2 + v16)) (fun _ => some v2)
def rm_X7_firstOf : Room := { frames := 1, cells := 0, slots := 0, locals := 22 }
noncomputable def x_X7_takes (p0 : Int64) (p2 : Int) : Option (Int) :=
  (x_X7_isSetOf p0).bind fun v1 => (if zw v1 = 0 then (x_X7_lowest p0).bind fun v2 => bnd (((zdiv v2 (13 : Int)) * (13 : Int))) fun v3 => (x_X7_ones p0).bind fun v4 => (if zw v4 = zw (13 : Int) then some (0 : Int) else (if zw ((zdiv p2 (13 : Int)) * (13 : Int)) = zw v3 then (x_X7_firstOf p0).bind fun v5 => bnd ((zrem v5 (13 : Int))) fun v6 => bnd ((zrem p2 (13 : Int))) fun v7 => (if zw v7 = zw (zrem ((v6 + (13 : Int)) - (1 : Int)) (13 : Int)) then some (1 : Int) else (x_X7_ones p0).bind fun v8 => (if zw v7 ≠ zw (zrem (v6 + v8) (13 : Int)) then some (0 : Int) else some (1 : Int))) else some (0 : Int))) else (x_X7_ones p0).bind fun v13 => (if zw v13 ≠ zw (3 : Int) then some (0 : Int) else (x_X7_isSetOf (p0 ||| (zlshl (1 : Int64) p2))).bind fun v14 => (if zw v14 = 0 then some (0 : Int) else some (1 : Int))))
def rm_X7_takes : Room := { frames := 2, cells := 0, slots := 0, locals := 47 }
noncomputable def x_X7_nextAdded_b10 (σ : Mm) (u1_2 : Int) (u2_10 : Int) : Option (Int ⊕ ((Int) ⊕ (Unit))) :=
  (if zw (σ 0 21) ≤ zw u2_10 then some (.inr (.inr ())) else (if zw (zcmp ((zlshr (zL (σ 0 18)) u1_2) &&& (1 : Int64)) (1 : Int64)) ≠ 0 then some (.inr (.inr ())) else (if zin u2_10 11 then (x_X7_takes (zL (σ 24 (zix u2_10))) u1_2).bind fun v2 => (if zw v2 = 0 then bnd (u2_10 + 1) fun v3 => some (.inl v3) else some (.inr (.inl u2_10))) else none)))
noncomputable def x_X7_nextAdded_b2 (σ : Mm) (u1_2 : Int) : Option (Int ⊕ ((Int × Int) ⊕ (Unit))) :=
  (if zw (52 : Int) ≤ zw u1_2 then some (.inr (.inr ())) else (lup (fun (s7 : Int) => x_X7_nextAdded_b10 σ u1_2 s7) (0 : Int)).bind fun e8 => zel e8 (fun v9 => some (.inr (.inl (u1_2, v9)))) (fun _ => bnd (u1_2 + 1) fun v10 => some (.inl v10)))
noncomputable def x_X7_nextAdded (σ : Mm) : Option (Int) :=
  (lup (fun (s12 : Int) => x_X7_nextAdded_b2 σ s12) (0 : Int)).bind fun e13 => zel e13 (fun e => un2 e fun v14 v15 => some (((64 : Int) * v14) + v15)) (fun _ => some (-1 : Int))
def rm_X7_nextAdded : Room := { frames := 3, cells := 0, slots := 0, locals := 72 }
noncomputable def x_X7_findKnock_b34 (σ34 : Mm) (u2_34 : Int) : Option ((Mm × Int) ⊕ Mm) :=
  (if zw (σ34 0 17) ≤ zw u2_34 then some (.inr σ34) else (if zin u2_34 11 then (if zin u2_34 11 then bnd (zu σ34 24 (zix u2_34) (Int64.toInt (zL (σ34 23 (zix u2_34))))) fun σ7 => bnd (u2_34 + 1) fun v9 => some (.inl (σ7, v9)) else none) else none))
noncomputable def x_X7_findKnock_b93 (σ93 : Mm) (u2_93 : Int) : Option ((Mm × Int) ⊕ Mm) :=
  (if zw u2_93 = zw (-1 : Int) then some (.inr σ93) else (if zin (zrem u2_93 (64 : Int)) 11 then (if zin (zrem u2_93 (64 : Int)) 11 then bnd (zu σ93 24 (zix (zrem u2_93 (64 : Int))) (Int64.toInt ((zL (σ93 24 (zix (zrem u2_93 (64 : Int))))) ||| (zlshl (1 : Int64) (zdiv u2_93 (64 : Int)))))) fun σ18 => bnd (zu σ18 0 18 (Int64.toInt ((zL (σ18 0 18)) &&& ((zlshl (1 : Int64) (zdiv u2_93 (64 : Int))) ^^^ (-1 : Int64))))) fun σ20 => bnd (zu σ20 0 24 ((σ20 0 24) + (1 : Int))) fun σ21 => (x_X7_nextAdded σ21).bind fun v22 => some (.inl (σ21, v22)) else none) else none))
noncomputable def x_X7_findKnock_j92 (σ_92 : Mm) (w0_92 : Int) : Option (Mm) :=
  (lup (fun (s24 : Mm × Int) => x_X7_findKnock_b93 s24.1 s24.2) (σ_92, w0_92)).bind fun σ26 => (x_X7_pointsOf (zL (σ26 0 18))).bind fun v27 => bnd (zu σ26 0 23 v27) fun σ28 => some σ28
noncomputable def x_X7_findKnock (σ : Mm) (p1 : Int) : Option (Mm) :=
  (if zin (4 : Int) 171 then (x_X7_takeHand σ (σ 1 (zix (4 : Int))) p1 (-1 : Int)).bind fun σ2 => (x_X7_layOut σ2).bind fun σ3 => bnd (zu σ3 0 22 (σ3 0 19)) fun σ4 => bnd (zu σ4 0 21 (σ4 0 17)) fun σ5 => (lup (fun (s11 : Mm × Int) => x_X7_findKnock_b34 s11.1 s11.2) (σ5, (0 : Int))).bind fun σ13 => (if zin (4 : Int) 171 then (x_X7_layOutOf σ13 ((1 : Int) - (σ13 1 (zix (4 : Int))))).bind fun σ15 => bnd (zu σ15 0 24 (0 : Int)) fun σ16 => (if zw (σ16 0 22) ≤ 0 then x_X7_findKnock_j92 σ16 (-1 : Int) else (x_X7_nextAdded σ16).bind fun v29 => x_X7_findKnock_j92 σ16 v29) else none) else none)
def rm_X7_findKnock : Room := { frames := 7, cells := 0, slots := 0, locals := 168 }
noncomputable def x_X7_noTurn (σ : Mm) (p1 : Int) : Option (Int) :=
  (if zin (6 : Int) 171 then (if zw (σ 1 (zix (6 : Int))) ≠ zw (1 : Int) then (if zin (5 : Int) 171 then (if zw (σ 1 (zix (5 : Int))) ≠ 0 then (if zin (7 : Int) 171 then (if zw (σ 1 (zix (7 : Int))) ≠ zw p1 then some (0 : Int) else some (5 : Int)) else none) else some (4 : Int)) else none) else some (2 : Int)) else none)
def rm_X7_noTurn : Room := { frames := 0, cells := 0, slots := 0, locals := 0 }
noncomputable def x_X7_restWithoutCard (σ : Mm) (p1 : Int) : Option (Mm × Int) :=
  (if zin (4 : Int) 171 then (x_X7_takeHand σ (σ 1 (zix (4 : Int))) p1 (-1 : Int)).bind fun σ2 => (x_X7_findRests σ2).bind fun o => un2 o fun σ3 v4 => some (σ3, v4) else none)
def rm_X7_restWithoutCard : Room := { frames := 5, cells := 0, slots := 0, locals := 123 }
noncomputable def x_X7_noKnock (σ : Mm) (p1 : Int) : Option (Mm × Int) :=
  (x_X7_noTurn σ p1).bind fun v1 => (if zw v1 = 0 then (x_X7_restWithoutCard σ p1).bind fun o => un2 o fun σ2 v3 => (if zin (1 : Int) 171 then (if zw v3 ≤ zw (σ2 1 (zix (1 : Int))) then some (σ2, (0 : Int)) else some (σ2, (6 : Int))) else none) else some (σ, v1))
def rm_X7_noKnock : Room := { frames := 6, cells := 0, slots := 0, locals := 144 }
noncomputable def x_X7_noDraw (σ : Mm) : Option (Int) :=
  (if zin (6 : Int) 171 then (if zw (σ 1 (zix (6 : Int))) ≠ zw (1 : Int) then (if zin (5 : Int) 171 then (if zw (σ 1 (zix (5 : Int))) ≠ zw (1 : Int) then some (0 : Int) else some (3 : Int)) else none) else some (2 : Int)) else none)
def rm_X7_noDraw : Room := { frames := 0, cells := 0, slots := 0, locals := 0 }
noncomputable def x_X7_drawIt_j56 (σ_56 : Mm) (v1_56 : Int) (v2_56 : Int) : Option (Mm × Int) :=
  (if zin (4 : Int) 171 then (if zin ((119 : Int) + v2_56) 171 then bnd (zu σ_56 1 (zix ((119 : Int) + v2_56)) (σ_56 1 (zix (4 : Int)))) fun σ7 => (if zin (5 : Int) 171 then bnd (zu σ7 1 (zix (5 : Int)) (1 : Int)) fun σ9 => (if zw v1_56 = 0 then (if zin (7 : Int) 171 then bnd (zu σ9 1 (zix (7 : Int)) (-1 : Int)) fun σ11 => some (σ11, v2_56) else none) else (if zin (7 : Int) 171 then bnd (zu σ9 1 (zix (7 : Int)) v2_56) fun σ13 => some (σ13, v2_56) else none)) else none) else none) else none)
noncomputable def x_X7_drawIt_j26 (σ_26 : Mm) (v1_26 : Int) (w0_26 : Int) : Option (Mm × Int) :=
  (if zw v1_26 = 0 then (if zin (13 : Int) 171 then (if zin (13 : Int) 171 then bnd (zu σ_26 1 (zix (13 : Int)) ((σ_26 1 (zix (13 : Int))) + (1 : Int))) fun σ4 => x_X7_drawIt_j56 σ4 v1_26 w0_26 else none) else none) else (if zin (14 : Int) 171 then (if zin (14 : Int) 171 then bnd (zu σ_26 1 (zix (14 : Int)) ((σ_26 1 (zix (14 : Int))) - (1 : Int))) fun σ17 => x_X7_drawIt_j56 σ17 v1_26 w0_26 else none) else none))
noncomputable def x_X7_drawIt (σ : Mm) (p1 : Int) : Option (Mm × Int) :=
  (if zw p1 = 0 then (if zin (13 : Int) 171 then (if zin ((15 : Int) + (σ 1 (zix (13 : Int)))) 171 then x_X7_drawIt_j26 σ p1 (σ 1 (zix ((15 : Int) + (σ 1 (zix (13 : Int)))))) else none) else none) else (x_X7_topOfPile σ).bind fun v20 => x_X7_drawIt_j26 σ p1 v20)
def rm_X7_drawIt : Room := { frames := 1, cells := 0, slots := 0, locals := 20 }
noncomputable def x_X7_putOnPile (σ : Mm) (p1 : Int) : Option (Mm) :=
  (if zin ((119 : Int) + p1) 171 then bnd (zu σ 1 (zix ((119 : Int) + p1)) (2 : Int)) fun σ1 => (if zin (14 : Int) 171 then (if zin ((67 : Int) + (σ1 1 (zix (14 : Int)))) 171 then bnd (zu σ1 1 (zix ((67 : Int) + (σ1 1 (zix (14 : Int))))) p1) fun σ4 => (if zin (14 : Int) 171 then (if zin (14 : Int) 171 then bnd (zu σ4 1 (zix (14 : Int)) ((σ4 1 (zix (14 : Int))) + (1 : Int))) fun σ7 => (if zin (5 : Int) 171 then bnd (zu σ7 1 (zix (5 : Int)) (0 : Int)) fun σ9 => (if zin (7 : Int) 171 then bnd (zu σ9 1 (zix (7 : Int)) (-1 : Int)) fun σ11 => some σ11 else none) else none) else none) else none) else none) else none) else none)
def rm_X7_putOnPile : Room := { frames := 0, cells := 0, slots := 0, locals := 0 }
noncomputable def x_X7_endRound (σ : Mm) (p1 : Int) (p2 : Int) : Option (Mm) :=
  (if zin (6 : Int) 171 then bnd (zu σ 1 (zix (6 : Int)) (1 : Int)) fun σ1 => (if zin (10 : Int) 171 then bnd (zu σ1 1 (zix (10 : Int)) p1) fun σ3 => (if zin (11 : Int) 171 then bnd (zu σ3 1 (zix (11 : Int)) p2) fun σ5 => (if zw p2 = zw (-1 : Int) then some σ5 else (if zin ((8 : Int) + p2) 171 then (if zin ((8 : Int) + p2) 171 then bnd (zu σ5 1 (zix ((8 : Int) + p2)) ((σ5 1 (zix ((8 : Int) + p2))) + p1)) fun σ8 => some σ8 else none) else none)) else none) else none) else none)
def rm_X7_endRound : Room := { frames := 0, cells := 0, slots := 0, locals := 0 }
noncomputable def x_X7_dropIt (σ : Mm) (p1 : Int) : Option (Mm × Int) :=
  (x_X7_putOnPile σ p1).bind fun σ1 => (x_X7_stocked σ1).bind fun v2 => (if zw v2 ≠ 0 then (if zin (4 : Int) 171 then (if zin (4 : Int) 171 then bnd (zu σ1 1 (zix (4 : Int)) ((1 : Int) - (σ1 1 (zix (4 : Int))))) fun σ4 => (x_X7_stocked σ4).bind fun v6 => some (σ4, v6) else none) else none) else (x_X7_endRound σ1 (0 : Int) (-1 : Int)).bind fun σ7 => (x_X7_stocked σ7).bind fun v8 => some (σ7, v8))
def rm_X7_dropIt : Room := { frames := 1, cells := 0, slots := 0, locals := 22 }
noncomputable def x_X7_knockIt_j84 (σ_84 : Mm) (v2_84 : Int) (v3_84 : Int) (w0_84 : Int) : Option (Mm × Int) :=
  (if zw v3_84 = 0 then (if zin (4 : Int) 171 then (x_X7_endRound σ_84 w0_84 ((1 : Int) - (σ_84 1 (zix (4 : Int))))).bind fun σ4 => some (σ4, v2_84) else none) else (if zin (4 : Int) 171 then (x_X7_endRound σ_84 w0_84 (σ_84 1 (zix (4 : Int)))).bind fun σ6 => some (σ6, v2_84) else none))
noncomputable def x_X7_knockIt_j72 (σ_72 : Mm) (v2_72 : Int) (w0_72 : Int) : Option (Mm × Int) :=
  (if zw w0_72 = 0 then x_X7_knockIt_j84 σ_72 v2_72 w0_72 (-v2_72) else x_X7_knockIt_j84 σ_72 v2_72 w0_72 v2_72)
noncomputable def x_X7_knockIt_j62 (σ_62 : Mm) (w0_62 : Int) : Option (Mm × Int) :=
  (if zw w0_62 ≤ 0 then x_X7_knockIt_j72 σ_62 w0_62 (0 : Int) else x_X7_knockIt_j72 σ_62 w0_62 (1 : Int))
noncomputable def x_X7_knockIt (σ : Mm) (p1 : Int) : Option (Mm × Int) :=
  (x_X7_findKnock σ p1).bind fun σ1 => (x_X7_putOnPile σ1 p1).bind fun σ2 => (if zw (σ2 0 22) ≠ 0 then (if zw (σ2 0 23) ≤ zw (σ2 0 22) then x_X7_knockIt_j62 σ2 (((σ2 0 23) - (σ2 0 22)) - (10 : Int)) else x_X7_knockIt_j62 σ2 ((σ2 0 23) - (σ2 0 22))) else x_X7_knockIt_j62 σ2 ((σ2 0 23) + (20 : Int)))
def rm_X7_knockIt : Room := { frames := 8, cells := 0, slots := 0, locals := 190 }
noncomputable def x_X7_isMatchOver (σ : Mm) : Option (Int) :=
  (if zin (6 : Int) 171 then (if zw (σ 1 (zix (6 : Int))) ≠ zw (1 : Int) then some (0 : Int) else (if zin (8 : Int) 171 then (if zin (2 : Int) 171 then (if zw (σ 1 (zix (2 : Int))) ≤ zw (σ 1 (zix (8 : Int))) then some (1 : Int) else (if zin (9 : Int) 171 then (if zin (2 : Int) 171 then (if zw (σ 1 (zix (9 : Int))) < zw (σ 1 (zix (2 : Int))) then some (0 : Int) else some (1 : Int)) else none) else none)) else none) else none)) else none)
def rm_X7_isMatchOver : Room := { frames := 0, cells := 0, slots := 0, locals := 0 }
noncomputable def x_X7_noDeal (σ : Mm) : Option (Int) :=
  (if zin (6 : Int) 171 then (if zw (σ 1 (zix (6 : Int))) ≠ 0 then (x_X7_isMatchOver σ).bind fun v2 => (if zw v2 = 0 then some (0 : Int) else some (8 : Int)) else some (7 : Int)) else none)
def rm_X7_noDeal : Room := { frames := 1, cells := 0, slots := 0, locals := 20 }
noncomputable def x_X7_dealIt (σ : Mm) : Option (Mm × Int) :=
  (if zin (3 : Int) 171 then (if zin (3 : Int) 171 then bnd (zu σ 1 (zix (3 : Int)) ((σ 1 (zix (3 : Int))) + (1 : Int))) fun σ2 => (x_X7_shuffle σ2).bind fun σ4 => (x_X7_dealOut σ4).bind fun σ5 => (if zin (3 : Int) 171 then some (σ5, (σ5 1 (zix (3 : Int)))) else none) else none) else none)
def rm_X7_dealIt : Room := { frames := 1, cells := 0, slots := 0, locals := 23 }
noncomputable def x_X7_draw (σ : Mm) (p1 : Int) : Option (Mm × Int) :=
  bnd (zu σ 0 0 (0 : Int)) fun σ1 => (x_X7_noDraw σ1).bind fun v2 => (if zw v2 = 0 then (x_X7_keepPast_w σ1).bind fun σ3 => (x_X7_drawIt σ3 p1).bind fun o => un2 o fun σ4 v5 => some (σ4, v5) else some (σ1, ((-100 : Int) - v2)))
def rm_X7_draw : Room := { frames := 2, cells := 0, slots := 0, locals := 45 }
noncomputable def x_X7_drop (σ : Mm) (p1 : Int) : Option (Mm × Int) :=
  bnd (zu σ 0 0 (0 : Int)) fun σ1 => (x_X7_noCard σ1 p1).bind fun o => un2 o fun σ2 v3 => (if zw v3 = 0 then (x_X7_noTurn σ2 p1).bind fun v4 => (if zw v4 = 0 then (x_X7_keepPast_w σ2).bind fun σ5 => (x_X7_dropIt σ5 p1).bind fun o => un2 o fun σ6 v7 => some (σ6, v7) else some (σ2, ((-100 : Int) - v4))) else some (σ2, (0 : Int)))
def rm_X7_drop : Room := { frames := 2, cells := 0, slots := 0, locals := 45 }
noncomputable def x_X7_knock (σ : Mm) (p1 : Int) : Option (Mm × Int) :=
  bnd (zu σ 0 0 (0 : Int)) fun σ1 => (x_X7_noCard σ1 p1).bind fun o => un2 o fun σ2 v3 => (if zw v3 = 0 then (x_X7_noKnock σ2 p1).bind fun o => un2 o fun σ4 v5 => (if zw v5 = 0 then (x_X7_keepPast_w σ4).bind fun σ6 => (x_X7_knockIt σ6 p1).bind fun o => un2 o fun σ7 v8 => some (σ7, v8) else some (σ4, ((-1000 : Int) - v5))) else some (σ2, (0 : Int)))
def rm_X7_knock : Room := { frames := 9, cells := 0, slots := 0, locals := 213 }
noncomputable def x_X7_deal (σ : Mm) : Option (Mm × Int) :=
  bnd (zu σ 0 0 (0 : Int)) fun σ1 => (x_X7_noDeal σ1).bind fun v2 => (if zw v2 = 0 then (x_X7_keepPast_w σ1).bind fun σ3 => (x_X7_dealIt σ3).bind fun o => un2 o fun σ4 v5 => some (σ4, v5) else some (σ1, (-v2)))
def rm_X7_deal : Room := { frames := 2, cells := 0, slots := 0, locals := 45 }
noncomputable def x_X7_set_j32 (σ_32 : Mm) (v1_32 : Int) (v2_32 : Int) (w0_32 : Int64) (w1_32 : Int64) (w2_32 : Int64) : Option (Mm × Int) :=
  (x_X7_bad σ_32 w2_32 w1_32 w0_32 (1 : Int)).bind fun o => un2 o fun σ2 v3 => (if zw v3 = 0 then (x_X7_keepPast_w σ2).bind fun σ4 => (if zw v1_32 = 0 then (if zin (1 : Int) 171 then bnd ((σ4 1 (zix (1 : Int)))) fun v6 => (if zin (1 : Int) 171 then bnd (zu σ4 1 (zix (1 : Int)) v2_32) fun σ7 => some (σ7, v6) else none) else none) else (if zin (2 : Int) 171 then bnd ((σ4 1 (zix (2 : Int)))) fun v10 => (if zin (2 : Int) 171 then bnd (zu σ4 1 (zix (2 : Int)) v2_32) fun σ11 => some (σ11, v10) else none) else none)) else some (σ2, (0 : Int)))
noncomputable def x_X7_set_j19 (σ_19 : Mm) (v1_19 : Int) (v2_19 : Int) (w0_19 : Int64) (w1_19 : Int64) : Option (Mm × Int) :=
  (if zw v1_19 = 0 then x_X7_set_j32 σ_19 v1_19 v2_19 (20 : Int64) w0_19 w1_19 else x_X7_set_j32 σ_19 v1_19 v2_19 (500 : Int64) w0_19 w1_19)
noncomputable def x_X7_set (σ : Mm) (p1 : Int) (p2 : Int) : Option (Mm × Int) :=
  bnd (zu σ 0 0 (0 : Int)) fun σ1 => (if zw p1 = 0 then x_X7_set_j19 σ1 p1 p2 (0 : Int64) (zi2l p2) else x_X7_set_j19 σ1 p1 p2 (20 : Int64) (zi2l p2))
def rm_X7_set : Room := { frames := 2, cells := 0, slots := 0, locals := 45 }
noncomputable def x_X7_undo (σ : Mm) : Option (Mm × Int) :=
  bnd (zu σ 0 0 (0 : Int)) fun σ1 => (if zw (σ1 0 3) ≠ 0 then bnd (zu σ1 0 3 ((σ1 0 3) - (1 : Int))) fun σ2 => (if zin (σ2 0 3) 10 then (if (3 : Int) ≤ (σ2 2 (zix (σ2 0 3))) ∧ (σ2 2 (zix (σ2 0 3))) < (13 : Int) then (if (3 : Int) ≤ (σ2 2 (zix (σ2 0 3))) ∧ (σ2 2 (zix (σ2 0 3))) < (13 : Int) then (x_X7_copy (zb [(Int.toNat (σ2 2 (zix (σ2 0 3)))), 1] σ2)).bind fun σ3 => bnd (zj [(Int.toNat (σ2 2 (zix (σ2 0 3)))), 1] σ2 σ3) fun σ4 => some (σ4, (σ4 0 3)) else none) else none) else none) else some (σ1, (-1 : Int)))
def rm_X7_undo : Room := { frames := 1, cells := 0, slots := 0, locals := 22 }
noncomputable def x_X7_keep (σ : Mm) (p1 : Int) : Option (Mm × Int) :=
  bnd (zu σ 0 0 (0 : Int)) fun σ1 => (x_X7_bad σ1 (zi2l p1) (0 : Int64) (1 : Int64) (1 : Int)).bind fun o => un2 o fun σ2 v3 => (if zw v3 = 0 then (if zin p1 2 then (if (14 : Int) ≤ (σ2 13 (zix p1)) ∧ (σ2 13 (zix p1)) < (16 : Int) then (if (14 : Int) ≤ (σ2 13 (zix p1)) ∧ (σ2 13 (zix p1)) < (16 : Int) then (x_X7_copy (zb [1, (Int.toNat (σ2 13 (zix p1)))] σ2)).bind fun σ4 => bnd (zj [1, (Int.toNat (σ2 13 (zix p1)))] σ2 σ4) fun σ5 => (if zin p1 2 then bnd (zu σ5 16 (zix p1) (zand (1 : Int) 1)) fun σ6 => (if zin (3 : Int) 171 then some (σ6, (σ6 1 (zix (3 : Int)))) else none) else none) else none) else none) else none) else some (σ2, (0 : Int)))
def rm_X7_keep : Room := { frames := 1, cells := 0, slots := 0, locals := 27 }
noncomputable def x_X7_restore (σ : Mm) (p1 : Int) : Option (Mm × Int) :=
  bnd (zu σ 0 0 (0 : Int)) fun σ1 => (x_X7_bad σ1 (zi2l p1) (0 : Int64) (1 : Int64) (1 : Int)).bind fun o => un2 o fun σ2 v3 => (if zw v3 = 0 then (if zin p1 2 then (if zw (σ2 16 (zix p1)) ≠ 0 then (if zin p1 2 then (if (14 : Int) ≤ (σ2 13 (zix p1)) ∧ (σ2 13 (zix p1)) < (16 : Int) then (if (14 : Int) ≤ (σ2 13 (zix p1)) ∧ (σ2 13 (zix p1)) < (16 : Int) then (x_X7_copy (zb [(Int.toNat (σ2 13 (zix p1))), 1] σ2)).bind fun σ5 => bnd (zj [(Int.toNat (σ2 13 (zix p1))), 1] σ2 σ5) fun σ6 => bnd (zu σ6 0 3 (0 : Int)) fun σ7 => (if zin (3 : Int) 171 then some (σ7, (σ7 1 (zix (3 : Int)))) else none) else none) else none) else none) else bnd (zu σ2 0 0 (2 : Int)) fun σ11 => some (σ11, (0 : Int))) else none) else some (σ2, (0 : Int)))
def rm_X7_restore : Room := { frames := 1, cells := 0, slots := 0, locals := 27 }
noncomputable def x_X7_letterAt (σ : Mm) (p1 : Int) : Option (Int) :=
  (if zw (σ 0 8) ≤ zw p1 then some (0 : Int) else (if zin p1 500 then (if zw (σ 18 (zix p1)) < zw (97 : Int) then some (0 : Int) else (if zin p1 500 then (if zw (122 : Int) < zw (σ 18 (zix p1)) then some (0 : Int) else some (1 : Int)) else none)) else none))
def rm_X7_letterAt : Room := { frames := 0, cells := 0, slots := 0, locals := 0 }
noncomputable def x_X7_digitAt (σ : Mm) (p1 : Int) : Option (Int) :=
  (if zw (σ 0 8) ≤ zw p1 then some (0 : Int) else (if zin p1 500 then (if zw (σ 18 (zix p1)) < zw (48 : Int) then some (0 : Int) else (if zin p1 500 then (if zw (57 : Int) < zw (σ 18 (zix p1)) then some (0 : Int) else some (1 : Int)) else none)) else none))
def rm_X7_digitAt : Room := { frames := 0, cells := 0, slots := 0, locals := 0 }
noncomputable def x_X7_scan_b0 (σ0 : Mm) : Option (Mm ⊕ Mm) :=
  (if zw (σ0 0 8) ≤ zw (σ0 0 27) then some (.inr σ0) else (if zin (σ0 0 27) 500 then (if zw (σ0 18 (zix (σ0 0 27))) = zw (32 : Int) then bnd (zu σ0 0 27 ((σ0 0 27) + (1 : Int))) fun σ2 => some (.inl σ2) else (if zin (σ0 0 27) 500 then (if zw (σ0 18 (zix (σ0 0 27))) ≠ zw (10 : Int) then some (.inr σ0) else bnd (zu σ0 0 27 ((σ0 0 27) + (1 : Int))) fun σ4 => some (.inl σ4)) else none)) else none))
noncomputable def x_X7_scan_b138 (σ138 : Mm) : Option (Mm ⊕ Mm) :=
  (x_X7_digitAt σ138 (σ138 0 27)).bind fun v21 => (if zw v21 = 0 then some (.inr σ138) else (if zw (9 : Int) ≤ zw ((σ138 0 27) - (σ138 0 28)) then bnd (zu σ138 0 30 (σ138 0 30)) fun σ22 => bnd (zu σ22 0 27 ((σ22 0 27) + (1 : Int))) fun σ23 => some (.inl σ23) else (if zin (σ138 0 27) 500 then bnd (zu σ138 0 30 ((((10 : Int) * (σ138 0 30)) + (σ138 18 (zix (σ138 0 27)))) - (48 : Int))) fun σ25 => bnd (zu σ25 0 27 ((σ25 0 27) + (1 : Int))) fun σ26 => some (.inl σ26) else none)))
noncomputable def x_X7_scan_b90 (σ90 : Mm) : Option (Mm ⊕ Mm) :=
  (x_X7_letterAt σ90 (σ90 0 27)).bind fun v36 => (if zw v36 = 0 then some (.inr σ90) else bnd (zu σ90 0 27 ((σ90 0 27) + (1 : Int))) fun σ37 => some (.inl σ37))
noncomputable def x_X7_scan_j52 (σ_52 : Mm) : Option (Mm) :=
  bnd (zu σ_52 0 28 (σ_52 0 27)) fun σ11 => (if zw (σ11 0 27) ≠ zw (σ11 0 8) then (x_X7_letterAt σ11 (σ11 0 27)).bind fun v12 => (if zw v12 = 0 then (x_X7_digitAt σ11 (σ11 0 27)).bind fun v13 => (if zw v13 = 0 then (if zin (σ11 0 27) 500 then (if zw (σ11 18 (zix (σ11 0 27))) ≠ zw (59 : Int) then bnd (zu σ11 0 29 (4 : Int)) fun σ15 => bnd (zu σ15 0 27 ((σ15 0 27) + (1 : Int))) fun σ16 => some σ16 else bnd (zu σ11 0 29 (1 : Int)) fun σ17 => bnd (zu σ17 0 27 ((σ17 0 27) + (1 : Int))) fun σ18 => some σ18) else none) else bnd (zu σ11 0 30 (0 : Int)) fun σ20 => (lup (fun (s29 : Mm) => x_X7_scan_b138 s29) σ20).bind fun σ31 => (if zw ((σ31 0 27) - (σ31 0 28)) ≤ zw (9 : Int) then bnd (zu σ31 0 29 (2 : Int)) fun σ32 => some σ32 else bnd (zu σ31 0 29 (4 : Int)) fun σ33 => some σ33)) else (lup (fun (s39 : Mm) => x_X7_scan_b90 s39) σ11).bind fun σ41 => bnd (zu σ41 0 29 (3 : Int)) fun σ42 => some σ42) else bnd (zu σ11 0 29 (0 : Int)) fun σ44 => some σ44)
noncomputable def x_X7_scan (σ : Mm) : Option (Mm) :=
  (lup (fun (s8 : Mm) => x_X7_scan_b0 s8) σ).bind fun σ10 => x_X7_scan_j52 σ10
def rm_X7_scan : Room := { frames := 1, cells := 0, slots := 0, locals := 21 }
noncomputable def x_X7_isWord_b39 (σ : Mm) (v1_36 : Nat) (u2_39 : Int) (u3_39 : Int) : Option ((Int × Int) ⊕ Int) :=
  (if zw u2_39 = 0 then some (.inr u2_39) else (x_zlen v1_36).bind fun v1 => (if zw v1 ≤ zw u3_39 then some (.inr u2_39) else (if zin ((σ 0 28) + u3_39) 500 then (x_zchr v1_36 u3_39).bind fun v3 => (if zw (σ 18 (zix ((σ 0 28) + u3_39))) ≠ zw v3 then bnd (u3_39 + 1) fun v4 => some (.inl ((0 : Int), v4)) else bnd (u3_39 + 1) fun v5 => some (.inl ((1 : Int), v5))) else none)))
noncomputable def x_X7_isWord_j36 (σ : Mm) (v1_36 : Nat) (w0_36 : Int) : Option (Int) :=
  (lup (fun (s9 : Int × Int) => x_X7_isWord_b39 σ v1_36 s9.1 s9.2) (w0_36, (0 : Int))).bind fun v11 => (if zw v11 = 0 ∨ zw v11 = 1 then some v11 else none)
noncomputable def x_X7_isWord_j35 (σ : Mm) (v1_35 : Nat) : Option (Int) :=
  x_X7_isWord_j36 σ v1_35 (0 : Int)
noncomputable def x_X7_isWord (σ : Mm) (p1 : Nat) : Option (Int) :=
  (if zw (σ 0 31) ≠ 0 then x_X7_isWord_j35 σ p1 else (if zw (σ 0 29) ≠ zw (3 : Int) then x_X7_isWord_j35 σ p1 else (x_zlen p1).bind fun v12 => (if zw ((σ 0 27) - (σ 0 28)) ≠ zw v12 then x_X7_isWord_j35 σ p1 else x_X7_isWord_j36 σ p1 (1 : Int))))
def rm_X7_isWord : Room := { frames := 4, cells := 0, slots := 0, locals := 85 }
noncomputable def x_X7_wrong (σ : Mm) (p1 : Int) : Option (Mm) :=
  (if zw (σ 0 31) ≠ 0 then some σ else bnd (zu σ 0 31 (((8 : Int) * (σ 0 28)) + p1)) fun σ1 => some σ1)
def rm_X7_wrong : Room := { frames := 0, cells := 0, slots := 0, locals := 0 }
noncomputable def x_X7_goOn (σ : Mm) : Option (Mm) :=
  (if zw (σ 0 31) ≠ 0 then some σ else (x_X7_scan σ).bind fun σ1 => some σ1)
def rm_X7_goOn : Room := { frames := 2, cells := 0, slots := 0, locals := 41 }
noncomputable def x_X7_bounds_j23 (σ_23 : Mm) (v1_23 : Int) (v2_23 : Int) : Option (Mm) :=
  (if zw (σ_23 0 31) ≠ 0 then some σ_23 else (if zw (σ_23 0 30) < zw v1_23 then (x_X7_wrong σ_23 (2 : Int)).bind fun σ1 => some σ1 else (if zw (σ_23 0 30) ≤ zw v2_23 then some σ_23 else (x_X7_wrong σ_23 (2 : Int)).bind fun σ2 => some σ2)))
noncomputable def x_X7_bounds (σ : Mm) (p1 : Int) (p2 : Int) : Option (Mm) :=
  (if zw (σ 0 31) ≠ 0 then x_X7_bounds_j23 σ p1 p2 else (if zw (σ 0 29) = zw (2 : Int) then x_X7_bounds_j23 σ p1 p2 else (x_X7_wrong σ (1 : Int)).bind fun σ6 => some σ6))
def rm_X7_bounds : Room := { frames := 1, cells := 0, slots := 0, locals := 21 }
noncomputable def x_X7_readNumber (σ : Mm) (p1 : Int) (p2 : Int) : Option (Mm × Int) :=
  (x_X7_bounds σ p1 p2).bind fun σ1 => bnd ((σ1 0 30)) fun v2 => (x_X7_goOn σ1).bind fun σ3 => (if zw (σ3 0 31) ≠ 0 then some (σ3, (0 : Int)) else some (σ3, v2))
def rm_X7_readNumber : Room := { frames := 3, cells := 0, slots := 0, locals := 61 }
noncomputable def x_X7_ends_j20 (σ_20 : Mm) (v1_20 : Int) : Option (Mm × Int) :=
  (if zw (σ_20 0 31) ≠ 0 then (if zw (σ_20 0 31) ≠ 0 then some (σ_20, (0 : Int)) else some (σ_20, (1 : Int))) else (if zw v1_20 = 0 then (if zw (σ_20 0 31) ≠ 0 then some (σ_20, (0 : Int)) else some (σ_20, (1 : Int))) else (x_X7_wrong σ_20 (4 : Int)).bind fun σ3 => (if zw (σ3 0 31) ≠ 0 then some (σ3, (0 : Int)) else some (σ3, (1 : Int)))))
noncomputable def x_X7_ends (σ : Mm) (p1 : Int) : Option (Mm × Int) :=
  (if zw (σ 0 31) ≠ 0 then x_X7_ends_j20 σ p1 else (if zw (σ 0 29) = zw (1 : Int) then x_X7_ends_j20 σ p1 else (x_X7_wrong σ (1 : Int)).bind fun σ7 => x_X7_ends_j20 σ7 p1))
def rm_X7_ends : Room := { frames := 1, cells := 0, slots := 0, locals := 21 }
noncomputable def x_X7_readDeck_b31 (σ31 : Mm) (u1_31 : Int) : Option ((Mm × Int) ⊕ Mm) :=
  (if zw (σ31 0 26) ≤ zw u1_31 then some (.inr σ31) else (if zw (σ31 0 31) ≠ 0 then some (.inr σ31) else (if zin u1_31 52 then (if zw (σ31 25 (zix u1_31)) ≠ zw (σ31 0 30) then bnd (u1_31 + 1) fun v3 => some (.inl (σ31, v3)) else (x_X7_wrong σ31 (3 : Int)).bind fun σ4 => bnd (u1_31 + 1) fun v5 => some (.inl (σ4, v5))) else none)))
noncomputable def x_X7_readDeck_j70_0 (σ_70 : Mm) : Option (Mm ⊕ Mm) :=
  (if zw (σ_70 0 31) ≠ 0 then (x_X7_goOn σ_70).bind fun σ12 => some (.inl σ12) else (if zin (σ_70 0 26) 52 then bnd (zu σ_70 25 (zix (σ_70 0 26)) (σ_70 0 30)) fun σ13 => bnd (zu σ13 0 26 ((σ13 0 26) + (1 : Int))) fun σ15 => (x_X7_goOn σ15).bind fun σ16 => some (.inl σ16) else none))
noncomputable def x_X7_readDeck_j22_0 (σ_22 : Mm) : Option (Mm ⊕ Mm) :=
  (x_X7_bounds σ_22 (0 : Int) (51 : Int)).bind fun σ1 => (lup (fun (s9 : Mm × Int) => x_X7_readDeck_b31 s9.1 s9.2) (σ1, (0 : Int))).bind fun σ11 => x_X7_readDeck_j70_0 σ11
noncomputable def x_X7_readDeck_b0 (σ0 : Mm) : Option (Mm ⊕ Mm) :=
  (if zw (σ0 0 31) ≠ 0 then some (.inr σ0) else (if zw (σ0 0 26) = 0 then x_X7_readDeck_j22_0 σ0 else (if zw (σ0 0 29) ≠ zw (2 : Int) then some (.inr σ0) else x_X7_readDeck_j22_0 σ0)))
noncomputable def x_X7_readDeck (σ : Mm) : Option (Mm) :=
  (lup (fun (s21 : Mm) => x_X7_readDeck_b0 s21) σ).bind fun σ23 => (if zw (σ23 0 31) ≠ 0 then (x_X7_goOn σ23).bind fun σ24 => some σ24 else (if zw (σ23 0 29) = zw (1 : Int) then (x_X7_goOn σ23).bind fun σ25 => some σ25 else (x_X7_wrong σ23 (1 : Int)).bind fun σ26 => (x_X7_goOn σ26).bind fun σ27 => some σ27))
def rm_X7_readDeck : Room := { frames := 3, cells := 0, slots := 0, locals := 61 }
noncomputable def x_X7_cardHere (σ : Mm) : Option (Mm × Int) :=
  (x_X7_bounds σ (0 : Int) (51 : Int)).bind fun σ1 => (if zw (σ1 0 31) ≠ 0 then bnd ((σ1 0 30)) fun v2 => (x_X7_goOn σ1).bind fun σ3 => (if zw (σ3 0 31) ≠ 0 then some (σ3, (0 : Int)) else some (σ3, v2)) else (if zin (4 : Int) 171 then (x_X7_owns σ1 (σ1 1 (zix (4 : Int))) (σ1 0 30)).bind fun v6 => (if zw v6 ≠ 0 then bnd ((σ1 0 30)) fun v7 => (x_X7_goOn σ1).bind fun σ8 => (if zw (σ8 0 31) ≠ 0 then some (σ8, (0 : Int)) else some (σ8, v7)) else (x_X7_wrong σ1 (3 : Int)).bind fun σ10 => bnd ((σ10 0 30)) fun v11 => (x_X7_goOn σ10).bind fun σ12 => (if zw (σ12 0 31) ≠ 0 then some (σ12, (0 : Int)) else some (σ12, v11))) else none))
def rm_X7_cardHere : Room := { frames := 3, cells := 0, slots := 0, locals := 61 }
noncomputable def x_X7_move (σ : Mm) : Option (Mm) :=
  (x_X7_isWord σ 4).bind fun v1 => (if zw v1 ≠ 0 then (x_X7_scan σ).bind fun σ2 => (x_X7_noDraw σ2).bind fun v3 => (x_X7_ends σ2 v3).bind fun o => un2 o fun σ4 v5 => (if zw v5 = 0 then some σ4 else (x_X7_drawIt σ4 v1).bind fun o => un2 o fun σ6 v7 => some σ6) else (x_X7_isWord σ 3).bind fun v9 => (if zw v9 = 0 then (x_X7_isWord σ 5).bind fun v10 => (if zw v10 = 0 then (x_X7_isWord σ 6).bind fun v11 => (if zw v11 = 0 then (x_X7_isWord σ 7).bind fun v12 => (if zw v12 = 0 then (x_X7_wrong σ (1 : Int)).bind fun σ13 => some σ13 else (x_X7_scan σ).bind fun σ14 => (x_X7_noDeal σ14).bind fun v15 => (x_X7_ends σ14 v15).bind fun o => un2 o fun σ16 v17 => (if zw v17 = 0 then some σ16 else (x_X7_dealIt σ16).bind fun o => un2 o fun σ18 v19 => some σ18)) else (x_X7_scan σ).bind fun σ22 => (x_X7_cardHere σ22).bind fun o => un2 o fun σ23 v24 => (if zw (σ23 0 31) ≠ 0 then (x_X7_ends σ23 (0 : Int)).bind fun o => un2 o fun σ25 v26 => (if zw v26 = 0 then some σ25 else (x_X7_knockIt σ25 v24).bind fun o => un2 o fun σ27 v28 => some σ27) else (x_X7_noKnock σ23 v24).bind fun o => un2 o fun σ30 v31 => (x_X7_ends σ30 v31).bind fun o => un2 o fun σ32 v33 => (if zw v33 = 0 then some σ32 else (x_X7_knockIt σ32 v24).bind fun o => un2 o fun σ34 v35 => some σ34))) else (x_X7_scan σ).bind fun σ39 => (x_X7_cardHere σ39).bind fun o => un2 o fun σ40 v41 => (x_X7_noTurn σ40 v41).bind fun v42 => (x_X7_ends σ40 v42).bind fun o => un2 o fun σ43 v44 => (if zw v44 = 0 then some σ43 else (x_X7_dropIt σ43 v41).bind fun o => un2 o fun σ45 v46 => some σ45)) else (x_X7_scan σ).bind fun σ49 => (x_X7_noDraw σ49).bind fun v50 => (x_X7_ends σ49 v50).bind fun o => un2 o fun σ51 v52 => (if zw v52 = 0 then some σ51 else (x_X7_drawIt σ51 v1).bind fun o => un2 o fun σ53 v54 => some σ53)))
def rm_X7_move : Room := { frames := 9, cells := 0, slots := 0, locals := 213 }
noncomputable def x_X7_load_b139 (v5_139 : Int) (σ139 : Mm) : Option (Mm ⊕ Mm) :=
  (if zw (σ139 0 31) ≠ 0 then some (.inr σ139) else (if zw (σ139 0 29) = 0 then some (.inr σ139) else (x_X7_move σ139).bind fun σ22 => (x_X7_goOn σ22).bind fun σ23 => some (.inl σ23)))
noncomputable def x_X7_load_j164 (σ_164 : Mm) (v5_164 : Int) : Option (Mm × Int) :=
  bnd (zu σ_164 0 8 (0 : Int)) fun σ29 => (if zw (σ29 0 31) = 0 then (x_X7_keepPast_b σ29).bind fun σ30 => (if zw v5_164 = 0 then some (σ30, (-1 : Int)) else (if zin (0 : Int) 171 then some (σ30, (σ30 1 (zix (0 : Int)))) else none)) else (x_X7_copy (zb zl_69 σ29)).bind fun σ33 => bnd (zj zl_69 σ29 σ33) fun σ34 => some (σ34, ((-30 : Int) - (σ34 0 31))))
noncomputable def x_X7_load_j139 (σ_139 : Mm) (v5_139 : Int) : Option (Mm × Int) :=
  (lup (fun (s26 : Mm) => x_X7_load_b139 v5_139 s26) σ_139).bind fun σ28 => x_X7_load_j164 σ28 v5_139
noncomputable def x_X7_load_j123 (σ_123 : Mm) (v1_123 : Int) (v2_123 : Int) (v3_123 : Int) (v4_123 : Int) (v5_123 : Int) : Option (Mm × Int) :=
  (if zw (σ_123 0 31) ≠ 0 then x_X7_load_j139 σ_123 v5_123 else (x_X7_begin σ_123 v1_123 v2_123 v3_123 v4_123).bind fun σ36 => x_X7_load_j139 σ36 v5_123)
noncomputable def x_X7_load_j52 (σ_52 : Mm) : Option (Mm × Int) :=
  (x_X7_readNumber σ_52 (0 : Int) (999999999 : Int)).bind fun o => un2 o fun σ9 v10 => (x_X7_readNumber σ9 (7 : Int) (10 : Int)).bind fun o => un2 o fun σ11 v12 => (x_X7_readNumber σ11 (0 : Int) (20 : Int)).bind fun o => un2 o fun σ13 v14 => (x_X7_readNumber σ13 (20 : Int) (500 : Int)).bind fun o => un2 o fun σ15 v16 => (x_X7_ends σ15 (0 : Int)).bind fun o => un2 o fun σ17 v18 => (x_X7_goOn σ17).bind fun σ19 => bnd (zu σ19 0 26 (0 : Int)) fun σ20 => (x_X7_isWord σ20 2).bind fun v21 => (if zw v21 = 0 then x_X7_load_j123 σ20 v10 v12 v14 v16 v18 else (x_X7_scan σ20).bind fun σ38 => (x_X7_readDeck σ38).bind fun σ39 => x_X7_load_j123 σ39 v10 v12 v14 v16 v18)
noncomputable def x_X7_load (σ : Mm) : Option (Mm × Int) :=
  bnd (zu σ 0 0 (0 : Int)) fun σ1 => (x_X7_copy (zb zl_68 σ1)).bind fun σ2 => bnd (zj zl_68 σ1 σ2) fun σ3 => bnd (zu σ3 0 27 (0 : Int)) fun σ4 => bnd (zu σ4 0 31 (0 : Int)) fun σ5 => (x_X7_scan σ5).bind fun σ6 => (x_X7_isWord σ6 1).bind fun v7 => (if zw v7 = 0 then (x_X7_wrong σ6 (1 : Int)).bind fun σ8 => x_X7_load_j52 σ8 else (x_X7_scan σ6).bind fun σ41 => x_X7_load_j52 σ41)
def rm_X7_load : Room := { frames := 10, cells := 0, slots := 0, locals := 236 }
noncomputable def x_X7_type_b3 (p1 : Int) (σ3 : Mm) (u2_3 : Int) : Option ((Mm × Int) ⊕ Mm) :=
  (if zw u2_3 < 0 then some (.inr σ3) else (if zin (σ3 0 8) 500 then bnd (zu σ3 18 (zix (σ3 0 8)) (zand (zushr p1 u2_3) (255 : Int))) fun σ1 => bnd (zu σ1 0 8 ((σ1 0 8) + (1 : Int))) fun σ3 => bnd (u2_3 + (-8 : Int)) fun v4 => some (.inl (σ3, v4)) else none))
noncomputable def x_X7_type (σ : Mm) (p1 : Int) : Option (Mm) :=
  (lup (fun (s6 : Mm × Int) => x_X7_type_b3 p1 s6.1 s6.2) (σ, (24 : Int))).bind fun σ8 => some σ8
def rm_X7_type : Room := { frames := 0, cells := 0, slots := 0, locals := 0 }
noncomputable def x_X7_append (σ : Mm) (p1 : Int) (p2 : Int) (p3 : Int) (p4 : Int) (p5 : Int) : Option (Mm × Int) :=
  bnd (zu σ 0 0 (0 : Int)) fun σ1 => (if zw ((σ1 0 8) + (20 : Int)) ≤ zw (500 : Int) then (x_X7_type σ1 p1).bind fun σ2 => (x_X7_type σ2 p2).bind fun σ3 => (x_X7_type σ3 p3).bind fun σ4 => (x_X7_type σ4 p4).bind fun σ5 => (x_X7_type σ5 p5).bind fun σ6 => some (σ6, (σ6 0 8)) else some (σ1, (-20 : Int)))
def rm_X7_append : Room := { frames := 1, cells := 0, slots := 0, locals := 22 }
noncomputable def x_X7_truncate (σ : Mm) (p1 : Int) : Option (Mm × Int) :=
  bnd (zu σ 0 0 (0 : Int)) fun σ1 => (x_X7_bad σ1 (zi2l p1) (0 : Int64) (zi2l (σ1 0 8)) (1 : Int)).bind fun o => un2 o fun σ2 v3 => (if zw v3 = 0 then bnd (zu σ2 0 8 p1) fun σ4 => some (σ4, (σ4 0 8)) else some (σ2, (0 : Int)))
def rm_X7_truncate : Room := { frames := 1, cells := 0, slots := 0, locals := 27 }
noncomputable def x_X7_match (σ : Mm) (p1 : Int) : Option (Mm × Int) :=
  bnd (zu σ 0 0 (0 : Int)) fun σ1 => (x_X7_bad σ1 (zi2l p1) (0 : Int64) (16 : Int64) (1 : Int)).bind fun o => un2 o fun σ2 v3 => (if zw v3 = 0 then (if zw p1 = 7 then (x_X7_isMatchOver σ2).bind fun v4 => (if zw v4 = 0 then some (σ2, (0 : Int)) else some (σ2, (1 : Int))) else (if zw p1 = 8 then (x_X7_stocked σ2).bind fun v6 => some (σ2, v6) else (if zw p1 = 9 then (if zin (14 : Int) 171 then some (σ2, (σ2 1 (zix (14 : Int)))) else none) else (if zw p1 = 10 then (x_X7_topOfPile σ2).bind fun v8 => some (σ2, v8) else (if zw p1 = 11 then (if zin (8 : Int) 171 then some (σ2, (σ2 1 (zix (8 : Int)))) else none) else (if zw p1 = 12 then (if zin (9 : Int) 171 then some (σ2, (σ2 1 (zix (9 : Int)))) else none) else (if zw p1 = 13 then (if zin (10 : Int) 171 then some (σ2, (σ2 1 (zix (10 : Int)))) else none) else (if zw p1 = 14 then (if zin (11 : Int) 171 then some (σ2, (σ2 1 (zix (11 : Int)))) else none) else (if zw p1 = 15 then some (σ2, (σ2 0 3)) else (if zw p1 = 16 then some (σ2, (σ2 0 8)) else (if zin p1 171 then some (σ2, (σ2 1 (zix p1))) else none))))))))))) else some (σ2, (0 : Int)))
def rm_X7_match : Room := { frames := 1, cells := 0, slots := 0, locals := 27 }
noncomputable def x_X7_number (σ : Mm) : Option (Mm × Int64) :=
  bnd (zu σ 0 0 (0 : Int)) fun σ1 => (if zin (12 : Int) 171 then some (σ1, (zi2l (σ1 1 (zix (12 : Int))))) else none)
def rm_X7_number : Room := { frames := 0, cells := 0, slots := 0, locals := 0 }
noncomputable def x_X7_isWrapped (σ : Mm) (p1 : Int64) : Option (Int) :=
  (x_X7_firstOf p1).bind fun v1 => bnd ((zrem v1 (13 : Int))) fun v2 => (x_X7_isSetOf p1).bind fun v3 => (if zw v3 ≠ 0 then some (0 : Int) else (x_X7_ones p1).bind fun v4 => (if zw (v2 + v4) ≤ zw (13 : Int) then some (0 : Int) else some (1 : Int)))
def rm_X7_isWrapped : Room := { frames := 2, cells := 0, slots := 0, locals := 47 }
noncomputable def x_X7_countMelds_b4 (σ : Mm) (p1 : Int) (u2_4 : Int) (u3_4 : Int) : Option ((Int × Int) ⊕ Int) :=
  (if zw (σ 0 17) ≤ zw u3_4 then some (.inr u2_4) else (if zw p1 ≠ zw (4 : Int) then (if zw p1 ≠ zw (5 : Int) then (if zin u3_4 11 then (x_X7_isWrapped σ (zL (σ 23 (zix u3_4)))).bind fun v2 => (if zw v2 = 0 then bnd ((u2_4 + (0 : Int))) fun v3 => bnd (u3_4 + 1) fun v4 => some (.inl (v3, v4)) else bnd ((u2_4 + (1 : Int))) fun v5 => bnd (u3_4 + 1) fun v6 => some (.inl (v5, v6))) else none) else (if zin u3_4 11 then (x_X7_isSetOf (zL (σ 23 (zix u3_4)))).bind fun v9 => (if zw v9 ≠ 0 then (if zw (0 : Int) = 0 then bnd ((u2_4 + (0 : Int))) fun v10 => bnd (u3_4 + 1) fun v11 => some (.inl (v10, v11)) else bnd ((u2_4 + (1 : Int))) fun v12 => bnd (u3_4 + 1) fun v13 => some (.inl (v12, v13))) else (if zw (1 : Int) = 0 then bnd ((u2_4 + (0 : Int))) fun v15 => bnd (u3_4 + 1) fun v16 => some (.inl (v15, v16)) else bnd ((u2_4 + (1 : Int))) fun v17 => bnd (u3_4 + 1) fun v18 => some (.inl (v17, v18)))) else none)) else (if zin u3_4 11 then (x_X7_isSetOf (zL (σ 23 (zix u3_4)))).bind fun v23 => (if zw v23 = 0 then bnd ((u2_4 + (0 : Int))) fun v24 => bnd (u3_4 + 1) fun v25 => some (.inl (v24, v25)) else bnd ((u2_4 + (1 : Int))) fun v26 => bnd (u3_4 + 1) fun v27 => some (.inl (v26, v27))) else none)))
noncomputable def x_X7_countMelds (σ : Mm) (p1 : Int) : Option (Int) :=
  (lup (fun (s31 : Int × Int) => x_X7_countMelds_b4 σ p1 s31.1 s31.2) ((0 : Int), (0 : Int))).bind fun v33 => some v33
def rm_X7_countMelds : Room := { frames := 3, cells := 0, slots := 0, locals := 70 }
noncomputable def x_X7_player (σ : Mm) (p1 : Int) (p2 : Int) : Option (Mm × Int) :=
  bnd (zu σ 0 0 (0 : Int)) fun σ1 => (x_X7_noPlayer σ1 p1).bind fun o => un2 o fun σ2 v3 => (if zw v3 ≠ 0 then some (σ2, (0 : Int)) else (x_X7_bad σ2 (zi2l p2) (0 : Int64) (7 : Int64) (1 : Int)).bind fun o => un2 o fun σ4 v5 => (if zw v5 = 0 then (x_X7_layOutOf σ4 p1).bind fun σ6 => (if zw p2 = 0 then some (σ6, (σ6 0 12)) else (if zw p2 = 1 then some (σ6, (σ6 0 19)) else (if zw p2 = 2 then some (σ6, (σ6 0 17)) else (if zw p2 = 3 then (x_X7_ones (zL (σ6 0 18))).bind fun v7 => some (σ6, v7) else (if zw p2 = 4 then (x_X7_countMelds σ6 p2).bind fun v8 => some (σ6, v8) else (if zw p2 = 5 then (x_X7_countMelds σ6 p2).bind fun v9 => some (σ6, v9) else (if zw p2 = 6 then (x_X7_cardsOf σ6 ((zshl (1 : Int) (σ6 0 12)) - (1 : Int))).bind fun v10 => (x_X7_pointsOf v10).bind fun v11 => some (σ6, v11) else (x_X7_countMelds σ6 p2).bind fun v12 => some (σ6, v12)))))))) else some (σ4, (0 : Int))))
def rm_X7_player : Room := { frames := 7, cells := 0, slots := 0, locals := 168 }
noncomputable def x_X7_card (σ : Mm) (p1 : Int) (p2 : Int) : Option (Mm × Int) :=
  bnd (zu σ 0 0 (0 : Int)) fun σ1 => (x_X7_noPlayer σ1 p1).bind fun o => un2 o fun σ2 v3 => (if zw v3 = 0 then (x_X7_takeHand σ2 p1 (-1 : Int) (-1 : Int)).bind fun σ4 => (if zw p2 < 0 then some (σ4, (-1 : Int)) else (if zw p2 < zw (σ4 0 12) then (if zin p2 11 then some (σ4, (σ4 20 (zix p2))) else none) else some (σ4, (-1 : Int)))) else some (σ2, (0 : Int)))
def rm_X7_card : Room := { frames := 2, cells := 0, slots := 0, locals := 48 }
noncomputable def x_X7_where (σ : Mm) (p1 : Int) : Option (Mm × Int) :=
  bnd (zu σ 0 0 (0 : Int)) fun σ1 => (x_X7_bad σ1 (zi2l p1) (0 : Int64) (51 : Int64) (1 : Int)).bind fun o => un2 o fun σ2 v3 => (if zw v3 = 0 then (if zin ((119 : Int) + p1) 171 then some (σ2, (σ2 1 (zix ((119 : Int) + p1)))) else none) else some (σ2, (0 : Int)))
def rm_X7_where : Room := { frames := 1, cells := 0, slots := 0, locals := 27 }
noncomputable def x_X7_meldOf_b38 (σ5 : Mm) (p2 : Int) (u3_38 : Int) : Option (Int ⊕ ((Int) ⊕ (Unit))) :=
  (if zw (σ5 0 17) ≤ zw u3_38 then some (.inr (.inr ())) else (if zin u3_38 11 then (if zw (zcmp ((zlshr (zL (σ5 23 (zix u3_38))) p2) &&& (1 : Int64)) (1 : Int64)) ≠ 0 then bnd (u3_38 + 1) fun v7 => some (.inl v7) else some (.inr (.inl u3_38))) else none))
noncomputable def x_X7_meldOf (σ : Mm) (p1 : Int) (p2 : Int) : Option (Mm × Int) :=
  bnd (zu σ 0 0 (0 : Int)) fun σ1 => (x_X7_noPlayer σ1 p1).bind fun o => un2 o fun σ2 v3 => (if zw v3 = 0 then (x_X7_owns σ2 p1 p2).bind fun v4 => (if zw v4 ≠ 0 then (x_X7_layOutOf σ2 p1).bind fun σ5 => (lup (fun (s10 : Int) => x_X7_meldOf_b38 σ5 p2 s10) (0 : Int)).bind fun e11 => zel e11 (fun v12 => some (σ5, v12)) (fun _ => some (σ5, (-1 : Int))) else bnd (zu σ2 0 0 (2 : Int)) fun σ13 => some (σ13, (0 : Int))) else some (σ2, (0 : Int)))
def rm_X7_meldOf : Room := { frames := 7, cells := 0, slots := 0, locals := 168 }
noncomputable def x_X7_meld (σ : Mm) (p1 : Int) (p2 : Int) (p3 : Int) : Option (Mm × Int) :=
  bnd (zu σ 0 0 (0 : Int)) fun σ1 => (x_X7_noPlayer σ1 p1).bind fun o => un2 o fun σ2 v3 => (if zw v3 ≠ 0 then some (σ2, (0 : Int)) else (x_X7_bad σ2 (zi2l p3) (0 : Int64) (3 : Int64) (1 : Int)).bind fun o => un2 o fun σ4 v5 => (if zw v5 = 0 then (x_X7_layOutOf σ4 p1).bind fun σ6 => (if zw p2 < 0 then some (σ6, (-1 : Int)) else (if zw p2 < zw (σ6 0 17) then (if zin p2 11 then bnd ((zL (σ6 23 (zix p2)))) fun v8 => (if zw p3 = 0 then (x_X7_ones v8).bind fun v9 => some (σ6, v9) else (if zw p3 = 1 then (x_X7_isSetOf v8).bind fun v10 => (if zw v10 = 0 then some (σ6, (1 : Int)) else some (σ6, (0 : Int))) else (if zw p3 = 2 then (x_X7_isSetOf v8).bind fun v12 => (if zw v12 = 0 then (x_X7_firstOf v8).bind fun v13 => some (σ6, v13) else (x_X7_lowest v8).bind fun v14 => some (σ6, (zrem v14 (13 : Int)))) else (x_X7_pointsOf v8).bind fun v16 => some (σ6, v16)))) else none) else some (σ6, (-1 : Int)))) else some (σ4, (0 : Int))))
def rm_X7_meld : Room := { frames := 7, cells := 0, slots := 0, locals := 168 }
noncomputable def x_X7_restWithout (σ : Mm) (p1 : Int) : Option (Mm × Int) :=
  bnd (zu σ 0 0 (0 : Int)) fun σ1 => (x_X7_noCard σ1 p1).bind fun o => un2 o fun σ2 v3 => (if zw v3 = 0 then (x_X7_restWithoutCard σ2 p1).bind fun o => un2 o fun σ4 v5 => some (σ4, v5) else some (σ2, (0 : Int)))
def rm_X7_restWithout : Room := { frames := 6, cells := 0, slots := 0, locals := 144 }
noncomputable def x_X7_canDrop (σ : Mm) : Option (Int) :=
  (if zin (6 : Int) 171 then (if zw (σ 1 (zix (6 : Int))) ≠ 0 then some (0 : Int) else (if zin (5 : Int) 171 then (if zw (σ 1 (zix (5 : Int))) ≠ zw (1 : Int) then some (0 : Int) else some (1 : Int)) else none)) else none)
def rm_X7_canDrop : Room := { frames := 0, cells := 0, slots := 0, locals := 0 }
noncomputable def x_X7_leastBehind_b12 (σ1 : Mm) (p1 : Int) (u3_12 : Int) (u4_12 : Int) : Option ((Int × Int) ⊕ Int) :=
  (if zw (σ1 0 12) ≤ zw u4_12 then some (.inr u3_12) else (if zin (zand ((zshl (1 : Int) (σ1 0 12)) - (1 : Int)) (zxor (zshl (1 : Int) u4_12) (-1 : Int))) 2048 then bnd ((σ1 22 (zix (zand ((zshl (1 : Int) (σ1 0 12)) - (1 : Int)) (zxor (zshl (1 : Int) u4_12) (-1 : Int)))))) fun v4 => (if zin u4_12 11 then (if zw (σ1 20 (zix u4_12)) = zw p1 then bnd (u4_12 + 1) fun v6 => some (.inl (u3_12, v6)) else (if zw u3_12 ≤ zw v4 then bnd (u4_12 + 1) fun v7 => some (.inl (u3_12, v7)) else bnd (u4_12 + 1) fun v8 => some (.inl (v4, v8)))) else none) else none))
noncomputable def x_X7_leastBehind (σ : Mm) (p1 : Int) : Option (Mm × Int) :=
  (x_X7_findRests σ).bind fun o => un2 o fun σ1 v2 => (lup (fun (s12 : Int × Int) => x_X7_leastBehind_b12 σ1 p1 s12.1 s12.2) ((2147483647 : Int), (0 : Int))).bind fun v14 => some (σ1, v14)
def rm_X7_leastBehind : Room := { frames := 5, cells := 0, slots := 0, locals := 123 }
noncomputable def x_X7_bestDrop_j94_42 (σ6 : Mm) (v7 : Int) (v2_94 : Int) (v3_94 : Int) (w0_94 : Int) : Option ((Int × Int) ⊕ Int) :=
  (if zw w0_94 = 0 then bnd (v3_94 + 1) fun v10 => some (.inl (v2_94, v10)) else (if zw v2_94 = zw (-1 : Int) then (if zin v3_94 11 then bnd ((σ6 20 (zix v3_94))) fun v12 => bnd (v3_94 + 1) fun v13 => some (.inl (v12, v13)) else none) else (if zin v3_94 11 then (x_X7_points (σ6 20 (zix v3_94))).bind fun v15 => (x_X7_points v2_94).bind fun v16 => (if zw v15 ≤ zw v16 then bnd (v3_94 + 1) fun v17 => some (.inl (v2_94, v17)) else (if zin v3_94 11 then bnd ((σ6 20 (zix v3_94))) fun v19 => bnd (v3_94 + 1) fun v20 => some (.inl (v19, v20)) else none)) else none)))
noncomputable def x_X7_bestDrop_j93_42 (σ6 : Mm) (v7 : Int) (v2_93 : Int) (v3_93 : Int) : Option ((Int × Int) ⊕ Int) :=
  x_X7_bestDrop_j94_42 σ6 v7 v2_93 v3_93 (0 : Int)
noncomputable def x_X7_bestDrop_b42 (σ6 : Mm) (v7 : Int) (u2_42 : Int) (u3_42 : Int) : Option ((Int × Int) ⊕ Int) :=
  (if zw (σ6 0 12) ≤ zw u3_42 then some (.inr u2_42) else (if zin u3_42 11 then (if zin (7 : Int) 171 then (if zw (σ6 20 (zix u3_42)) = zw (σ6 1 (zix (7 : Int))) then x_X7_bestDrop_j93_42 σ6 v7 u2_42 u3_42 else (if zin (zand ((zshl (1 : Int) (σ6 0 12)) - (1 : Int)) (zxor (zshl (1 : Int) u3_42) (-1 : Int))) 2048 then (if zw (σ6 22 (zix (zand ((zshl (1 : Int) (σ6 0 12)) - (1 : Int)) (zxor (zshl (1 : Int) u3_42) (-1 : Int))))) ≠ zw v7 then x_X7_bestDrop_j93_42 σ6 v7 u2_42 u3_42 else x_X7_bestDrop_j94_42 σ6 v7 u2_42 u3_42 (1 : Int)) else none)) else none) else none))
noncomputable def x_X7_bestDrop (σ : Mm) : Option (Mm × Int) :=
  bnd (zu σ 0 0 (0 : Int)) fun σ1 => (x_X7_canDrop σ1).bind fun v2 => (if zw v2 ≠ 0 then (if zin (4 : Int) 171 then (x_X7_takeHand σ1 (σ1 1 (zix (4 : Int))) (-1 : Int) (-1 : Int)).bind fun σ4 => (if zin (7 : Int) 171 then (x_X7_leastBehind σ4 (σ4 1 (zix (7 : Int)))).bind fun o => un2 o fun σ6 v7 => (lup (fun (s28 : Int × Int) => x_X7_bestDrop_b42 σ6 v7 s28.1 s28.2) ((-1 : Int), (0 : Int))).bind fun v30 => some (σ6, v30) else none) else none) else some (σ1, (-1 : Int)))
def rm_X7_bestDrop : Room := { frames := 6, cells := 0, slots := 0, locals := 148 }
noncomputable def x_X7_restByPile (σ : Mm) : Option (Mm × Int) :=
  bnd (zu σ 0 0 (0 : Int)) fun σ1 => (x_X7_noDraw σ1).bind fun v2 => (if zw v2 ≠ 0 then some (σ1, (-1 : Int)) else (if zin (14 : Int) 171 then (if zw (σ1 1 (zix (14 : Int))) ≠ 0 then (if zin (4 : Int) 171 then (x_X7_topOfPile σ1).bind fun v5 => (x_X7_takeHand σ1 (σ1 1 (zix (4 : Int))) (-1 : Int) v5).bind fun σ6 => (x_X7_topOfPile σ6).bind fun v7 => (x_X7_leastBehind σ6 v7).bind fun o => un2 o fun σ8 v9 => some (σ8, v9) else none) else some (σ1, (-1 : Int))) else none))
def rm_X7_restByPile : Room := { frames := 6, cells := 0, slots := 0, locals := 148 }
noncomputable def x_X7_helping_b47 (p1 : Int) (v7 : Int) (σ47 : Mm) (u3_47 : Int) (u4_47 : Int) : Option ((Mm × Int × Int) ⊕ (Mm × Int)) :=
  (if zw (52 : Int) ≤ zw u4_47 then some (.inr (σ47, u3_47)) else (x_X7_owns σ47 p1 u4_47).bind fun v8 => (if zw v8 ≠ 0 then bnd (u4_47 + 1) fun v9 => some (.inl (σ47, u3_47, v9)) else (x_X7_takeHand σ47 p1 (-1 : Int) u4_47).bind fun σ10 => (x_X7_leastBehind σ10 u4_47).bind fun o => un2 o fun σ11 v12 => (if zw v7 ≤ zw v12 then bnd ((u3_47 + (0 : Int))) fun v13 => bnd (u4_47 + 1) fun v14 => some (.inl (σ11, v13, v14)) else bnd ((u3_47 + (1 : Int))) fun v15 => bnd (u4_47 + 1) fun v16 => some (.inl (σ11, v15, v16)))))
noncomputable def x_X7_helping (σ : Mm) (p1 : Int) : Option (Mm × Int) :=
  bnd (zu σ 0 0 (0 : Int)) fun σ1 => (x_X7_noPlayer σ1 p1).bind fun o => un2 o fun σ2 v3 => (if zw v3 = 0 then (x_X7_takeHand σ2 p1 (-1 : Int) (-1 : Int)).bind fun σ4 => (if zin (0 : Int) 171 then (if zw (σ4 0 12) ≤ zw (σ4 1 (zix (0 : Int))) then (x_X7_findRests σ4).bind fun o => un2 o fun σ6 v7 => (lup (fun (s20 : Mm × Int × Int) => x_X7_helping_b47 p1 v7 s20.1 s20.2.1 s20.2.2) (σ6, (0 : Int), (0 : Int))).bind fun e => un2 e fun σ22 v23 => some (σ22, v23) else some (σ4, (-1 : Int))) else none) else some (σ2, (0 : Int)))
def rm_X7_helping : Room := { frames := 6, cells := 0, slots := 0, locals := 148 }
noncomputable def x_X7_ifKnock (σ : Mm) (p1 : Int) (p2 : Int) : Option (Mm × Int) :=
  bnd (zu σ 0 0 (0 : Int)) fun σ1 => (x_X7_noCard σ1 p1).bind fun o => un2 o fun σ2 v3 => (if zw v3 ≠ 0 then some (σ2, (0 : Int)) else (x_X7_bad σ2 (zi2l p2) (0 : Int64) (3 : Int64) (2 : Int)).bind fun o => un2 o fun σ4 v5 => (if zw v5 = 0 then (if zw p2 ≠ 0 then (x_X7_canDrop σ4).bind fun v6 => (if zw v6 ≠ 0 then (x_X7_findKnock σ4 p1).bind fun σ7 => (if zw p2 ≠ zw (1 : Int) then (if zw p2 ≠ zw (2 : Int) then some (σ7, (σ7 0 24)) else some (σ7, (σ7 0 23))) else some (σ7, (σ7 0 22))) else some (σ4, (-1 : Int))) else (x_X7_noKnock σ4 p1).bind fun o => un2 o fun σ11 v12 => some (σ11, v12)) else some (σ4, (0 : Int))))
def rm_X7_ifKnock : Room := { frames := 8, cells := 0, slots := 0, locals := 190 }
noncomputable def x_X7_needed (σ : Mm) : Option (Mm × Int) :=
  bnd (zu σ 0 0 (0 : Int)) fun σ1 => (x_X7_canDrop σ1).bind fun v2 => (if zw v2 ≠ 0 then (if zin (4 : Int) 171 then (x_X7_takeHand σ1 (σ1 1 (zix (4 : Int))) (-1 : Int) (-1 : Int)).bind fun σ4 => (if zin (7 : Int) 171 then (x_X7_leastBehind σ4 (σ4 1 (zix (7 : Int)))).bind fun o => un2 o fun σ6 v7 => some (σ6, v7) else none) else none) else some (σ1, (-1 : Int)))
def rm_X7_needed : Room := { frames := 6, cells := 0, slots := 0, locals := 148 }
noncomputable def x_X7_kindOf_j78_54 (v5 : Int64) (v6_78 : Int) (v7_78 : Int) (w0_78 : Int) : Option ((Int × Int) ⊕ Int) :=
  (if zw (zcmp ((zlshr v5 (zrem ((v7_78 + (13 : Int)) - (1 : Int)) (13 : Int))) &&& (1 : Int64)) (1 : Int64)) ≠ 0 then (if zw w0_78 = 0 then bnd ((v6_78 + (0 : Int))) fun v6 => bnd (v7_78 + 1) fun v7 => some (.inl (v6, v7)) else (if zw (0 : Int) ≠ 0 then bnd ((v6_78 + (0 : Int))) fun v8 => bnd (v7_78 + 1) fun v9 => some (.inl (v8, v9)) else bnd ((v6_78 + (1 : Int))) fun v10 => bnd (v7_78 + 1) fun v11 => some (.inl (v10, v11)))) else (if zw w0_78 = 0 then bnd ((v6_78 + (0 : Int))) fun v14 => bnd (v7_78 + 1) fun v15 => some (.inl (v14, v15)) else (if zw (1 : Int) ≠ 0 then bnd ((v6_78 + (0 : Int))) fun v16 => bnd (v7_78 + 1) fun v17 => some (.inl (v16, v17)) else bnd ((v6_78 + (1 : Int))) fun v18 => bnd (v7_78 + 1) fun v19 => some (.inl (v18, v19)))))
noncomputable def x_X7_kindOf_b54 (v5 : Int64) (u6_54 : Int) (u7_54 : Int) : Option ((Int × Int) ⊕ Int) :=
  (if zw (13 : Int) ≤ zw u7_54 then some (.inr u6_54) else (if zw (zcmp ((zlshr v5 u7_54) &&& (1 : Int64)) (1 : Int64)) ≠ 0 then x_X7_kindOf_j78_54 v5 u6_54 u7_54 (0 : Int) else x_X7_kindOf_j78_54 v5 u6_54 u7_54 (1 : Int)))
noncomputable def x_X7_kindOf (p0 : Int64) : Option (Int) :=
  (x_X7_ones p0).bind fun v1 => (if zw (3 : Int) ≤ zw v1 then (x_X7_isSetOf p0).bind fun v2 => (if zw v2 = 0 then (x_X7_lowest p0).bind fun v3 => bnd (((zdiv v3 (13 : Int)) * (13 : Int))) fun v4 => bnd ((zlshr p0 v4)) fun v5 => (if zw (zcmp v5 (8192 : Int64)) < 0 then (lup (fun (s25 : Int × Int) => x_X7_kindOf_b54 v5 s25.1 s25.2) ((0 : Int), (0 : Int))).bind fun v27 => (if zw (1 : Int) < zw v27 then some (0 : Int) else some (2 : Int)) else some (0 : Int)) else some (1 : Int)) else some (0 : Int))
def rm_X7_kindOf : Room := { frames := 2, cells := 0, slots := 0, locals := 46 }
noncomputable def x_X7_kind (σ : Mm) (p1 : Int64) : Option (Mm × Int) :=
  bnd (zu σ 0 0 (0 : Int)) fun σ1 => (x_X7_bad σ1 p1 (0 : Int64) (4503599627370495 : Int64) (1 : Int)).bind fun o => un2 o fun σ2 v3 => (if zw v3 = 0 then (x_X7_kindOf p1).bind fun v4 => some (σ2, v4) else some (σ2, (0 : Int)))
def rm_X7_kind : Room := { frames := 3, cells := 0, slots := 0, locals := 75 }
noncomputable def x_X7_size (p0 : Int) : Option (Int) :=
  (if 0 ≤ zw p0 then some p0 else some (-p0))
def rm_X7_size : Room := { frames := 0, cells := 0, slots := 0, locals := 0 }
noncomputable def x_X7_wrongHand_b31 (σ1 : Mm) (u2_31 : Int) (u3_31 : Int) (u4_31 : Int) : Option ((Int × Int × Int) ⊕ (Int × Int)) :=
  (if zw (σ1 0 17) ≤ zw u4_31 then some (.inr (u2_31, u3_31)) else (if zin u4_31 11 then (x_X7_pointsOf (zL (σ1 23 (zix u4_31)))).bind fun v6 => bnd ((u2_31 + v6)) fun v7 => (if zin u4_31 11 then (x_X7_kindOf (zL (σ1 23 (zix u4_31)))).bind fun v9 => (if zw v9 ≠ 0 then bnd ((u3_31 + (0 : Int))) fun v10 => bnd (u4_31 + 1) fun v11 => some (.inl (v7, v10, v11)) else bnd ((u3_31 + (1 : Int))) fun v12 => bnd (u4_31 + 1) fun v13 => some (.inl (v7, v12, v13))) else none) else none))
noncomputable def x_X7_wrongHand (σ : Mm) (p1 : Int) : Option (Mm × Int) :=
  (x_X7_layOutOf σ p1).bind fun σ1 => (x_X7_cardsOf σ1 ((zshl (1 : Int) (σ1 0 12)) - (1 : Int))).bind fun v2 => (x_X7_pointsOf v2).bind fun v3 => bnd (((σ1 0 19) - v3)) fun v4 => (lup (fun (s16 : Int × Int × Int) => x_X7_wrongHand_b31 σ1 s16.1 s16.2.1 s16.2.2) (v4, (0 : Int), (0 : Int))).bind fun e => un2 e fun v18 v19 => (x_X7_size v18).bind fun v20 => some (σ1, (v20 + v19))
def rm_X7_wrongHand : Room := { frames := 7, cells := 0, slots := 0, locals := 168 }
noncomputable def x_X7_gap (σ : Mm) : Option (Mm × Int) :=
  bnd (zu σ 0 0 (0 : Int)) fun σ1 => (x_X7_takeHand σ1 (0 : Int) (-1 : Int) (-1 : Int)).bind fun σ2 => bnd ((σ2 0 12)) fun v3 => (x_X7_takeHand σ2 (1 : Int) (-1 : Int) (-1 : Int)).bind fun σ4 => (x_X7_stocked σ4).bind fun v5 => (if zin (14 : Int) 171 then bnd ((v3 + (((σ4 0 12) + v5) + (σ4 1 (zix (14 : Int)))))) fun v7 => (x_X7_size ((52 : Int) - v7)).bind fun v8 => (x_X7_wrongHand σ4 (0 : Int)).bind fun o => un2 o fun σ9 v10 => (x_X7_wrongHand σ9 (1 : Int)).bind fun o => un2 o fun σ11 v12 => some (σ11, ((v8 + v10) + v12)) else none)
def rm_X7_gap : Room := { frames := 8, cells := 0, slots := 0, locals := 192 }
noncomputable def x_X7_meanRest (σ : Mm) : Option (Mm × UInt64) :=
  bnd (zu σ 0 0 (0 : Int)) fun σ1 => (x_X7_layOutOf σ1 (0 : Int)).bind fun σ2 => bnd ((σ2 0 19)) fun v3 => (x_X7_layOutOf σ2 (1 : Int)).bind fun σ4 => (if (FP.ddiv (FP.i2d (zJ (v3 + (σ4 0 19)))) (4611686018427387904 : UInt64)) &&& 0x7fffffffffffffff ≤ 0x7ff0000000000000 then some (σ4, (FP.ddiv (FP.i2d (zJ (v3 + (σ4 0 19)))) (4611686018427387904 : UInt64))) else none)
def rm_X7_meanRest : Room := { frames := 7, cells := 0, slots := 0, locals := 168 }
noncomputable def x_X7_laid (σ : Mm) (p1 : Int) : Option (Mm × UInt32) :=
  bnd (zu σ 0 0 (0 : Int)) fun σ1 => (x_X7_noPlayer σ1 p1).bind fun o => un2 o fun σ2 v3 => (if zw v3 = 0 then (x_X7_layOutOf σ2 p1).bind fun σ4 => (x_X7_ones (zL (σ4 0 18))).bind fun v5 => (if (FP.fdiv (FP.i2f (zJ ((σ4 0 12) - v5))) (FP.i2f (zJ (σ4 0 12)))) &&& 0x7fffffff ≤ 0x7f800000 then some (σ4, (FP.fdiv (FP.i2f (zJ ((σ4 0 12) - v5))) (FP.i2f (zJ (σ4 0 12))))) else none) else some (σ2, FP.fconst0))
def rm_X7_laid : Room := { frames := 7, cells := 0, slots := 0, locals := 168 }
noncomputable def x_X7_say (σ : Mm) (p1 : Int) : Option (Mm) :=
  (if zin (σ 0 10) 200 then bnd (zu σ 19 (zix (σ 0 10)) (zi2b (zi2b p1))) fun σ1 => bnd (zu σ1 0 10 ((σ1 0 10) + (1 : Int))) fun σ3 => some σ3 else none)
def rm_X7_say : Room := { frames := 0, cells := 0, slots := 0, locals := 0 }
noncomputable def x_X7_sayCard_j10 (σ_10 : Mm) (v1_10 : Int) : Option (Mm) :=
  (x_zchr 11 (zrem v1_10 (13 : Int))).bind fun v1 => (x_X7_say σ_10 v1).bind fun σ2 => (x_zchr 12 (zdiv v1_10 (13 : Int))).bind fun v3 => (x_X7_say σ2 v3).bind fun σ4 => some σ4
noncomputable def x_X7_sayCard (σ : Mm) (p1 : Int) (p2 : Int) : Option (Mm) :=
  (if zw p2 ≠ 0 then x_X7_sayCard_j10 σ p1 else (x_X7_say σ (44 : Int)).bind fun σ5 => x_X7_sayCard_j10 σ5 p1)
def rm_X7_sayCard : Room := { frames := 4, cells := 0, slots := 0, locals := 85 }
noncomputable def x_X7_sayAscending_b5 (p1 : Int64) (σ5 : Mm) (u3_5 : Int) (u4_5 : Int) : Option ((Mm × Int × Int) ⊕ Mm) :=
  (if zw (52 : Int) ≤ zw u4_5 then some (.inr σ5) else (if zw (zcmp ((zlshr p1 u4_5) &&& (1 : Int64)) (1 : Int64)) ≠ 0 then bnd (u4_5 + 1) fun v1 => some (.inl (σ5, u3_5, v1)) else (if zw u3_5 ≠ 0 then (x_X7_sayCard σ5 u4_5 (0 : Int)).bind fun σ2 => bnd (u3_5 + 1) fun v3 => bnd (u4_5 + 1) fun v4 => some (.inl (σ2, v3, v4)) else (x_X7_sayCard σ5 u4_5 (1 : Int)).bind fun σ5 => bnd (u3_5 + 1) fun v6 => bnd (u4_5 + 1) fun v7 => some (.inl (σ5, v6, v7)))))
noncomputable def x_X7_sayAscending (σ : Mm) (p1 : Int64) : Option (Mm) :=
  (lup (fun (s11 : Mm × Int × Int) => x_X7_sayAscending_b5 p1 s11.1 s11.2.1 s11.2.2) (σ, (0 : Int), (0 : Int))).bind fun σ13 => some σ13
def rm_X7_sayAscending : Room := { frames := 5, cells := 0, slots := 0, locals := 107 }
noncomputable def x_X7_sayRun_b17 (p1 : Int64) (v1 : Int) (v2 : Int) (σ17 : Mm) (u5_17 : Int) : Option ((Mm × Int) ⊕ Mm) :=
  (x_X7_ones p1).bind fun v3 => (if zw v3 ≤ zw u5_17 then some (.inr σ17) else (if zw u5_17 ≠ 0 then (x_X7_sayCard σ17 (v2 + (zrem ((zrem v1 (13 : Int)) + u5_17) (13 : Int))) (0 : Int)).bind fun σ4 => bnd (u5_17 + 1) fun v5 => some (.inl (σ4, v5)) else (x_X7_sayCard σ17 (v2 + (zrem ((zrem v1 (13 : Int)) + u5_17) (13 : Int))) (1 : Int)).bind fun σ6 => bnd (u5_17 + 1) fun v7 => some (.inl (σ6, v7))))
noncomputable def x_X7_sayRun (σ : Mm) (p1 : Int64) : Option (Mm) :=
  (x_X7_firstOf p1).bind fun v1 => bnd (((zdiv v1 (13 : Int)) * (13 : Int))) fun v2 => (lup (fun (s10 : Mm × Int) => x_X7_sayRun_b17 p1 v1 v2 s10.1 s10.2) (σ, (0 : Int))).bind fun σ12 => some σ12
def rm_X7_sayRun : Room := { frames := 5, cells := 0, slots := 0, locals := 107 }
noncomputable def x_X7_writeLaying_j45_27 (σ_45 : Mm) (v2_45 : Int) : Option ((Mm × Int) ⊕ Mm) :=
  (if zin v2_45 11 then (x_X7_isSetOf (zL (σ_45 23 (zix v2_45)))).bind fun v7 => (if zw v7 = 0 then (if zin v2_45 11 then (x_X7_sayRun σ_45 (zL (σ_45 23 (zix v2_45)))).bind fun σ9 => bnd (v2_45 + 1) fun v10 => some (.inl (σ9, v10)) else none) else (if zin v2_45 11 then (x_X7_sayAscending σ_45 (zL (σ_45 23 (zix v2_45)))).bind fun σ12 => bnd (v2_45 + 1) fun v13 => some (.inl (σ12, v13)) else none)) else none)
noncomputable def x_X7_writeLaying_b27 (σ27 : Mm) (u2_27 : Int) : Option ((Mm × Int) ⊕ Mm) :=
  (if zw (σ27 0 17) ≤ zw u2_27 then some (.inr σ27) else (if zw u2_27 ≤ 0 then x_X7_writeLaying_j45_27 σ27 u2_27 else (x_X7_say σ27 (32 : Int)).bind fun σ15 => x_X7_writeLaying_j45_27 σ15 u2_27))
noncomputable def x_X7_writeLaying (σ : Mm) (p1 : Int) : Option (Mm × Int) :=
  bnd (zu σ 0 0 (0 : Int)) fun σ1 => (x_X7_noPlayer σ1 p1).bind fun o => un2 o fun σ2 v3 => (if zw v3 = 0 then (x_X7_layOutOf σ2 p1).bind fun σ4 => bnd (zu σ4 0 10 (0 : Int)) fun σ5 => (lup (fun (s18 : Mm × Int) => x_X7_writeLaying_b27 s18.1 s18.2) (σ5, (0 : Int))).bind fun σ20 => (if zw (zcmp (zL (σ20 0 18)) (0 : Int64)) = 0 then some (σ20, (σ20 0 10)) else (if zw (σ20 0 10) ≤ 0 then (x_X7_say σ20 (45 : Int)).bind fun σ21 => (x_X7_sayAscending σ21 (zL (σ21 0 18))).bind fun σ22 => some (σ22, (σ22 0 10)) else (x_X7_say σ20 (32 : Int)).bind fun σ23 => (x_X7_say σ23 (45 : Int)).bind fun σ24 => (x_X7_sayAscending σ24 (zL (σ24 0 18))).bind fun σ25 => some (σ25, (σ25 0 10)))) else some (σ2, (0 : Int)))
def rm_X7_writeLaying : Room := { frames := 7, cells := 0, slots := 0, locals := 168 }
noncomputable def x_X7_reportByte (σ : Mm) (p1 : Int) : Option (Mm × Int) :=
  bnd (zu σ 0 0 (0 : Int)) fun σ1 => (if zw p1 < 0 then some (σ1, (-1 : Int)) else (if zw p1 < zw (σ1 0 10) then (if zin p1 200 then some (σ1, (σ1 19 (zix p1))) else none) else some (σ1, (-1 : Int))))
def rm_X7_reportByte : Room := { frames := 0, cells := 0, slots := 0, locals := 0 }
