/-! What holds at the law's entry -/
def stF : List Cond := flatC (Cond.and given_1 narrow_1)
def stI : List Nat := [0, 1, 2, 7, 8, 9, 10, 11, 13, 12, 3, 4, 5, 6]
def stS (i : Nat) : Term := Term.string (zsOwn.getD i "") (zsIdx.getD i 0)
def stT (u : Nat) : Term := stS (stI.getD u 0)
set_option maxRecDepth 100000 in
theorem st_e1 : ∀ i : Nat, i < zsN → Cond.exactly (stT i) "java/lang/String" ∈ stF := by decide +kernel
set_option maxRecDepth 100000 in
theorem st_e2 : ∀ i : Nat, i < zsN → Cond.eq (.field (stT i) "java/lang/String" "coder" "B") (.int 0) ∈ stF := by decide +kernel
set_option maxRecDepth 100000 in
theorem st_e3 : ∀ i : Nat, i < zsN → Cond.arrayOf (.field (stT i) "java/lang/String" "value" "[B") .byte ∈ stF := by decide +kernel
set_option maxRecDepth 100000 in
theorem st_e4 : ∀ i : Nat, i < zsN → Cond.eq (.length (.field (stT i) "java/lang/String" "value" "[B")) (.int (Int32.ofNat (zsLen.getD i 0))) ∈ stF := by decide +kernel
def stE : List Nat := [241, 305, 315, 370, 386, 402, 419, 438, 504, 457, 325, 338, 347, 357]
def stB : List Nat := [0, 310, 319, 331, 339, 348, 360, 375, 390, 406, 424, 442, 488, 531]
set_option maxRecDepth 100000 in
theorem st_x5 : ∀ i : Nat, i < zsN → (stF.drop (stE.getD i 0)).take (zsLen.getD i 0) = (List.range (zsLen.getD i 0)).map (fun j => Cond.eq (.elem (.field (stT i) "java/lang/String" "value" "[B") (.int (Int32.ofNat j))) (.int ((zsByt.getD i []).getD j 0))) := by decide +kernel
theorem st_e5 : ∀ i : Nat, i < zsN → ∀ j : Nat, j < zsLen.getD i 0 → Cond.eq (.elem (.field (stT i) "java/lang/String" "value" "[B") (.int (Int32.ofNat j))) (.int ((zsByt.getD i []).getD j 0)) ∈ stF := fun i hi j hj => by
  have h1 : Cond.eq (.elem (.field (stT i) "java/lang/String" "value" "[B") (.int (Int32.ofNat j))) (.int ((zsByt.getD i []).getD j 0)) ∈ (stF.drop (stE.getD i 0)).take (zsLen.getD i 0) := by
    rw [st_x5 i hi]
    exact List.mem_map.mpr ⟨j, List.mem_range.mpr hj, rfl⟩
  exact List.mem_of_mem_drop (List.mem_of_mem_take h1)
set_option maxRecDepth 100000 in
theorem st_x6 : ∀ j : Nat, j < zsN → (stF.drop (stB.getD j 0)).take j = (List.range j).map (fun i => Cond.not (Cond.eq (stS i) (stS j))) := by decide +kernel
theorem st_y6 (i j : Nat) (hj : j < zsN) (hi : i < j) : Cond.not (Cond.eq (stS i) (stS j)) ∈ stF := by
  have h1 : Cond.not (Cond.eq (stS i) (stS j)) ∈ (stF.drop (stB.getD j 0)).take j := by
    rw [st_x6 j hj]
    exact List.mem_map.mpr ⟨i, List.mem_range.mpr hi, rfl⟩
  exact List.mem_of_mem_drop (List.mem_of_mem_take h1)
theorem st_i : ∀ u : Nat, u < zsN → stI.getD u 0 < zsN ∧ zsU.getD (stI.getD u 0) 0 = u := by decide +kernel
theorem st_u : ∀ i : Nat, i < zsM → zsU.getD i 0 < zsN ∧ stI.getD (zsU.getD i 0) 0 = i := by decide +kernel
theorem st_e6 : ∀ i : Nat, i < zsN → ∀ j : Nat, j < zsN → i ≠ j → Cond.not (Cond.eq (stT i) (stT j)) ∈ stF ∨ Cond.not (Cond.eq (stT j) (stT i)) ∈ stF := fun i hi j hj h => by
  obtain ⟨a1, a2⟩ := st_i i hi
  obtain ⟨b1, b2⟩ := st_i j hj
  have hne : stI.getD i 0 ≠ stI.getD j 0 := fun e => h (by rw [← a2, ← b2, e])
  rcases Nat.lt_or_ge (stI.getD i 0) (stI.getD j 0) with c | c
  · exact .inl (st_y6 _ _ b1 c)
  · exact .inr (st_y6 _ _ a1 (Nat.lt_of_le_of_ne c (fun z => hne z.symm)))
theorem st_len : ∀ i : Nat, i < zsN → zsLen.getD i 0 < 2 ^ 31 := by decide +kernel
def stR : List Nat := [282, 368, 394, 493, 628, 629, 709, 784, 785, 786, 787, 788, 985, 1065]
set_option maxRecDepth 100000 in
theorem st_e8 : ∀ i : Nat, i < zsM → lw_tbl[stR.getD i 0]? = some (Cond.stringRef (zsOwn.getD i "") (zsIdx.getD i 0) (zsTx.getD i "")) := by decide +kernel
set_option maxRecDepth 100000 in
theorem st_d1 : (stF.drop 12).take 100 = (List.range 100).map (fun j => Cond.eq (.elem (.static "java/lang/Integer" "DigitOnes" "[B") (.int (Int32.ofNat j))) (.int (zJ ((48 + j % 10 : Nat) : Int)))) := by decide +kernel
set_option maxRecDepth 100000 in
theorem st_d2 : (stF.drop 115).take 100 = (List.range 100).map (fun j => Cond.eq (.elem (.static "java/lang/Integer" "DigitTens" "[B") (.int (Int32.ofNat j))) (.int (zJ ((48 + j / 10 : Nat) : Int)))) := by decide +kernel
theorem st_g1 {j : Nat} (hj : j < 100) : Cond.eq (.elem (.static "java/lang/Integer" "DigitOnes" "[B") (.int (Int32.ofNat j))) (.int (zJ ((48 + j % 10 : Nat) : Int))) ∈ stF := by
  have h1 : Cond.eq (.elem (.static "java/lang/Integer" "DigitOnes" "[B") (.int (Int32.ofNat j))) (.int (zJ ((48 + j % 10 : Nat) : Int))) ∈ (stF.drop 12).take 100 := by
    rw [st_d1]
    exact List.mem_map.mpr ⟨j, List.mem_range.mpr hj, rfl⟩
  exact List.mem_of_mem_drop (List.mem_of_mem_take h1)
theorem st_g2 {j : Nat} (hj : j < 100) : Cond.eq (.elem (.static "java/lang/Integer" "DigitTens" "[B") (.int (Int32.ofNat j))) (.int (zJ ((48 + j / 10 : Nat) : Int))) ∈ stF := by
  have h1 : Cond.eq (.elem (.static "java/lang/Integer" "DigitTens" "[B") (.int (Int32.ofNat j))) (.int (zJ ((48 + j / 10 : Nat) : Int))) ∈ (stF.drop 115).take 100 := by
    rw [st_d2]
    exact List.mem_map.mpr ⟨j, List.mem_range.mpr hj, rfl⟩
  exact List.mem_of_mem_drop (List.mem_of_mem_take h1)
theorem st_K {s : State} {args : Array Value} (hts : ∀ w ∈ lw_tbl, w.before args s = true) : ∃ (D : va_G) (y : Nat → ClassId), va_K D vwCl (zty y) s := by
  have hgt : ∀ w ∈ GT, w.before args s = true := fun w hw => hts w (gt_in hw)
  obtain ⟨c0, i0, h0⟩ := u_known (C := RJ0) (T := TJ0) (N := 4) (n := 4) hgt ti_J0 (hts (.instantiable RJ0 4) (List.mem_of_getElem? (i := 635) (by decide +kernel)))
  obtain ⟨c1, i1, h1⟩ := u_known (C := RJ4) (T := TJ4) (N := 4) (n := 4) hgt ti_J4 (hts (.instantiable RJ4 4) (List.mem_of_getElem? (i := 464) (by decide +kernel)))
  obtain ⟨c2, i2, h2⟩ := u_known (C := RX0) (T := TX0) (N := 3) (n := 3) hgt ti_X0 (hts (.instantiable RX0 3) (List.mem_of_getElem? (i := 138) (by decide +kernel)))
  obtain ⟨c3, i3, h3⟩ := u_known (C := RX1) (T := TX1) (N := 14) (n := 14) hgt ti_X1 (hts (.instantiable RX1 14) (List.mem_of_getElem? (i := 190) (by decide +kernel)))
  obtain ⟨c4, i4, h4⟩ := u_known (C := RX2) (T := TX2) (N := 17) (n := 17) hgt ti_X2 (hts (.instantiable RX2 17) (List.mem_of_getElem? (i := 61) (by decide +kernel)))
  obtain ⟨c5, i5, h5⟩ := u_known (C := RX3) (T := TX3) (N := 8) (n := 8) hgt ti_X3 (hts (.instantiable RX3 8) (List.mem_of_getElem? (i := 157) (by decide +kernel)))
  obtain ⟨c6, i6, h6⟩ := u_known (C := RX4) (T := TX4) (N := 2) (n := 2) hgt ti_X4 (hts (.instantiable RX4 2) (List.mem_of_getElem? (i := 271) (by decide +kernel)))
  obtain ⟨c7, i7, h7⟩ := u_known (C := RX5) (T := TX5) (N := 5) (n := 5) hgt ti_X5 (hts (.instantiable RX5 5) (List.mem_of_getElem? (i := 245) (by decide +kernel)))
  obtain ⟨c8, i8, h8⟩ := u_known (C := RX6) (T := TX6) (N := 8) (n := 8) hgt ti_X6 (hts (.instantiable RX6 8) (List.mem_of_getElem? (i := 53) (by decide +kernel)))
  obtain ⟨a0, ka0, pa0, fa0, ga0, ea0⟩ := Cond.arrayClass_spec (type := .int) (hts (.arrayClass .int) (List.mem_of_getElem? (i := 135) (by decide +kernel)))
  obtain ⟨a1, ka1, pa1, fa1, ga1, ea1⟩ := Cond.arrayClass_spec (type := .long) (hts (.arrayClass .long) (List.mem_of_getElem? (i := 136) (by decide +kernel)))
  obtain ⟨a2, ka2, pa2, fa2, ga2, ea2⟩ := Cond.arrayClass_spec (type := .byte) (hts (.arrayClass .byte) (List.mem_of_getElem? (i := 188) (by decide +kernel)))
  obtain ⟨p4, a4, k4, q1, q2, q3, q4, q5⟩ := Cond.arrayOver_spec (n := RX2) (hts (.arrayOver (.object RX2)) (List.mem_of_getElem? (i := 144) (by decide +kernel)))
  refine ⟨(fun k => [c0, c1, c2, c3, c4, c5, c6, c7, c8].getD k 0, fun k => match k with
    | 0 => i0
    | 1 => i1
    | 2 => i2
    | 3 => i3
    | 4 => i4
    | 5 => i5
    | 6 => i6
    | 7 => i7
    | _ => i8), fun k => [a0, a1, a2, a0, a4].getD k 0, fun c q hq => ?_, fun k q hq => ?_⟩
  · match c, hq with
    | 0, hq => cases hq; exact h0
    | 1, hq => cases hq; exact h1
    | 2, hq => cases hq; exact h2
    | 3, hq => cases hq; exact h3
    | 4, hq => cases hq; exact h4
    | 5, hq => cases hq; exact h5
    | 6, hq => cases hq; exact h6
    | 7, hq => cases hq; exact h7
    | 8, hq => cases hq; exact h8
    | c + 9, hq => simp at hq
  · match k, hq with
    | 0, hq => cases hq; exact ⟨fun n z => ⟨fun k h => (by cases h), ka0, ga0, pa0, ea0⟩, fa0⟩
    | 1, hq => cases hq; exact ⟨fun n z => ⟨fun k h => (by cases h), ka1, ga1, pa1, ea1⟩, fa1⟩
    | 2, hq => cases hq; exact ⟨fun n z => ⟨fun k h => (by cases h), ka2, ga2, pa2, ea2⟩, fa2⟩
    | 3, hq => cases hq; exact ⟨fun n z => ⟨fun k h => (by cases h), ka0, ga0, pa0, ea0⟩, fa0⟩
    | 4, hq => cases hq; exact ⟨fun n z => ⟨fun k h => (by cases h), k4, q3, p4, q4⟩, k4, p4, q3, q4, q1, q5⟩
    | k + 5, hq => simp [zty] at hq
theorem zJ_u (x : Int32) : zJ (((x.toInt % 4294967296).toNat : Nat) : Int) = x := by
  have h : zJ (((x.toInt % 4294967296).toNat : Nat) : Int) = zJ x.toInt := by
    rw [zJ_eq, zw_def, zw_def]
    omega
  rw [h, zJ_toInt]
set_option maxHeartbeats 1000000 in
theorem st_O {s : State} {b L : Nat} {xs : Nat → Int32} (hts : ∀ w ∈ lw_tbl, w.before #[Value.ref b] s = true) (hgv : (Cond.and given_1 narrow_1).before #[Value.ref b] s = true) (hX : va_X b L xs s s.heap) (hbl : b < s.heap.size) (hL : L ≤ 260) {A : Nat → Prop} (hA : ∀ a : Nat, a < s.heap.size → ¬ A a) : ∃ tk tv : Nat → Nat, tk 1000 = b ∧ tk 1001 = L ∧ OX tk tv A s s.heap := by
  have hs : ∀ c ∈ stF, c.before #[Value.ref b] s = true := flat_of_before _ hgv
  obtain ⟨tk, tv, h1, h2⟩ := vk_Sof (args := #[Value.ref b]) (s := s) (N := zsN) (tm := stT) (len := zsLen) (byt := zsByt) (A := A) st_len (fun i hi => hs _ (st_e1 i hi)) (fun i hi => hs _ (st_e2 i hi)) (fun i hi => hs _ (st_e3 i hi)) (fun i hi => hs _ (st_e4 i hi)) (fun i hi j hj => hs _ (st_e5 i hi j hj)) (fun i j hi hj hij => (st_e6 i hi j hj hij).elim (fun h => Or.inl (hs _ h)) (fun h => Or.inr (hs _ h))) hA
  have w (i : Nat) (w : Cond) (h : lw_tbl[i]? = some w) : w.before #[Value.ref b] s = true := hts _ (List.mem_of_getElem? h)
  obtain ⟨t1, e1, d1⟩ := va_Tof (args := #[Value.ref b]) (s := s) (tm := .static "java/lang/Integer" "DigitOnes" "[B") (ty := .byte) (N := 100) (f := fun j => .int (zJ ((48 + j % 10 : Nat) : Int))) (A := A) (by decide) (hs _ (by decide +kernel)) (va_eqt (hs (Cond.eq (.length (.static "java/lang/Integer" "DigitOnes" "[B")) (.int (Int32.ofNat 100))) (by decide +kernel))) (fun j hj => va_eqt (hs _ (st_g1 hj))) hA
  obtain ⟨t2, e2, d2⟩ := va_Tof (args := #[Value.ref b]) (s := s) (tm := .static "java/lang/Integer" "DigitTens" "[B") (ty := .byte) (N := 100) (f := fun j => .int (zJ ((48 + j / 10 : Nat) : Int))) (A := A) (by decide) (hs _ (by decide +kernel)) (va_eqt (hs (Cond.eq (.length (.static "java/lang/Integer" "DigitTens" "[B")) (.int (Int32.ofNat 100))) (by decide +kernel))) (fun j hj => va_eqt (hs _ (st_g2 hj))) hA
  have hk : ∀ i, i < zsN → (fun i => if i = 1000 then b else if i = 1001 then L else if i = 1002 then t1 else if i = 1003 then t2 else tk i) i = tk i := fun i hi => by
    have hi : i < 14 := hi
    show (if i = 1000 then b else if i = 1001 then L else if i = 1002 then t1 else if i = 1003 then t2 else tk i) = tk i
    rw [if_neg (by omega), if_neg (by omega), if_neg (by omega), if_neg (by omega)]
  have hv : ∀ i, i < zsN → (fun i => if i < 1000 then tv i else ((xs (i - 1000)).toInt % 4294967296).toNat) i = tv i := fun i hi => by
    have hi : i < 14 := hi
    show (if i < 1000 then tv i else ((xs (i - 1000)).toInt % 4294967296).toNat) = tv i
    rw [if_pos (by omega)]
  refine ⟨fun i => if i = 1000 then b else if i = 1001 then L else if i = 1002 then t1 else if i = 1003 then t2 else tk i, fun i => if i < 1000 then tv i else ((xs (i - 1000)).toInt % 4294967296).toNat, rfl, rfl, ⟨fun i hi => by rw [hk i hi, hv i hi]; exact h1.1 i hi, fun i j hi hj e => h1.2 i j hi hj (by rw [hk i hi, hk j hj] at e; exact e)⟩, fun i hi => ?_, ?_, ?_, ?_, ?_, fun x hx => va_Nw.of (nt_on hx) (hts _ (List.mem_filter.mp hx).1), ⟨?_, ?_⟩, ?_⟩
  · obtain ⟨u1, u2⟩ := st_u i hi
    have e3 := h2 _ u1
    unfold stT at e3
    rw [u2] at e3
    rw [hk _ u1]
    exact vk_R.of (A := #[Value.ref b]) (hts _ (List.mem_of_getElem? (st_e8 i hi))) e3
  · exact va_Zof (args := #[Value.ref b]) (w 296 _ (by decide +kernel)) (w 34 _ (by decide +kernel)) (va_eqi (hs (Cond.eq (.static "java/lang/String" "COMPACT_STRINGS" "Z") (.int 1)) (by decide +kernel))) hA
  · exact va_Zqof (args := #[Value.ref b]) (w 312 _ (by decide +kernel)) (w 36 _ (by decide +kernel)) (hs (Cond.isRef (.static "jdk/internal/util/Preconditions" "SIOOBE_FORMATTER" "Ljava/util/function/BiFunction;")) (by decide +kernel)) hA
  · exact vx_Zqof (args := #[Value.ref b]) (w 693 _ (by decide +kernel)) (w 42 _ (by decide +kernel)) (hs (Cond.isRef (.static "java/lang/Throwable" "UNASSIGNED_STACK" "[Ljava/lang/StackTraceElement;")) (by decide +kernel)) hA
  · exact vx_Zqof (args := #[Value.ref b]) (w 695 _ (by decide +kernel)) (w 42 _ (by decide +kernel)) (hs (Cond.isRef (.static "java/lang/Throwable" "SUPPRESSED_SENTINEL" "Ljava/util/List;")) (by decide +kernel)) hA
  · exact w 144 (.arrayOver (.object RX2)) (by decide +kernel)
  · exact va_Nc.of (args := #[Value.ref b]) (hs (Cond.not (.castable "java/util/NoSuchElementException" "java/lang/IllegalArgumentException")) (by decide +kernel))
  · obtain ⟨scr, x1, x2, x3, x4, x5⟩ := hX
    refine ⟨⟨⟨scr, x1, x2, x3, Nat.le_of_eq x4.symm, ?_, fun j hj => ?_, hA b hbl⟩, hL⟩, ⟨va_Zof (args := #[Value.ref b]) (w 617 _ (by decide +kernel)) (w 51 _ (by decide +kernel)) e1 hA, d1⟩, va_Zof (args := #[Value.ref b]) (w 619 _ (by decide +kernel)) (w 51 _ (by decide +kernel)) e2 hA, d2⟩
    · show scr.slots.size.toInt32 = Int32.ofNat L
      rw [x4]
    · show scr.slots[j]? = some (.int (zJ (((if 1000 + j < 1000 then tv (1000 + j) else ((xs (1000 + j - 1000)).toInt % 4294967296).toNat) : Nat) : Int)))
      rw [if_neg (by omega), Nat.add_sub_cancel_left, zJ_u]
      exact x5 j hj
/-- the law's start, if the law's own function comes to its end -/
theorem start_of {p : Program} {e : Env} {s : State} {m : MethodId} {below : List Frame} {meth : Method} {c : Code} (l : Launch) {b L : Nat} {xs : Nat → Int32} (hL : L ≤ 260) (hlaw : ∀ tv : Nat → Nat, x_L_law (zsc tv) L = some ()) (C0 : lw_At p s m meth c b L xs) : W p l e room_1 s m #[Value.ref b] below meth c s.heap [] 0 0 (lw_Z below #[Value.ref b] s) (entryFrame m ([Value.ref b] : List Value).toArray 3) := by
  obtain ⟨hx, hb, hr, hml, hown, hts, hX, hbl, hlocks, hgv⟩ := C0
  obtain ⟨D, y, hK⟩ := st_K hts
  have hA : ∀ a : Nat, a < s.heap.size → ¬ (fun q : Nat => s.heap.size ≤ q) a := fun a h => Nat.not_le.mpr h
  obtain ⟨tk, tv, k1, k2, hO⟩ := st_O hts hgv hX hbl hL hA
  have hle := lv_entry ([.ref b]) (n := 3) (Nat.le_of_ble_eq_true rfl)
  rw [lg_entry_eq]
  have hnone : ∀ (k : Nat) (q : Zs), shLg[k]? = some q → zx (fun _ _ => 0) q.2.2.2 → False := by
    intro k q hq hx
    have h1 := List.all_eq_true.mp (show shLg.all (fun q => q.2.2.2.isSome) = true by decide +kernel) q (List.mem_of_getElem? hq)
    cases hg : q.2.2.2 with
    | none => rw [hg] at h1; cases h1
    | some g => rw [hg] at hx; exact hx rfl
  have hX2 : va_X b L (fun j => zJ ((fun (_ : Nat) (j : Nat) => (xs j).toInt) 0 j)) s s.heap := by
    have e : (fun j => zJ ((fun (_ : Nat) (j : Nat) => (xs j).toInt) 0 j)) = xs := funext (fun j => zJ_toInt (xs j))
    rw [e]
    exact hX
  have h := law_pt (l := l) (xs := fun _ j => (xs j).toInt) (L := L) (tk := tk) (tv := tv) (nm := meth.name) k1 (by rw [k2]; exact hlaw tv) (Γ := (p, l, e, room_1, s, m, #[Value.ref b], below, meth, c, D, y, tk, tv, fun _ => 0, fun q => s.heap.size ≤ q, fun _ _ => 0, 0, 0, lw_Z below #[Value.ref b] s))
    ⟨hx, hb, hml, hown, fun w hw => hts w (gt_in hw), hK, ⟨fun i j p q hp hq hxp _ _ => (hnone i p hp hxp).elim, fun k q hq hx => (hnone k q hq hx).elim⟩, fun _ h => h, rfl, hlocks, hO⟩ (Or.inl ⟨rfl, rfl, hX2, hbl, rfl, rfl, hr, hL⟩) ⟨⟨rfl, rfl, rfl⟩, rfl, rfl, rfl⟩
  exact h s.heap [] _ (fun k q hq hx => (hnone k q hq hx).elim) (fun _ _ _ h => h) va_S.rf hle
