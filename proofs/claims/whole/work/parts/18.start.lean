/-! What holds at the law's entry -/
def stF : List Cond := flatC (Cond.and given_1 narrow_1)
def stT (i : Nat) : Term := Term.string (zsOwn.getD i "") (zsIdx.getD i 0)
set_option maxRecDepth 100000 in
theorem st_e1 : ∀ i : Nat, i < zsN → Cond.exactly (stT i) "java/lang/String" ∈ stF := by decide +kernel
set_option maxRecDepth 100000 in
theorem st_e2 : ∀ i : Nat, i < zsN → Cond.eq (.field (stT i) "java/lang/String" "coder" "B") (.int 0) ∈ stF := by decide +kernel
set_option maxRecDepth 100000 in
theorem st_e3 : ∀ i : Nat, i < zsN → Cond.arrayOf (.field (stT i) "java/lang/String" "value" "[B") .byte ∈ stF := by decide +kernel
set_option maxRecDepth 100000 in
theorem st_e4 : ∀ i : Nat, i < zsN → Cond.eq (.length (.field (stT i) "java/lang/String" "value" "[B")) (.int (Int32.ofNat (zsLen.getD i 0))) ∈ stF := by decide +kernel
def stE : List Nat := [45, 109, 119, 129, 141, 153, 166, 181, 196, 235, 279, 315, 343]
def stB : List Nat := [0, 114, 123, 134, 145, 157, 171, 185, 223, 266, 301, 328, 347]
set_option maxRecDepth 100000 in
theorem st_x5 : ∀ i : Nat, i < zsN → (stF.drop (stE.getD i 0)).take (zsLen.getD i 0) = (List.range (zsLen.getD i 0)).map (fun j => Cond.eq (.elem (.field (stT i) "java/lang/String" "value" "[B") (.int (Int32.ofNat j))) (.int ((zsByt.getD i []).getD j 0))) := by decide +kernel
theorem st_e5 : ∀ i : Nat, i < zsN → ∀ j : Nat, j < zsLen.getD i 0 → Cond.eq (.elem (.field (stT i) "java/lang/String" "value" "[B") (.int (Int32.ofNat j))) (.int ((zsByt.getD i []).getD j 0)) ∈ stF := fun i hi j hj => by
  have h1 : Cond.eq (.elem (.field (stT i) "java/lang/String" "value" "[B") (.int (Int32.ofNat j))) (.int ((zsByt.getD i []).getD j 0)) ∈ (stF.drop (stE.getD i 0)).take (zsLen.getD i 0) := by
    rw [st_x5 i hi]
    exact List.mem_map.mpr ⟨j, List.mem_range.mpr hj, rfl⟩
  exact List.mem_of_mem_drop (List.mem_of_mem_take h1)
set_option maxRecDepth 100000 in
theorem st_x6 : ∀ j : Nat, j < zsN → (stF.drop (stB.getD j 0)).take j = (List.range j).map (fun i => Cond.not (Cond.eq (stT i) (stT j))) := by decide +kernel
theorem st_y6 (i j : Nat) (hj : j < zsN) (hi : i < j) : Cond.not (Cond.eq (stT i) (stT j)) ∈ stF := by
  have h1 : Cond.not (Cond.eq (stT i) (stT j)) ∈ (stF.drop (stB.getD j 0)).take j := by
    rw [st_x6 j hj]
    exact List.mem_map.mpr ⟨i, List.mem_range.mpr hi, rfl⟩
  exact List.mem_of_mem_drop (List.mem_of_mem_take h1)
theorem st_e6 : ∀ i : Nat, i < zsN → ∀ j : Nat, j < zsN → i ≠ j → Cond.not (Cond.eq (stT i) (stT j)) ∈ stF ∨ Cond.not (Cond.eq (stT j) (stT i)) ∈ stF := fun i hi j hj h => by
  rcases Nat.lt_or_ge i j with c | c
  · exact .inl (st_y6 i j hj c)
  · exact .inr (st_y6 j i hi (Nat.lt_of_le_of_ne c (fun z => h z.symm)))
set_option maxRecDepth 100000 in
theorem st_e7 : ∀ i : Nat, i < zsM → zsU.getD i 0 < zsN ∧ (i = zsU.getD i 0 ∨ Cond.eq (stT (zsU.getD i 0)) (stT i) ∈ stF ∨ Cond.eq (stT i) (stT (zsU.getD i 0)) ∈ stF) := by decide +kernel
theorem st_len : ∀ i : Nat, i < zsN → zsLen.getD i 0 < 2 ^ 31 := by decide +kernel
def stR : List Nat := [347, 433, 459, 541, 542, 543, 544, 545, 876, 939, 970, 1126, 1128, 1459, 1487, 1496, 1497, 1498, 1503, 1504, 1639, 1640]
set_option maxRecDepth 100000 in
theorem st_e8 : ∀ i : Nat, i < zsM → lw_tbl[stR.getD i 0]? = some (Cond.stringRef (zsOwn.getD i "") (zsIdx.getD i 0) (zsTx.getD i "")) := by decide +kernel
theorem st_K {s : State} {args : Array Value} (hts : ∀ w ∈ lw_tbl, w.before args s = true) : ∃ (D : va_G) (y : Nat → ClassId), va_K D vwCl (zty y) s := by
  have hgt : ∀ w ∈ GT, w.before args s = true := fun w hw => hts w (gt_in hw)
  obtain ⟨c0, i0, h0⟩ := u_known (C := RX0) (T := TX0) (N := 3) (n := 3) hgt ti_X0 (hts (.instantiable RX0 3) (List.mem_of_getElem? (i := 197) (by decide +kernel)))
  obtain ⟨c1, i1, h1⟩ := u_known (C := RX1) (T := TX1) (N := 14) (n := 14) hgt ti_X1 (hts (.instantiable RX1 14) (List.mem_of_getElem? (i := 249) (by decide +kernel)))
  obtain ⟨c2, i2, h2⟩ := u_known (C := RX2) (T := TX2) (N := 17) (n := 17) hgt ti_X2 (hts (.instantiable RX2 17) (List.mem_of_getElem? (i := 119) (by decide +kernel)))
  obtain ⟨c3, i3, h3⟩ := u_known (C := RX3) (T := TX3) (N := 8) (n := 8) hgt ti_X3 (hts (.instantiable RX3 8) (List.mem_of_getElem? (i := 216) (by decide +kernel)))
  obtain ⟨c4, i4, h4⟩ := u_known (C := RX4) (T := TX4) (N := 2) (n := 2) hgt ti_X4 (hts (.instantiable RX4 2) (List.mem_of_getElem? (i := 334) (by decide +kernel)))
  obtain ⟨c5, i5, h5⟩ := u_known (C := RX5) (T := TX5) (N := 5) (n := 5) hgt ti_X5 (hts (.instantiable RX5 5) (List.mem_of_getElem? (i := 306) (by decide +kernel)))
  obtain ⟨c6, i6, h6⟩ := u_known (C := RX6) (T := TX6) (N := 8) (n := 8) hgt ti_X6 (hts (.instantiable RX6 8) (List.mem_of_getElem? (i := 111) (by decide +kernel)))
  obtain ⟨c7, i7, h7⟩ := u_known (C := RX7) (T := TX7) (N := 32) (n := 32) hgt ti_X7 (hts (.instantiable RX7 32) (List.mem_of_getElem? (i := 1131) (by decide +kernel)))
  obtain ⟨a0, ka0, pa0, fa0, ga0, ea0⟩ := Cond.arrayClass_spec (type := .int) (hts (.arrayClass .int) (List.mem_of_getElem? (i := 194) (by decide +kernel)))
  obtain ⟨a1, ka1, pa1, fa1, ga1, ea1⟩ := Cond.arrayClass_spec (type := .long) (hts (.arrayClass .long) (List.mem_of_getElem? (i := 195) (by decide +kernel)))
  obtain ⟨a2, ka2, pa2, fa2, ga2, ea2⟩ := Cond.arrayClass_spec (type := .byte) (hts (.arrayClass .byte) (List.mem_of_getElem? (i := 247) (by decide +kernel)))
  obtain ⟨a3, ka3, pa3, fa3, ga3, ea3⟩ := Cond.arrayClass_spec (type := .boolean) (hts (.arrayClass .boolean) (List.mem_of_getElem? (i := 1255) (by decide +kernel)))
  obtain ⟨a6, ka6, pa6, fa6, ga6, ea6⟩ := Cond.arrayClass_spec (type := .double) (hts (.arrayClass .double) (List.mem_of_getElem? (i := 1650) (by decide +kernel)))
  obtain ⟨p4, a4, k4, q1, q2, q3, q4, q5⟩ := Cond.arrayOver_spec (n := RX2) (hts (.arrayOver (.object RX2)) (List.mem_of_getElem? (i := 203) (by decide +kernel)))
  obtain ⟨p5, a5, k5, r1, r2, r3, r4, r5⟩ := va_R2.spec (U := s) (hts (.arrayOver (.array .int)) (List.mem_of_getElem? (i := 1137) (by decide +kernel)))
  refine ⟨(fun k => [c0, c1, c2, c3, c4, c5, c6, c7].getD k 0, fun k => match k with
    | 0 => i0
    | 1 => i1
    | 2 => i2
    | 3 => i3
    | 4 => i4
    | 5 => i5
    | 6 => i6
    | _ => i7), fun k => [a0, a1, a2, a3, a4, a5, a6].getD k 0, fun c q hq => ?_, fun k q hq => ?_⟩
  · match c, hq with
    | 0, hq => cases hq; exact h0
    | 1, hq => cases hq; exact h1
    | 2, hq => cases hq; exact h2
    | 3, hq => cases hq; exact h3
    | 4, hq => cases hq; exact h4
    | 5, hq => cases hq; exact h5
    | 6, hq => cases hq; exact h6
    | 7, hq => cases hq; exact h7
    | c + 8, hq => simp at hq
  · match k, hq with
    | 0, hq => cases hq; exact ⟨fun n z => ⟨fun k h => (by cases h), ka0, ga0, pa0, ea0⟩, fa0⟩
    | 1, hq => cases hq; exact ⟨fun n z => ⟨fun k h => (by cases h), ka1, ga1, pa1, ea1⟩, fa1⟩
    | 2, hq => cases hq; exact ⟨fun n z => ⟨fun k h => (by cases h), ka2, ga2, pa2, ea2⟩, fa2⟩
    | 3, hq => cases hq; exact ⟨fun n z => ⟨fun k h => (by cases h), ka3, ga3, pa3, ea3⟩, fa3⟩
    | 4, hq => cases hq; exact ⟨fun n z => ⟨fun k h => (by cases h), k4, q3, p4, q4⟩, k4, p4, q3, q4, q1, q5⟩
    | 5, hq => cases hq; exact ⟨fun n z => ⟨fun k h => (by cases h), k5, r3, p5, r4⟩, r5⟩
    | 6, hq => cases hq; exact ⟨fun n z => ⟨fun k h => (by cases h), ka6, ga6, pa6, ea6⟩, fa6⟩
    | k + 7, hq => simp [zty] at hq
theorem st_O {s : State} {args : Array Value} (hts : ∀ w ∈ lw_tbl, w.before args s = true) (hgv : (Cond.and given_1 narrow_1).before args s = true) {A : Nat → Prop} (hA : ∀ a : Nat, a < s.heap.size → ¬ A a) : ∃ tk tv : Nat → Nat, OX tk tv A s s.heap := by
  have hs : ∀ c ∈ stF, c.before args s = true := flat_of_before _ hgv
  obtain ⟨tk, tv, h1, h2⟩ := vk_Sof (args := args) (s := s) (N := zsN) (tm := stT) (len := zsLen) (byt := zsByt) (A := A) st_len (fun i hi => hs _ (st_e1 i hi)) (fun i hi => hs _ (st_e2 i hi)) (fun i hi => hs _ (st_e3 i hi)) (fun i hi => hs _ (st_e4 i hi)) (fun i hi j hj => hs _ (st_e5 i hi j hj)) (fun i j hi hj hij => (st_e6 i hi j hj hij).elim (fun h => Or.inl (hs _ h)) (fun h => Or.inr (hs _ h))) hA
  have w (i : Nat) (w : Cond) (h : lw_tbl[i]? = some w) : w.before args s = true := hts _ (List.mem_of_getElem? h)
  refine ⟨tk, tv, h1, fun i hi => ?_, ?_, ?_, ?_, ?_, fun x hx => va_Nw.of (nt_on hx) (hts _ (List.mem_filter.mp hx).1), ⟨?_, ?_, ?_, ?_, ?_⟩⟩
  · obtain ⟨e1, e2⟩ := st_e7 i hi
    refine vk_R.of (A := args) (hts _ (List.mem_of_getElem? (st_e8 i hi))) ?_
    have e3 := h2 _ e1
    rcases e2 with e | e | e
    · rw [← e] at e3 ⊢
      exact e3
    · exact va_eqR (hs _ e) e3
    · exact va_eqv (hs _ e) e3
  · exact va_Zof (args := args) (w 361 _ (by decide +kernel)) (w 96 _ (by decide +kernel)) (va_eqi (hs (Cond.eq (.static "java/lang/String" "COMPACT_STRINGS" "Z") (.int 1)) (by decide +kernel))) hA
  · exact va_Zqof (args := args) (w 377 _ (by decide +kernel)) (w 98 _ (by decide +kernel)) (hs (Cond.isRef (.static "jdk/internal/util/Preconditions" "SIOOBE_FORMATTER" "Ljava/util/function/BiFunction;")) (by decide +kernel)) hA
  · exact vx_Zqof (args := args) (w 862 _ (by decide +kernel)) (w 104 _ (by decide +kernel)) (hs (Cond.isRef (.static "java/lang/Throwable" "UNASSIGNED_STACK" "[Ljava/lang/StackTraceElement;")) (by decide +kernel)) hA
  · exact vx_Zqof (args := args) (w 864 _ (by decide +kernel)) (w 104 _ (by decide +kernel)) (hs (Cond.isRef (.static "java/lang/Throwable" "SUPPRESSED_SENTINEL" "Ljava/util/List;")) (by decide +kernel)) hA
  · exact w 1137 (.arrayOver (.array .int)) (by decide +kernel)
  · exact w 203 (.arrayOver (.object RX2)) (by decide +kernel)
  · exact va_Nc.of (args := args) (hs (Cond.not (.castable "java/lang/IllegalStateException" "java/lang/IllegalArgumentException")) (by decide +kernel))
  · exact va_Nc.of (args := args) (hs (Cond.not (.castable "java/util/NoSuchElementException" "java/lang/IllegalArgumentException")) (by decide +kernel))
  · exact va_Nc.of (args := args) (hs (Cond.not (.castable "java/lang/IllegalArgumentException" "java/util/NoSuchElementException")) (by decide +kernel))
/-- the law's start, if the law's own function comes to its end -/
theorem start_of {p : Program} {e : Env} {s : State} {m : MethodId} {below : List Frame} {meth : Method} {c : Code} (l : Launch) (hflags : l.flags = flags0) {b L : Nat} {xs : Nat → Int32} (hL : L ≤ 3072) (hlaw : x_L_law (fun _ j => (xs j).toInt) L (fun _ _ => 0) = some ()) (C0 : lw_At p s m meth c b L xs) : W p l e room_1 s m #[Value.ref b] below meth c s.heap [] 0 0 (lw_Z below #[Value.ref b] s) (entryFrame m ([Value.ref b] : List Value).toArray 10) := by
  obtain ⟨hx, hb, hr, hml, hown, hts, hX, hbl, hlocks, hgv⟩ := C0
  have hl : l.stackTraces = false := by
    unfold Launch.stackTraces
    rw [hflags]
    decide +kernel
  obtain ⟨D, y, hK⟩ := st_K hts
  have hA : ∀ a : Nat, a < s.heap.size → ¬ (fun q : Nat => s.heap.size ≤ q) a := fun a h => Nat.not_le.mpr h
  obtain ⟨tk, tv, hO⟩ := st_O hts hgv hA
  have hle := lv_entry ([.ref b]) (n := 10) (Nat.le_of_ble_eq_true rfl)
  rw [lg_entry_eq]
  have hnone : ∀ (k : Nat) (q : Zs), shLg[k]? = some q → zx (fun _ _ => 0) q.2.2.2 → False := by
    intro k q hq hx
    have h1 := List.all_eq_true.mp (show shLg.all (fun q => q.2.2.2.isSome) = true by decide +kernel) q (List.mem_of_getElem? hq)
    cases hg : q.2.2.2 with
    | none => rw [hg] at h1; cases h1
    | some g => rw [hg] at hx; exact hx rfl
  have hX2 : va_X b L (fun j => zJ ((fun (_ : Nat) (j : Nat) => (xs j).toInt) 0 j)) s s.heap := by
    have e : (fun j => zJ ((fun (_ : Nat) (j : Nat) => (xs j).toInt) 0 j)) = xs := funext (fun j => zJ_toInt (xs j))
    rw [e]
    exact hX
  have h := law_pt l hl (nm := meth.name) hlaw (Γ := (p, l, e, room_1, s, m, #[Value.ref b], below, meth, c, D, y, tk, tv, fun _ => 0, fun q => s.heap.size ≤ q, fun _ _ => 0, 0, 0, lw_Z below #[Value.ref b] s))
    ⟨hx, hb, hml, hown, fun w hw => hts w (gt_in hw), hK, ⟨fun i j p q hp hq hxp _ _ => (hnone i p hp hxp).elim, fun k q hq hx => (hnone k q hq hx).elim⟩, fun _ h => h, rfl, hlocks, hO⟩ (Or.inl ⟨rfl, rfl, hX2, hbl, rfl, rfl, hr, hL⟩) ⟨rfl, rfl, rfl, rfl⟩
  exact h s.heap [] _ (fun k q hq hx => (hnone k q hq hx).elim) (fun _ _ _ h => h) va_S.rf hle
