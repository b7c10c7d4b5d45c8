/-! Calls -/
/-- the pool entry idx of own is the method y, called on an object of C -/
def LKV (own : String) (idx : Nat) (C : String) (y : MethodName) (b : ByteArray) (n : Nat) (ret : Option FieldType) (np : Nat) : Prop :=
  (Cond.methodLink own idx y ∈ GT ∨ ∃ host : String, Cond.methodLinkNest own idx y host ∈ NT) ∧ Cond.instanceMethod y ∈ GT ∧ Cond.selects C y y ∈ GT ∧ Cond.initialized C ∈ GT ∧ Cond.code y b n ret ∈ GT ∧ (y.cls = C ∧ y.cls ≠ "java/lang/invoke/MethodHandle" ∧ y.cls ≠ "java/lang/invoke/VarHandle" ∧ (parseMethodDescriptor y.desc).map (fun d => d.parameters.length) = some np)
def LKS (own : String) (idx : Nat) (y : MethodName) (b : ByteArray) (n : Nat) (ret : Option FieldType) (np : Nat) : Prop :=
  (Cond.methodLink own idx y ∈ GT ∨ ∃ host : String, Cond.methodLinkNest own idx y host ∈ NT) ∧ Cond.static y ∈ GT ∧ Cond.initialized y.cls ∈ GT ∧ Cond.code y b n ret ∈ GT ∧ (y.cls ≠ "java/lang/invoke/MethodHandle" ∧ y.cls ≠ "java/lang/invoke/VarHandle" ∧ (parseMethodDescriptor y.desc).map (fun d => d.parameters.length) = some np)
theorem ws_good {y : MethodName} {b : ByteArray} {n : Nat} {ret : Option FieldType} (h : Cond.code y b n ret ∈ GT) : GoodIn GT (WS y b n ret) := gt_sub (fun w hw => (List.mem_cons.mp hw).elim (fun e => by rw [e]; exact h) id)
theorem pcw_blind {D : va_G} {yy : Nat → ClassId} {tk tv : Nat → Nat} {sh : Sh} {a : Nat → Nat} {σ : Mm} {sz : Nat} {As : List Value} : FrameBlind (PcW D yy tk tv sh a σ sz As) := fun v U g mk q => by
  obtain ⟨q0, q1, q2, q3, q4, q5⟩ := q
  exact ⟨q0, q1, q2, va_K.moved (u := U) (U := U.calling g mk v) (Vm.Alike.refl U.vm) q3, q4, OX.same (s := U) (U := U.calling g mk v) rfl q5⟩
section CLL
variable {Γ : Cx} {cc : ByteArray} {own : String} {nL : Nat} {rm : Room} {sh : Sh} {pc : Nat} {σ : Mm} {lv : List (Nat × Value)} {st : List Value}
theorem pcw_at (G : Gd Γ cc own nL rm sh) {s1 : Sh} {l : List Nat} (hz : zk s1 sh l = true) (hx : Zx sh l σ) {H : Heap} (hW : HW (gD Γ) (gy Γ) sh (ga Γ) σ H) (hN : NE sh (go Γ) σ) {locs : List Loc} (hS : va_S (gA Γ) (gs Γ).heap H locs) (As : List Value) : ∀ U : State, U.heap = H → (gs Γ).WarmedH U.vm → PcW (gD Γ) (gy Γ) (gk Γ) (gv Γ) s1 (fun i => ga Γ (zp l i)) (fun i => σ (zp l i)) H.size As As.toArray U := fun U hU hw => by
  subst hU
  exact ⟨rfl, rfl, zin_W hz hx hW, va_K.moved hw.alike G.2.2.2.2.2.1, zin_P hz hx hN G.2.2.2.2.2.2.1, ((OX.warm hw G.2.2.2.2.2.2.2.2.2.2).kept hS.2.1).narrow (zin_A hz hx hN G.2.2.2.2.2.2.1 G.2.2.2.2.2.2.2.1 hS)⟩
/-- behind a call that a contract speaks of -/
theorem run_go (G : Gd Γ cc own nL rm sh) {s1 : Sh} {l : List Nat} (hz : zk s1 sh l = true) (hx : Zx sh l σ) {σ1 : Mm} {ov : Option Value} {H : Heap} {locs : List Loc} {ls : Array Slot} {stk rest : List Value} {argv : Array Value} (hW : HW (gD Γ) (gy Γ) sh (ga Γ) σ H) (hN : NE sh (go Γ) σ) (hS : va_S (gA Γ) (gs Γ).heap H locs) (hl : lv_has ls nL lv)
    (hr : va_Run (gp Γ) (gl Γ) (ge Γ) (gR Γ) (gs Γ) (gm Γ) (gargs Γ) (gbelow Γ) (gmeth Γ) (gc Γ) H locs (gmc Γ) (gms Γ) 0 0 (F0 (gm Γ) pc ls stk) rest (QcW (gD Γ) (gy Γ) s1 (fun i => ga Γ (zp l i)) (fun i => σ (zp l i)) H.size σ1 ov argv) (aW s1 (fun i => ga Γ (zp l i)) (fun i => σ (zp l i)) H.size))
    (k : PT Γ nL sh (pc + 3) (zj l σ σ1) lv (ov.toList ++ rest)) : gW Γ H locs pc ls stk := by
  intro T hT X
  obtain ⟨v, st₀, t, T', L, h0, X', hL, e1, e2, ⟨hv, hW1, hN1, hz1, hF⟩, stp⟩ := hr T hT X
  cases hv
  rw [h0] at hz1 hF
  rw [← e1] at hW1 hz1 hF
  obtain ⟨g1, g2⟩ := zout_W hz hx hW hN G.2.2.2.2.2.2.1 hW1 hN1 hF
  have hA := zin_A hz hx hN G.2.2.2.2.2.2.1 G.2.2.2.2.2.2.2.1 hS
  have hS1 : va_S (gA Γ) (gs Γ).heap T'.heap (locs ++ L) := ⟨Nat.le_trans hS.1 hz1, fun q h1 h2 => by
    rw [hF q (Nat.lt_of_lt_of_le h1 hS.1) (fun z => h2 (hA q z))]
    exact hS.2.1 q h1 h2, fun q hq => by
    rcases List.mem_append.mp hq with h | h
    · exact hS.2.2 q h
    · exact hA _ (hL q h)⟩
  obtain ⟨t2, a1, b1⟩ := k T'.heap (locs ++ L) ls g1 (hN.trans g2) hS1 hl T' rfl X'
  exact ⟨t2, stp t2 a1, b1⟩
/-- invokevirtual: receiver the cell k0 -/
theorem p_callV (G : Gd Γ cc own nL rm sh) {idx : Nat} {C : String} {y : MethodName} {b : ByteArray} {n : Nat} {ret : Option FieldType} {np : Nat} {rm1 : Room} {s1 : Sh} (l : List Nat) {k0 ci n0 : Nat} {t0 : Zc} {As stk : List Value} {σ1 : Mm} {ov : Option Value}
    (hd : decode cc pc = .ok (.invokevirtual idx, 3)) (hL : LKV own idx C y b n ret np) (hM : CT (gl Γ) y b n ret rm1 s1 (gD Γ) (gy Γ) (gk Γ) (gv Γ) (fun i => ga Γ (zp l i)) (fun i => σ (zp l i)) (.ref (ga Γ k0) :: As) σ1 ov) (hstk : stk = As.reverse ++ .ref (ga Γ k0) :: st) (hz : zk s1 sh l = true) (hx : Zx sh l σ)
    (hk : sh[k0]? = some (10 + ci, n0, t0, none)) (hC : vwCl[ci]?.map (fun q => q.1) = some C) (hnp : As.length = np) (h8 : (st.map fun v => v.category).sum ≤ 8)
    (hrm : rm1.cells = 0 ∧ rm1.slots = 0 ∧ rm1.frames + 1 ≤ rm.frames ∧ 8 + (n + 11) + rm1.locals ≤ rm.locals) (hcs : gmc Γ ≤ (gR Γ).cells ∧ gms Γ ≤ (gR Γ).slots)
    (k : PT Γ nL sh (pc + 3) (zj l σ σ1) lv (ov.toList ++ st)) : PT Γ nL sh pc σ lv stk := fun H locs ls hW hN hS hl => by
  subst hstk
  obtain ⟨hlk, hin, hse, hini, hcode, hy⟩ := hL
  have S : CallFix (gp Γ) (gm Γ) (gc Γ) cc nL (gs Γ) (gargs Γ) GT own := ⟨G.1, G.2.1, G.2.2.1, G.2.2.2.1, G.2.2.2.2.1⟩
  have hts := G.2.2.2.2.1
  have hR := G.2.2.2.2.2.2.2.2.1
  have hcell := hW k0 _ hk trivial
  have hrecv : ∃ cellB : Cell, H[ga Γ k0]? = some cellB ∧ cellB.vm.isStatics = false ∧ (gs Γ).vm.findClass C = some cellB.cls := by
    unfold zC at hcell
    rw [if_neg (by show ¬ (10 + ci < 10); omega)] at hcell
    have e : 10 + ci - 10 = ci := by omega
    simp only [e] at hcell
    obtain ⟨cell, q1, q2, q3, q4⟩ := hcell
    cases hq : vwCl[ci]? with
    | none => rw [hq] at hC; cases hC
    | some q =>
      rw [hq] at hC
      have hC2 : q.1 = C := by simpa using hC
      obtain ⟨-, hfc, -⟩ := G.2.2.2.2.2.1.1 ci _ hq
      refine ⟨cell, q1, by rw [q3]; rfl, ?_⟩
      rw [← hC2, q2]
      exact hfc
  have hpv : PreV (gs Γ) H C (ga Γ k0) (PcW (gD Γ) (gy Γ) (gk Γ) (gv Γ) s1 (fun i => ga Γ (zp l i)) (fun i => σ (zp l i)) H.size (.ref (ga Γ k0) :: As)) As := ⟨pcw_blind, hrecv, pcw_at G hz hx hW hN hS _⟩
  have hroom : rm1.frames + 1 ≤ (gR Γ).frames ∧ 8 + (n + 11) + rm1.locals ≤ (gR Γ).locals := by rw [hR]; exact hrm.2.2
  rcases hlk with hlk | ⟨host, hlk⟩
  · have cw : CallW (gR Γ) (gs Γ) (gargs Γ) own C idx y b n ret (WS y b n ret) rm1 0 0 np := ⟨callB_of np hts (ws_good hcode) rfl hrm.1 hrm.2.1 (by rw [hy.1]; exact hts _ hini) (hts _ hlk) hy.2 hroom, hts _ hin, hts _ hse⟩
    exact run_go G hz hx hW hN hS hl (va_runV S (hM H.size) cw hpv rfl hnp hl.1 rfl (lv_room h8) hd hcs) k
  · have cw := va_cnB (R := gR Γ) (s := gs Γ) (args := gargs Γ) np hts (ws_good hcode) rfl hrm.1 hrm.2.1 (va_Nw.of rfl (gd_n G hlk)) (by rw [hy.1]; exact hts _ hini) hy.2 hroom
    exact run_go G hz hx hW hN hS hl (va_runVN S (hM H.size) ⟨cw, hts _ hin, hts _ hse⟩ hpv rfl hnp hl.1 rfl (lv_room h8) hd hcs) k
/-- invokestatic -/
theorem p_callS (G : Gd Γ cc own nL rm sh) {idx : Nat} {y : MethodName} {b : ByteArray} {n : Nat} {ret : Option FieldType} {np : Nat} {rm1 : Room} {s1 : Sh} (l : List Nat) {As stk : List Value} {σ1 : Mm} {ov : Option Value}
    (hd : decode cc pc = .ok (.invokestatic idx, 3)) (hL : LKS own idx y b n ret np) (hM : CT (gl Γ) y b n ret rm1 s1 (gD Γ) (gy Γ) (gk Γ) (gv Γ) (fun i => ga Γ (zp l i)) (fun i => σ (zp l i)) As σ1 ov) (hstk : stk = As.reverse ++ st) (hz : zk s1 sh l = true) (hx : Zx sh l σ)
    (hnp : As.length = np) (h8 : (st.map fun v => v.category).sum ≤ 8)
    (hrm : rm1.cells = 0 ∧ rm1.slots = 0 ∧ rm1.frames + 1 ≤ rm.frames ∧ 8 + (n + 11) + rm1.locals ≤ rm.locals) (hcs : gmc Γ ≤ (gR Γ).cells ∧ gms Γ ≤ (gR Γ).slots)
    (k : PT Γ nL sh (pc + 3) (zj l σ σ1) lv (ov.toList ++ st)) : PT Γ nL sh pc σ lv stk := fun H locs ls hW hN hS hl => by
  subst hstk
  obtain ⟨hlk, hstat, hini, hcode, hy⟩ := hL
  have S : CallFix (gp Γ) (gm Γ) (gc Γ) cc nL (gs Γ) (gargs Γ) GT own := ⟨G.1, G.2.1, G.2.2.1, G.2.2.2.1, G.2.2.2.2.1⟩
  have hts := G.2.2.2.2.1
  have hR := G.2.2.2.2.2.2.2.2.1
  have hpv : PreS (gs Γ) H (PcW (gD Γ) (gy Γ) (gk Γ) (gv Γ) s1 (fun i => ga Γ (zp l i)) (fun i => σ (zp l i)) H.size As) As := ⟨pcw_blind, pcw_at G hz hx hW hN hS _⟩
  have hroom : rm1.frames + 1 ≤ (gR Γ).frames ∧ 8 + (n + 11) + rm1.locals ≤ (gR Γ).locals := by rw [hR]; exact hrm.2.2
  rcases hlk with hlk | ⟨host, hlk⟩
  · have cw : CallB (gR Γ) (gs Γ) (gargs Γ) own idx y b n ret (WS y b n ret) rm1 0 0 np := callB_of np hts (ws_good hcode) rfl hrm.1 hrm.2.1 (hts _ hini) (hts _ hlk) hy hroom
    exact run_go G hz hx hW hN hS hl (va_runS S (hM H.size) ⟨cw, hts _ hstat⟩ hpv rfl hnp hl.1 rfl (lv_room h8) hd hcs) k
  · have cw := va_cnB (R := gR Γ) (s := gs Γ) (args := gargs Γ) np hts (ws_good hcode) rfl hrm.1 hrm.2.1 (va_Nw.of rfl (gd_n G hlk)) (hts _ hini) hy hroom
    exact run_go G hz hx hW hN hS hl (va_runSN S (hM H.size) ⟨cw, hts _ hstat, trivial⟩ hpv rfl hnp hl.1 rfl (lv_room h8) hd hcs) k
end CLL
