/-! A made text: the builder's world, its contracts -/
def shV (m : Nat) : Sh := [(2, m, ([], 0, 0), none)]
def shB (m : Nat) : Sh := [(11, 4, ([5, 0, 0, 0], 0, 0), none), (2, m, ([], 0, 0), none)]
def adB (b v : Nat) : Nat → Nat := fun i => if i = 0 then b else v
theorem shB_at {m k : Nat} {q : Zs} (h : (shB m)[k]? = some q) : (k = 0 ∧ q = (11, 4, ([5, 0, 0, 0], 0, 0), none)) ∨ (k = 1 ∧ q = (2, m, ([], 0, 0), none)) := by
  match k, h with
  | 0, h => cases h; exact .inl ⟨rfl, rfl⟩
  | 1, h => cases h; exact .inr ⟨rfl, rfl⟩
  | k + 2, h => simp [shB] at h
theorem shB_none {m k : Nat} {q : Zs} (h : (shB m)[k]? = some q) : q.2.2.2 = none := by
  rcases shB_at h with ⟨-, e⟩ | ⟨-, e⟩ <;> rw [e]
theorem sel_sub {y : MethodName} {C : String} {s : State} {args : Array Value} {n : Nat} (hy : y.cls ≠ "java/lang/invoke/MethodHandle" ∧ y.cls ≠ "java/lang/invoke/VarHandle")
    (hins : (Cond.instantiable C n).before args s = true) (hsame : (Cond.sameMethod y.cls y.cls y.name y.desc).before args s = true) (hpriv : (Cond.privateMethod y).before args s = true) (hinst : (Cond.instanceMethod y).before args s = true) : (Cond.selects C y y).before args s = true := by
  obtain ⟨c, k, hc, hk, -, hniab, -, -⟩ := Cond.instantiable_spec hins
  obtain ⟨mk, methM, hnamed, hmethM, -, -⟩ := Cond.instanceMethod_spec hinst
  have hfound : s.methodFound? y.cls y.name y.desc = some mk := State.methodFound?_of_named hnamed hy
  have hsel : selectMethod {} s.vm c mk = .method mk := selectMethod_private hmethM (Cond.privateMethod_at hpriv mk methM hnamed hmethM)
  obtain ⟨-, kA, hkA, hni⟩ := Cond.sameMethod_spec (findClass_of_methodNamed hnamed) hfound hsame
  simp only [Cond.before, Cond.holds, Cond.value, hc, hfound, hnamed, hsel, hkA]
  simp; exact hni
/-- a method of the builder's superclass, called on a builder -/
def LKU (own : String) (idx : Nat) (y : MethodName) (b : ByteArray) (n : Nat) (ret : Option FieldType) (np : Nat) : Prop :=
  Cond.methodLink own idx y ∈ GT ∧ Cond.sameMethod y.cls y.cls y.name y.desc ∈ GT ∧ (Cond.selects "java/lang/StringBuilder" y y ∈ GT ∨ (Cond.privateMethod y ∈ GT ∧ Cond.instantiable "java/lang/StringBuilder" 4 ∈ GT)) ∧ Cond.instanceMethod y ∈ GT ∧ Cond.initialized y.cls ∈ GT ∧ Cond.code y b n ret ∈ GT ∧ (y.cls ≠ "java/lang/invoke/MethodHandle" ∧ y.cls ≠ "java/lang/invoke/VarHandle" ∧ (parseMethodDescriptor y.desc).map (fun d => d.parameters.length) = some np)
/-- super.y(..) -/
def LKW (own : String) (idx : Nat) (y : MethodName) (b : ByteArray) (n : Nat) (ret : Option FieldType) (np : Nat) : Prop :=
  Cond.methodLink own idx y ∈ GT ∧ Cond.sameMethod y.cls y.cls y.name y.desc ∈ GT ∧ Cond.superclass own y.cls ∈ GT ∧ Cond.instanceMethod y ∈ GT ∧ Cond.initialized y.cls ∈ GT ∧ Cond.code y b n ret ∈ GT ∧ (y.name ≠ "<init>" ∧ (parseMethodDescriptor y.desc).map (fun d => d.parameters.length) = some np)
section SBR
variable {Γ : Cx} {cc : ByteArray} {own : String} {nL : Nat} {rm : Room} {sh : Sh} {pc : Nat} {σ : Mm} {lv : List (Nat × Value)} {st : List Value}
variable {idx : Nat} {y : MethodName} {b : ByteArray} {n : Nat} {ret : Option FieldType} {np : Nat} {rm1 : Room} {As rest : List Value} {H : Heap} {locs : List Loc} {ls : Array Slot} {Pc : Array Value → State → Prop} {Qc : Array Value → State → Outcome → State → Prop} {free : Addr → Prop} {mc1 ms1 b0 : Nat}
theorem r_U (G : Gd Γ cc own nL rm sh) (hd : decode cc pc = .ok (.invokevirtual idx, 3)) (hL : LKU own idx y b n ret np) (hC : Met (gl Γ) y (WS y b n ret) rm1 Pc Qc mc1 ms1 free) (hp : PreV (gs Γ) H "java/lang/StringBuilder" b0 Pc As) (hnp : As.length = np) (h8 : (rest.map fun v => v.category).sum ≤ 8) (hls : ls.size = nL)
    (hrm : rm1.cells = mc1 ∧ rm1.slots = ms1 ∧ rm1.frames + 1 ≤ rm.frames ∧ 8 + (n + 11) + rm1.locals ≤ rm.locals) (hcs : gmc Γ + mc1 ≤ (gR Γ).cells ∧ gms Γ + ms1 ≤ (gR Γ).slots) :
    va_Run (gp Γ) (gl Γ) (ge Γ) (gR Γ) (gs Γ) (gm Γ) (gargs Γ) (gbelow Γ) (gmeth Γ) (gc Γ) H locs (gmc Γ) (gms Γ) mc1 ms1 (F0 (gm Γ) pc ls (As.reverse ++ .ref b0 :: rest)) rest (Qc (Value.ref b0 :: As).toArray) free := by
  obtain ⟨h1, h2, h3, h4, h5, h6, h7⟩ := hL
  have S : CallFix (gp Γ) (gm Γ) (gc Γ) cc nL (gs Γ) (gargs Γ) GT own := ⟨G.1, G.2.1, G.2.2.1, G.2.2.2.1, G.2.2.2.2.1⟩
  have hts := G.2.2.2.2.1
  have hroom : rm1.frames + 1 ≤ (gR Γ).frames ∧ 8 + (n + 11) + rm1.locals ≤ (gR Γ).locals := by rw [G.2.2.2.2.2.2.2.2.1]; exact hrm.2.2
  have hsel : (Cond.selects "java/lang/StringBuilder" y y).before (gargs Γ) (gs Γ) = true := by
    rcases h3 with h3 | ⟨h3, h9⟩
    · exact hts _ h3
    · exact sel_sub ⟨h7.1, h7.2.1⟩ (hts _ h9) (hts _ h2) (hts _ h3) (hts _ h4)
  have cw : va_CU (gR Γ) (gs Γ) (gargs Γ) own "java/lang/StringBuilder" y.cls idx y y b n ret (WS y b n ret) rm1 mc1 ms1 np := ⟨⟨hrm.1, hrm.2.1, hroom.1, hroom.2, pay_in hts (ws_good h6), List.mem_cons_self⟩, hts _ h6, hts _ h5, ⟨h7.1, h7.2.1⟩, fun sig h => by
    have h2 := h7.2.2
    rw [h] at h2
    exact (Option.some.inj h2).symm, hts _ h1, hts _ h2, va_Decl.of (hts _ h4) (hts _ h6), hsel, hts _ h4⟩
  exact va_runU S hC cw hp rfl hnp hls rfl (lv_room h8) hd hcs
theorem r_W (G : Gd Γ cc own nL rm sh) (hd : decode cc pc = .ok (.invokespecial idx, 3)) (hL : LKW own idx y b n ret np) (hC : Met (gl Γ) y (WS y b n ret) rm1 Pc Qc mc1 ms1 free) (hp : PreV (gs Γ) H "java/lang/StringBuilder" b0 Pc As) (hnp : As.length = np) (h8 : (rest.map fun v => v.category).sum ≤ 8) (hls : ls.size = nL)
    (hrm : rm1.cells = mc1 ∧ rm1.slots = ms1 ∧ rm1.frames + 1 ≤ rm.frames ∧ 8 + (n + 11) + rm1.locals ≤ rm.locals) (hcs : gmc Γ + mc1 ≤ (gR Γ).cells ∧ gms Γ + ms1 ≤ (gR Γ).slots) :
    va_Run (gp Γ) (gl Γ) (ge Γ) (gR Γ) (gs Γ) (gm Γ) (gargs Γ) (gbelow Γ) (gmeth Γ) (gc Γ) H locs (gmc Γ) (gms Γ) mc1 ms1 (F0 (gm Γ) pc ls (As.reverse ++ .ref b0 :: rest)) rest (Qc (Value.ref b0 :: As).toArray) free := by
  obtain ⟨h1, h2, h3, h4, h5, h6, h7⟩ := hL
  have S : CallFix (gp Γ) (gm Γ) (gc Γ) cc nL (gs Γ) (gargs Γ) GT own := ⟨G.1, G.2.1, G.2.2.1, G.2.2.2.1, G.2.2.2.2.1⟩
  have hts := G.2.2.2.2.1
  have hroom : rm1.frames + 1 ≤ (gR Γ).frames ∧ 8 + (n + 11) + rm1.locals ≤ (gR Γ).locals := by rw [G.2.2.2.2.2.2.2.2.1]; exact hrm.2.2
  have cw : va_CS (gR Γ) (gs Γ) (gargs Γ) own idx y b n ret (WS y b n ret) rm1 mc1 ms1 np := ⟨⟨hrm.1, hrm.2.1, hroom.1, hroom.2, pay_in hts (ws_good h6), List.mem_cons_self⟩, hts _ h1, hts _ h2, hts _ h3, hts _ h4, hts _ h5, hts _ h6, h7.1, fun sig h => by
    have h2 := h7.2
    rw [h] at h2
    exact (Option.some.inj h2).symm⟩
  obtain ⟨-, hfc, kC, hkC, hkind⟩ := G.2.2.2.2.2.1.1 1 _ rfl
  exact va_runSU (C := "java/lang/StringBuilder") ⟨hfc, kC, hkC, hkind⟩ S hC cw hp rfl hnp hls rfl (lv_room h8) hd hcs
theorem r_V (G : Gd Γ cc own nL rm sh) {C : String} (hd : decode cc pc = .ok (.invokevirtual idx, 3)) (hL : LKV own idx C y b n ret np) (hC : Met (gl Γ) y (WS y b n ret) rm1 Pc Qc mc1 ms1 free) (hp : PreV (gs Γ) H C b0 Pc As) (hnp : As.length = np) (h8 : (rest.map fun v => v.category).sum ≤ 8) (hls : ls.size = nL)
    (hrm : rm1.cells = mc1 ∧ rm1.slots = ms1 ∧ rm1.frames + 1 ≤ rm.frames ∧ 8 + (n + 11) + rm1.locals ≤ rm.locals) (hcs : gmc Γ + mc1 ≤ (gR Γ).cells ∧ gms Γ + ms1 ≤ (gR Γ).slots) :
    va_Run (gp Γ) (gl Γ) (ge Γ) (gR Γ) (gs Γ) (gm Γ) (gargs Γ) (gbelow Γ) (gmeth Γ) (gc Γ) H locs (gmc Γ) (gms Γ) mc1 ms1 (F0 (gm Γ) pc ls (As.reverse ++ .ref b0 :: rest)) rest (Qc (Value.ref b0 :: As).toArray) free := by
  obtain ⟨hlk, hin, hse, hini, hcode, hy⟩ := hL
  have S : CallFix (gp Γ) (gm Γ) (gc Γ) cc nL (gs Γ) (gargs Γ) GT own := ⟨G.1, G.2.1, G.2.2.1, G.2.2.2.1, G.2.2.2.2.1⟩
  have hts := G.2.2.2.2.1
  have hroom : rm1.frames + 1 ≤ (gR Γ).frames ∧ 8 + (n + 11) + rm1.locals ≤ (gR Γ).locals := by rw [G.2.2.2.2.2.2.2.2.1]; exact hrm.2.2
  rcases hlk with hlk | ⟨host, hlk⟩
  · have cw : CallW (gR Γ) (gs Γ) (gargs Γ) own C idx y b n ret (WS y b n ret) rm1 mc1 ms1 np := ⟨callB_of np hts (ws_good hcode) rfl hrm.1 hrm.2.1 (by rw [hy.1]; exact hts _ hini) (hts _ hlk) hy.2 hroom, hts _ hin, hts _ hse⟩
    exact va_runV S hC cw hp rfl hnp hls rfl (lv_room h8) hd hcs
  · have cw := va_cnB (R := gR Γ) (s := gs Γ) (args := gargs Γ) np hts (ws_good hcode) rfl hrm.1 hrm.2.1 (va_Nw.of rfl (gd_n G hlk)) (by rw [hy.1]; exact hts _ hini) hy.2 hroom
    exact va_runVN S hC ⟨cw, hts _ hin, hts _ hse⟩ hp rfl hnp hls rfl (lv_room h8) hd hcs
theorem r_S (G : Gd Γ cc own nL rm sh) (hd : decode cc pc = .ok (.invokestatic idx, 3)) (hL : LKS own idx y b n ret np) (hC : Met (gl Γ) y (WS y b n ret) rm1 Pc Qc mc1 ms1 free) (hp : PreS (gs Γ) H Pc As) (hnp : As.length = np) (h8 : (rest.map fun v => v.category).sum ≤ 8) (hls : ls.size = nL)
    (hrm : rm1.cells = mc1 ∧ rm1.slots = ms1 ∧ rm1.frames + 1 ≤ rm.frames ∧ 8 + (n + 11) + rm1.locals ≤ rm.locals) (hcs : gmc Γ + mc1 ≤ (gR Γ).cells ∧ gms Γ + ms1 ≤ (gR Γ).slots) :
    va_Run (gp Γ) (gl Γ) (ge Γ) (gR Γ) (gs Γ) (gm Γ) (gargs Γ) (gbelow Γ) (gmeth Γ) (gc Γ) H locs (gmc Γ) (gms Γ) mc1 ms1 (F0 (gm Γ) pc ls (As.reverse ++ rest)) rest (Qc As.toArray) free := by
  obtain ⟨hlk, hstat, hini, hcode, hy⟩ := hL
  have S : CallFix (gp Γ) (gm Γ) (gc Γ) cc nL (gs Γ) (gargs Γ) GT own := ⟨G.1, G.2.1, G.2.2.1, G.2.2.2.1, G.2.2.2.2.1⟩
  have hts := G.2.2.2.2.1
  have hroom : rm1.frames + 1 ≤ (gR Γ).frames ∧ 8 + (n + 11) + rm1.locals ≤ (gR Γ).locals := by rw [G.2.2.2.2.2.2.2.2.1]; exact hrm.2.2
  rcases hlk with hlk | ⟨host, hlk⟩
  · have cw : CallB (gR Γ) (gs Γ) (gargs Γ) own idx y b n ret (WS y b n ret) rm1 mc1 ms1 np := callB_of np hts (ws_good hcode) rfl hrm.1 hrm.2.1 (hts _ hini) (hts _ hlk) hy hroom
    exact va_runS S hC ⟨cw, hts _ hstat⟩ hp rfl hnp hls rfl (lv_room h8) hd hcs
  · have cw := va_cnB (R := gR Γ) (s := gs Γ) (args := gargs Γ) np hts (ws_good hcode) rfl hrm.1 hrm.2.1 (va_Nw.of rfl (gd_n G hlk)) (hts _ hini) hy hroom
    exact va_runSN S hC ⟨cw, hts _ hstat, trivial⟩ hp rfl hnp hls rfl (lv_room h8) hd hcs
/-- a constructor -/
theorem r_I (G : Gd Γ cc own nL rm sh) (hd : decode cc pc = .ok (.invokespecial idx, 3)) (h1 : Cond.methodLink own idx y ∈ GT) (h2 : y.name = "<init>") (h3 : Cond.instanceMethod y ∈ GT) (h4 : Cond.initialized y.cls ∈ GT) (h5 : Cond.code y b n none ∈ GT) (hy : y.cls ≠ "java/lang/invoke/MethodHandle" ∧ y.cls ≠ "java/lang/invoke/VarHandle" ∧ (parseMethodDescriptor y.desc).map (fun d => d.parameters.length) = some np) (hC : Met (gl Γ) y (WS y b n none) rm1 Pc Qc mc1 ms1 free) (hp : PreS (gs Γ) H Pc (.ref b0 :: As)) (hnp : As.length = np) (h8 : (rest.map fun v => v.category).sum ≤ 8) (hls : ls.size = nL)
    (hrm : rm1.cells = mc1 ∧ rm1.slots = ms1 ∧ rm1.frames + 1 ≤ rm.frames ∧ 8 + (n + 11) + rm1.locals ≤ rm.locals) {cells slots : Nat} (hcs : cells + mc1 ≤ (gR Γ).cells ∧ slots + ms1 ≤ (gR Γ).slots) :
    va_Run (gp Γ) (gl Γ) (ge Γ) (gR Γ) (gs Γ) (gm Γ) (gargs Γ) (gbelow Γ) (gmeth Γ) (gc Γ) H locs cells slots mc1 ms1 (F0 (gm Γ) pc ls (As.reverse ++ .ref b0 :: rest)) rest (Qc (Value.ref b0 :: As).toArray) free := by
  have S : CallFix (gp Γ) (gm Γ) (gc Γ) cc nL (gs Γ) (gargs Γ) GT own := ⟨G.1, G.2.1, G.2.2.1, G.2.2.2.1, G.2.2.2.2.1⟩
  have hts := G.2.2.2.2.1
  have hroom : rm1.frames + 1 ≤ (gR Γ).frames ∧ 8 + (n + 11) + rm1.locals ≤ (gR Γ).locals := by rw [G.2.2.2.2.2.2.2.2.1]; exact hrm.2.2
  have cw : CallB (gR Γ) (gs Γ) (gargs Γ) own idx y b n none (WS y b n none) rm1 mc1 ms1 np := callB_of np hts (ws_good h5) rfl hrm.1 hrm.2.1 (hts _ h4) (hts _ h1) hy hroom
  exact va_runI S hC ⟨cw, h2, hts _ h3⟩ hp rfl hnp hls rfl (lv_room h8) hd hcs
/-- the world as a callee over the same world has it -/
theorem pcw_same (G : Gd Γ cc own nL rm sh) (hW : HW (gD Γ) (gy Γ) sh (ga Γ) σ H) (hN : NE sh (go Γ) σ) (hS : va_S (gA Γ) (gs Γ).heap H locs) : (∀ U : State, U.heap = H → (gs Γ).WarmedH U.vm → PcW (gD Γ) (gy Γ) (gk Γ) (gv Γ) sh (ga Γ) σ H.size As As.toArray U) ∧ ∀ q, aW sh (ga Γ) σ H.size q → gA Γ q := by
  have hA : ∀ q, aW sh (ga Γ) σ H.size q → gA Γ q := fun q hq => by
    rcases hq with ⟨k, p, hp, hx, rfl⟩ | hq
    · exact G.2.2.2.2.2.2.1.2 k p hp (hN k p hp hx)
    · exact G.2.2.2.2.2.2.2.1 q (Nat.le_trans hS.1 hq)
  refine ⟨fun U hU hw => ?_, hA⟩
  subst hU
  exact ⟨rfl, rfl, hW, va_K.moved hw.alike G.2.2.2.2.2.1, ⟨fun i j p q hp hq hxp hxq e => G.2.2.2.2.2.2.1.1 i j p q hp hq (hN i p hp hxp) (hN j q hq hxq) e, fun _ _ _ _ => trivial⟩, ((OX.warm hw G.2.2.2.2.2.2.2.2.2.2).kept hS.2.1).narrow hA⟩
/-- an inherited method over the same world, which makes nothing -/
theorem p_callUi (G : Gd Γ cc own nL rm sh) {n0 : Nat} {t0 : Zc} {stk : List Value} {σ1 : Mm} {ov : Option Value} {k0 : Nat} (hd : decode cc pc = .ok (.invokevirtual idx, 3)) (hL : LKU own idx y b n ret np) (hM : CT (gl Γ) y b n ret rm1 sh (gD Γ) (gy Γ) (gk Γ) (gv Γ) (ga Γ) σ (.ref (ga Γ k0) :: As) σ1 ov) (hstk : stk = As.reverse ++ .ref (ga Γ k0) :: st)
    (hk : sh[k0]? = some (11, n0, t0, none)) (hnp : As.length = np) (h8 : (st.map fun v => v.category).sum ≤ 8)
    (hrm : rm1.cells = 0 ∧ rm1.slots = 0 ∧ rm1.frames + 1 ≤ rm.frames ∧ 8 + (n + 11) + rm1.locals ≤ rm.locals) (hcs : gmc Γ ≤ (gR Γ).cells ∧ gms Γ ≤ (gR Γ).slots)
    (k : PT Γ nL sh (pc + 3) σ1 lv (ov.toList ++ st)) : PT Γ nL sh pc σ lv stk := fun H locs ls hW hN hS hl => by
  subst hstk
  have hrecv := recv_at (ci := 1) (C := "java/lang/StringBuilder") G hk rfl hW trivial
  exact run_goi G hN hS hl (r_U G hd hL (hM H.size) ⟨pcw_blind, hrecv, (pcw_same G hW hN hS).1⟩ hnp h8 hl.1 hrm hcs) k
end SBR
/-! contracts of methods that may take another row of bytes -/
def QB (D : va_G) (yy : Nat → ClassId) (m b v : Nat) (σ : Mm) (sz : Nat) (post : Nat → Mm → Prop) (ov : Option Value) : Array Value → State → Outcome → State → Prop := fun _ st oc t => oc = .returned ov ∧ ∃ (v' m' : Nat) (σ' : Mm), (v' = v ∨ sz ≤ v') ∧ HW D yy (shB m') (adB b v') σ' t.heap ∧ post m' σ' ∧ va_F (aW (shB m) (adB b v) σ sz) st t
def CB (l : Launch) (y : MethodName) (c : ByteArray) (n : Nat) (ret : Option FieldType) (rm : Room) (D : va_G) (yy : Nat → ClassId) (tk tv : Nat → Nat) (b v m : Nat) (σ : Mm) (As : List Value) (post : Nat → Mm → Prop) (ov : Option Value) (mc ms : Nat) : Prop :=
  ∀ sz : Nat, Met l y (WS y c n ret) rm (PcW D yy tk tv (shB m) (adB b v) σ sz As) (QB D yy m b v σ sz post ov) mc ms (aW (shB m) (adB b v) σ sz)
def RTB (Γ : Cx) (ret : Option FieldType) (m0 b v0 : Nat) (σ0 : Mm) (post : Nat → Mm → Prop) (ov : Option Value) (mc ms : Nat) : Prop :=
  (gmeth Γ).sig.returnType = ret ∧ gA Γ = aW (shB m0) (adB b v0) σ0 (gs Γ).heap.size ∧ gQ Γ = MQ (gbelow Γ) (QB (gD Γ) (gy Γ) m0 b v0 σ0 (gs Γ).heap.size post ov) (gargs Γ) (gs Γ) mc ms (aW (shB m0) (adB b v0) σ0 (gs Γ).heap.size) ∧ b < (gs Γ).heap.size ∧ ∃ v, ga Γ = adB b v ∧ (v = v0 ∨ (gs Γ).heap.size ≤ v)
set_option maxHeartbeats 1000000 in
theorem cb_of {l : Launch} {y : MethodName} {c : ByteArray} {n : Nat} {ret : Option FieldType} {rm : Room} {D : va_G} {yy : Nat → ClassId} {tk tv : Nat → Nat} {b v m : Nat} {σ : Mm} {Ar : (Nat → Nat) → (Nat → Nat) → List Value} {post : Nat → Mm → Prop} {ov : Option Value} {mc ms : Nat} (hy : plainName y.cls = true) (hn : (lg_sl (Ar (adB b v) tk)).length ≤ n)
    (body : ∀ Γ : Cx, Gd Γ c y.cls n rm (shB m) → go Γ = σ → Mk Γ (l, tk, tv) y.name 0 0 → RTB Γ ret m b v σ post ov mc ms → PT Γ n (shB m) 0 σ (lv_args 0 (Ar (ga Γ) (gk Γ))) []) : CB l y c n ret rm D yy tk tv b v m σ (Ar (adB b v) tk) post ov mc ms := by
  intro sz
  refine Met.ofW (cc := c) (maxL := n) (ret := ret) hy rfl ?_
  intro p e s m9 args below meth c9 s₁ B hml hv
  obtain ⟨rfl, rfl, hW, hK, hP, hO⟩ := hv
  have hts : ∀ w ∈ WS y c n ret, w.before (Ar (adB b v) tk).toArray s = true := atoms_spec (ws := WS y c n ret) B.pre
  have hown : s.vm.findClass y.cls = some m9.cls := findClass_of_methodNamed B.named
  have hl := lv_entry (Ar (adB b v) tk) (n := n) hn
  rw [lg_entry_eq]
  have hb : b < s.heap.size := zC_lt (hW 0 _ rfl trivial)
  have h := body (p, l, e, (headSpec (WS y c n ret) rm).room, s, m9, (Ar (adB b v) tk).toArray, below, meth, c9, D, yy, tk, tv, adB b v, aW (shB m) (adB b v) σ s.heap.size, σ, 0, 0, MQ below (QB D yy m b v σ s.heap.size post ov) (Ar (adB b v) tk).toArray s mc ms (aW (shB m) (adB b v) σ s.heap.size))
    ⟨B.exec, B.bytes, hml, hown, fun w hw => hts w (List.mem_cons_of_mem _ hw), hK, ⟨hP.1, fun k q hq hx => Or.inl ⟨k, q, hq, hx, rfl⟩⟩, fun q hq => Or.inr hq, rfl, B.notSynchronized, hO⟩ rfl ⟨⟨rfl, rfl, rfl⟩, (name_of_methodNamed B.named B.method).1, rfl, rfl⟩
    ⟨B.returns, rfl, rfl, hb, v, rfl, Or.inl rfl⟩
  exact h s.heap [] _ hW (fun _ _ _ h => h) va_S.rf hl
section SBG
variable {Γ : Cx} {cc : ByteArray} {own : String} {nL : Nat} {rm : Room} {m1 : Nat} {pc : Nat} {σ : Mm} {lv : List (Nat × Value)} {st : List Value} {ret : Option FieldType} {m0 b v0 : Nat} {σ0 : Mm} {post : Nat → Mm → Prop} {ov : Option Value} {mc ms m n : Nat} {lc : Lc} {nm : String}
theorem gW_retB (G : Gd Γ cc own nL rm (shB m1)) (hM : Mk Γ lc nm m n) (hm : m ≤ mc) (hn : n ≤ ms) (hR : RTB Γ ret m0 b v0 σ0 post ov mc ms) (hp : post m1 σ) {v : Option Value} (hv : v = ov) {H : Heap} {locs : List Loc} {ls : Array Slot} {st : List Value} (hW : HW (gD Γ) (gy Γ) (shB m1) (ga Γ) σ H) (hS : va_S (gA Γ) (gs Γ).heap H locs)
    (h : (gmeth Γ).sig.returnType = ret → ∀ (Qc : Array Value → State → Outcome → State → Prop) (free : Addr → Prop), (∀ t : State, t.heap = H → (gs Γ).WarmedH t.vm → Qc (gargs Γ) (gs Γ) (.returned v) t) → (∀ q ∈ locs, free q.base) → W (gp Γ) (gl Γ) (ge Γ) (gR Γ) (gs Γ) (gm Γ) (gargs Γ) (gbelow Γ) (gmeth Γ) (gc Γ) H locs mc ms (MQ (gbelow Γ) Qc (gargs Γ) (gs Γ) mc ms free) (F0 (gm Γ) pc ls st)) : gW Γ H locs pc ls st := by
  obtain ⟨h1, h2, h3, -, v1, h4, h5⟩ := hR
  subst hv
  unfold gW
  rw [hM.2.2.1, hM.2.2.2, h3]
  refine W.widen hm hn (h h1 _ _ ?_ ?_)
  · intro t ht hw
    subst ht
    rw [h4] at hW
    refine ⟨rfl, v1, m1, σ, h5, hW, hp, ?_⟩
    have h := hS.F (s := gs Γ) rfl
    rw [h2] at h
    exact h
  · intro q hq
    have h := hS.2.2 q hq
    rw [h2] at h
    exact h
theorem p_aretB (G : Gd Γ cc own nL rm (shB m1)) {rt : FieldType} {x : Nat} (hM : Mk Γ lc nm m n) (hm : m ≤ mc) (hn : n ≤ ms) (hR : RTB Γ (some rt) m0 b v0 σ0 post ov mc ms) (hp : post m1 σ) (hrt : (∃ n, rt = .object n) ∨ ∃ t, rt = .array t) (hd : decode cc pc = .ok (.areturn, 1)) (hv : some (Value.ref x) = ov) : PT Γ nL (shB m1) pc σ lv [.ref x] := fun H locs ls hW hN hS hl =>
  gW_retB G hM hm hn hR hp hv hW hS (fun hr Qc free hq hf => W.aret G.1 G.2.1 hr hrt (Or.inr ⟨_, rfl⟩) hq hf hd G.2.2.2.2.2.2.2.2.2.1)
theorem p_vretB (G : Gd Γ cc own nL rm (shB m1)) (hM : Mk Γ lc nm m n) (hm : m ≤ mc) (hn : n ≤ ms) (hR : RTB Γ none m0 b v0 σ0 post ov mc ms) (hp : post m1 σ) (hd : decode cc pc = .ok (.return_, 1)) (hv : none = ov) : PT Γ nL (shB m1) pc σ lv [] := fun H locs ls hW hN hS hl =>
  gW_retB G hM hm hn hR hp hv hW hS (fun hr Qc free hq hf => W.vret G.1 G.2.1 hr hq hf hd G.2.2.2.2.2.2.2.2.2.1)
set_option maxHeartbeats 1000000 in
/-- the frame goes on over another row of bytes -/
theorem sb_step (G : Gd Γ cc own nL rm (shB m1)) (hR : RTB Γ ret m0 b v0 σ0 post ov mc ms) (hM : Mk Γ lc nm m n) {v' m' mc1 ms1 : Nat} {σ' : Mm} {H : Heap} (hsz : (gs Γ).heap.size ≤ H.size) (hb : b < H.size) (hv : v' = ga Γ 1 ∨ H.size ≤ v') :
    Gd (gN Γ (adB b v') σ' (gmc Γ + mc1) (gms Γ + ms1)) cc own nL rm (shB m') ∧ RTB (gN Γ (adB b v') σ' (gmc Γ + mc1) (gms Γ + ms1)) ret m0 b v0 σ0 post ov mc ms ∧ Mk (gN Γ (adB b v') σ' (gmc Γ + mc1) (gms Γ + ms1)) lc nm (m + mc1) (n + ms1) := by
  obtain ⟨h1, h2, h3, h0, v1, h4, h5⟩ := hR
  have hAP := G.2.2.2.2.2.2.1
  have e1 : ga Γ 1 = v1 := by rw [h4]; rfl
  have e0 : ga Γ 0 = b := by rw [h4]; rfl
  rw [e1] at hv
  have hbv : b ≠ v' := by
    rcases hv with hv | hv
    · intro e
      have := hAP.1 0 1 _ _ rfl rfl trivial trivial (by rw [e0, e1, ← hv]; exact e)
      cases this
    · omega
  have hAb : gA Γ b := by rw [← e0]; exact hAP.2 0 _ rfl trivial
  have hAv : gA Γ v' := by
    rcases hv with hv | hv
    · rw [hv, ← e1]; exact hAP.2 1 _ rfl trivial
    · exact G.2.2.2.2.2.2.2.1 _ (Nat.le_trans hsz hv)
  refine ⟨gd_N G _ _ ⟨fun i j p q hp hq _ _ e => ?_, fun k q hq _ => ?_⟩, ⟨h1, h2, h3, h0, v', rfl, ?_⟩, ⟨hM.1, hM.2.1, by show gmc Γ + _ = m + _; rw [hM.2.2.1], by show gms Γ + _ = n + _; rw [hM.2.2.2]⟩⟩
  · rcases shB_at hp with ⟨ei, -⟩ | ⟨ei, -⟩ <;> rcases shB_at hq with ⟨ej, -⟩ | ⟨ej, -⟩ <;> subst ei ej
    · rfl
    · exact absurd e hbv
    · exact absurd e.symm hbv
    · rfl
  · rcases shB_at hq with ⟨ei, -⟩ | ⟨ei, -⟩ <;> subst ei
    · exact hAb
    · exact hAv
  · rcases hv with hv | hv
    · rw [hv]; exact h5
    · exact Or.inr (Nat.le_trans hsz hv)
set_option maxHeartbeats 1000000 in
/-- behind a call of such a method -/
theorem w_goB (G : Gd Γ cc own nL rm (shB m1)) (hR : RTB Γ ret m0 b v0 σ0 post ov mc ms) (hM : Mk Γ lc nm m n) {H : Heap} {locs : List Loc} {ls : Array Slot} {stk rest : List Value} {argv : Array Value} {v1 mc1 ms1 : Nat} {post1 : Nat → Mm → Prop} {ov1 : Option Value} {lv' : (Nat → Nat) → List (Nat × Value)} {st' : (Nat → Nat) → List Value} (hv1 : ga Γ = adB b v1) (hW : HW (gD Γ) (gy Γ) (shB m1) (ga Γ) σ H) (hN : NE (shB m1) (go Γ) σ) (hS : va_S (gA Γ) (gs Γ).heap H locs) (hl : lv_has ls nL lv)
    (hr : va_Run (gp Γ) (gl Γ) (ge Γ) (gR Γ) (gs Γ) (gm Γ) (gargs Γ) (gbelow Γ) (gmeth Γ) (gc Γ) H locs (gmc Γ) (gms Γ) mc1 ms1 (F0 (gm Γ) pc ls stk) rest (QB (gD Γ) (gy Γ) m1 b v1 σ H.size post1 ov1 argv) (aW (shB m1) (adB b v1) σ H.size))
    (hlv : ∀ a : Nat → Nat, a 0 = ga Γ 0 → lv = lv' a ∧ rest = st' a)
    (k9 : ∀ (Γ' : Cx) (m' : Nat) (σ' : Mm), Gd Γ' cc own nL rm (shB m') → RTB Γ' ret m0 b v0 σ0 post ov mc ms → Mk Γ' lc nm (m + mc1) (n + ms1) → post1 m' σ' → PT Γ' nL (shB m') (pc + 3) σ' (lv' (ga Γ')) (ov1.toList ++ st' (ga Γ'))) : gW Γ H locs pc ls stk := by
  have hAA := (pcw_same (As := []) G hW hN hS).2
  rw [hv1] at hAA
  have hb : b < H.size := by
    have := zC_lt (hW 0 _ rfl trivial)
    rw [hv1] at this
    exact this
  intro T hT X
  obtain ⟨v, st₀, t, T', L, h0, X', hL, e1, e2, ⟨hv, v', m', σ', hvv, hW1, hp1, hz1, hF⟩, stp⟩ := hr T hT X
  cases hv
  rw [h0] at hz1 hF
  rw [← e1] at hW1 hz1 hF
  obtain ⟨g1, g2, g3⟩ := sb_step (v' := v') (m' := m') (mc1 := mc1) (ms1 := ms1) (σ' := σ') G hR hM hS.1 hb (by rw [hv1]; exact hvv)
  have hS1 : va_S (gA Γ) (gs Γ).heap T'.heap (locs ++ L) := ⟨Nat.le_trans hS.1 hz1, fun q h1 h2 => by
    rw [hF q (Nat.lt_of_lt_of_le h1 hS.1) (fun z => h2 (hAA q z))]
    exact hS.2.1 q h1 h2, fun q hq => by
    rcases List.mem_append.mp hq with h | h
    · exact hS.2.2 q h
    · exact hAA _ (hL q h)⟩
  obtain ⟨el, es⟩ := hlv (adB b v') (by rw [hv1]; rfl)
  have k8 := k9 _ m' σ' g1 g2 g3 hp1 T'.heap (locs ++ L) ls hW1 (fun _ _ _ hx => hx) hS1 (show lv_has ls nL (lv' (adB b v')) by rw [← el]; exact hl)
  have k7 : gW (gN Γ (adB b v') σ' (gmc Γ + mc1) (gms Γ + ms1)) T'.heap (locs ++ L) (pc + 3) ls (ov1.toList ++ st' (adB b v')) := k8
  rw [← es] at k7
  obtain ⟨t2, a3, b1⟩ := k7 T' rfl X'
  exact ⟨t2, stp t2 a3, b1⟩
end SBG
/-! fields that are inherited -/
/-- the pool entry idx of the class own is the field j of the class ci -/
def FLU (own : String) (idx ci j : Nat) : Prop := ∃ (C : String) (T : u_T) (N : Nat) (ty : Nat → FieldType), vwCl[ci]? = some (C, T, N) ∧ (∀ w ∈ u_ws C T N, w ∈ GT) ∧ (∀ k, k < N → parseFieldDescriptor (T k).2.2.1 = some (ty k)) ∧ (∀ a, a < N → ∀ b, b < N → a ≠ b → (T a).2.1 ≠ (T b).2.1) ∧ j < N ∧ (Cond.fieldLink own idx (T j).1 (T j).2.1 (T j).2.2.1 ∈ GT ∨ ∃ host : String, Cond.fieldLinkNest own idx (T j).1 (T j).2.1 (T j).2.2.1 host ∈ NT)
/-- and it is no final one, of that type -/
def FPU (own : String) (idx ci j : Nat) (t : FieldType) : Prop := ∃ (C : String) (T : u_T) (N : Nat) (ty : Nat → FieldType), vwCl[ci]? = some (C, T, N) ∧ (∀ w ∈ u_ws C T N, w ∈ GT) ∧ (∀ k, k < N → parseFieldDescriptor (T k).2.2.1 = some (ty k)) ∧ (∀ a, a < N → ∀ b, b < N → a ≠ b → (T a).2.1 ≠ (T b).2.1) ∧ j < N ∧ (Cond.fieldLink own idx (T j).1 (T j).2.1 (T j).2.2.1 ∈ GT ∨ ∃ host : String, Cond.fieldLinkNest own idx (T j).1 (T j).2.1 (T j).2.2.1 host ∈ NT) ∧ (T j).2.2.2 = false ∧ parseFieldDescriptor (T j).2.2.1 = some t
section SBM
variable {Γ : Cx} {cc : ByteArray} {own : String} {nL : Nat} {rm : Room} {sh : Sh} {pc : Nat} {σ : Mm} {lv : List (Nat × Value)} {st : List Value}
theorem p_getU (G : Gd Γ cc own nL rm sh) {idx ci j k n : Nat} {t : Zc} (hd : decode cc pc = .ok (.getfield idx, 3)) (hL : FLU own idx ci j) (hk : sh[k]? = some (10 + ci, n, t, none)) (hn : n = (vwCl.getD ci ("", TX0, 0)).2.2) (kk : PT Γ nL sh (pc + 3) σ lv (zV (ga Γ) (zt t j) (σ k j) :: st)) : PT Γ nL sh pc σ lv (.ref (ga Γ k) :: st) := fun H locs ls hW hN hS hl => by
  have kk := kk H locs ls hW hN hS hl
  obtain ⟨C, T, N, ty, hc, hin, hty, hnm, hj, hlk⟩ := hL
  have hcell := hW k _ hk trivial
  unfold zC at hcell
  rw [if_neg (by show ¬ (10 + ci < 10); omega)] at hcell
  have e : 10 + ci - 10 = ci := by omega
  have hNn : n = N := by rw [hn, List.getD_eq_getElem?_getD, hc]; rfl
  subst hNn
  simp only [e] at hcell
  obtain ⟨cell, q1, q2, q3, q4⟩ := hcell
  obtain ⟨hSl, hfc, kC, hkC, hkind⟩ := G.2.2.2.2.2.1.1 ci _ hc
  obtain ⟨cf, kf, fi, f, hi, hsl⟩ := hSl j hj
  have hst := (u_facts hfc hkC (u_lays (ws := GT) G.2.2.2.2.1 hin hj) hi).1
  have hv : cell.slots[f.slot]? = some (zV (ga Γ) (zt t j) (σ k j)) := by rw [hsl]; exact q4 j hj
  have hkn : cell.vm ≠ .unknown := by rw [q3]; exact fun h => by cases h
  rcases hlk with hlk | ⟨host, hlk⟩
  · exact W.getf G.1 G.2.1 G.2.2.2.1 (G.2.2.2.2.1 _ hlk) hi hst q1 hkn hv rfl rfl hd kk
  · exact va_Wgetf G.1 G.2.1 G.2.2.2.1 (gd_n G hlk) hi hst q1 hkn hv rfl rfl hd kk
theorem w_putU (G : Gd Γ cc own nL rm sh) {idx ci j n b : Nat} {ft : FieldType} {w : Value} {V : Nat → Value} (hL : FPU own idx ci j ft) (hnw : narrow ft w = w) (hft : fits ft w = true) (hd : decode cc pc = .ok (.putfield idx, 3)) {H : Heap} {locs : List Loc} {ls : Array Slot} {mc ms : Nat} (hn : n = (vwCl.getD ci ("", TX0, 0)).2.2) (hcell : t_OB b ((gD Γ).1 ci) n ((gD Γ).2 ci) H V)
    (kk : ∀ (H2 : Heap) (slot : Nat), t_OB b ((gD Γ).1 ci) n ((gD Γ).2 ci) H2 (updV V j w) → H2.size = H.size → (∀ q : Nat, q ≠ b → H2[q]? = H[q]?) → W (gp Γ) (gl Γ) (ge Γ) (gR Γ) (gs Γ) (gm Γ) (gargs Γ) (gbelow Γ) (gmeth Γ) (gc Γ) H2 (locs ++ [⟨b, slot⟩]) mc ms (gQ Γ) (F0 (gm Γ) (pc + 3) ls st)) : W (gp Γ) (gl Γ) (ge Γ) (gR Γ) (gs Γ) (gm Γ) (gargs Γ) (gbelow Γ) (gmeth Γ) (gc Γ) H locs mc ms (gQ Γ) (F0 (gm Γ) pc ls (w :: .ref b :: st)) := by
  obtain ⟨C, T, N, ty, hc, hin, hty, hnm, hj, hlk, hfin, hd2⟩ := hL
  have hNn : n = N := by rw [hn, List.getD_eq_getElem?_getD, hc]; rfl
  subst hNn
  have hap := va_apart (own := own) (Ts := GT) G.2.2.2.2.1 hin ty hty hnm G.2.2.2.2.2.1 hc
  obtain ⟨cell, q1, q2, q3, q4⟩ := hcell
  obtain ⟨hSl, hfc, kC, hkC, hkind⟩ := G.2.2.2.2.2.1.1 ci _ hc
  obtain ⟨cf, kf, fi, f, hi, hsl⟩ := hSl j hj
  have hlay := G.2.2.2.2.1 _ (hin _ (u_in_lay hj))
  unfold u_lay at hlay
  rw [if_neg (by rw [hfin]; decide)] at hlay
  have hst := (u_facts hfc hkC (u_lays (ws := GT) G.2.2.2.2.1 hin hj) hi).1
  have h6 := u_store hfc hkC hkind hlay hi hd2 hnw hft
  have h7 : k2_Sd (gs Γ) f cell.cls w := by rw [q2]; exact h6
  have hlt : f.slot < cell.slots.size := by rw [hsl]; exact k2_hasslot (q4 j hj)
  have go : ∀ H' : Heap, H'[b]? = some (cell.setSlot f.slot w) → H'.size = H.size → (∀ q, q ≠ b → H'[q]? = H[q]?) → W (gp Γ) (gl Γ) (ge Γ) (gR Γ) (gs Γ) (gm Γ) (gargs Γ) (gbelow Γ) (gmeth Γ) (gc Γ) H' (locs ++ [⟨b, f.slot⟩]) mc ms (gQ Γ) (F0 (gm Γ) (pc + 3) ls st) := by
    intro H' e1 e2 e3
    rw [hsl] at e1 ⊢
    exact kk H' _ ⟨_, e1, q2, q3, t_set q4 hap hj w⟩ e2 e3
  rcases hlk with hlk | ⟨host, hlk⟩
  · exact W.putK G.1 G.2.1 (f := f) ⟨G.2.2.2.1, G.2.2.2.2.1 _ hlk, ⟨_, _, _, hi⟩, hst⟩ h7 q1 q3 hlt rfl rfl hd go
  · exact va_WputK G.1 G.2.1 (f := f) G.2.2.2.1 (gd_n G hlk) hi hst h7 q1 q3 hlt rfl rfl hd go
/-- an int field of the builder, over the memory -/
theorem p_putIU (G : Gd Γ cc own nL rm sh) {idx ci j k n : Nat} {t : Zc} {ft : FieldType} {x : Int} (hd : decode cc pc = .ok (.putfield idx, 3)) (hL : FPU own idx ci j ft) (hnw : narrow ft (.int (zJ x)) = .int (zJ x)) (hft : fits ft (.int (zJ x)) = true) (hk : sh[k]? = some (10 + ci, n, t, none)) (hn : n = (vwCl.getD ci ("", TX0, 0)).2.2) (ht : zt t j = 0) (hg : zg sh k = true) (kk : PT Γ nL sh (pc + 3) (zu σ k j x) lv st) : PT Γ nL sh pc σ lv (.int (zJ x) :: .ref (ga Γ k) :: st) := fun H locs ls hW hN hS hl => by
  have hcell := hW k _ hk trivial
  unfold zC at hcell
  rw [if_neg (by show ¬ (10 + ci < 10); omega)] at hcell
  have e : 10 + ci - 10 = ci := by omega
  simp only [e] at hcell
  refine w_putU G hL hnw hft hd hn hcell (fun H2 slot e1 e2 e3 => ?_)
  refine kk H2 _ ls (hW.set hN G.2.2.2.2.2.2.1 hg hk trivial ?_ e3) (hN.set hg) (hS.put e2 e3 (G.2.2.2.2.2.2.1.2 k _ hk (hN k _ hk trivial))) hl
  unfold zC
  rw [if_neg (by show ¬ (10 + ci < 10); omega)]
  simp only [e]
  rw [zF_zr, ht]
  exact e1
/-- a final field of any type, in the constructor -/
def FFG (own : String) (idx ci j : Nat) (ft : FieldType) : Prop := ∃ (C : String) (T : u_T) (N : Nat) (ty : Nat → FieldType), vwCl[ci]? = some (C, T, N) ∧ (∀ w ∈ u_ws C T N, w ∈ GT) ∧ (∀ k, k < N → parseFieldDescriptor (T k).2.2.1 = some (ty k)) ∧ (∀ a, a < N → ∀ b, b < N → a ≠ b → (T a).2.1 ≠ (T b).2.1) ∧ j < N ∧ (T j).1 = C ∧ C = own ∧ Cond.fieldLink own idx C (T j).2.1 (T j).2.2.1 ∈ GT ∧ (T j).2.2.2 = true ∧ parseFieldDescriptor (T j).2.2.1 = some ft
theorem w_finG (G : Gd Γ cc own nL rm sh) (hI : (gmeth Γ).name = "<init>") {idx ci j n b : Nat} {ft : FieldType} {w : Value} {V : Nat → Value} (hL : FFG own idx ci j ft) (hnw : narrow ft w = w) (hft : fits ft w = true) (hd : decode cc pc = .ok (.putfield idx, 3)) {H : Heap} {locs : List Loc} {ls : Array Slot} {mc ms : Nat} (hn : n = (vwCl.getD ci ("", TX0, 0)).2.2) (hcell : t_OB b ((gD Γ).1 ci) n ((gD Γ).2 ci) H V)
    (kk : ∀ (H2 : Heap) (slot : Nat), t_OB b ((gD Γ).1 ci) n ((gD Γ).2 ci) H2 (updV V j w) → H2.size = H.size → (∀ q : Nat, q ≠ b → H2[q]? = H[q]?) → W (gp Γ) (gl Γ) (ge Γ) (gR Γ) (gs Γ) (gm Γ) (gargs Γ) (gbelow Γ) (gmeth Γ) (gc Γ) H2 (locs ++ [⟨b, slot⟩]) mc ms (gQ Γ) (F0 (gm Γ) (pc + 3) ls st)) : W (gp Γ) (gl Γ) (ge Γ) (gR Γ) (gs Γ) (gm Γ) (gargs Γ) (gbelow Γ) (gmeth Γ) (gc Γ) H locs mc ms (gQ Γ) (F0 (gm Γ) pc ls (w :: .ref b :: st)) := by
  obtain ⟨C, T, N, ty, hc, hin, hty, hnm, hj, hC, hCo, hlk, hfin, hd2⟩ := hL
  have hNn : n = N := by rw [hn, List.getD_eq_getElem?_getD, hc]; rfl
  subst hNn
  have hap := va_apart (own := own) (Ts := GT) G.2.2.2.2.1 hin ty hty hnm G.2.2.2.2.2.1 hc
  obtain ⟨cell, q1, q2, q3, q4⟩ := hcell
  obtain ⟨hSl, hfc, kC, hkC, hkind⟩ := G.2.2.2.2.2.1.1 ci _ hc
  obtain ⟨cf, kf, fi, f, hi, hsl⟩ := hSl j hj
  have hlay := G.2.2.2.2.1 _ (hin _ (u_in_lay hj))
  unfold u_lay at hlay
  rw [if_pos hfin] at hlay
  have hst := (u_facts hfc hkC (u_lays (ws := GT) G.2.2.2.2.1 hin hj) hi).1
  have hown := G.2.2.2.1
  have hcf : (gm Γ).cls = cf := by
    obtain ⟨_, _, c', _, _, _, -, -, hf', -, -, -, hown2, -⟩ := Cond.laysFinal_spec hlay
    have e1 : c' = cf := by have := hi.symm.trans hf'; simp at this; exact this.1.symm
    rw [hC, hCo] at hown2
    rw [← e1]; exact Option.some.inj (hown.symm.trans hown2)
  have h6 := u_fits hfc hkC hkind (Or.inr hlay) hi hd2 hnw hft
  rw [hC] at hi
  refine W.putFinK G.1 G.2.1 hown (G.2.2.2.2.1 _ hlk) hi hst hcf hI (by rw [q2]; exact h6) q1 q3 (by rw [hsl]; exact k2_hasslot (q4 j hj)) rfl rfl hd fun H' e1 e2 e3 => ?_
  rw [hsl] at e1 ⊢
  exact kk H' _ ⟨_, e1, q2, q3, t_set q4 hap hj _⟩ e2 e3
end SBM
