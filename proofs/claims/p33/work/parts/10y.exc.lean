/-! Throwing, passing on, catching -/
def zexn (e : Nat) : String := if e = 0 then "java/lang/IllegalArgumentException" else if e = 1 then "java/util/NoSuchElementException" else "java/lang/IllegalStateException"
section EXT
variable {p : Program} {l : Launch} {e : Env} {R : Room} {s : State} {m : MethodId} {args : Array Value} {below : List Frame} {meth : Method} {c : Code} {H : Heap} {locs : List Loc} {cells slots : Nat} {ls : Array Slot} {rest : List Value}
variable {Qc : Array Value → State → Outcome → State → Prop} {XC : String → State → State → Prop} {free : Addr → Prop}
set_option maxHeartbeats 2000000 in
theorem ex_throw {cc : ByteArray} {pc : Nat} (hexec : p.tables.exec = Jvm.exec) (hb : c.code = cc) (hl : l.stackTraces = false) {own cls text : String} {names : List String} {ik is ic ix mc ms sa : Nat} {rx : ByteArray} {A : Nat → Prop} (x0 : decode rx 0 = .ok (.aload_n 0, 1)) (x1 : decode rx 1 = .ok (.aload_n 1, 1)) (x2 : decode rx 2 = .ok (.invokespecial ix, 3)) (x5 : decode rx 5 = .ok (.return_, 1))
    (hown : s.vm.findClass own = some m.cls) (hcls : Bundle.fit cls = true) (hnames : ∀ n ∈ names, Bundle.fit n = true)
    (hk : (Cond.classLink own ik cls).before args s = true) (hini : (Cond.initialized cls).before args s = true) (hstr : vk_R own is text sa s) (hat : ∀ w ∈ (Bundle.ownAtomsX own ic cls ix rx names).filter vx_no, w.before args s = true)
    (hgood : ∀ w ∈ Cond.classLink own ik cls :: Cond.initialized cls :: (Bundle.ownAtomsX own ic cls ix rx names).filter vx_no, vx_ot w = true)
    (hU : vx_Zq Bundle.tN "UNASSIGNED_STACK" Bundle.steD A s s.heap) (hN : vx_Zq Bundle.tN "SUPPRESSED_SENTINEL" Bundle.listD A s s.heap) (hS : va_S A s.heap H locs) (hsize : ls.size = c.maxLocals)
    (d0 : decode cc pc = .ok (.new ik, 3)) (d3 : decode cc (pc + 3) = .ok (.dup, 1)) (wide : Bool) (d4 : decode cc (pc + 4) = (if wide then .ok (.ldc_w is, 3) else .ok (.ldc is, 2))) (d6 : decode cc (pc + (if wide then 7 else 6)) = .ok (.invokespecial ic, 3)) (d9 : decode cc (pc + (if wide then 7 else 6) + 3) = .ok (.athrow, 1))
    (hout : ∀ x ∈ c.exceptionTable.toList, covers x (pc + (if wide then 7 else 6) + 3) = false)
    (hRframes : names.length + 3 < R.frames) (hRlocals : (rest.map fun v => v.category).sum + (13 * (names.length + 1) + 43) ≤ R.locals) (hRcells : cells + 1 ≤ R.cells) (hRslots : slots + 6 ≤ R.slots) (hlocks : meth.locks = false)
    (hx : ∀ t : State, s.vm.Alike t.vm → H.size ≤ t.heap.size → (∀ q : Nat, q < H.size → t.heap[q]? = H[q]?) → XC cls s t)
    (hf : ∀ z ∈ locs, free z.base) (hc : cells + 1 ≤ mc) (hs : slots + 6 ≤ ms) :
    W p l e R s m args below meth c H locs cells slots (vx_MQ below Qc XC args s mc ms free) (F0 m pc ls rest) := by
  intro T hT X
  have htr : e.platform.stackTraces = false := (show e.platform.stackTraces = l.stackTraces by rw [X.admits.platform]).trans hl
  have Y := vx_rebase X (R' := { frames := R.frames, locals := R.locals, cells := 1, slots := 6 }) (Nat.le_refl _) (Nat.le_refl _) hRcells hRslots
  obtain ⟨s', hA⟩ : ∃ z, z = (T.setVm s.vm).setFrames (.invoking m args :: below) := ⟨_, rfl⟩
  rw [← hA] at Y
  have hvm : s'.vm = s.vm := by rw [hA]; rfl
  have hhp : s'.heap = H := by rw [hA]; exact hT
  have hW0 : s.WarmedH s'.vm := by rw [hvm]; exact State.WarmedH.refl s
  have hat' : ∀ w ∈ (Bundle.ownAtomsX own ic cls ix rx names).filter vx_no, w.before args s' = true := fun w hw => vx_ot_at hW0 hvm.symm (hgood w (List.mem_cons_of_mem _ (List.mem_cons_of_mem _ hw))) (hat w hw)
  have hk' : (Cond.classLink own ik cls).before args s' = true := vx_ot_at hW0 hvm.symm (hgood _ List.mem_cons_self) hk
  have hini' : (Cond.initialized cls).before args s' = true := vx_ot_at hW0 hvm.symm (hgood _ (List.mem_cons_of_mem _ List.mem_cons_self)) hini
  have hU' : vx_Zq Bundle.tN "UNASSIGNED_STACK" Bundle.steD A s' s'.heap := by rw [hhp]; exact vx_Zq.moved hW0.alike (hU.kept hS.2.1)
  have hN' : vx_Zq Bundle.tN "SUPPRESSED_SENTINEL" Bundle.listD A s' s'.heap := by rw [hhp]; exact vx_Zq.moved hW0.alike (hN.kept hS.2.1)
  have h : ∀ w ∈ Bundle.ownAtomsX own ic cls ix rx names, w.before args s' = true := vx_own hat' (vx_isRefq hU'.1) (vx_isRefq hN'.1) hU'.2.word hN'.2.word
  have hown' : s'.vm.findClass own = some m.cls := by rw [hvm]; exact hown
  have hins : (Cond.instantiable cls 6).before args s' = true := h _ (by simp [Bundle.ownAtomsX])
  obtain ⟨vm₁, cX, kX, hfX, hkX, -, -, X₁, st1⟩ := Y.newCold hexec (own := own) (C := cls) (index := ik) (n := 6) hown' hk' hins hini'
    (g := F0 m pc ls rest) rfl (by rw [hb]; exact d0) (Nat.le_refl _) (Nat.le_refl _)
  generalize hT1 : (T.setVm vm₁).pushCell { cls := cX, slots := kX.instanceTypes.map defaultValue, vm := .none } = T1 at X₁ st1
  have hcat : (Value.ref T.heap.size).category = 1 := rfl
  have hcellA : T1.heap[T.heap.size]? = some (freshCell cX kX) := by rw [← hT1]; exact State.heap_pushCell_size _ _
  have d3' : decode c.code (pc + 3) = .ok (.dup, 1) := by rw [hb]; exact d3
  have hstr' : vk_R own is text sa s' := vk_R.warm hW0 hstr
  obtain ⟨U, hsteps, hrun, hend, hW, hsame, ce, hce, hO1, hO2⟩ := ex_ctor X₁ hexec htr x0 x1 x2 x5 (own := own) (cls := cls) (names := names) (ic := ic) hown' hcls hnames h (fun x hx => nomatch hx) hfX hkX hcellA (by rw [hhp, hT]; exact Nat.le_refl _) (msg := .ref sa) rfl
    (g := { method := m, pc := pc + (if wide then 7 else 6), locals := ls, stack := .ref sa :: .ref T.heap.size :: .ref T.heap.size :: rest, locked := none }) rfl hsize rfl rfl (rest := rest) rfl
    (by rw [hb]; exact d6) (by rw [hb]; exact d9) hout hRframes (by simp only [List.map_cons, List.sum_cons, hcat]; omega) hlocks
  obtain ⟨f1, f2⟩ := vx_frame hsame
  rw [hhp] at f1 f2
  have hWs : s.WarmedH U.vm := State.WarmedH.trans hW0 hW
  have hcl : s.vm.findClass cls = some ce.cls := by
    rw [hO1, ← hvm]
    exact hfX
  have hall : s.sameButNew ({ U with vm := s.vm } : State) locs mc ms := by
    subst hA
    obtain ⟨e1, e2⟩ := hsame
    rw [State.setFrames_setFrames] at e1
    have h2 : (T.setVm s.vm).sameButNew ({ U with vm := s.vm } : State) [] (0 + 1) (0 + 6) := ⟨e1, e2⟩
    have h3 := X.same.trans h2
    rw [List.append_nil] at h3
    exact h3.mono hc hs
  refine ⟨U, ?_, .threw T.heap.size, hrun, hend, Or.inr ⟨T.heap.size, rfl, cls, ce, locs, hx U hWs.alike f1 (fun q hq => f2 q hq (fun z hz => nomatch hz)), hce, hO2, hcl, hWs, hall, hf⟩⟩
  refine st1 _ ?_
  show Steps p.tables e below (T1.setTop { method := m, pc := pc + 3, locals := ls, stack := .ref T.heap.size :: rest, locked := none }) _
  jvm_step X₁.here [X₁.here.top, hexec, d3', Value.category]
  cases wide with
  | false =>
    have d4' : decode c.code (pc + 4) = .ok (.ldc is, 2) := by rw [hb]; exact d4
    exact X₁.ldcString hexec (own := own) (text := text) (index := is) (a := sa) hown' hstr'.1 hstr'.2
      (g := { method := m, pc := pc + 4, locals := ls, stack := .ref T.heap.size :: .ref T.heap.size :: rest, locked := none }) rfl d4' _ hsteps
  | true =>
    have d4' : decode c.code (pc + 4) = .ok (.ldc_w is, 3) := by rw [hb]; exact d4
    obtain ⟨k9, cf, i9, a9, hk9, hcf, hcp, -, hr, hev9⟩ := Cond.stringRef_spec hown' hstr'.1
    cases hstr'.2.symm.trans hev9
    obtain ⟨k8, hk8, he⟩ := X₁.warmed.alike.2.2 _ _ hk9
    have hr8 : k8.resolved[is]? = some (some (.string sa)) := by
      rcases X₁.warmed.entry hk9 hk8 is with h | ⟨h, -⟩
      · rw [h]; exact hr
      · rw [hr] at h; cases h
    jvm_step X₁.here [hexec, d4', Jvm.Op.ldc_w.wp_string (e := e) (s := T1) (f := { method := m, pc := pc + 4, locals := ls, stack := .ref T.heap.size :: .ref T.heap.size :: rest, locked := none }) X₁.here.top hk8 (by rw [he]; exact hcf) hcp hr8]
    exact hsteps
end EXT
def XCX (D : va_G) (yy : Nat → ClassId) (sh : Sh) (a : Nat → Nat) (σ : Mm) (sz : Nat) (e : Nat) : String → State → State → Prop := fun E st t => E = zexn e ∧ HW D yy sh a σ t.heap ∧ va_F (aW sh a σ sz) st t
/-- from memory σ, with these arguments, the method throws an exception of the kind e, nothing changed -/
def CTX (l : Launch) (y : MethodName) (b : ByteArray) (n : Nat) (ret : Option FieldType) (rm : Room) (sh : Sh) (D : va_G) (yy : Nat → ClassId) (tk tv : Nat → Nat) (a : Nat → Nat) (σ : Mm) (As : List Value) (e : Nat) (mc ms : Nat) : Prop :=
  ∀ sz : Nat, vx_Met l y (WS y b n ret) rm (PcW D yy tk tv sh a σ sz As) (fun _ _ _ _ => False) (XCX D yy sh a σ sz e) mc ms (aW sh a σ sz)
def RTX (Γ : Cx) (sh : Sh) (e mc ms : Nat) : Prop := gA Γ = aW sh (ga Γ) (go Γ) (gs Γ).heap.size ∧ gQ Γ = vx_MQ (gbelow Γ) (fun _ _ _ _ => False) (XCX (gD Γ) (gy Γ) sh (ga Γ) (go Γ) (gs Γ).heap.size e) (gargs Γ) (gs Γ) mc ms (aW sh (ga Γ) (go Γ) (gs Γ).heap.size) ∧ ∀ x ∈ (gc Γ).exceptionTable.toList, False
set_option maxHeartbeats 1000000 in
theorem ctx_of {l : Launch} {y : MethodName} {b : ByteArray} {n : Nat} {ret : Option FieldType} {rm : Room} {sh : Sh} {D : va_G} {yy : Nat → ClassId} {tk tv : Nat → Nat} {a : Nat → Nat} {σ : Mm} {Ar : (Nat → Nat) → (Nat → Nat) → List Value} {e mc ms : Nat} (hy : plainName y.cls = true) (hn : (lg_sl (Ar a tk)).length ≤ n)
    (body : ∀ Γ : Cx, Gd Γ b y.cls n rm sh → go Γ = σ → Mk Γ (l, tk, tv) y.name 0 0 → RTX Γ sh e mc ms → PT Γ n sh 0 σ (lv_args 0 (Ar (ga Γ) (gk Γ))) []) : CTX l y b n ret rm sh D yy tk tv a σ (Ar a tk) e mc ms := by
  intro sz
  refine vx_ofW (cc := b) (maxL := n) (ret := ret) hy rfl ?_
  intro p e9 s m args below meth c s₁ B hml htb hv
  obtain ⟨rfl, rfl, hW, hK, hP, hO⟩ := hv
  have hts : ∀ w ∈ WS y b n ret, w.before (Ar a tk).toArray s = true := atoms_spec (ws := WS y b n ret) B.pre
  have hown : s.vm.findClass y.cls = some m.cls := findClass_of_methodNamed B.named
  have hl := lv_entry (Ar a tk) (n := n) hn
  rw [lg_entry_eq]
  have h := body (p, l, e9, (headSpec (WS y b n ret) rm).room, s, m, (Ar a tk).toArray, below, meth, c, D, yy, tk, tv, a, aW sh a σ s.heap.size, σ, 0, 0, vx_MQ below (fun _ _ _ _ => False) (XCX D yy sh a σ s.heap.size e) (Ar a tk).toArray s mc ms (aW sh a σ s.heap.size))
    ⟨B.exec, B.bytes, hml, hown, fun w hw => hts w (List.mem_cons_of_mem _ hw), hK, ⟨hP.1, fun k q hq hx => Or.inl ⟨k, q, hq, hx, rfl⟩⟩, fun q hq => Or.inr hq, rfl, B.notSynchronized, hO⟩ rfl ⟨⟨rfl, rfl, rfl⟩, (name_of_methodNamed B.named B.method).1, rfl, rfl⟩
    ⟨rfl, rfl, htb⟩
  exact h s.heap [] _ hW (fun _ _ _ h => h) va_S.rf hl
/-- behind what a throwing call says -/
theorem bthr_i {α β : Type} {x : Option (α ⊕ Nat)} {k : α → Option (β ⊕ Nat)} {e : Nat} (h : (x.bind fun r => thr r k) = some (.inr e)) (hk : ∀ v, x = some (.inl v) → k v = some (.inr e) → False) : x = some (.inr e) := by
  rcases bthr_x h with h1 | ⟨v, h1, h2⟩
  · exact h1
  · exact (hk v h1 h2).elim
/-- a part that doesn't throw -/
def inlO {α : Type} (x : Option α) : Option (α ⊕ Nat) := x.map .inl
theorem inlO_inl {α : Type} {x : Option α} {o : α} (h : inlO x = some (.inl o)) : x = some o := by
  cases x with
  | none => cases h
  | some v => cases h; rfl
theorem inlO_inr {α : Type} {x : Option α} {e : Nat} (h : inlO x = some (.inr e)) : False := by
  cases x with
  | none => cases h
  | some v => cases h
section EXP
variable {Γ : Cx} {cc : ByteArray} {own : String} {nL : Nat} {rm : Room} {sh : Sh} {pc : Nat} {σ : Mm} {lv : List (Nat × Value)} {st : List Value} {lc : Lc} {nm : String} {e mc ms : Nat}
/-- new E(text), thrown -/
theorem p_throw (G : Gd Γ cc own nL rm sh) (hX : RTX Γ sh e mc ms) (hM : Mk Γ lc nm 0 0) (hl : lc.1.stackTraces = false) (hσ : σ = go Γ) {names : List String} {ik is ic ix u : Nat} {rx : ByteArray} (x0 : decode rx 0 = .ok (.aload_n 0, 1)) (x1 : decode rx 1 = .ok (.aload_n 1, 1)) (x2 : decode rx 2 = .ok (.invokespecial ix, 3)) (x5 : decode rx 5 = .ok (.return_, 1)) (hcls : Bundle.fit (zexn e) = true) (hnames : ∀ n ∈ names, Bundle.fit n = true)
    (hk : Cond.classLink own ik (zexn e) ∈ GT) (hini : Cond.initialized (zexn e) ∈ GT) (hat : ∀ w ∈ (Bundle.ownAtomsX own ic (zexn e) ix rx names).filter vx_no, w ∈ GT ∨ w ∈ NT) (i : Nat) (hi : i < zsM) (ho : zsOwn.getD i "" = own) (hx : zsIdx.getD i 0 = is)
    (d0 : decode cc pc = .ok (.new ik, 3)) (d3 : decode cc (pc + 3) = .ok (.dup, 1)) (wide : Bool) (d4 : decode cc (pc + 4) = (if wide then .ok (.ldc_w is, 3) else .ok (.ldc is, 2))) (d6 : decode cc (pc + (if wide then 7 else 6)) = .ok (.invokespecial ic, 3)) (d9 : decode cc (pc + (if wide then 7 else 6) + 3) = .ok (.athrow, 1))
    (hf : names.length + 3 < rm.frames) (hlo : (13 * (names.length + 1) + 43) ≤ rm.locals) (hrc : 1 ≤ rm.cells) (hrs : 6 ≤ rm.slots) (hmc : 1 ≤ mc) (hms : 6 ≤ ms) : PT Γ nL sh pc σ lv [] := fun H locs ls hW hN hS hlv => by
  have hO := G.2.2.2.2.2.2.2.2.2.2
  have hR := G.2.2.2.2.2.2.2.2.1
  obtain ⟨hA, hQ, htb⟩ := hX
  have hstr := hO.2.1 i hi
  rw [ho, hx] at hstr
  subst hσ
  unfold gW
  rw [hM.2.2.1, hM.2.2.2, hQ]
  exact ex_throw G.1 G.2.1 (by rw [hM.1.1]; exact hl) x0 x1 x2 x5 G.2.2.2.1 hcls hnames (G.2.2.2.2.1 _ hk) (G.2.2.2.2.1 _ hini) hstr (fun w hw => (hat w hw).elim (fun h => G.2.2.2.2.1 _ h) (fun h => gd_n G h)) (fun w hw => by
      have : w ∈ GT ∨ w ∈ NT := by
        rcases List.mem_cons.mp hw with h | h
        · rw [h]; exact Or.inl hk
        · rcases List.mem_cons.mp h with h | h
          · rw [h]; exact Or.inl hini
          · exact hat w h
      unfold vx_ot
      rcases this with h | h
      · rw [gt_good h, Bool.or_true]
      · rw [nt_on h, Bool.true_or]) hO.2.2.2.2.1 hO.2.2.2.2.2.1 hS (by rw [G.2.2.1]; exact hlv.1) d0 d3 wide d4 d6 d9 (fun x hx => (htb x hx).elim) (by rw [hR]; exact hf) (by rw [hR]; show 0 + _ ≤ _; omega) (by rw [hR]; omega) (by rw [hR]; omega) G.2.2.2.2.2.2.2.2.2.1
    (fun t hal hsz hfr => ⟨rfl, fun k q hq hxq => zC_kept (hW k q hq hxq) (hfr _ (zC_lt (hW k q hq hxq))), Nat.le_trans hS.1 hsz, fun q h1 h2 => by
      rw [hfr q (Nat.lt_of_lt_of_le h1 hS.1)]
      exact hS.2.1 q h1 (by rw [hA]; exact h2)⟩) (fun z hz => by rw [← hA]; exact hS.2.2 z hz) hmc hms
theorem run_goX (G : Gd Γ cc own nL rm sh) (hX : RTX Γ sh e mc ms) (hM : Mk Γ lc nm 0 0) (hσ : σ = go Γ) {s1 : Sh} {l : List Nat} {mc1 ms1 : Nat} (hmc : mc1 ≤ mc) (hms : ms1 ≤ ms) (hz : zk s1 sh l = true) (hx : Zx sh l σ) {H : Heap} {locs : List Loc} {ls : Array Slot} {stk rest : List Value} {Qa : State → Outcome → State → Prop} (hQa : ∀ a b c, Qa a b c → False) (hW : HW (gD Γ) (gy Γ) sh (ga Γ) σ H) (hN : NE sh (go Γ) σ) (hS : va_S (gA Γ) (gs Γ).heap H locs)
    (hr : vx_Run (gp Γ) (gl Γ) (ge Γ) (gR Γ) (gs Γ) (gm Γ) (gargs Γ) (gbelow Γ) (gmeth Γ) (gc Γ) H locs (gmc Γ) (gms Γ) mc1 ms1 (F0 (gm Γ) pc ls stk) rest Qa (XCX (gD Γ) (gy Γ) s1 (fun i => ga Γ (zp l i)) (fun i => σ (zp l i)) H.size e) (aW s1 (fun i => ga Γ (zp l i)) (fun i => σ (zp l i)) H.size)) : gW Γ H locs pc ls stk := by
  obtain ⟨hA, hQ, htb⟩ := hX
  intro T hT X
  rcases hr T hT X with ⟨_, _, _, _, _, _, _, _, _, _, hq, _⟩ | ⟨q, st₀, t, T', L, E, ce, h0, X', hL, e1, e2, ⟨hE, hW1, hz1, hF⟩, hce, hcv, hcl, stp⟩
  · exact (hQa _ _ _ hq).elim
  · rw [h0] at hz1 hF
    rw [← e1] at hW1 hz1 hF hce
    obtain ⟨g1, g2⟩ := zout_W hz hx hW hN G.2.2.2.2.2.2.1 hW1 (fun _ _ _ h => h) hF
    rw [zj_self] at g1
    have hAB := zin_A hz hx hN G.2.2.2.2.2.2.1 G.2.2.2.2.2.2.2.1 hS
    have hS1 : va_S (gA Γ) (gs Γ).heap T'.heap (locs ++ L) := ⟨Nat.le_trans hS.1 hz1, fun q h1 h2 => by
      rw [hF q (Nat.lt_of_lt_of_le h1 hS.1) (fun z => h2 (hAB q z))]
      exact hS.2.1 q h1 h2, fun q hq => by
      rcases List.mem_append.mp hq with h | h
      · exact hS.2.2 q h
      · exact hAB _ (hL q h)⟩
    have hout : vx_W (gp Γ) (gl Γ) (ge Γ) (gR Γ) (gs Γ) (gm Γ) (gargs Γ) (gbelow Γ) (gmeth Γ) (gc Γ) T'.heap (locs ++ L) (gmc Γ + mc1) (gms Γ + ms1) (vx_MQ (gbelow Γ) (fun _ _ _ _ => False) (XCX (gD Γ) (gy Γ) sh (ga Γ) (go Γ) (gs Γ).heap.size e) (gargs Γ) (gs Γ) mc ms (aW sh (ga Γ) (go Γ) (gs Γ).heap.size)) (F0 (gm Γ) pc ls rest) q := vx_out (fun x hx => (htb x hx).elim) G.2.2.2.2.2.2.2.2.2.1 hce hcv hcl (fun t2 ht2 _ => ⟨hE, by rw [ht2, ← hσ]; exact g1, by
        have h := hS1.F (s := gs Γ) (t := t2) ht2
        rw [hA] at h
        exact h⟩) (fun z hz => by rw [← hA]; exact hS1.2.2 z hz) (by rw [hM.2.2.1]; omega) (by rw [hM.2.2.2]; omega)
    obtain ⟨t2, a3, b3⟩ := hout T' rfl X'
    refine ⟨t2, stp.trans a3, ?_⟩
    rw [hQ]
    exact b3
theorem p_callXV (G : Gd Γ cc own nL rm sh) (hX : RTX Γ sh e mc ms) (hM : Mk Γ lc nm 0 0) (hσ : σ = go Γ) {idx : Nat} {C : String} {y : MethodName} {b : ByteArray} {n mc1 ms1 : Nat} {ret : Option FieldType} {np : Nat} {rm1 : Room} {s1 : Sh} (l : List Nat) {k0 ci n1 : Nat} {t0 : Zc} {As stk : List Value}
    (hd : decode cc pc = .ok (.invokevirtual idx, 3)) (hL : LKV own idx C y b n ret np) (hml : Cond.methodLink own idx y ∈ GT) (hC : CTX (gl Γ) y b n ret rm1 s1 (gD Γ) (gy Γ) (gk Γ) (gv Γ) (fun i => ga Γ (zp l i)) (fun i => σ (zp l i)) (.ref (ga Γ k0) :: As) e mc1 ms1) (hstk : stk = As.reverse ++ .ref (ga Γ k0) :: st) (hz : zk s1 sh l = true) (hx : Zx sh l σ)
    (hk : sh[k0]? = some (10 + ci, n1, t0, none)) (hCl : vwCl[ci]?.map (fun q => q.1) = some C) (hnp : As.length = np) (h8 : (st.map fun v => v.category).sum ≤ 8)
    (hrm : rm1.cells = mc1 ∧ rm1.slots = ms1 ∧ rm1.frames + 1 ≤ rm.frames ∧ 8 + (n + 11) + rm1.locals ≤ rm.locals) (hrc : mc1 ≤ rm.cells ∧ ms1 ≤ rm.slots) (hmc : mc1 ≤ mc) (hms : ms1 ≤ ms) : PT Γ nL sh pc σ lv stk := fun H locs ls hW hN hS hl => by
  subst hstk
  obtain ⟨hlk, hin, hse, hini, hcode, hy⟩ := hL
  have S : CallFix (gp Γ) (gm Γ) (gc Γ) cc nL (gs Γ) (gargs Γ) GT own := ⟨G.1, G.2.1, G.2.2.1, G.2.2.2.1, G.2.2.2.2.1⟩
  have hts := G.2.2.2.2.1
  have hR := G.2.2.2.2.2.2.2.2.1
  have hpv : PreV (gs Γ) H C (ga Γ k0) (PcW (gD Γ) (gy Γ) (gk Γ) (gv Γ) s1 (fun i => ga Γ (zp l i)) (fun i => σ (zp l i)) H.size (.ref (ga Γ k0) :: As)) As := ⟨pcw_blind, recv_at G hk hCl hW trivial, pcw_at G hz hx hW hN hS _⟩
  have hroom : rm1.frames + 1 ≤ (gR Γ).frames ∧ 8 + (n + 11) + rm1.locals ≤ (gR Γ).locals := by rw [hR]; exact hrm.2.2
  have hcs : gmc Γ + mc1 ≤ (gR Γ).cells ∧ gms Γ + ms1 ≤ (gR Γ).slots := by rw [hR, hM.2.2.1, hM.2.2.2, Nat.zero_add, Nat.zero_add]; exact hrc
  have cw : CallW (gR Γ) (gs Γ) (gargs Γ) own C idx y b n ret (WS y b n ret) rm1 mc1 ms1 np := ⟨callB_of np hts (ws_good hcode) rfl hrm.1 hrm.2.1 (by rw [hy.1]; exact hts _ hini) (hts _ hml) hy.2 hroom, hts _ hin, hts _ hse⟩
  exact run_goX G hX hM hσ hmc hms hz hx (fun _ _ _ h => h) hW hN hS (vx_runV S (hC H.size) cw hpv rfl hnp hl.1 rfl (lv_room h8) hd hcs)
theorem p_callXS (G : Gd Γ cc own nL rm sh) (hX : RTX Γ sh e mc ms) (hM : Mk Γ lc nm 0 0) (hσ : σ = go Γ) {idx : Nat} {y : MethodName} {b : ByteArray} {n mc1 ms1 : Nat} {ret : Option FieldType} {np : Nat} {rm1 : Room} {s1 : Sh} (l : List Nat) {As stk : List Value}
    (hd : decode cc pc = .ok (.invokestatic idx, 3)) (hL : LKS own idx y b n ret np) (hml : Cond.methodLink own idx y ∈ GT) (hC : CTX (gl Γ) y b n ret rm1 s1 (gD Γ) (gy Γ) (gk Γ) (gv Γ) (fun i => ga Γ (zp l i)) (fun i => σ (zp l i)) As e mc1 ms1) (hstk : stk = As.reverse ++ st) (hz : zk s1 sh l = true) (hx : Zx sh l σ)
    (hnp : As.length = np) (h8 : (st.map fun v => v.category).sum ≤ 8)
    (hrm : rm1.cells = mc1 ∧ rm1.slots = ms1 ∧ rm1.frames + 1 ≤ rm.frames ∧ 8 + (n + 11) + rm1.locals ≤ rm.locals) (hrc : mc1 ≤ rm.cells ∧ ms1 ≤ rm.slots) (hmc : mc1 ≤ mc) (hms : ms1 ≤ ms) : PT Γ nL sh pc σ lv stk := fun H locs ls hW hN hS hl => by
  subst hstk
  obtain ⟨hlk, hstat, hini, hcode, hy⟩ := hL
  have S : CallFix (gp Γ) (gm Γ) (gc Γ) cc nL (gs Γ) (gargs Γ) GT own := ⟨G.1, G.2.1, G.2.2.1, G.2.2.2.1, G.2.2.2.2.1⟩
  have hts := G.2.2.2.2.1
  have hR := G.2.2.2.2.2.2.2.2.1
  have hpv : PreS (gs Γ) H (PcW (gD Γ) (gy Γ) (gk Γ) (gv Γ) s1 (fun i => ga Γ (zp l i)) (fun i => σ (zp l i)) H.size As) As := ⟨pcw_blind, pcw_at G hz hx hW hN hS _⟩
  have hroom : rm1.frames + 1 ≤ (gR Γ).frames ∧ 8 + (n + 11) + rm1.locals ≤ (gR Γ).locals := by rw [hR]; exact hrm.2.2
  have hcs : gmc Γ + mc1 ≤ (gR Γ).cells ∧ gms Γ + ms1 ≤ (gR Γ).slots := by rw [hR, hM.2.2.1, hM.2.2.2, Nat.zero_add, Nat.zero_add]; exact hrc
  have cw : CallB (gR Γ) (gs Γ) (gargs Γ) own idx y b n ret (WS y b n ret) rm1 mc1 ms1 np := callB_of np hts (ws_good hcode) rfl hrm.1 hrm.2.1 (hts _ hini) (hts _ hml) hy hroom
  exact run_goX G hX hM hσ hmc hms hz hx (fun _ _ _ h => h) hW hN hS (vx_runS S (hC H.size) ⟨cw, hts _ hstat⟩ hpv rfl hnp hl.1 rfl (lv_room h8) hd hcs)
/-- a callee over the same world -/
theorem p_callXVi (G : Gd Γ cc own nL rm sh) (hX : RTX Γ sh e mc ms) (hM : Mk Γ lc nm 0 0) (hσ : σ = go Γ) {idx : Nat} {C : String} {y : MethodName} {b : ByteArray} {n mc1 ms1 : Nat} {ret : Option FieldType} {np : Nat} {rm1 : Room} {k0 ci n1 : Nat} {t0 : Zc} {As stk : List Value}
    (hd : decode cc pc = .ok (.invokevirtual idx, 3)) (hL : LKV own idx C y b n ret np) (hml : Cond.methodLink own idx y ∈ GT) (hC : CTX (gl Γ) y b n ret rm1 sh (gD Γ) (gy Γ) (gk Γ) (gv Γ) (ga Γ) σ (.ref (ga Γ k0) :: As) e mc1 ms1) (hstk : stk = As.reverse ++ .ref (ga Γ k0) :: st)
    (hk : sh[k0]? = some (10 + ci, n1, t0, none)) (hCl : vwCl[ci]?.map (fun q => q.1) = some C) (hnp : As.length = np) (h8 : (st.map fun v => v.category).sum ≤ 8)
    (hrm : rm1.cells = mc1 ∧ rm1.slots = ms1 ∧ rm1.frames + 1 ≤ rm.frames ∧ 8 + (n + 11) + rm1.locals ≤ rm.locals) (hrc : mc1 ≤ rm.cells ∧ ms1 ≤ rm.slots) (hmc : mc1 ≤ mc) (hms : ms1 ≤ ms) : PT Γ nL sh pc σ lv stk := fun H locs ls hW hN hS hl => by
  subst hstk
  obtain ⟨hlk, hin, hse, hini, hcode, hy⟩ := hL
  have S : CallFix (gp Γ) (gm Γ) (gc Γ) cc nL (gs Γ) (gargs Γ) GT own := ⟨G.1, G.2.1, G.2.2.1, G.2.2.2.1, G.2.2.2.2.1⟩
  have hts := G.2.2.2.2.1
  have hR := G.2.2.2.2.2.2.2.2.1
  have hAB : ∀ q, aW sh (ga Γ) σ H.size q → gA Γ q := fun q hq => by
    rcases hq with ⟨k, p, hp, hx, rfl⟩ | hq
    · exact G.2.2.2.2.2.2.1.2 k p hp (hN k p hp hx)
    · exact G.2.2.2.2.2.2.2.1 q (Nat.le_trans hS.1 hq)
  have hpv : PreV (gs Γ) H C (ga Γ k0) (PcW (gD Γ) (gy Γ) (gk Γ) (gv Γ) sh (ga Γ) σ H.size (.ref (ga Γ k0) :: As)) As := ⟨pcw_blind, recv_at G hk hCl hW trivial, fun U hU hw => by
    subst hU
    exact ⟨rfl, rfl, hW, va_K.moved hw.alike G.2.2.2.2.2.1, ⟨fun i j p q hp hq hxp hxq e => G.2.2.2.2.2.2.1.1 i j p q hp hq (hN i p hp hxp) (hN j q hq hxq) e, fun _ _ _ _ => trivial⟩, ((OX.warm hw G.2.2.2.2.2.2.2.2.2.2).kept hS.2.1).narrow hAB⟩⟩
  have hroom : rm1.frames + 1 ≤ (gR Γ).frames ∧ 8 + (n + 11) + rm1.locals ≤ (gR Γ).locals := by rw [hR]; exact hrm.2.2
  have hcs : gmc Γ + mc1 ≤ (gR Γ).cells ∧ gms Γ + ms1 ≤ (gR Γ).slots := by rw [hR, hM.2.2.1, hM.2.2.2, Nat.zero_add, Nat.zero_add]; exact hrc
  obtain ⟨hA, hQ, htb⟩ := hX
  have fin : vx_Run (gp Γ) (gl Γ) (ge Γ) (gR Γ) (gs Γ) (gm Γ) (gargs Γ) (gbelow Γ) (gmeth Γ) (gc Γ) H locs (gmc Γ) (gms Γ) mc1 ms1 (F0 (gm Γ) pc ls (As.reverse ++ .ref (ga Γ k0) :: st)) st (fun _ _ _ => False) (XCX (gD Γ) (gy Γ) sh (ga Γ) σ H.size e) (aW sh (ga Γ) σ H.size) → gW Γ H locs pc ls (As.reverse ++ .ref (ga Γ k0) :: st) := by
    intro hr T hT X
    rcases hr T hT X with ⟨_, _, _, _, _, _, _, _, _, _, hq, _⟩ | ⟨q, st₀, t, T', L, E, ce, h0, X', hL, e1, e2, ⟨hE, hW1, hz1, hF⟩, hce, hcv, hcl, stp⟩
    · exact hq.elim
    · rw [h0] at hz1 hF
      rw [← e1] at hW1 hz1 hF hce
      have hS1 : va_S (gA Γ) (gs Γ).heap T'.heap (locs ++ L) := ⟨Nat.le_trans hS.1 hz1, fun q h1 h2 => by
        rw [hF q (Nat.lt_of_lt_of_le h1 hS.1) (fun z => h2 (hAB q z))]
        exact hS.2.1 q h1 h2, fun q hq => by
        rcases List.mem_append.mp hq with h | h
        · exact hS.2.2 q h
        · exact hAB _ (hL q h)⟩
      have hout : vx_W (gp Γ) (gl Γ) (ge Γ) (gR Γ) (gs Γ) (gm Γ) (gargs Γ) (gbelow Γ) (gmeth Γ) (gc Γ) T'.heap (locs ++ L) (gmc Γ + mc1) (gms Γ + ms1) (vx_MQ (gbelow Γ) (fun _ _ _ _ => False) (XCX (gD Γ) (gy Γ) sh (ga Γ) (go Γ) (gs Γ).heap.size e) (gargs Γ) (gs Γ) mc ms (aW sh (ga Γ) (go Γ) (gs Γ).heap.size)) (F0 (gm Γ) pc ls st) q := vx_out (fun x hx => (htb x hx).elim) G.2.2.2.2.2.2.2.2.2.1 hce hcv hcl (fun t2 ht2 _ => ⟨hE, by rw [ht2, ← hσ]; exact hW1, by
          have h := hS1.F (s := gs Γ) (t := t2) ht2
          rw [hA] at h
          exact h⟩) (fun z hz => by rw [← hA]; exact hS1.2.2 z hz) (by rw [hM.2.2.1]; omega) (by rw [hM.2.2.2]; omega)
      obtain ⟨t2, a3, b3⟩ := hout T' rfl X'
      refine ⟨t2, stp.trans a3, ?_⟩
      rw [hQ]
      exact b3
  have cw : CallW (gR Γ) (gs Γ) (gargs Γ) own C idx y b n ret (WS y b n ret) rm1 mc1 ms1 np := ⟨callB_of np hts (ws_good hcode) rfl hrm.1 hrm.2.1 (by rw [hy.1]; exact hts _ hini) (hts _ hml) hy.2 hroom, hts _ hin, hts _ hse⟩
  exact fin (vx_runV S (hC H.size) cw hpv rfl hnp hl.1 rfl (lv_room h8) hd hcs)
end EXP
