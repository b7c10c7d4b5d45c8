/-! Contracts over memories -/
abbrev WS (y : MethodName) (b : ByteArray) (n : Nat) (ret : Option FieldType) : List Cond := Cond.code y b n ret :: GT
def PcW (D : va_G) (yy : Nat → ClassId) (tk tv : Nat → Nat) (sh : Sh) (a : Nat → Nat) (σ : Mm) (sz : Nat) (As : List Value) : Array Value → State → Prop := fun v U => v = As.toArray ∧ U.heap.size = sz ∧ HW D yy sh a σ U.heap ∧ va_K D vwCl (zty yy) U ∧ AP (fun _ => True) sh a σ ∧ OX tk tv (aW sh a σ sz) U U.heap
def QcW (D : va_G) (yy : Nat → ClassId) (sh : Sh) (a : Nat → Nat) (σ : Mm) (sz : Nat) (σ1 : Mm) (ov : Option Value) : Array Value → State → Outcome → State → Prop := fun _ st oc t => oc = .returned ov ∧ HW D yy sh a σ1 t.heap ∧ NE sh σ σ1 ∧ va_F (aW sh a σ sz) st t
/-- a method that makes nothing: from memory σ, with these arguments, it returns ov, with memory σ1 -/
def CT (l : Launch) (y : MethodName) (b : ByteArray) (n : Nat) (ret : Option FieldType) (rm : Room) (sh : Sh) (D : va_G) (yy : Nat → ClassId) (tk tv : Nat → Nat) (a : Nat → Nat) (σ : Mm) (As : List Value) (σ1 : Mm) (ov : Option Value) : Prop :=
  ∀ sz : Nat, Met l y (WS y b n ret) rm (PcW D yy tk tv sh a σ sz As) (QcW D yy sh a σ sz σ1 ov) 0 0 (aW sh a σ sz)
/-- the goal, where a method returns -/
def RT (Γ : Cx) (sh : Sh) (ret : Option FieldType) (σ1 : Mm) (ov : Option Value) : Prop :=
  (gmeth Γ).sig.returnType = ret ∧ gmc Γ = 0 ∧ gms Γ = 0 ∧ gA Γ = aW sh (ga Γ) (go Γ) (gs Γ).heap.size ∧ gQ Γ = MQ (gbelow Γ) (QcW (gD Γ) (gy Γ) sh (ga Γ) (go Γ) (gs Γ).heap.size σ1 ov) (gargs Γ) (gs Γ) 0 0 (aW sh (ga Γ) (go Γ) (gs Γ).heap.size)
set_option maxHeartbeats 1000000 in
theorem ct_of {l : Launch} {y : MethodName} {b : ByteArray} {n : Nat} {ret : Option FieldType} {rm : Room} {sh : Sh} {D : va_G} {yy : Nat → ClassId} {tk tv : Nat → Nat} {a : Nat → Nat} {σ : Mm} {Ar : (Nat → Nat) → (Nat → Nat) → List Value} {σ1 : Mm} {ov : Option Value} (hy : plainName y.cls = true) (hn : (lg_sl (Ar a tk)).length ≤ n)
    (body : ∀ Γ : Cx, Gd Γ b y.cls n rm sh → go Γ = σ → gl Γ = l → RT Γ sh ret σ1 ov → PT Γ n sh 0 σ (lv_args 0 (Ar (ga Γ) (gk Γ))) []) : CT l y b n ret rm sh D yy tk tv a σ (Ar a tk) σ1 ov := by
  intro sz
  refine Met.ofW (cc := b) (maxL := n) (ret := ret) hy rfl ?_
  intro p e s m args below meth c s₁ B hml hv
  obtain ⟨rfl, rfl, hW, hK, hP, hO⟩ := hv
  have hts : ∀ w ∈ WS y b n ret, w.before (Ar a tk).toArray s = true := atoms_spec (ws := WS y b n ret) B.pre
  have hown : s.vm.findClass y.cls = some m.cls := findClass_of_methodNamed B.named
  have hl := lv_entry (Ar a tk) (n := n) hn
  rw [lg_entry_eq]
  have h := body (p, l, e, (headSpec (WS y b n ret) rm).room, s, m, (Ar a tk).toArray, below, meth, c, D, yy, tk, tv, a, aW sh a σ s.heap.size, σ, 0, 0, MQ below (QcW D yy sh a σ s.heap.size σ1 ov) (Ar a tk).toArray s 0 0 (aW sh a σ s.heap.size))
    ⟨B.exec, B.bytes, hml, hown, fun w hw => hts w (List.mem_cons_of_mem _ hw), hK, ⟨hP.1, fun k q hq hx => Or.inl ⟨k, q, hq, hx, rfl⟩⟩, fun q hq => Or.inr hq, rfl, B.notSynchronized, hO⟩ rfl rfl
    ⟨B.returns, rfl, rfl, rfl, rfl⟩
  exact h s.heap [] _ hW (fun _ _ _ h => h) va_S.rf hl
section RET
variable {Γ : Cx} {cc : ByteArray} {own : String} {nL : Nat} {rm : Room} {sh : Sh} {pc : Nat} {σ σ1 : Mm} {lv : List (Nat × Value)} {ov : Option Value}
theorem rt_q (G : Gd Γ cc own nL rm sh) {ret : Option FieldType} (hR : RT Γ sh ret σ1 ov) {v : Option Value} (hv : v = ov) (hs : σ = σ1) {H : Heap} {locs : List Loc} (hW : HW (gD Γ) (gy Γ) sh (ga Γ) σ H) (hN : NE sh (go Γ) σ) (hS : va_S (gA Γ) (gs Γ).heap H locs) : ∀ t : State, t.heap = H → (gs Γ).WarmedH t.vm → QcW (gD Γ) (gy Γ) sh (ga Γ) (go Γ) (gs Γ).heap.size σ1 ov (gargs Γ) (gs Γ) (.returned v) t := by
  intro t ht hw
  subst hv hs ht
  refine ⟨rfl, hW, hN, ?_⟩
  have h := hS.F (s := gs Γ) rfl
  rw [hR.2.2.2.1] at h
  exact h
theorem rt_f (G : Gd Γ cc own nL rm sh) {ret : Option FieldType} (hR : RT Γ sh ret σ1 ov) {H : Heap} {locs : List Loc} (hS : va_S (gA Γ) (gs Γ).heap H locs) : ∀ q ∈ locs, aW sh (ga Γ) (go Γ) (gs Γ).heap.size q.base := fun q hq => by
  have h := hS.2.2 q hq
  rw [hR.2.2.2.1] at h
  exact h
theorem gW_ret {ret : Option FieldType} (hR : RT Γ sh ret σ1 ov) {H : Heap} {locs : List Loc} {ls : Array Slot} {st : List Value} (h : W (gp Γ) (gl Γ) (ge Γ) (gR Γ) (gs Γ) (gm Γ) (gargs Γ) (gbelow Γ) (gmeth Γ) (gc Γ) H locs 0 0 (MQ (gbelow Γ) (QcW (gD Γ) (gy Γ) sh (ga Γ) (go Γ) (gs Γ).heap.size σ1 ov) (gargs Γ) (gs Γ) 0 0 (aW sh (ga Γ) (go Γ) (gs Γ).heap.size)) (F0 (gm Γ) pc ls st)) : gW Γ H locs pc ls st := by
  unfold gW
  rw [hR.2.1, hR.2.2.1, hR.2.2.2.2]
  exact h
theorem p_iret (G : Gd Γ cc own nL rm sh) {x : Int} (hR : RT Γ sh (some .int) σ1 ov) (hd : decode cc pc = .ok (.ireturn, 1)) (hv : some (Value.int (zJ x)) = ov) (hs : σ = σ1) : PT Γ nL sh pc σ lv [.int (zJ x)] := fun H locs ls hW hN hS hl =>
  gW_ret hR (W.iret G.1 G.2.1 hR.1 (rt_q G hR hv hs hW hN hS) (rt_f G hR hS) hd G.2.2.2.2.2.2.2.2.2.1)
theorem p_zret (G : Gd Γ cc own nL rm sh) {x : Int} (hR : RT Γ sh (some .boolean) σ1 ov) (hd : decode cc pc = .ok (.ireturn, 1)) (hb : narrow .boolean (.int (zJ x)) = .int (zJ x)) (hv : some (Value.int (zJ x)) = ov) (hs : σ = σ1) : PT Γ nL sh pc σ lv [.int (zJ x)] := fun H locs ls hW hN hS hl =>
  gW_ret hR (W.zret G.1 G.2.1 hR.1 hb (rt_q G hR hv hs hW hN hS) (rt_f G hR hS) hd G.2.2.2.2.2.2.2.2.2.1)
theorem p_lret (G : Gd Γ cc own nL rm sh) {x : Int64} (hR : RT Γ sh (some .long) σ1 ov) (hd : decode cc pc = .ok (.lreturn, 1)) (hv : some (Value.long x) = ov) (hs : σ = σ1) : PT Γ nL sh pc σ lv [.long x] := fun H locs ls hW hN hS hl =>
  gW_ret hR (W.lret G.1 G.2.1 hR.1 (rt_q G hR hv hs hW hN hS) (rt_f G hR hS) hd G.2.2.2.2.2.2.2.2.2.1)
theorem p_vret (G : Gd Γ cc own nL rm sh) (hR : RT Γ sh none σ1 ov) (hd : decode cc pc = .ok (.return_, 1)) (hv : none = ov) (hs : σ = σ1) : PT Γ nL sh pc σ lv [] := fun H locs ls hW hN hS hl =>
  gW_ret hR (W.vret G.1 G.2.1 hR.1 (rt_q G hR hv hs hW hN hS) (rt_f G hR hS) hd G.2.2.2.2.2.2.2.2.2.1)
end RET
