/-! Catching; what the law's own body needs -/
abbrev WSW (y : MethodName) (b : ByteArray) (n : Nat) (rt : Option FieldType) (hh : List (Nat × Nat × Nat × Nat)) : List Cond := Cond.codeWith y b n rt hh :: GT
/-- a maker with handlers of its own -/
def CTH (l : Launch) (y : MethodName) (b : ByteArray) (n : Nat) (rt : Option FieldType) (hh : List (Nat × Nat × Nat × Nat)) (rm : Room) (sh : Sh) (D : va_G) (yy : Nat → ClassId) (tk tv : Nat → Nat) (a : Nat → Nat) (σ : Mm) (As : List Value) (σ1 : Mm) (ov : Option Value) (mc ms : Nat) : Prop :=
  ∀ sz : Nat, Met l y (WSW y b n rt hh) rm (PcW D yy tk tv sh a σ sz As) (QcN D yy sh sh a σ sz σ1 ov) mc ms (aW sh a σ sz)
set_option maxHeartbeats 1000000 in
theorem cth_of {l : Launch} {y : MethodName} {b : ByteArray} {n : Nat} {rt : Option FieldType} {hh : List (Nat × Nat × Nat × Nat)} {rm : Room} {sh : Sh} {D : va_G} {yy : Nat → ClassId} {tk tv : Nat → Nat} {a : Nat → Nat} {σ : Mm} {Ar : (Nat → Nat) → (Nat → Nat) → List Value} {σ1 : Mm} {ov : Option Value} {mc ms : Nat} (hy : plainName y.cls = true) (hn : (lg_sl (Ar a tk)).length ≤ n) (hlr : rt ≠ lawR)
    (body : ∀ Γ : Cx, Gd Γ b y.cls n rm sh → go Γ = σ → Mk Γ (l, tk, tv) y.name 0 0 → RTN Γ sh sh rt σ1 ov mc ms → (gc Γ).exceptionTable.toList = tableOf hh → PT Γ n sh 0 σ (lv_args 0 (Ar (ga Γ) (gk Γ))) []) : CTH l y b n rt hh rm sh D yy tk tv a σ (Ar a tk) σ1 ov mc ms := by
  intro sz
  refine MetFree.of_bodyS (code := b) (maxLocals := n) (ret := rt) hy ?_ ?_
  · intro args s m h hn
    obtain ⟨m9, meth, c, hn9, h1, h2, h3, h4, -, h5, h6, -⟩ := Cond.codeWith_spec (atoms_spec (ws := WSW y b n rt hh) h _ List.mem_cons_self)
    cases hn.symm.trans hn9
    exact ⟨meth, c, h1, h2, h3, h4, h5, h6⟩
  · intro p e s m args below meth c s₁ B hml hv _
    obtain ⟨rfl, rfl, hW, hK, hP, hO⟩ := hv
    have hh0 : s₁.heap = s.heap := by rw [B.state]; rfl
    have hts : ∀ w ∈ WSW y b n rt hh, w.before (Ar a tk).toArray s = true := atoms_spec (ws := WSW y b n rt hh) B.pre
    have hown : s.vm.findClass y.cls = some m.cls := findClass_of_methodNamed B.named
    have hmx : c.maxLocals = n := hml
    have hl := lv_entry (Ar a tk) (n := n) hn
    have h := body (p, l, e, (headSpec (WSW y b n rt hh) rm).room, s, m, (Ar a tk).toArray, below, meth, c, D, yy, tk, tv, a, aW sh a σ s.heap.size, σ, 0, 0, MQ below (QcN D yy sh sh a σ s.heap.size σ1 ov) (Ar a tk).toArray s mc ms (aW sh a σ s.heap.size))
      ⟨B.exec, B.bytes, hmx, hown, fun w hw => hts w (List.mem_cons_of_mem _ hw), hK, ⟨hP.1, fun k q hq hx => Or.inl ⟨k, q, hq, hx, rfl⟩⟩, fun q hq => Or.inr hq, rfl, B.notSynchronized, hO⟩ rfl ⟨⟨rfl, rfl, rfl⟩, (name_of_methodNamed B.named B.method).1, rfl, rfl⟩
      (Or.inr ⟨hlr, sh, sh, a, σ, B.returns, rfl, rfl, fun k q hq hx => ⟨rfl, q, hq, hx⟩, fun _ _ h => h⟩) (vx_table (x := y) B (hts _ List.mem_cons_self))
    have hb := h s.heap [] _ hW (fun _ _ _ h => h) va_S.rf hl
    have hb2 : W p l e (headSpec (WSW y b n rt hh) rm).room s m (Ar a tk).toArray below meth c s.heap [] 0 0 (MQ below (QcN D yy sh sh a σ s.heap.size σ1 ov) (Ar a tk).toArray s mc ms (aW sh a σ s.heap.size)) (entryFrame m (Ar a tk).toArray n) := by
      rw [lg_entry_eq]
      exact hb
    obtain ⟨t, a1, o, b1, b2, b3⟩ := hb2 s₁ hh0 (Stand.of_body B)
    exact ⟨t, o, a1, b1, b2, b3⟩
section CAT
variable {Γ : Cx} {cc : ByteArray} {own : String} {nL : Nat} {rm : Room} {sh : Sh} {pc : Nat} {σ : Mm} {lv : List (Nat × Value)} {st : List Value}
variable {β : Type} {s00 sE : Sh} {ret9 : Option FieldType} {σ9 : Mm} {ov9 : Option Value} {mc9 ms9 m0 n0 : Nat} {lc : Lc} {nm0 : String} {kk : Mm → Option β} {out : β} {e : Nat} {hh : List (Nat × Nat × Nat × Nat)}
set_option maxHeartbeats 1000000 in
/-- a call that throws, caught here: on at the handler -/
theorem p_catch (G : Gd Γ cc own nL rm sh) (hR : RTN Γ sh sE ret9 σ9 ov9 mc9 ms9) (hM : Mk Γ lc nm0 m0 n0) (htab : (gc Γ).exceptionTable.toList = tableOf hh) {idx : Nat} {C : String} {y : MethodName} {b : ByteArray} {n mc1 ms1 : Nat} {ret : Option FieldType} {np : Nat} {rm1 : Room} {s1 : Sh} (l : List Nat) {k0 ci n1 : Nat} {t0 : Zc} {As stk : List Value}
    (pre : List (Nat × Nat × Nat × Nat)) (x : Nat × Nat × Nat × Nat) (suf : List (Nat × Nat × Nat × Nat)) (hh9 : hh = pre ++ x :: suf) (name : String) (hpass : ∀ z ∈ pre, z.2.2.2 ≠ 0 ∧ ∃ nm : String, Cond.classLink own z.2.2.2 nm ∈ GT ∧ va_Nc (zexn e) nm (gs Γ)) (hcov : covers ⟨x.1, x.2.1, x.2.2.1, x.2.2.2⟩ pc = true) (hx0 : x.2.2.2 ≠ 0) (hlink : Cond.classLink own x.2.2.2 name ∈ GT) (hcast : Cond.castable (zexn e) name ∈ NT)
    (hd : decode cc pc = .ok (.invokevirtual idx, 3)) (hL : LKV own idx C y b n ret np) (hml : Cond.methodLink own idx y ∈ GT) (hC : CTX (gl Γ) y b n ret rm1 s1 (gD Γ) (gy Γ) (gk Γ) (gv Γ) (fun i => ga Γ (zp l i)) (fun i => σ (zp l i)) (.ref (ga Γ k0) :: As) e mc1 ms1) (hstk : stk = As.reverse ++ .ref (ga Γ k0) :: st) (hz : zk s1 sh l = true) (hx : Zx sh l σ)
    (hk : sh[k0]? = some (10 + ci, n1, t0, none)) (hCl : vwCl[ci]?.map (fun q => q.1) = some C) (hnp : As.length = np) (h8 : (st.map fun v => v.category).sum ≤ 8)
    (hrm : rm1.cells = mc1 ∧ rm1.slots = ms1 ∧ rm1.frames + 1 ≤ rm.frames ∧ 8 + (n + 11) + rm1.locals ≤ rm.locals) (hrc : m0 + mc1 ≤ rm.cells) (hrs : n0 + ms1 ≤ rm.slots)
    (k9 : ∀ Γ' : Cx, Gd Γ' cc own nL rm sh → RTN Γ' sh sE ret9 σ9 ov9 mc9 ms9 → Mk Γ' lc nm0 (m0 + mc1) (n0 + ms1) → ga Γ' = ga Γ → ∀ q : Nat, PT Γ' nL sh x.2.2.1 σ lv [.ref q]) : PT Γ nL sh pc σ lv stk := fun H locs ls hW hN hS hl => by
  subst hstk
  obtain ⟨hlk, hin, hse, hini, hcode, hy⟩ := hL
  have S : CallFix (gp Γ) (gm Γ) (gc Γ) cc nL (gs Γ) (gargs Γ) GT own := ⟨G.1, G.2.1, G.2.2.1, G.2.2.2.1, G.2.2.2.2.1⟩
  have hts := G.2.2.2.2.1
  have hR9 := G.2.2.2.2.2.2.2.2.1
  have hpv : PreV (gs Γ) H C (ga Γ k0) (PcW (gD Γ) (gy Γ) (gk Γ) (gv Γ) s1 (fun i => ga Γ (zp l i)) (fun i => σ (zp l i)) H.size (.ref (ga Γ k0) :: As)) As := ⟨pcw_blind, recv_at G hk hCl hW trivial, pcw_at G hz hx hW hN hS _⟩
  have hroom : rm1.frames + 1 ≤ (gR Γ).frames ∧ 8 + (n + 11) + rm1.locals ≤ (gR Γ).locals := by rw [hR9]; exact hrm.2.2
  have hcs : gmc Γ + mc1 ≤ (gR Γ).cells ∧ gms Γ + ms1 ≤ (gR Γ).slots := by rw [hR9, hM.2.2.1, hM.2.2.2]; exact ⟨hrc, hrs⟩
  have cw : CallW (gR Γ) (gs Γ) (gargs Γ) own C idx y b n ret (WS y b n ret) rm1 mc1 ms1 np := ⟨callB_of np hts (ws_good hcode) rfl hrm.1 hrm.2.1 (by rw [hy.1]; exact hts _ hini) (hts _ hml) hy.2 hroom, hts _ hin, hts _ hse⟩
  have hr := vx_runV S (hC H.size) cw hpv rfl hnp hl.1 rfl (lv_room h8) hd hcs (p := gp Γ) (l := gl Γ) (e := ge Γ) (R := gR Γ) (below := gbelow Γ) (meth := gmeth Γ) (locs := locs) (g := F0 (gm Γ) pc ls (As.reverse ++ .ref (ga Γ k0) :: st))
  intro T hT X
  rcases hr T hT X with ⟨_, _, _, _, _, _, _, _, _, _, hq, _⟩ | ⟨q, st₀, t, T', L, E, ce, h0, X', hL2, e1, e2, ⟨hE, hW1, hz1, hF⟩, hce, hcv, hcl, stp⟩
  · exact hq.elim
  · rw [h0] at hz1 hF
    rw [← e1] at hW1 hz1 hF hce
    subst hE
    obtain ⟨g1, g2⟩ := zout_W hz hx hW hN G.2.2.2.2.2.2.1 hW1 (fun _ _ _ h => h) hF
    rw [zj_self] at g1
    have hAB := zin_A hz hx hN G.2.2.2.2.2.2.1 G.2.2.2.2.2.2.2.1 hS
    have hS1 : va_S (gA Γ) (gs Γ).heap T'.heap (locs ++ L) := ⟨Nat.le_trans hS.1 hz1, fun q h1 h2 => by
      rw [hF q (Nat.lt_of_lt_of_le h1 hS.1) (fun z => h2 (hAB q z))]
      exact hS.2.1 q h1 h2, fun q hq => by
      rcases List.mem_append.mp hq with h | h
      · exact hS.2.2 q h
      · exact hAB _ (hL2 q h)⟩
    have hAP : AP (gA Γ) sh (ga Γ) σ := ⟨fun i j p q hp hq hxp hxq e => G.2.2.2.2.2.2.1.1 i j p q hp hq (hN i p hp hxp) (hN j q hq hxq) e, fun k q hq hx => G.2.2.2.2.2.2.1.2 k q hq (hN k q hq hx)⟩
    have k8 := k9 (gN Γ (ga Γ) σ (gmc Γ + mc1) (gms Γ + ms1)) (gd_N G _ _ hAP) (rtn_N hR _ _ (fun _ _ _ _ => rfl)) ⟨hM.1, hM.2.1, by show gmc Γ + _ = m0 + _; rw [hM.2.2.1], by show gms Γ + _ = n0 + _; rw [hM.2.2.2]⟩ rfl q T'.heap (locs ++ L) ls g1 (fun _ _ _ h => h) hS1 hl
    have k7 : W (gp Γ) (gl Γ) (ge Γ) (gR Γ) (gs Γ) (gm Γ) (gargs Γ) (gbelow Γ) (gmeth Γ) (gc Γ) T'.heap (locs ++ L) (gmc Γ + mc1) (gms Γ + ms1) (gQ Γ) (F0 (gm Γ) x.2.2.1 ls [.ref q]) := k8
    have hcat : vx_W (gp Γ) (gl Γ) (ge Γ) (gR Γ) (gs Γ) (gm Γ) (gargs Γ) (gbelow Γ) (gmeth Γ) (gc Γ) T'.heap (locs ++ L) (gmc Γ + mc1) (gms Γ + ms1) (gQ Γ) (F0 (gm Γ) pc ls st) q := vx_catch (E := zexn e) (name := name) G.2.2.2.1 (tableOf pre) ⟨x.1, x.2.1, x.2.2.1, x.2.2.2⟩ (tableOf suf) (by rw [htab, hh9]; unfold tableOf; rw [List.map_append, List.map_cons]) (fun z hz => by
        obtain ⟨w, hw, rfl⟩ := List.mem_map.mp hz
        obtain ⟨q1, nm, q2, q3⟩ := hpass w hw
        exact Or.inr ⟨q1, nm, hts _ q2, q3⟩) hcov hx0 (hts _ hlink) (gd_n G hcast) hce hcv hcl k7
    obtain ⟨t2, a3, b3⟩ := hcat T' rfl X'
    exact ⟨t2, stp.trans a3, b3⟩
/-- a static method with handlers, called -/
theorem p_callHS (G : Gd Γ cc own nL rm sh) (hR : RTN Γ sh sE ret9 σ9 ov9 mc9 ms9) (hM : Mk Γ lc nm0 m0 n0) {idx : Nat} {y : MethodName} {b : ByteArray} {n mc1 ms1 : Nat} {ret : Option FieldType} {np : Nat} {rm1 : Room} {s1 : Sh} (l : List Nat) {As stk : List Value} {σ1 : Mm} {ov : Option Value} {lv' : (Nat → Nat) → List (Nat × Value)} {st' : (Nat → Nat) → List Value}
    (hd : decode cc pc = .ok (.invokestatic idx, 3)) (w1 : Cond.methodLink own idx y ∈ GT) (w2 : Cond.static y ∈ GT) (w3 : Cond.initialized y.cls ∈ GT) (w4 : Cond.codeWith y b n ret hh ∈ GT) (hy : y.cls ≠ "java/lang/invoke/MethodHandle" ∧ y.cls ≠ "java/lang/invoke/VarHandle" ∧ (parseMethodDescriptor y.desc).map (fun d => d.parameters.length) = some np) (hC : CTH (gl Γ) y b n ret hh rm1 s1 (gD Γ) (gy Γ) (gk Γ) (gv Γ) (fun i => ga Γ (zp l i)) (zb l σ) As σ1 ov mc1 ms1) (hstk : stk = As.reverse ++ st) (hz : zk s1 sh l = true) (hw : zkw s1 = true) (hn : zkn s1 sh l = true) (hx : Zx sh l σ)
    (hnp : As.length = np) (h8 : (st.map fun v => v.category).sum ≤ 8)
    (hrm : rm1.cells = mc1 ∧ rm1.slots = ms1 ∧ rm1.frames + 1 ≤ rm.frames ∧ 8 + (n + 11) + rm1.locals ≤ rm.locals) (hrc : m0 + mc1 ≤ rm.cells) (hrs : n0 + ms1 ≤ rm.slots)
    (h : bnd (zj l σ σ1) kk = some out)
    (hlv : ∀ a : Nat → Nat, (∀ (c : Nat) (q : Zs), sh[c]? = some q → q.2.2.2 = none → a c = ga Γ c) → lv = lv' a ∧ st = st' a)
    (k9 : ∀ Γ' : Cx, Gd Γ' cc own nL rm sh → RTN Γ' sh sE ret9 σ9 ov9 mc9 ms9 → Mk Γ' lc nm0 (m0 + mc1) (n0 + ms1) → ∀ σ', kk σ' = some out → PT Γ' nL sh (pc + 3) σ' (lv' (ga Γ')) (ov.toList ++ st' (ga Γ'))) : PT Γ nL sh pc σ lv stk := fun H locs ls hW hN hS hl => by
  subst hstk
  have S : CallFix (gp Γ) (gm Γ) (gc Γ) cc nL (gs Γ) (gargs Γ) GT own := ⟨G.1, G.2.1, G.2.2.1, G.2.2.2.1, G.2.2.2.2.1⟩
  have hts := G.2.2.2.2.1
  have hR9 := G.2.2.2.2.2.2.2.2.1
  have hpv : PreS (gs Γ) H (PcW (gD Γ) (gy Γ) (gk Γ) (gv Γ) s1 (fun i => ga Γ (zp l i)) (fun i => σ (zp l i)) H.size As) As := ⟨pcw_blind, pcw_at G hz hx hW hN hS _⟩
  have hroom : rm1.frames + 1 ≤ (gR Γ).frames ∧ 8 + (n + 11) + rm1.locals ≤ (gR Γ).locals := by rw [hR9]; exact hrm.2.2
  have hcs : gmc Γ + mc1 ≤ (gR Γ).cells ∧ gms Γ + ms1 ≤ (gR Γ).slots := by rw [hR9, hM.2.2.1, hM.2.2.2]; exact ⟨hrc, hrs⟩
  have hG : GoodIn GT (va_wsS own idx y (WSW y b n ret hh)) := gt_sub (fun w hw => by
    rcases List.mem_append.mp hw with h | h
    · simp only [List.mem_cons, List.not_mem_nil, or_false] at h
      rcases h with rfl | rfl | rfl
      · exact w1
      · exact w2
      · exact w3
    · rcases List.mem_cons.mp h with h | h
      · rw [h]; exact w4
      · exact h)
  have cw := vx_cwSW (R := gR Γ) (s := gs Γ) (args := gargs Γ) np hts hG rfl hrm.1 hrm.2.1 hy hroom
  exact run_goN G hR hM hz hw hn hx hW hN hS hl (vx_runSW S (hC H.size) cw hpv rfl hnp hl.1 rfl (lv_room h8) hd hcs) h hlv k9
/-- the law's end -/
theorem p_lawret (G : Gd Γ code own nL room_1 sh) {xs : Mm} {L b m n : Nat} (hR : RTN Γ s00 sE lawR xs ov9 L b) (hM : Mk Γ lc nm0 m n) (hm : m ≤ room_1.cells) (hn : n ≤ room_1.slots) (hd : decode code pc = .ok (.ireturn, 1)) : PT Γ nL sh pc σ lv [.int (zJ 1)] := fun H locs ls hW hN hS hl => by
  obtain ⟨-, hargs, -, -, hA, hQ, hr, -⟩ := rtn_law (s1 := sh) (s8 := sh) hR
  unfold gW
  rw [hM.2.2.1, hM.2.2.2, hQ, hargs, G.2.2.2.2.2.2.2.2.1]
  refine va_forget (fun q hq => by have := hS.2.2 q hq; rw [hA] at this; exact this) (W.widen hm hn ?_)
  have h0 := lw_ret (p := gp Γ) (l := gl Γ) (e := ge Γ) (s := gs Γ) (m := gm Γ) (below := gbelow Γ) (meth := gmeth Γ) (c := gc Γ) (b := b) G.1 G.2.1 hr G.2.2.2.2.2.2.2.2.2.1 (pc := pc) (H := H) (ls := ls) hd
  exact h0
end CAT
section LAWN
variable {Γ : Cx} {cc : ByteArray} {own : String} {nL : Nat} {rm : Room} {sh : Sh} {pc : Nat} {σ : Mm} {lv : List (Nat × Value)} {st : List Value}
variable {β : Type} {sE : Sh} {ret : Option FieldType} {σ9 : Mm} {ov9 : Option Value} {mc9 ms9 m n : Nat} {lc : Lc} {nm : String} {kk : Mm → Option β} {out : β}
set_option maxHeartbeats 1000000 in
/-- new, constructor, into a local: what was made is there from now on, by the flag (kf, j) -/
theorem p_newObjSt (G : Gd Γ cc own nL rm sh) (hR : RTN Γ sh sE ret σ9 ov9 mc9 ms9) (hM : Mk Γ lc nm m n) {idx idx2 ci N nc mc1 ms1 kf j K ir : Nat} {tc : Zc} {y : MethodName} {b : ByteArray} {rm1 : Room} {s0 s9 : Sh} {σ1 : Mm} {f1 : Fin 4} (l : List Nat) (hNW : NW own idx ci N tc) (h0 : s0[0]? = some (10 + ci, N, tc, none)) (hg0 : zg0 s0 = true)
    (hL : LKI own idx2 y b nc) (hC : ∀ a : Nat → Nat, CTN (gl Γ) y b nc none rm1 s0 s9 (gD Γ) (gy Γ) (gk Γ) (gv Γ) a (fun _ _ => 0) [.ref (a 0)] σ1 none mc1 ms1)
    (hd1 : decode cc pc = .ok (.new idx, 3)) (hd2 : decode cc (pc + 3) = .ok (.dup, 1)) (hd3 : decode cc (pc + 3 + 1) = .ok (.invokespecial idx2, 3)) (hd4 : decode cc (pc + 3 + 1 + 3) = .ok (.astore_n f1, 1)) (hf1 : (f1 : Nat) = ir)
    (hrm : rm1.cells = mc1 ∧ rm1.slots = ms1 ∧ rm1.frames + 1 ≤ rm.frames ∧ 8 + (nc + 11) + rm1.locals ≤ rm.locals) (hrc : m + (1 + mc1) ≤ rm.cells) (hrs : n + (N + ms1) ≤ rm.slots)
    (hkf : sh[kf]? = none) (hK0 : zq l K = some 0) (hz : zk s9 sh l = true) (hw : zkw s9 = true) (hn : zno sh l kf j = true) (hir : ir < nL)
    {lvr : Nat → List (Nat × Value)} {lv' : (Nat → Nat) → List (Nat × Value)} (hlr : ∀ r : Nat, (ir, .ref r) :: lv.filter (fun q => !(q.1 == ir) && !(q.1 + 1 == ir && q.2.category == 2)) = lvr r)
    (h : bnd (zu (zj l σ σ1) kf j 1) kk = some out)
    (hlv : ∀ a : Nat → Nat, (∀ c, zq l c = none → a c = ga Γ c) → lvr (a K) = lv' a)
    (k9 : ∀ Γ' : Cx, Gd Γ' cc own nL rm sh → RTN Γ' sh sE ret σ9 ov9 mc9 ms9 → Mk Γ' lc nm (m + (1 + mc1)) (n + (N + ms1)) → ∀ σ', kk σ' = some out → PT Γ' nL sh (pc + 3 + 1 + 3 + 1) σ' (lv' (ga Γ')) []) : PT Γ nL sh pc σ lv [] := fun H locs ls hW hN9 hS hl => by
  refine w_newObj G hM hNW h0 hg0 hL hC hd1 hd2 hd3 hrm hrc hrs (by show 0 ≤ 7; omega) hl.1 hS (fun b1 H3 locs3 hW3 hA3 hf3 hS3 => ?_)
  refine lv_astore_n G.1 G.2.1 hd4 hf1 hl hir (hlr (b1 0)) (fun ls3 hl3 => ?_)
  have hmK : mrg l (ga Γ) b1 K = b1 0 := mrg_some _ _ hK0
  obtain ⟨g1, g2⟩ := adopt (H0 := H) (H1 := H3) (H2 := H3) hz hw hn hW hN9 G.2.2.2.2.2.2.1 (fun q hq => G.2.2.2.2.2.2.2.1 q (Nat.le_trans hS.1 hq)) hf3 hW3 hA3 (fun q _ => rfl) (fun q hq => by rw [hkf] at hq; cases hq)
  have he := mrg_free hn (ga Γ) b1
  have el := hlv (mrg l (ga Γ) b1) (fun c hc => mrg_none _ _ hc)
  rw [hmK] at el
  exact k9 (gN Γ (mrg l (ga Γ) b1) (zu (zj l σ σ1) kf j 1) (gmc Γ + (1 + mc1)) (gms Γ + (N + ms1))) (gd_N G _ _ g2) (rtn_N hR _ _ he) ⟨hM.1, hM.2.1, by show gmc Γ + _ = m + _; rw [hM.2.2.1], by show gms Γ + _ = n + _; rw [hM.2.2.2]⟩ _ h H3 locs3 ls3 g1 (fun _ _ _ hx => hx) hS3 (show lv_has ls3 nL (lv' (mrg l (ga Γ) b1)) by rw [← el]; exact hl3)
set_option maxHeartbeats 1000000 in
/-- newarray, into a local -/
theorem p_newaSt (G : Gd Γ cc own nL rm sh) (hR : RTN Γ sh sE ret σ9 ov9 mc9 ms9) (hM : Mk Γ lc nm m n) {atype : ArrayType} {kf j N K c1 kd ir ln : Nat} {ins : Instr}
    (ha : Cond.arrayClass (newarray.typeOf atype) ∈ GT) (hd1 : decode cc pc = .ok (.newarray atype, 2)) (hst : ∀ (a : Nat) (H : Heap) (locs : List Loc) (mc ms : Nat) (ls : Array Slot), lv_has ls nL lv → (∀ ls', lv_has ls' nL ((ir, .ref a) :: lv.filter (fun q => !(q.1 == ir) && !(q.1 + 1 == ir && q.2.category == 2))) → W (gp Γ) (gl Γ) (ge Γ) (gR Γ) (gs Γ) (gm Γ) (gargs Γ) (gbelow Γ) (gmeth Γ) (gc Γ) H locs mc ms (gQ Γ) (F0 (gm Γ) (pc + 2 + ln) ls' [])) → W (gp Γ) (gl Γ) (ge Γ) (gR Γ) (gs Γ) (gm Γ) (gargs Γ) (gbelow Γ) (gmeth Γ) (gc Γ) H locs mc ms (gQ Γ) (F0 (gm Γ) (pc + 2) ls [.ref a]))
    (hkf : sh[kf]? = none) (hz : zk [(kd, N, ([], c1, 0), none)] sh [K] = true) (hw : zkw [(kd, N, ([], c1, 0), none)] = true) (hn : zno sh [K] kf j = true)
    (hkd : ∀ y : Nat → ClassId, (zty y)[kd]? = some (y kd, newarray.typeOf atype)) (hra : ∀ (U : State) (c : ClassId), va_RA U c (newarray.typeOf atype) → U.vm.findClass ("[" ++ (newarray.typeOf atype).toString) = some c) (hdef : ∀ j2, defaultValue (newarray.typeOf atype) = zFk kd (fun _ => 0) ([], c1, 0) (fun _ => 0) j2) (hc1 : c1 < 2) (hkd9 : kd < 10)
    (hN : N < 2147483648) (hby : N * componentBytes (newarray.typeOf atype) ≤ 536870912) (hrc : m + 1 ≤ rm.cells) (hrs : n + N ≤ rm.slots)
    {lv' : (Nat → Nat) → List (Nat × Value)}
    (h : bnd (zu (zj [K] σ (fun _ _ => 0)) kf j 1) kk = some out)
    (hlv : ∀ a : Nat → Nat, (∀ c, zq [K] c = none → a c = ga Γ c) → (ir, .ref (a K)) :: lv.filter (fun q => !(q.1 == ir) && !(q.1 + 1 == ir && q.2.category == 2)) = lv' a)
    (k9 : ∀ Γ' : Cx, Gd Γ' cc own nL rm sh → RTN Γ' sh sE ret σ9 ov9 mc9 ms9 → Mk Γ' lc nm (m + 1) (n + N) → ∀ σ', kk σ' = some out → PT Γ' nL sh (pc + 2 + ln) σ' (lv' (ga Γ')) []) : PT Γ nL sh pc σ lv [.int (zJ (N : Int))] := fun H locs ls hW hN9 hS hl => by
  obtain ⟨znn, zn0⟩ := zw_nat hN
  refine va_newaK G.1 G.2.1 (G.2.2.2.2.1 _ ha) rfl hd1 rfl zn0 znn hby (by rw [hM.2.2.1, G.2.2.2.2.2.2.2.2.1]; exact hrc) (by rw [hM.2.2.2, G.2.2.2.2.2.2.2.2.1]; exact hrs) rfl (fun H1 cA e1 z1 o1 hAr hNm => ?_)
  have hcA : cA = gy Γ kd := Option.some.inj (hNm.symm.trans (hra _ _ (G.2.2.2.2.2.1.2 kd _ (hkd _)).2))
  subst hcA
  refine hst H.size H1 locs (gmc Γ + 1) (gms Γ + N) ls hl (fun ls3 hl3 => ?_)
  have hmK : mrg [K] (ga Γ) (fun _ => H.size) K = H.size := by
    unfold mrg zq zqi
    rw [if_pos rfl]
  have hW1 : HW (gD Γ) (gy Γ) [(kd, N, ([], c1, 0), none)] (fun _ => H.size) (fun _ _ => 0) H1 := by
    intro i q hq hx
    have hi : i = 0 := by
      have := (List.getElem?_eq_some_iff.mp hq).1
      simp at this
      omega
    subst hi
    cases hq
    unfold zC
    rw [if_pos hkd9, e1]
    refine congrArg some (arrV_congr (fun j2 _ => ?_))
    rw [hdef j2]
    unfold zFk
    by_cases c6 : kd = 6
    · rw [if_pos c6, if_pos c6]
    · rw [if_neg c6, if_neg c6]
      unfold zF
      refine zV_cong (fun mm hm => ?_) _
      rw [zt_c] at hm
      unfold zref at hm
      rw [if_pos hc1] at hm
      cases hm
  have hA1 : AP (fun q => H.size ≤ q) [(kd, N, ([], c1, 0), none)] (fun _ => H.size) (fun _ _ => 0) := ⟨fun i j2 p q hp hq _ _ _ => by
    have h1 := (List.getElem?_eq_some_iff.mp hp).1
    have h2 := (List.getElem?_eq_some_iff.mp hq).1
    simp at h1 h2
    omega, fun _ _ _ _ => Nat.le_refl _⟩
  obtain ⟨g1, g2⟩ := adopt (H0 := H) (H1 := H1) (H2 := H1) hz hw hn hW hN9 G.2.2.2.2.2.2.1 (fun q hq => G.2.2.2.2.2.2.2.1 q (Nat.le_trans hS.1 hq)) (fun q hq => o1 q hq) hW1 hA1 (fun q _ => rfl) (fun q hq => by rw [hkf] at hq; cases hq)
  have he := mrg_free hn (ga Γ) (fun _ => H.size)
  have el := hlv (mrg [K] (ga Γ) (fun _ => H.size)) (fun c hc => mrg_none _ _ hc)
  rw [hmK] at el
  exact k9 (gN Γ (mrg [K] (ga Γ) (fun _ => H.size)) (zu (zj [K] σ (fun _ _ => 0)) kf j 1) (gmc Γ + 1) (gms Γ + N)) (gd_N G _ _ g2) (rtn_N hR _ _ he) ⟨hM.1, hM.2.1, by show gmc Γ + 1 = m + 1; rw [hM.2.2.1], by show gms Γ + N = n + N; rw [hM.2.2.2]⟩ _ h H1 locs ls3 g1 (fun _ _ _ hx => hx) ⟨by rw [z1]; exact Nat.le_succ_of_le hS.1, fun q h1 h2 => by rw [o1 q (Nat.lt_of_lt_of_le h1 hS.1)]; exact hS.2.1 q h1 h2, hS.2.2⟩ (show lv_has ls3 nL (lv' (mrg [K] (ga Γ) (fun _ => H.size))) by rw [← el]; exact hl3)
end LAWN
