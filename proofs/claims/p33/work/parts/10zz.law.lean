/-! The law's own methods: contracts with handlers of methods that make nothing, the script, arrays made into locals over a larger world -/
/-- the law's script, told by the frame -/
def zsc (v : Nat → Nat) : Mm := fun _ j => ((v (1000 + j) : Nat) : Int)
/-- a method with handlers that makes nothing -/
def CTHP (l : Launch) (y : MethodName) (b : ByteArray) (n : Nat) (rt : Option FieldType) (hh : List (Nat × Nat × Nat × Nat)) (rm : Room) (sh : Sh) (D : va_G) (yy : Nat → ClassId) (tk tv : Nat → Nat) (a : Nat → Nat) (σ : Mm) (As : List Value) (σ1 : Mm) (ov : Option Value) : Prop :=
  ∀ sz : Nat, Met l y (WSW y b n rt hh) rm (PcW D yy tk tv sh a σ sz As) (QcW D yy sh a σ sz σ1 ov) 0 0 (aW sh a σ sz)
set_option maxHeartbeats 1000000 in
theorem cthp_of {l : Launch} {y : MethodName} {b : ByteArray} {n : Nat} {rt : Option FieldType} {hh : List (Nat × Nat × Nat × Nat)} {rm : Room} {sh : Sh} {D : va_G} {yy : Nat → ClassId} {tk tv : Nat → Nat} {a : Nat → Nat} {σ : Mm} {Ar : (Nat → Nat) → (Nat → Nat) → List Value} {σ1 : Mm} {ov : Option Value} (hy : plainName y.cls = true) (hn : (lg_sl (Ar a tk)).length ≤ n)
    (body : ∀ Γ : Cx, Gd Γ b y.cls n rm sh → go Γ = σ → gl Γ = l → RT Γ sh rt σ1 ov → PT Γ n sh 0 σ (lv_args 0 (Ar (ga Γ) (gk Γ))) []) : CTHP l y b n rt hh rm sh D yy tk tv a σ (Ar a tk) σ1 ov := by
  intro sz
  refine MetFree.of_bodyS (code := b) (maxLocals := n) (ret := rt) hy ?_ ?_
  · intro args s m h hn
    obtain ⟨m9, meth, c, hn9, h1, h2, h3, h4, -, h5, h6, -⟩ := Cond.codeWith_spec (atoms_spec (ws := WSW y b n rt hh) h _ List.mem_cons_self)
    cases hn.symm.trans hn9
    exact ⟨meth, c, h1, h2, h3, h4, h5, h6⟩
  · intro p e s m args below meth c s₁ B hml hv _
    obtain ⟨rfl, rfl, hW, hK, hP, hO⟩ := hv
    have hh0 : s₁.heap = s.heap := by rw [B.state]; rfl
    have hts : ∀ w ∈ WSW y b n rt hh, w.before (Ar a tk).toArray s = true := atoms_spec (ws := WSW y b n rt hh) B.pre
    have hown : s.vm.findClass y.cls = some m.cls := findClass_of_methodNamed B.named
    have hmx : c.maxLocals = n := hml
    have hl := lv_entry (Ar a tk) (n := n) hn
    have h := body (p, l, e, (headSpec (WSW y b n rt hh) rm).room, s, m, (Ar a tk).toArray, below, meth, c, D, yy, tk, tv, a, aW sh a σ s.heap.size, σ, 0, 0, MQ below (QcW D yy sh a σ s.heap.size σ1 ov) (Ar a tk).toArray s 0 0 (aW sh a σ s.heap.size))
      ⟨B.exec, B.bytes, hmx, hown, fun w hw => hts w (List.mem_cons_of_mem _ hw), hK, ⟨hP.1, fun k q hq hx => Or.inl ⟨k, q, hq, hx, rfl⟩⟩, fun q hq => Or.inr hq, rfl, B.notSynchronized, hO⟩ rfl rfl
      ⟨B.returns, rfl, rfl, rfl, rfl⟩
    have hb := h s.heap [] _ hW (fun _ _ _ h => h) va_S.rf hl
    have hb2 : W p l e (headSpec (WSW y b n rt hh) rm).room s m (Ar a tk).toArray below meth c s.heap [] 0 0 (MQ below (QcW D yy sh a σ s.heap.size σ1 ov) (Ar a tk).toArray s 0 0 (aW sh a σ s.heap.size)) (entryFrame m (Ar a tk).toArray n) := by
      rw [lg_entry_eq]
      exact hb
    obtain ⟨t, a1, o, b1, b2, b3⟩ := hb2 s₁ hh0 (Stand.of_body B)
    exact ⟨t, o, a1, b1, b2, b3⟩
set_option maxHeartbeats 1000000 in
/-- as ct_of, telling the frame's own names -/
theorem ct_ofK {l : Launch} {y : MethodName} {b : ByteArray} {n : Nat} {ret : Option FieldType} {rm : Room} {sh : Sh} {D : va_G} {yy : Nat → ClassId} {tk tv : Nat → Nat} {a : Nat → Nat} {σ : Mm} {Ar : (Nat → Nat) → (Nat → Nat) → List Value} {σ1 : Mm} {ov : Option Value} (hy : plainName y.cls = true) (hn : (lg_sl (Ar a tk)).length ≤ n)
    (body : ∀ Γ : Cx, Gd Γ b y.cls n rm sh → go Γ = σ → gl Γ = l → gk Γ = tk → gv Γ = tv → RT Γ sh ret σ1 ov → PT Γ n sh 0 σ (lv_args 0 (Ar (ga Γ) (gk Γ))) []) : CT l y b n ret rm sh D yy tk tv a σ (Ar a tk) σ1 ov := by
  intro sz
  refine Met.ofW (cc := b) (maxL := n) (ret := ret) hy rfl ?_
  intro p e s m args below meth c s₁ B hml hv
  obtain ⟨rfl, rfl, hW, hK, hP, hO⟩ := hv
  have hts : ∀ w ∈ WS y b n ret, w.before (Ar a tk).toArray s = true := atoms_spec (ws := WS y b n ret) B.pre
  have hown : s.vm.findClass y.cls = some m.cls := findClass_of_methodNamed B.named
  have hl := lv_entry (Ar a tk) (n := n) hn
  rw [lg_entry_eq]
  have h := body (p, l, e, (headSpec (WS y b n ret) rm).room, s, m, (Ar a tk).toArray, below, meth, c, D, yy, tk, tv, a, aW sh a σ s.heap.size, σ, 0, 0, MQ below (QcW D yy sh a σ s.heap.size σ1 ov) (Ar a tk).toArray s 0 0 (aW sh a σ s.heap.size))
    ⟨B.exec, B.bytes, hml, hown, fun w hw => hts w (List.mem_cons_of_mem _ hw), hK, ⟨hP.1, fun k q hq hx => Or.inl ⟨k, q, hq, hx, rfl⟩⟩, fun q hq => Or.inr hq, rfl, B.notSynchronized, hO⟩ rfl rfl rfl rfl
    ⟨B.returns, rfl, rfl, rfl, rfl⟩
  exact h s.heap [] _ hW (fun _ _ _ h => h) va_S.rf hl
theorem bthrn {α β : Type} {x : Option (α ⊕ Nat)} {k : α → Option β} {o : β} (h : (x.bind fun r => zel r k (fun _ => none)) = some o) : ∃ v, x = some (.inl v) ∧ k v = some o := by
  obtain ⟨r, h1, h2⟩ := bnd_some h
  cases r with
  | inl v => exact ⟨v, h1, h2⟩
  | inr e => cases h2
/-- a world with more cells, which hang on the flags of the cell 200 -/
def zex (sh shg : Sh) : Bool := (decide (sh.length ≤ shg.length) && decide (shg.length ≤ 200)) && (List.range shg.length).all (fun k => match sh[k]?, shg[k]? with
  | some q, some p => zqe (some q) (some p) && (match q.2.2.2 with
    | none => true
    | some g => !(g.1 == 200))
  | none, some p => (match p.2.2.2 with
    | none => false
    | some g => g.1 == 200)
  | _, _ => true)
theorem zex_at {sh shg : Sh} (h : zex sh shg = true) {k : Nat} {p : Zs} (hp : shg[k]? = some p) : (sh[k]? = some p ∧ ∀ g, p.2.2.2 = some g → g.1 ≠ 200) ∨ (sh[k]? = none ∧ ∃ g, p.2.2.2 = some g ∧ g.1 = 200) := by
  have h1 := List.all_eq_true.mp (Bool.and_eq_true _ _ |>.mp h).2 k (List.mem_range.mpr (List.getElem?_eq_some_iff.mp hp).1)
  simp only [hp] at h1
  cases hq : sh[k]? with
  | some q =>
    left
    simp only [hq, Bool.and_eq_true] at h1
    have e := zqe_eq h1.1
    cases e
    refine ⟨rfl, fun g hg => ?_⟩
    have h2 := h1.2
    rw [hg] at h2
    simpa using h2
  | none =>
    right
    simp only [hq] at h1
    cases hg : p.2.2.2 with
    | none => rw [hg] at h1; cases h1
    | some g =>
      rw [hg] at h1
      exact ⟨rfl, g, rfl, by simpa using h1⟩
theorem zex_up {sh shg : Sh} (h : zex sh shg = true) (k : Nat) (q : Zs) (hq : sh[k]? = some q) : shg[k]? = some q := by
  have hl : k < shg.length := Nat.lt_of_lt_of_le (List.getElem?_eq_some_iff.mp hq).1 (of_decide_eq_true (Bool.and_eq_true _ _ |>.mp (Bool.and_eq_true _ _ |>.mp h).1).1)
  obtain ⟨p, hp⟩ : ∃ p, shg[k]? = some p := ⟨_, List.getElem?_eq_getElem hl⟩
  rcases zex_at h hp with ⟨h1, -⟩ | ⟨h1, -⟩
  · rw [hq] at h1
    cases h1
    exact hp
  · rw [hq] at h1
    cases h1
theorem zex_200 {sh shg : Sh} (h : zex sh shg = true) {k : Nat} {p : Zs} (hp : shg[k]? = some p) (e : k = 200) : False := by
  have h1 := of_decide_eq_true (Bool.and_eq_true _ _ |>.mp (Bool.and_eq_true _ _ |>.mp h).1).2
  have h2 := (List.getElem?_eq_some_iff.mp hp).1
  omega
def zpr (s t : Sh) : Bool := (List.range s.length).all (fun k => zqe s[k]? t[k]?)
theorem zpr_up {s t : Sh} (h : zpr s t = true) (k : Nat) (q : Zs) (hq : s[k]? = some q) : t[k]? = some q := by
  have h1 := zqe_eq (List.all_eq_true.mp h k (List.mem_range.mpr (List.getElem?_eq_some_iff.mp hq).1))
  rw [← h1]
  exact hq
/-- the flags down -/
def zf0 (σ : Mm) : Mm := fun c => if c = 200 then fun _ => 0 else σ c
theorem ext_W {D : va_G} {y : Nat → ClassId} {A : Nat → Prop} {sh shg : Sh} {a : Nat → Nat} {o σ : Mm} {H : Heap} (hz : zex sh shg = true) (hW : HW D y sh a σ H) (hN : NE sh o σ) (hA : AP A sh a o) : HW D y shg a (zf0 σ) H ∧ AP A shg a (zf0 σ) := by
  have key : ∀ (k : Nat) (p : Zs), shg[k]? = some p → zx (zf0 σ) p.2.2.2 → sh[k]? = some p ∧ zx σ p.2.2.2 := by
    intro k p hp hx
    rcases zex_at hz hp with ⟨h1, h2⟩ | ⟨-, g, hg, h2⟩
    · refine ⟨h1, ?_⟩
      cases hg : p.2.2.2 with
      | none => trivial
      | some g =>
        rw [hg] at hx
        have h3 : zf0 σ g.1 g.2 ≠ 0 := hx
        unfold zf0 at h3
        rw [if_neg (h2 g hg)] at h3
        exact h3
    · rw [hg] at hx
      have h3 : zf0 σ g.1 g.2 ≠ 0 := hx
      unfold zf0 at h3
      rw [if_pos h2] at h3
      exact absurd rfl h3
  refine ⟨fun k p hp hx => ?_, fun i j p q hp hq hxp hxq e => ?_, fun k p hp hx => ?_⟩
  · obtain ⟨h1, h2⟩ := key k p hp hx
    have h3 := hW k p h1 h2
    by_cases e : k = 200
    · exfalso
      exact zex_200 hz hp e
    · unfold zf0
      rw [if_neg e]
      exact h3
  · exact hA.1 i j p q (key i p hp hxp).1 (key j q hq hxq).1 (hN i p (key i p hp hxp).1 (key i p hp hxp).2) (hN j q (key j q hq hxq).1 (key j q hq hxq).2) e
  · exact hA.2 k p (key k p hp hx).1 (hN k p (key k p hp hx).1 (key k p hp hx).2)
section LW2
variable {Γ : Cx} {cc : ByteArray} {own : String} {nL : Nat} {rm : Room} {sh : Sh} {pc : Nat} {σ : Mm} {lv : List (Nat × Value)} {st : List Value}
variable {β : Type} {s00 sE : Sh} {ret9 : Option FieldType} {σ9 : Mm} {ov9 : Option Value} {mc9 ms9 m0 n0 : Nat} {lc : Lc} {nm0 : String} {kk : Mm → Option β} {out : β} {hh : List (Nat × Nat × Nat × Nat)}
variable {lv' : (Nat → Nat) → List (Nat × Value)} {st' : (Nat → Nat) → List Value}
theorem p_ext (G : Gd Γ cc own nL rm sh) {shg : Sh} (hR : RTN Γ sh sE ret9 σ9 ov9 mc9 ms9) (hM : Mk Γ lc nm0 m0 n0) (hz : zex sh shg = true) (h : bnd (zf0 σ) kk = some out)
    (k9 : ∀ Γ' : Cx, Gd Γ' cc own nL rm shg → RTN Γ' shg sE ret9 σ9 ov9 mc9 ms9 → Mk Γ' lc nm0 m0 n0 → ga Γ' = ga Γ → ∀ σ', kk σ' = some out → PT Γ' nL shg pc σ' lv st) : PT Γ nL sh pc σ lv st := fun H locs ls hW hN hS hl => by
  obtain ⟨g1, g2⟩ := ext_W hz hW hN G.2.2.2.2.2.2.1
  exact k9 (gN Γ (ga Γ) (zf0 σ) (gmc Γ) (gms Γ)) (gd_N G _ _ g2) (rtn_N (rtn_up hR (zex_up hz) (fun _ _ h => h)) _ _ (fun _ _ _ _ => rfl)) hM rfl _ h H locs ls g1 (fun _ _ _ hx => hx) hS hl
theorem p_zretN (G : Gd Γ cc own nL rm sh) {x : Int} {m n mc ms : Nat} {s0 : Sh} {σ1 : Mm} {ov : Option Value} (hM : Mk Γ lc nm0 m n) (hm : m ≤ mc) (hn : n ≤ ms) (hR : RTN Γ s0 sh (some .boolean) σ1 ov mc ms) (hd : decode cc pc = .ok (.ireturn, 1)) (hb : narrow .boolean (.int (zJ x)) = .int (zJ x)) (hv : some (Value.int (zJ x)) = ov) (hs : σ = σ1) : PT Γ nL sh pc σ lv [.int (zJ x)] := fun H locs ls hW hN hS hl =>
  gW_retN G hM hm hn (fun h => by cases h) hR hv hs hW hN hS (fun hr Qc free hq hf => W.zret G.1 G.2.1 hr hb hq hf hd G.2.2.2.2.2.2.2.2.2.1)
theorem p_slenK (G : Gd Γ cc own nL rm sh) {tk : Nat → Nat} (e1 : gk Γ = tk) (hd : decode cc pc = .ok (.arraylength, 1)) (k : PT Γ nL sh (pc + 1) σ lv (.int (zJ (tk 1001 : Nat)) :: st)) : PT Γ nL sh pc σ lv (.ref (tk 1000) :: st) := fun H locs ls hW hN hS hl => by
  subst e1
  exact va_tlen G.1 G.2.1 G.2.2.2.2.2.2.2.2.2.2.2.2.2.2.2.2.2.2.1.1 hS rfl hd (k H locs ls hW hN hS hl)
theorem p_sldK (G : Gd Γ cc own nL rm sh) {tk tv : Nat → Nat} (e1 : gk Γ = tk) (e2 : gv Γ = tv) {x : Int} {A : Option β} (hd : decode cc pc = .ok (.iaload, 1)) (h : (if zin x (tk 1001) then A else none) = some out) (k : zin x (tk 1001) → A = some out → PT Γ nL sh (pc + 1) σ lv (.int (zJ (zsc tv 0 (zix x))) :: st)) : PT Γ nL sh pc σ lv (.int (zJ x) :: .ref (tk 1000) :: st) := by
  subst e1 e2
  refine zift h (fun hi h2 => fun H locs ls hW hN hS hl => ?_)
  exact va_ti G.1 G.2.1 G.2.2.2.2.2.2.2.2.2.2.2.2.2.2.2.2.2.2.1.1 hS (zin_vp hi) rfl hd (k hi h2 H locs ls hW hN hS hl)
/-- a static method with handlers that makes nothing, called -/
theorem p_callHP (G : Gd Γ cc own nL rm sh) {idx : Nat} {y : MethodName} {b : ByteArray} {n : Nat} {ret : Option FieldType} {np : Nat} {rm1 : Room} {s1 : Sh} (l : List Nat) {As stk : List Value} {σ1 : Mm} {ov : Option Value}
    (hd : decode cc pc = .ok (.invokestatic idx, 3)) (w1 : Cond.methodLink own idx y ∈ GT) (w2 : Cond.static y ∈ GT) (w3 : Cond.initialized y.cls ∈ GT) (w4 : Cond.codeWith y b n ret hh ∈ GT) (hy : y.cls ≠ "java/lang/invoke/MethodHandle" ∧ y.cls ≠ "java/lang/invoke/VarHandle" ∧ (parseMethodDescriptor y.desc).map (fun d => d.parameters.length) = some np) (hC : CTHP (gl Γ) y b n ret hh rm1 s1 (gD Γ) (gy Γ) (gk Γ) (gv Γ) (fun i => ga Γ (zp l i)) (zb l σ) As σ1 ov) (hstk : stk = As.reverse ++ st) (hz : zk s1 sh l = true) (hx : Zx sh l σ)
    (hnp : As.length = np) (h8 : (st.map fun v => v.category).sum ≤ 8)
    (hrm : rm1.cells = 0 ∧ rm1.slots = 0 ∧ rm1.frames + 1 ≤ rm.frames ∧ 8 + (n + 11) + rm1.locals ≤ rm.locals) (hcs : gmc Γ ≤ (gR Γ).cells ∧ gms Γ ≤ (gR Γ).slots)
    (k : PT Γ nL sh (pc + 3) (zj l σ σ1) lv (ov.toList ++ st)) : PT Γ nL sh pc σ lv stk := fun H locs ls hW hN hS hl => by
  subst hstk
  have S : CallFix (gp Γ) (gm Γ) (gc Γ) cc nL (gs Γ) (gargs Γ) GT own := ⟨G.1, G.2.1, G.2.2.1, G.2.2.2.1, G.2.2.2.2.1⟩
  have hts := G.2.2.2.2.1
  have hR9 := G.2.2.2.2.2.2.2.2.1
  have hpv : PreS (gs Γ) H (PcW (gD Γ) (gy Γ) (gk Γ) (gv Γ) s1 (fun i => ga Γ (zp l i)) (fun i => σ (zp l i)) H.size As) As := ⟨pcw_blind, pcw_at G hz hx hW hN hS _⟩
  have hroom : rm1.frames + 1 ≤ (gR Γ).frames ∧ 8 + (n + 11) + rm1.locals ≤ (gR Γ).locals := by rw [hR9]; exact hrm.2.2
  have hG : GoodIn GT (va_wsS own idx y (WSW y b n ret hh)) := gt_sub (fun w hw => by
    rcases List.mem_append.mp hw with h | h
    · simp only [List.mem_cons, List.not_mem_nil, or_false] at h
      rcases h with rfl | rfl | rfl
      · exact w1
      · exact w2
      · exact w3
    · rcases List.mem_cons.mp h with h | h
      · rw [h]; exact w4
      · exact h)
  have cw := vx_cwSW (R := gR Γ) (s := gs Γ) (args := gargs Γ) np hts hG rfl hrm.1 hrm.2.1 hy hroom
  exact run_go G hz hx hW hN hS hl (vx_runSW S (hC H.size) cw hpv rfl hnp hl.1 rfl (lv_room h8) hd hcs) k
theorem p_callHPr (G : Gd Γ cc own nL rm sh) {idx : Nat} {y : MethodName} {b : ByteArray} {n : Nat} {ret : Option FieldType} {np : Nat} {rm1 : Room} {s1 : Sh} (l : List Nat) {As stk : List Value} {ov : Option Value}
    (hd : decode cc pc = .ok (.invokestatic idx, 3)) (w1 : Cond.methodLink own idx y ∈ GT) (w2 : Cond.static y ∈ GT) (w3 : Cond.initialized y.cls ∈ GT) (w4 : Cond.codeWith y b n ret hh ∈ GT) (hy : y.cls ≠ "java/lang/invoke/MethodHandle" ∧ y.cls ≠ "java/lang/invoke/VarHandle" ∧ (parseMethodDescriptor y.desc).map (fun d => d.parameters.length) = some np) (hC : CTHP (gl Γ) y b n ret hh rm1 s1 (gD Γ) (gy Γ) (gk Γ) (gv Γ) (fun i => ga Γ (zp l i)) (zb l σ) As (zb l σ) ov) (hstk : stk = As.reverse ++ st) (hz : zk s1 sh l = true) (hx : Zx sh l σ)
    (hnp : As.length = np) (h8 : (st.map fun v => v.category).sum ≤ 8)
    (hrm : rm1.cells = 0 ∧ rm1.slots = 0 ∧ rm1.frames + 1 ≤ rm.frames ∧ 8 + (n + 11) + rm1.locals ≤ rm.locals) (hcs : gmc Γ ≤ (gR Γ).cells ∧ gms Γ ≤ (gR Γ).slots)
    (k : PT Γ nL sh (pc + 3) σ lv (ov.toList ++ st)) : PT Γ nL sh pc σ lv stk := by
  refine p_callHP G l hd w1 w2 w3 w4 hy hC hstk hz hx hnp h8 hrm hcs ?_
  rw [zj_self]
  exact k
set_option maxHeartbeats 1000000 in
/-- a static maker, called -/
theorem p_callSN (G : Gd Γ cc own nL rm sh) (hR : RTN Γ sh sE ret9 σ9 ov9 mc9 ms9) (hM : Mk Γ lc nm0 m0 n0) {idx : Nat} {y : MethodName} {b : ByteArray} {n mc1 ms1 : Nat} {ret : Option FieldType} {np : Nat} {rm1 : Room} {s1 : Sh} (l : List Nat) {As stk : List Value} {σ1 : Mm} {ov : Option Value}
    (hd : decode cc pc = .ok (.invokestatic idx, 3)) (hL : LKS own idx y b n ret np) (hC : CTN (gl Γ) y b n ret rm1 s1 s1 (gD Γ) (gy Γ) (gk Γ) (gv Γ) (fun i => ga Γ (zp l i)) (zb l σ) As σ1 ov mc1 ms1) (hstk : stk = As.reverse ++ st) (hz : zk s1 sh l = true) (hw : zkw s1 = true) (hn : zkn s1 sh l = true) (hx : Zx sh l σ)
    (hnp : As.length = np) (h8 : (st.map fun v => v.category).sum ≤ 8)
    (hrm : rm1.cells = mc1 ∧ rm1.slots = ms1 ∧ rm1.frames + 1 ≤ rm.frames ∧ 8 + (n + 11) + rm1.locals ≤ rm.locals) (hrc : m0 + mc1 ≤ rm.cells) (hrs : n0 + ms1 ≤ rm.slots)
    (h : bnd (zj l σ σ1) kk = some out)
    (hlv : ∀ a : Nat → Nat, (∀ (c : Nat) (q : Zs), sh[c]? = some q → q.2.2.2 = none → a c = ga Γ c) → lv = lv' a ∧ st = st' a)
    (k9 : ∀ Γ' : Cx, Gd Γ' cc own nL rm sh → RTN Γ' sh sE ret9 σ9 ov9 mc9 ms9 → Mk Γ' lc nm0 (m0 + mc1) (n0 + ms1) → ∀ σ', kk σ' = some out → PT Γ' nL sh (pc + 3) σ' (lv' (ga Γ')) (ov.toList ++ st' (ga Γ'))) : PT Γ nL sh pc σ lv stk := fun H locs ls hW hN hS hl => by
  subst hstk
  obtain ⟨hlk, hstat, hini, hcode, hy⟩ := hL
  have S : CallFix (gp Γ) (gm Γ) (gc Γ) cc nL (gs Γ) (gargs Γ) GT own := ⟨G.1, G.2.1, G.2.2.1, G.2.2.2.1, G.2.2.2.2.1⟩
  have hts := G.2.2.2.2.1
  have hR9 := G.2.2.2.2.2.2.2.2.1
  have hpv : PreS (gs Γ) H (PcW (gD Γ) (gy Γ) (gk Γ) (gv Γ) s1 (fun i => ga Γ (zp l i)) (fun i => σ (zp l i)) H.size As) As := ⟨pcw_blind, pcw_at G hz hx hW hN hS _⟩
  have hroom : rm1.frames + 1 ≤ (gR Γ).frames ∧ 8 + (n + 11) + rm1.locals ≤ (gR Γ).locals := by rw [hR9]; exact hrm.2.2
  have hcs : gmc Γ + mc1 ≤ (gR Γ).cells ∧ gms Γ + ms1 ≤ (gR Γ).slots := by rw [hR9, hM.2.2.1, hM.2.2.2]; exact ⟨hrc, hrs⟩
  rcases hlk with hlk | ⟨host, hlk⟩
  · have cw : CallB (gR Γ) (gs Γ) (gargs Γ) own idx y b n ret (WS y b n ret) rm1 mc1 ms1 np := callB_of np hts (ws_good hcode) rfl hrm.1 hrm.2.1 (hts _ hini) (hts _ hlk) hy hroom
    exact run_goN G hR hM hz hw hn hx hW hN hS hl (va_runS S (hC H.size) ⟨cw, hts _ hstat⟩ hpv rfl hnp hl.1 rfl (lv_room h8) hd hcs) h hlv k9
  · have cw := va_cnB (R := gR Γ) (s := gs Γ) (args := gargs Γ) np hts (ws_good hcode) rfl hrm.1 hrm.2.1 (va_Nw.of rfl (gd_n G hlk)) (hts _ hini) hy hroom
    exact run_goN G hR hM hz hw hn hx hW hN hS hl (va_runSN S (hC H.size) ⟨cw, hts _ hstat, trivial⟩ hpv rfl hnp hl.1 rfl (lv_room h8) hd hcs) h hlv k9
end LW2
set_option maxHeartbeats 1000000 in
/-- as ct_of, of a method of java/lang/Math that is its own bytecode -/
theorem ct_ofF {l : Launch} {y : MethodName} {b : ByteArray} {n : Nat} {rt : Option FieldType} {rm : Room} {sh : Sh} {D : va_G} {yy : Nat → ClassId} {tk tv : Nat → Nat} {a : Nat → Nat} {σ : Mm} {Ar : (Nat → Nat) → (Nat → Nat) → List Value} {σ1 : Mm} {ov : Option Value} (hy : plainFor y = true) (hn : (lg_sl (Ar a tk)).length ≤ n)
    (body : ∀ Γ : Cx, Gd Γ b y.cls n rm sh → go Γ = σ → gl Γ = l → RT Γ sh rt σ1 ov → PT Γ n sh 0 σ (lv_args 0 (Ar (ga Γ) (gk Γ))) []) : CT l y b n rt rm sh D yy tk tv a σ (Ar a tk) σ1 ov := by
  intro sz
  refine MetFree.of_bodySF (code := b) (maxLocals := n) (ret := rt) hy ?_ ?_
  · intro args s m h hn
    obtain ⟨meth, c, h1, h2, h3, h4, h5, h6, -, -⟩ := Cond.code_spec hn (atoms_spec (ws := WS y b n rt) h _ List.mem_cons_self)
    exact ⟨meth, c, h1, h2, h3, h4, h5, h6⟩
  · intro p e s m args below meth c s₁ B hml hv _
    obtain ⟨rfl, rfl, hW, hK, hP, hO⟩ := hv
    have hh0 : s₁.heap = s.heap := by rw [B.state]; rfl
    have hts : ∀ w ∈ WS y b n rt, w.before (Ar a tk).toArray s = true := atoms_spec (ws := WS y b n rt) B.pre
    have hown : s.vm.findClass y.cls = some m.cls := findClass_of_methodNamed B.named
    have hmx : c.maxLocals = n := B.maxLocals_eq (hts _ List.mem_cons_self)
    have hl := lv_entry (Ar a tk) (n := n) hn
    have h := body (p, l, e, (headSpec (WS y b n rt) rm).room, s, m, (Ar a tk).toArray, below, meth, c, D, yy, tk, tv, a, aW sh a σ s.heap.size, σ, 0, 0, MQ below (QcW D yy sh a σ s.heap.size σ1 ov) (Ar a tk).toArray s 0 0 (aW sh a σ s.heap.size))
      ⟨B.exec, B.bytes, hmx, hown, fun w hw => hts w (List.mem_cons_of_mem _ hw), hK, ⟨hP.1, fun k q hq hx => Or.inl ⟨k, q, hq, hx, rfl⟩⟩, fun q hq => Or.inr hq, rfl, B.notSynchronized, hO⟩ rfl rfl
      ⟨B.returns, rfl, rfl, rfl, rfl⟩
    have hb := h s.heap [] _ hW (fun _ _ _ h => h) va_S.rf hl
    have hb2 : W p l e (headSpec (WS y b n rt) rm).room s m (Ar a tk).toArray below meth c s.heap [] 0 0 (MQ below (QcW D yy sh a σ s.heap.size σ1 ov) (Ar a tk).toArray s 0 0 (aW sh a σ s.heap.size)) (entryFrame m (Ar a tk).toArray n) := by
      rw [lg_entry_eq]
      exact hb
    obtain ⟨t, a1, o, b1, b2, b3⟩ := hb2 s₁ hh0 (Stand.of_body B)
    exact ⟨t, o, a1, b1, b2, b3⟩
