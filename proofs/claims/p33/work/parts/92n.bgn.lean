/-! The beginning: the builder's phase -/
theorem lt_L_87 : LKV "WrapRunsLaw" 87 "java/lang/String" yJ_String_length cJ_String_length 1 (some .int) 0 := ⟨Or.inl (gt_mem 758 (by decide +kernel) (by decide +kernel)), gm_288, gm_289, gm_34, gm_290, by decide +kernel⟩
theorem lt_L_93 : LKV "WrapRunsLaw" 93 "java/lang/String" yJ_String_charAt cJ_String_charAt 2 (some .char) 1 := ⟨Or.inl (gt_mem 759 (by decide +kernel) (by decide +kernel)), gm_298, gm_299, gm_34, gm_300, by decide +kernel⟩
theorem lt_L_97 : LKV "WrapRunsLaw" 97 RX6 yX6_append cX6_append 6 (some .int) 5 := ⟨Or.inl (gt_mem 760 (by decide +kernel) (by decide +kernel)), gt_mem 761 (by decide +kernel) (by decide +kernel), gt_mem 762 (by decide +kernel) (by decide +kernel), gm_27, gt_mem 763 (by decide +kernel) (by decide +kernel), by decide +kernel⟩
theorem lt_L_100 : LKV "WrapRunsLaw" 100 RX6 yX6_load cX6_load 3 (some .int) 0 := ⟨Or.inl (gt_mem 768 (by decide +kernel) (by decide +kernel)), gt_mem 769 (by decide +kernel) (by decide +kernel), gt_mem 770 (by decide +kernel) (by decide +kernel), gm_27, gt_mem 771 (by decide +kernel) (by decide +kernel), by decide +kernel⟩
set_option maxHeartbeats 1000000 in
/-- as ctn_of, from the heap that the method starts at -/
theorem ctn_of2 {l : Launch} {y : MethodName} {b : ByteArray} {n : Nat} {ret : Option FieldType} {rm : Room} {s0 s9 : Sh} {D : va_G} {yy : Nat → ClassId} {tk tv : Nat → Nat} {a : Nat → Nat} {σ : Mm} {Ar : (Nat → Nat) → (Nat → Nat) → List Value} {σ1 : Mm} {ov : Option Value} {mc ms : Nat} (hy : plainName y.cls = true) (hn : (lg_sl (Ar a tk)).length ≤ n) (hlr : ret ≠ lawR)
    (body : ∀ Γ : Cx, Gd Γ b y.cls n rm s0 → go Γ = σ → Mk Γ (l, tk, tv) y.name 0 0 → RTN Γ s0 s9 ret σ1 ov mc ms → HW (gD Γ) (gy Γ) s0 (ga Γ) σ (gs Γ).heap → ∀ ls : Array Slot, lv_has ls n (lv_args 0 (Ar (ga Γ) (gk Γ))) → gW Γ (gs Γ).heap [] 0 ls []) : CTN l y b n ret rm s0 s9 D yy tk tv a σ (Ar a tk) σ1 ov mc ms := by
  intro sz
  refine Met.ofW (cc := b) (maxL := n) (ret := ret) hy rfl ?_
  intro p e s m args below meth c s₁ B hml hv
  obtain ⟨rfl, rfl, hW, hK, hP, hO⟩ := hv
  have hts : ∀ w ∈ WS y b n ret, w.before (Ar a tk).toArray s = true := atoms_spec (ws := WS y b n ret) B.pre
  have hown : s.vm.findClass y.cls = some m.cls := findClass_of_methodNamed B.named
  have hl := lv_entry (Ar a tk) (n := n) hn
  rw [lg_entry_eq]
  exact body (p, l, e, (headSpec (WS y b n ret) rm).room, s, m, (Ar a tk).toArray, below, meth, c, D, yy, tk, tv, a, aW s0 a σ s.heap.size, σ, 0, 0, MQ below (QcN D yy s0 s9 a σ s.heap.size σ1 ov) (Ar a tk).toArray s mc ms (aW s0 a σ s.heap.size))
    ⟨B.exec, B.bytes, hml, hown, fun w hw => hts w (List.mem_cons_of_mem _ hw), hK, ⟨hP.1, fun k q hq hx => Or.inl ⟨k, q, hq, hx, rfl⟩⟩, fun q hq => Or.inr hq, rfl, B.notSynchronized, hO⟩ rfl ⟨⟨rfl, rfl, rfl⟩, (name_of_methodNamed B.named B.method).1, rfl, rfl⟩
    (Or.inr ⟨hlr, s0, s9, a, σ, B.returns, rfl, rfl, fun k q hq hx => ⟨rfl, q, hq, hx⟩, fun _ _ h => h⟩) hW _ hl
/-- the frame, keeping to what it makes -/
def gB (Γ : Cx) (a : Nat → Nat) (o : Mm) (mc ms : Nat) : Cx := (gp Γ, gl Γ, ge Γ, gR Γ, gs Γ, gm Γ, gargs Γ, gbelow Γ, gmeth Γ, gc Γ, gD Γ, gy Γ, gk Γ, gv Γ, a, (fun q => (gs Γ).heap.size ≤ q), o, mc, ms, gQ Γ)
theorem gd_B {Γ : Cx} {cc : ByteArray} {own : String} {nL : Nat} {rm : Room} {sh sh2 : Sh} (G : Gd Γ cc own nL rm sh) {a : Nat → Nat} {o : Mm} (mc ms : Nat) (hA : AP (fun q => (gs Γ).heap.size ≤ q) sh2 a o) : Gd (gB Γ a o mc ms) cc own nL rm sh2 := ⟨G.1, G.2.1, G.2.2.1, G.2.2.2.1, G.2.2.2.2.1, G.2.2.2.2.2.1, hA, fun _ h => h, G.2.2.2.2.2.2.2.2.1, G.2.2.2.2.2.2.2.2.2.1, G.2.2.2.2.2.2.2.2.2.2.narrow G.2.2.2.2.2.2.2.1⟩
section SBQ
variable {Γ : Cx} {cc : ByteArray} {own : String} {nL : Nat} {rm : Room} {m1 : Nat} {pc : Nat} {σ : Mm} {lv : List (Nat × Value)} {st : List Value} {b m n : Nat} {lc : Lc} {nm : String}
set_option maxHeartbeats 1000000 in
/-- a builder's method, of a frame that isn't its class's -/
theorem p_callVQ (G : Gd Γ cc own nL rm (shB m1)) (hM : Mk Γ lc nm m n) {v1 : Nat} (hv1 : ga Γ = adB b v1) {idx : Nat} {y : MethodName} {c : ByteArray} {nc mc1 ms1 : Nat} {ret : Option FieldType} {np : Nat} {rm1 : Room} {As stk : List Value} {post1 : Nat → Mm → Prop} {ov1 : Option Value}
    (hd : decode cc pc = .ok (.invokevirtual idx, 3)) (hL : LKV own idx "java/lang/StringBuilder" y c nc ret np) (hC : CB (gl Γ) y c nc ret rm1 (gD Γ) (gy Γ) (gk Γ) (gv Γ) b v1 m1 σ (.ref b :: As) post1 ov1 mc1 ms1) (hstk : stk = As.reverse ++ .ref b :: st) (hnp : As.length = np) (h8 : (st.map fun v => v.category).sum ≤ 8)
    (hrm : rm1.cells = mc1 ∧ rm1.slots = ms1 ∧ rm1.frames + 1 ≤ rm.frames ∧ 8 + (nc + 11) + rm1.locals ≤ rm.locals) (hrc : m + mc1 ≤ rm.cells) (hrs : n + ms1 ≤ rm.slots)
    (k9 : ∀ (v' m' : Nat) (σ' : Mm), (v' = v1 ∨ (gs Γ).heap.size ≤ v') → b ≠ v' → post1 m' σ' → PT (gN Γ (adB b v') σ' (gmc Γ + mc1) (gms Γ + ms1)) nL (shB m') (pc + 3) σ' lv (ov1.toList ++ st)) : PT Γ nL (shB m1) pc σ lv stk := fun H locs ls hW hN hS hl => by
  subst hstk
  have hcs : gmc Γ + mc1 ≤ (gR Γ).cells ∧ gms Γ + ms1 ≤ (gR Γ).slots := by rw [hM.2.2.1, hM.2.2.2, G.2.2.2.2.2.2.2.2.1]; exact ⟨hrc, hrs⟩
  have e0 : ga Γ 0 = b := by rw [hv1]; rfl
  have e1 : ga Γ 1 = v1 := by rw [hv1]; rfl
  have hrecv := recv_at (ci := 1) (C := "java/lang/StringBuilder") G (k0 := 0) rfl rfl hW trivial
  have hp := (pcw_same (As := .ref b :: As) G hW hN hS).1
  have hAA := (pcw_same (As := []) G hW hN hS).2
  have hb : b < H.size := by rw [← e0]; exact zC_lt (hW 0 _ rfl trivial)
  have hne : b ≠ v1 := fun e => by
    have := G.2.2.2.2.2.2.1.1 0 1 _ _ rfl rfl trivial trivial (by rw [e0, e1]; exact e)
    cases this
  rw [hv1] at hp hAA
  rw [e0] at hrecv
  have hr := r_V (locs := locs) G hd hL (hC H.size) ⟨pcw_blind, hrecv, hp⟩ hnp h8 hl.1 hrm hcs
  intro T hT X
  obtain ⟨v, st₀, t, T', L, h0, X', hL, x1, x2, ⟨hv, v', m', σ', hvv, hW1, hp1, hz1, hF⟩, stp⟩ := hr T hT X
  cases hv
  rw [h0] at hz1 hF
  rw [← x1] at hW1 hz1 hF
  have hvs : v' = v1 ∨ (gs Γ).heap.size ≤ v' := hvv.imp_right (fun h => Nat.le_trans hS.1 h)
  have hbv : b ≠ v' := by
    rcases hvv with h | h
    · rw [h]; exact hne
    · omega
  have hS1 : va_S (gA Γ) (gs Γ).heap T'.heap (locs ++ L) := ⟨Nat.le_trans hS.1 hz1, fun q h1 h2 => by
    rw [hF q (Nat.lt_of_lt_of_le h1 hS.1) (fun z => h2 (hAA q z))]
    exact hS.2.1 q h1 h2, fun q hq => by
    rcases List.mem_append.mp hq with h | h
    · exact hS.2.2 q h
    · exact hAA _ (hL q h)⟩
  have k8 := k9 v' m' σ' hvs hbv hp1 T'.heap (locs ++ L) ls hW1 (fun _ _ _ hx => hx) hS1 hl
  obtain ⟨t2, a3, b1⟩ := k8 T' rfl X'
  exact ⟨t2, stp t2 a3, b1⟩
end SBQ
/-- behind the builder's having t, the goal is reached -/
def BG (Γ : Cx) (nL b pc n : Nat) (t : Nat → Int) (mc ms : Nat) (lv : List (Nat × Value)) (st : List Value) : Prop := ∀ (v m : Nat) (σ : Mm), b ≠ v → (gs Γ).heap.size ≤ v → OKB n m t σ → PT (gB Γ (adB b v) σ mc ms) nL (shB m) pc σ lv st
section BGS
variable {Γ : Cx} {cc : ByteArray} {nL : Nat} {rm : Room} {sh : Sh} {b pc n mc ms m0 n0 : Nat} {t : Nat → Int} {lv : List (Nat × Value)} {lc : Lc} {nm : String}
theorem bg_S (G : Gd Γ cc "WrapRunsLaw" nL rm sh) (hM : Mk Γ lc nm m0 n0) (hb : (gs Γ).heap.size ≤ b) {u i idx : Nat} (hi : i < zsM) (ho : zsOwn.getD i "" = "WrapRunsLaw") (hu : zsU.getD i 0 = u) (hun : u < zsN) (hd : decode cc pc = .ok (.ldc idx, 2)) (hx : zsIdx.getD i 0 = idx) (hd2 : decode cc (pc + 2) = .ok (.invokevirtual 67, 3)) (hn : n + zsLen.getD u 0 ≤ 34) (hrc : mc + 1 ≤ rm.cells) (hrs : ms + 34 ≤ rm.slots) (hrf : 6 ≤ rm.frames ∧ 155 ≤ rm.locals)
    (k : BG Γ nL b (pc + 2 + 3) (n + zsLen.getD u 0) (catI t n (zsb u)) (mc + 1) (ms + 34) lv [.ref b]) : BG Γ nL b pc n t mc ms lv [.ref b] := by
  intro v m σ hne hv hO
  have G' := gd_B G mc ms (ap_B (m := m) (σ := σ) hb hv hne)
  refine p_ldcS (u := u) G' i hi ho hu hd hx ?_
  refine p_callVQ (st := []) G' (lc := lc) (nm := nm) ⟨hM.1, hM.2.1, rfl, rfl⟩ rfl hd2 lv2_WrapRunsLaw_67 (c_appendS _ hun hO hn) (As := [.ref (gk Γ u)]) rfl rfl (Nat.le_of_ble_eq_true rfl) ⟨rfl, rfl, hrf.1, hrf.2⟩ hrc hrs (fun v' m' σ' hv' hne' hp => ?_)
  exact k v' m' σ' hne' (hv'.elim (fun e => by rw [e]; exact hv) id) hp
theorem bg_I (G : Gd Γ cc "WrapRunsLaw" nL rm sh) (hM : Mk Γ lc nm m0 n0) (hb : (gs Γ).heap.size ≤ b) {p1 p2 p3 : Int} {w : Nat} (ho : x_L_of (zsc lc.2.2) (lc.2.1 1001) p1 p2 p3 = some (w : Int)) (hd : decode cc pc = .ok (.invokestatic 72, 3)) (hd2 : decode cc (pc + 3) = .ok (.invokevirtual 76, 3)) (hw : w < 1000000) (hn : n + sb_dg w ≤ 34) (hrc : mc + 1 ≤ rm.cells) (hrs : ms + 34 ≤ rm.slots) (hrf : 6 ≤ rm.frames ∧ 157 ≤ rm.locals)
    (k : BG Γ nL b (pc + 3 + 3) (n + sb_dg w) (catI t n (fun i => ((sb_dec w i : Nat) : Int))) (mc + 1) (ms + 34) lv [.ref b]) : BG Γ nL b pc n t mc ms lv [.int (zJ p3), .int (zJ p2), .int (zJ p1), .ref (lc.2.1 1000), .ref b] := by
  intro v m σ hne hv hO
  have G' := gd_B G mc ms (ap_B (m := m) (σ := σ) hb hv hne)
  have M' : Mk (gB Γ (adB b v) σ mc ms) lc nm mc ms := ⟨hM.1, hM.2.1, rfl, rfl⟩
  have hcs := mk_cs G' M' (Nat.le_of_succ_le hrc) (by omega)
  refine p_callS0 G' hd lk_L_72 (c_L_of _ hM.1.2.1 hM.1.2.2 ho) (As := [.ref (lc.2.1 1000), .int (zJ p1), .int (zJ p2), .int (zJ p3)]) rfl rfl rfl (Nat.le_of_ble_eq_true rfl) ⟨rfl, rfl, by show 1 + 1 ≤ rm.frames; omega, by show 8 + (4 + 11) + 22 ≤ rm.locals; omega⟩ hcs ?_
  refine p_callVQ (st := []) G' M' rfl hd2 lv2_WrapRunsLaw_76 (c_appendI _ hw hO hn) (As := [.int (zJ (w : Int))]) rfl rfl (Nat.le_of_ble_eq_true rfl) ⟨rfl, rfl, hrf.1, hrf.2⟩ hrc hrs (fun v' m' σ' hv' hne' hp => ?_)
  exact k v' m' σ' hne' (hv'.elim (fun e => by rw [e]; exact hv) id) hp
set_option maxHeartbeats 2000000 in
/-- the builder is new -/
theorem bg_new (G : Gd Γ cL_began "WrapRunsLaw" nL rm sh) (hM : Mk Γ lc nm m0 n0) {ls : Array Slot} (hl : lv_has ls nL lv) (hrc : 2 ≤ rm.cells) (hrs : 20 ≤ rm.slots) (hrf : 3 ≤ rm.frames ∧ 61 ≤ rm.locals) (k : BG Γ nL (gs Γ).heap.size 7 0 t 2 20 lv [.ref (gs Γ).heap.size]) : W (gp Γ) (gl Γ) (ge Γ) (gR Γ) (gs Γ) (gm Γ) (gargs Γ) (gbelow Γ) (gmeth Γ) (gc Γ) (gs Γ).heap [] 0 0 (gQ Γ) (F0 (gm Γ) 0 ls []) := by
  obtain ⟨C, T, ty, hc, hin, hty, hcl, hins, hini, hdef⟩ := nw_SB
  have hts := G.2.2.2.2.1
  have hKn := G.2.2.2.2.2.1.1 1 _ hc
  have hR9 := G.2.2.2.2.2.2.2.2.1
  refine W.newcK G.1 G.2.1 G.2.2.2.1 (hts _ hcl) (hts _ hins) (hts _ hini) rfl dL_began_0 (by rw [hR9]; omega) (by rw [hR9]; omega) hKn.2.1 rfl fun H1 kC hkC e1 z1 o1 => ?_
  have hob := u_born ty hts hin hKn hkC e1 hty
  obtain ⟨B, hB⟩ : ∃ B, B = (gs Γ).heap.size := ⟨_, rfl⟩
  rw [← hB] at k hob z1 o1
  have G' := gd_B (sh2 := shO) (a := fun _ => B) (o := fun _ _ => 0) G 1 4 ⟨fun i j p q hp hq _ _ _ => by
    obtain ⟨ei, -⟩ := shO_at hp
    obtain ⟨ej, -⟩ := shO_at hq
    rw [ei, ej], fun _ _ _ _ => Nat.le_of_eq hB.symm⟩
  have M' : Mk (gB Γ (fun _ => B) (fun _ _ => 0) 1 4) lc nm 1 4 := ⟨hM.1, hM.2.1, rfl, rfl⟩
  have k1 : PT (gB Γ (fun _ => B) (fun _ _ => 0) 1 4) nL shO 3 (fun _ _ => 0) lv [.ref B] := by
    refine p_dup G' rfl dL_began_3 ?_
    intro H locs ls hW hN hS hl
    have hp := pcw_same (As := [.ref B]) G' hW hN hS
    have hr := r_I (H := H) (locs := locs) (ls := ls) (rest := [.ref B]) (b0 := B) (As := []) G' dL_began_4 li_WrapRunsLaw_64_1 rfl li_WrapRunsLaw_64_3 li_WrapRunsLaw_64_4 li_WrapRunsLaw_64_5 li_WrapRunsLaw_64_6 (c_initS _ (t := t) H.size) ⟨pcw_blind, hp.1⟩ rfl (Nat.le_of_ble_eq_true rfl) hl.1 ⟨rfl, rfl, hrf.1, hrf.2⟩ (by show 1 + 1 ≤ (gR Γ).cells ∧ 4 + 16 ≤ (gR Γ).slots; rw [hR9]; exact ⟨hrc, hrs⟩)
    refine w_goQ (Qp := fun oc H1 => oc = .returned none ∧ ∃ (v : Nat) (σ' : Mm), H.size ≤ v ∧ HW (gD Γ) (gy Γ) (shB 16) (adB B v) σ' H1 ∧ OKB 0 16 t σ') G' hS hp.2 hr (fun v0 H1 locs1 hq hz1 hF hS1 => ?_)
    obtain ⟨hv0, v, σ', hv, hW1, hO⟩ := hq
    cases hv0
    have hBl : B < H.size := zC_lt (hW 0 _ rfl trivial)
    have hvs : (gs Γ).heap.size ≤ v := Nat.le_trans hS.1 hv
    exact k v 16 σ' (by omega) hvs hO H1 locs1 ls hW1 ne_B hS1 hl
  subst hB
  refine k1 H1 [] ls (fun i p hp _ => ?_) (fun i p hp _ => by obtain ⟨-, rfl⟩ := shO_at hp; trivial) ⟨by rw [z1]; exact Nat.le_succ _, fun q h1 _ => o1 q h1, fun q hq => by cases hq⟩ hl
  obtain ⟨ei, ep⟩ := shO_at hp
  subst ei ep
  show t_OB (gs Γ).heap.size ((gD Γ).1 1) 4 ((gD Γ).2 1) H1 (zF (fun _ => (gs Γ).heap.size) ([6, 0, 0, 0], 0, 0) (fun _ => 0))
  exact hob.to (fun j hj => hdef j hj _)
end BGS
