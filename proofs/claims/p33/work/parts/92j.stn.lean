/-! The text is made -/
section SJR
variable {Γ : Cx} {cc : ByteArray} {own : String} {nL : Nat} {rm : Room} {sh : Sh} {pc : Nat} {σ σ1 : Mm} {lv : List (Nat × Value)} {st : List Value} {ov : Option Value}
theorem p_aretR (G : Gd Γ cc own nL rm sh) {rt : FieldType} {x : Nat} (hR : RT Γ sh (some rt) σ1 ov) (hrt : (∃ n, rt = .object n) ∨ ∃ t, rt = .array t) (hd : decode cc pc = .ok (.areturn, 1)) (hv : some (Value.ref x) = ov) (hs : σ = σ1) : PT Γ nL sh pc σ lv [.ref x] := fun H locs ls hW hN hS hl =>
  gW_ret hR (W.aret G.1 G.2.1 hR.1 hrt (Or.inr ⟨_, rfl⟩) (rt_q G hR hv hs hW hN hS) (rt_f G hR hS) hd G.2.2.2.2.2.2.2.2.2.1)
theorem p_anull (G : Gd Γ cc own nL rm sh) (hd : decode cc pc = .ok (.aconst_null, 1)) (k : PT Γ nL sh (pc + 1) σ lv (.null :: st)) : PT Γ nL sh pc σ lv st := fun H locs ls hW hN hS hl => lv_null G.1 G.2.1 hd (k H locs ls hW hN hS hl)
/-- an inherited method of a builder among other cells -/
theorem p_callUw (G : Gd Γ cc own nL rm sh) {idx : Nat} {y : MethodName} {b : ByteArray} {n : Nat} {ret : Option FieldType} {np : Nat} {rm1 : Room} {s1 : Sh} (l : List Nat) {k0 n0 : Nat} {t0 : Zc} {As stk : List Value}
    (hd : decode cc pc = .ok (.invokevirtual idx, 3)) (hL : LKU own idx y b n ret np) (hM : CT (gl Γ) y b n ret rm1 s1 (gD Γ) (gy Γ) (gk Γ) (gv Γ) (fun i => ga Γ (zp l i)) (fun i => σ (zp l i)) (.ref (ga Γ k0) :: As) σ1 ov) (hstk : stk = As.reverse ++ .ref (ga Γ k0) :: st) (hz : zk s1 sh l = true) (hx : Zx sh l σ) (hk : sh[k0]? = some (11, n0, t0, none))
    (hnp : As.length = np) (h8 : (st.map fun v => v.category).sum ≤ 8)
    (hrm : rm1.cells = 0 ∧ rm1.slots = 0 ∧ rm1.frames + 1 ≤ rm.frames ∧ 8 + (n + 11) + rm1.locals ≤ rm.locals) (hcs : gmc Γ ≤ (gR Γ).cells ∧ gms Γ ≤ (gR Γ).slots)
    (k : PT Γ nL sh (pc + 3) (zj l σ σ1) lv (ov.toList ++ st)) : PT Γ nL sh pc σ lv stk := fun H locs ls hW hN hS hl => by
  subst hstk
  have hrecv := recv_at (ci := 1) (C := "java/lang/StringBuilder") G hk rfl hW trivial
  exact run_go G hz hx hW hN hS hl (r_U G hd hL (hM H.size) ⟨pcw_blind, hrecv, pcw_at G hz hx hW hN hS _⟩ hnp h8 hl.1 hrm hcs) k
theorem p_callWi (G : Gd Γ cc own nL rm sh) {idx : Nat} {y : MethodName} {b : ByteArray} {n : Nat} {ret : Option FieldType} {np : Nat} {rm1 : Room} {k0 n0 : Nat} {t0 : Zc} {As stk : List Value}
    (hd : decode cc pc = .ok (.invokespecial idx, 3)) (hL : LKW own idx y b n ret np) (hM : CT (gl Γ) y b n ret rm1 sh (gD Γ) (gy Γ) (gk Γ) (gv Γ) (ga Γ) σ (.ref (ga Γ k0) :: As) σ1 ov) (hstk : stk = As.reverse ++ .ref (ga Γ k0) :: st) (hk : sh[k0]? = some (11, n0, t0, none))
    (hnp : As.length = np) (h8 : (st.map fun v => v.category).sum ≤ 8)
    (hrm : rm1.cells = 0 ∧ rm1.slots = 0 ∧ rm1.frames + 1 ≤ rm.frames ∧ 8 + (n + 11) + rm1.locals ≤ rm.locals) (hcs : gmc Γ ≤ (gR Γ).cells ∧ gms Γ ≤ (gR Γ).slots)
    (k : PT Γ nL sh (pc + 3) σ1 lv (ov.toList ++ st)) : PT Γ nL sh pc σ lv stk := fun H locs ls hW hN hS hl => by
  subst hstk
  have hrecv := recv_at (ci := 1) (C := "java/lang/StringBuilder") G hk rfl hW trivial
  exact run_goi G hN hS hl (r_W G hd hL (hM H.size) ⟨pcw_blind, hrecv, (pcw_same G hW hN hS).1⟩ hnp h8 hl.1 hrm hcs) k
/-- a builder's own length, through its superclass's name -/
theorem p_callO (G : Gd Γ cc "java/lang/String" nL rm sh) {rm1 : Room} {s1 : Sh} (l : List Nat) {k0 n0 : Nat} {t0 : Zc} {stk : List Value}
    (hd : decode cc pc = .ok (.invokevirtual 549, 3)) (hM : CT (gl Γ) yJ4_length_8abf5 cJ4_length_8abf5 1 (some .int) rm1 s1 (gD Γ) (gy Γ) (gk Γ) (gv Γ) (fun i => ga Γ (zp l i)) (fun i => σ (zp l i)) [.ref (ga Γ k0)] σ1 ov) (hstk : stk = .ref (ga Γ k0) :: st) (hz : zk s1 sh l = true) (hx : Zx sh l σ) (hk : sh[k0]? = some (11, n0, t0, none))
    (h8 : (st.map fun v => v.category).sum ≤ 8)
    (hrm : rm1.cells = 0 ∧ rm1.slots = 0 ∧ rm1.frames + 1 ≤ rm.frames ∧ 8 + (1 + 11) + rm1.locals ≤ rm.locals) (hcs : gmc Γ ≤ (gR Γ).cells ∧ gms Γ ≤ (gR Γ).slots)
    (k : PT Γ nL sh (pc + 3) (zj l σ σ1) lv (ov.toList ++ st)) : PT Γ nL sh pc σ lv stk := fun H locs ls hW hN hS hl => by
  subst hstk
  have hrecv := recv_at (ci := 1) (C := "java/lang/StringBuilder") G hk rfl hW trivial
  have S : CallFix (gp Γ) (gm Γ) (gc Γ) cc nL (gs Γ) (gargs Γ) GT "java/lang/String" := ⟨G.1, G.2.1, G.2.2.1, G.2.2.2.1, G.2.2.2.2.1⟩
  have hts := G.2.2.2.2.1
  have hroom : rm1.frames + 1 ≤ (gR Γ).frames ∧ 8 + (1 + 11) + rm1.locals ≤ (gR Γ).locals := by rw [G.2.2.2.2.2.2.2.2.1]; exact hrm.2.2
  have w6 : Cond.code yJ4_length_8abf5 cJ4_length_8abf5 1 (some .int) ∈ GT := gt_mem 653 (by decide +kernel) (by decide +kernel)
  have cw : va_CU (gR Γ) (gs Γ) (gargs Γ) "java/lang/String" "java/lang/StringBuilder" yJ5_length_8abf5.cls 549 yJ5_length_8abf5 yJ4_length_8abf5 cJ4_length_8abf5 1 (some .int) (WS yJ4_length_8abf5 cJ4_length_8abf5 1 (some .int)) rm1 0 0 0 := ⟨⟨hrm.1, hrm.2.1, hroom.1, hroom.2, pay_in hts (ws_good w6), List.mem_cons_self⟩, hts _ w6, hts _ (gt_mem 48 (by decide +kernel) (by decide +kernel) : Cond.initialized yJ4_length_8abf5.cls ∈ GT), by decide +kernel, fun sig h => by
    have h2 : (parseMethodDescriptor yJ5_length_8abf5.desc).map (fun d => d.parameters.length) = some 0 := by decide +kernel
    rw [h] at h2
    exact (Option.some.inj h2).symm, hts _ (gt_mem 648 (by decide +kernel) (by decide +kernel) : Cond.methodLink "java/lang/String" 549 yJ5_length_8abf5 ∈ GT), hts _ (gt_mem 650 (by decide +kernel) (by decide +kernel) : Cond.sameMethod yJ5_length_8abf5.cls yJ5_length_8abf5.cls yJ5_length_8abf5.name yJ5_length_8abf5.desc ∈ GT), va_Decl.of (hts _ (gt_mem 649 (by decide +kernel) (by decide +kernel) : Cond.instanceMethod yJ5_length_8abf5 ∈ GT)) (hts _ (gt_mem 655 (by decide +kernel) (by decide +kernel) : Cond.code yJ5_length_8abf5 cJ5_length_8abf5 1 (some .int) ∈ GT)), hts _ (gt_mem 651 (by decide +kernel) (by decide +kernel) : Cond.selects "java/lang/StringBuilder" yJ5_length_8abf5 yJ4_length_8abf5 ∈ GT), hts _ (gt_mem 652 (by decide +kernel) (by decide +kernel) : Cond.instanceMethod yJ4_length_8abf5 ∈ GT)⟩
  exact run_go G hz hx hW hN hS hl (va_runU (As := []) S (hM H.size) cw ⟨pcw_blind, hrecv, pcw_at G hz hx hW hN hS _⟩ rfl rfl hl.1 rfl (lv_room h8) hd hcs) k
theorem p_finIU (G : Gd Γ cc own nL rm sh) (hI : (gmeth Γ).name = "<init>") {idx ci j k n : Nat} {t : Zc} {ft : FieldType} {x : Int} (hd : decode cc pc = .ok (.putfield idx, 3)) (hL : FFG own idx ci j ft) (hnw : narrow ft (.int (zJ x)) = .int (zJ x)) (hft : fits ft (.int (zJ x)) = true) (hk : sh[k]? = some (10 + ci, n, t, none)) (hn : n = (vwCl.getD ci ("", TX0, 0)).2.2) (ht : zt t j = 0) (hg : zg sh k = true) (kk : PT Γ nL sh (pc + 3) (zu σ k j x) lv st) : PT Γ nL sh pc σ lv (.int (zJ x) :: .ref (ga Γ k) :: st) := fun H locs ls hW hN hS hl => by
  have hcell := hW k _ hk trivial
  unfold zC at hcell
  rw [if_neg (by show ¬ (10 + ci < 10); omega)] at hcell
  have e : 10 + ci - 10 = ci := by omega
  simp only [e] at hcell
  refine w_finG G hI hL hnw hft hd hn hcell (fun H2 slot e1 e2 e3 => ?_)
  refine kk H2 _ ls (hW.set hN G.2.2.2.2.2.2.1 hg hk trivial ?_ e3) (hN.set hg) (hS.put e2 e3 (G.2.2.2.2.2.2.1.2 k _ hk (hN k _ hk trivial))) hl
  unfold zC
  rw [if_neg (by show ¬ (10 + ci < 10); omega)]
  simp only [e]
  rw [zF_zr, ht]
  exact e1
/-- a world of one's own -/
theorem pcw_raw (G : Gd Γ cc own nL rm sh) {s1 : Sh} {a1 : Nat → Nat} {τ : Mm} {H : Heap} {locs : List Loc} {As : List Value} (hW : HW (gD Γ) (gy Γ) s1 a1 τ H) (hA : AP (gA Γ) s1 a1 τ) (hS : va_S (gA Γ) (gs Γ).heap H locs) : (∀ U : State, U.heap = H → (gs Γ).WarmedH U.vm → PcW (gD Γ) (gy Γ) (gk Γ) (gv Γ) s1 a1 τ H.size As As.toArray U) ∧ ∀ q, aW s1 a1 τ H.size q → gA Γ q := by
  have hAA : ∀ q, aW s1 a1 τ H.size q → gA Γ q := fun q hq => by
    rcases hq with ⟨k, p, hp, hx, rfl⟩ | hq
    · exact hA.2 k p hp hx
    · exact G.2.2.2.2.2.2.2.1 q (Nat.le_trans hS.1 hq)
  refine ⟨fun U hU hw => ?_, hAA⟩
  subst hU
  exact ⟨rfl, rfl, hW, va_K.moved hw.alike G.2.2.2.2.2.1, ⟨hA.1, fun _ _ _ _ => trivial⟩, ((OX.warm hw G.2.2.2.2.2.2.2.2.2.2).kept hS.2.1).narrow hAA⟩
end SJR
set_option maxHeartbeats 1000000 in
theorem ct_ofA {l : Launch} {y : MethodName} {b : ByteArray} {n : Nat} {ret : Option FieldType} {rm : Room} {sh : Sh} {D : va_G} {yy : Nat → ClassId} {tk tv : Nat → Nat} {a : Nat → Nat} {σ : Mm} {Ar : (Nat → Nat) → (Nat → Nat) → List Value} {σ1 : Mm} {ov : Option Value} (hy : plainName y.cls = true) (hn : (lg_sl (Ar a tk)).length ≤ n)
    (body : ∀ Γ : Cx, Gd Γ b y.cls n rm sh → go Γ = σ → gl Γ = l → ga Γ = a → RT Γ sh ret σ1 ov → PT Γ n sh 0 σ (lv_args 0 (Ar (ga Γ) (gk Γ))) []) : CT l y b n ret rm sh D yy tk tv a σ (Ar a tk) σ1 ov := by
  intro sz
  refine Met.ofW (cc := b) (maxL := n) (ret := ret) hy rfl ?_
  intro p e s m args below meth c s₁ B hml hv
  obtain ⟨rfl, rfl, hW, hK, hP, hO⟩ := hv
  have hts : ∀ w ∈ WS y b n ret, w.before (Ar a tk).toArray s = true := atoms_spec (ws := WS y b n ret) B.pre
  have hown : s.vm.findClass y.cls = some m.cls := findClass_of_methodNamed B.named
  have hl := lv_entry (Ar a tk) (n := n) hn
  rw [lg_entry_eq]
  have h := body (p, l, e, (headSpec (WS y b n ret) rm).room, s, m, (Ar a tk).toArray, below, meth, c, D, yy, tk, tv, a, aW sh a σ s.heap.size, σ, 0, 0, MQ below (QcW D yy sh a σ s.heap.size σ1 ov) (Ar a tk).toArray s 0 0 (aW sh a σ s.heap.size))
    ⟨B.exec, B.bytes, hml, hown, fun w hw => hts w (List.mem_cons_of_mem _ hw), hK, ⟨hP.1, fun k q hq hx => Or.inl ⟨k, q, hq, hx, rfl⟩⟩, fun q hq => Or.inr hq, rfl, B.notSynchronized, hO⟩ rfl rfl rfl
    ⟨B.returns, rfl, rfl, rfl, rfl⟩
  exact h s.heap [] _ hW (fun _ _ _ h => h) va_S.rf hl
theorem c_getValueT (l : Launch) {D : va_G} {yy : Nat → ClassId} {tk tv a : Nat → Nat} {σ : Mm} {m : Nat} : CT l yJ5_getValue_6d5f1 cJ5_getValue_6d5f1 1 (some (.array .byte)) (rmS 0 0 0 0) (shB m) D yy tk tv a σ [.ref (a 0)] σ (some (.ref (a 1))) := by
  refine ct_ofA (Ar := fun a tk => [.ref (a 0)]) (by decide) (Nat.le_of_ble_eq_true rfl) (fun Γ G _ _ eA hR => ?_)
  refine (?_ : PT Γ 1 (shB m) 0 σ [(0, .ref (ga Γ 0))] [])
  refine p_aload_n G rfl 0 rfl dJ5_getValue_6d5f1_0 ?_
  refine p_valB G dJ5_getValue_6d5f1_1 flu_AbstractStringBuilder_15 ?_
  exact p_aretR G hR (Or.inr ⟨_, rfl⟩) dJ5_getValue_6d5f1_4 (by rw [eA]) rfl
theorem c_lengthS (l : Launch) {D : va_G} {yy : Nat → ClassId} {tk tv a : Nat → Nat} {σ : Mm} {m : Nat} : CT l yJ4_length_8abf5 cJ4_length_8abf5 1 (some .int) (rmS 1 0 0 20) (shB m) D yy tk tv a σ [.ref (a 0)] σ (some (.int (zJ (σ 0 3)))) := by
  refine ct_of (Ar := fun a tk => [.ref (a 0)]) (by decide) (Nat.le_of_ble_eq_true rfl) (fun Γ G _ _ hR => ?_)
  refine (?_ : PT Γ 1 (shB m) 0 σ [(0, .ref (ga Γ 0))] [])
  have hcs := rt_cs hR
  refine p_aload_n G rfl 0 rfl dJ4_length_8abf5_0 ?_
  refine p_callWi (k0 := 0) (As := []) G dJ4_length_8abf5_1 lw_StringBuilder_343 (c_lengthA (gl Γ)) rfl rfl rfl (Nat.le_of_ble_eq_true rfl) ⟨rfl, rfl, Nat.le_of_ble_eq_true rfl, Nat.le_of_ble_eq_true rfl⟩ hcs ?_
  exact p_iret G hR dJ4_length_8abf5_4 rfl rfl
/-! ranges of a row -/
theorem c_checkLength (l : Launch) {D : va_G} {yy : Nat → ClassId} {tk tv a : Nat → Nat} {σ : Mm} {n : Nat} (hn : n < 1000) : CT l yJ7_checkLength_df160 cJ7_checkLength_df160 2 none (rmS 0 0 0 0) shN D yy tk tv a σ [.int (zJ 0), .int (zJ (n : Int))] σ none := by
  refine ct_of (Ar := fun a tk => [.int (zJ 0), .int (zJ (n : Int))]) (by decide) (Nat.le_of_ble_eq_true rfl) (fun Γ G _ _ hR => ?_)
  refine (?_ : PT Γ 2 shN 0 σ [(0, .int (zJ 0)), (1, .int (zJ (n : Int)))] [])
  refine p_iload_n G rfl 1 rfl dJ7_checkLength_df160_0 ?_
  refine p_iload_n G rfl 0 rfl dJ7_checkLength_df160_1 ?_
  refine p_icmpge (tgt := 37) (A := some ()) (B := (none : Option Unit)) (out := ()) G dJ7_checkLength_df160_2 (by decide) (if_pos (by rw [zw_n (by omega), zw_0]; omega)) (fun _ _ => ?_) (fun c _ => absurd (by rw [zw_n (by omega), zw_0]; omega) c)
  exact p_vret G hR dJ7_checkLength_df160_37 rfl rfl
set_option maxHeartbeats 1000000 in
theorem c_copyRB (l : Launch) {D : va_G} {yy : Nat → ClassId} {tk tv a : Nat → Nat} {σ : Mm} {m n : Nat} (h : n < m) (hm : m ≤ 34) (hf : ∀ j, fits .byte (.int (zJ (σ 0 j))) = true) : CQ l yJ7_copyOfRangeByte_39247 cJ7_copyOfRangeByte_39247 5 (some (.array .byte)) (rmS 1 1 34 60) (shV m) D yy tk tv a σ [.ref (a 0), .int (zJ 0), .int (zJ (n : Int))] (fun sz oc H => ∃ w, oc = .returned (some (.ref w)) ∧ sz ≤ w ∧ H[w]? = some (arrV (yy 2) n (fun j => .int (zJ (σ 0 j))))) 1 34 := by
  refine cq_of (Ar := fun a tk => [.ref (a 0), .int (zJ 0), .int (zJ (n : Int))]) (by decide) (Nat.le_of_ble_eq_true rfl) (fun Γ G _ hM eD eY eA hR _ => ?_)
  refine (?_ : PT Γ 5 (shV m) 0 σ [(0, .ref (ga Γ 0)), (1, .int (zJ 0)), (2, .int (zJ (n : Int)))] [])
  have hcs := mk_cs G hM (Nat.zero_le _) (Nat.zero_le _)
  refine p_iload_n G rfl 1 rfl dJ7_copyOfRangeByte_39247_0 ?_
  refine p_iload_n G rfl 2 rfl dJ7_copyOfRangeByte_39247_1 ?_
  refine p_callS0 G dJ7_copyOfRangeByte_39247_2 ls_Arrays_343 (c_checkLength (gl Γ) (n := n) (by omega)) (As := [.int (zJ 0), .int (zJ (n : Int))]) rfl rfl rfl (Nat.le_of_ble_eq_true rfl) ⟨rfl, rfl, Nat.le_of_ble_eq_true rfl, Nat.le_of_ble_eq_true rfl⟩ hcs ?_
  refine p_iload_n G rfl 2 rfl dJ7_copyOfRangeByte_39247_5 ?_
  refine p_iload_n G rfl 1 rfl dJ7_copyOfRangeByte_39247_6 ?_
  refine p_isub G dJ7_copyOfRangeByte_39247_7 ?_
  rw [Int.sub_zero]
  refine p_istore_nU (lv' := [(3, .int (zJ (n : Int))), (0, .ref (ga Γ 0)), (1, .int (zJ 0)), (2, .int (zJ (n : Int)))]) G rfl dJ7_copyOfRangeByte_39247_8 (by decide) rfl ?_
  refine p_iload_n G rfl 0 rfl dJ7_copyOfRangeByte_39247_9 ?_
  clear hcs
  refine p_newaV (lv' := fun a => [(3, .int (zJ (n : Int))), (0, .ref (a 0)), (1, .int (zJ 0)), (2, .int (zJ (n : Int)))]) (st' := fun _ => []) G hM wj_byte dJ7_copyOfRangeByte_39247_10 (by omega) (Nat.le_refl _) (by show 0 + n ≤ 34; omega) (fun a e => by rw [e]; exact ⟨rfl, rfl⟩) (fun Γ' G' tR hM' eD' eY' e0 hw => ?_)
  have hR' := tR hR
  have hcs := mk_cs G' hM' (Nat.le_refl _) (by show 0 + n ≤ 34; omega)
  refine p_astore (lv' := [(4, .ref (ga Γ' 1)), (3, .int (zJ (n : Int))), (0, .ref (ga Γ' 0)), (1, .int (zJ 0)), (2, .int (zJ (n : Int)))]) G' dJ7_copyOfRangeByte_39247_12 (by decide) rfl ?_
  refine p_aload_n G' rfl 2 rfl dJ7_copyOfRangeByte_39247_14 ?_
  refine p_iload_n G' rfl 3 rfl dJ7_copyOfRangeByte_39247_15 ?_
  refine p_aload G' 0 rfl dJ7_copyOfRangeByte_39247_16 ?_
  refine p_iconst G' rfl dJ7_copyOfRangeByte_39247_18 ?_
  refine p_aload_n G' rfl 2 rfl dJ7_copyOfRangeByte_39247_19 ?_
  refine p_alen (k := 0) G' dJ7_copyOfRangeByte_39247_20 rfl (by decide) (by omega) ?_
  refine p_iload_n G' rfl 3 rfl dJ7_copyOfRangeByte_39247_21 ?_
  refine p_isub G' dJ7_copyOfRangeByte_39247_22 ?_
  rw [Int.sub_zero]
  refine p_iload_n G' rfl 1 rfl dJ7_copyOfRangeByte_39247_23 ?_
  refine p_zmin G' wj_min wj_min_s wj_math wj_min_c (Nat.le_refl _) (Nat.le_of_ble_eq_true rfl) hcs dJ7_copyOfRangeByte_39247_24 ?_
  rw [show zmin (m : Int) (n : Int) = n from by unfold zmin; rw [zw_n (by omega), zw_n (by omega), if_pos (by omega)]]
  refine p_copyB (k0 := 0) (k1 := 1) G' wj_ac_R rfl rfl (by omega) (Nat.le_refl _) rfl (by omega) (fun j => hf j) ⟨Nat.le_refl _, Nat.le_of_ble_eq_true rfl⟩ dJ7_copyOfRangeByte_39247_27 ?_
  refine p_aload G' 0 rfl dJ7_copyOfRangeByte_39247_30 ?_
  refine p_aretQ G' hM' (Nat.le_refl _) (by show 0 + n ≤ 34; omega) hR' (Or.inr ⟨_, rfl⟩) dJ7_copyOfRangeByte_39247_32 (fun H hW => ⟨_, rfl, hw, ?_⟩)
  have h1 := zC_byt.mp (hW 1 _ rfl trivial)
  rw [eY', eY] at h1
  rw [h1]
  refine congrArg some (arrV_congr (fun j hj => ?_))
  show Value.int (zJ (if j < n then σ 0 j else 0)) = _
  rw [if_pos hj]
set_option maxHeartbeats 2000000 in
theorem c_copyRange (l : Launch) {D : va_G} {yy : Nat → ClassId} {tk tv a : Nat → Nat} {σ : Mm} {m n : Nat} (h : n ≤ m) (hm : m ≤ 34) (hf : ∀ j, fits .byte (.int (zJ (σ 0 j))) = true) : CQ l yJ7_copyOfRange_39247 cJ7_copyOfRange_39247 3 (some (.array .byte)) (rmS 2 1 34 84) (shV m) D yy tk tv a σ [.ref (a 0), .int (zJ 0), .int (zJ (n : Int))] (fun sz oc H => ∃ w, oc = .returned (some (.ref w)) ∧ sz ≤ w ∧ H[w]? = some (arrV (yy 2) n (fun j => .int (zJ (σ 0 j))))) 1 34 := by
  refine cq_of (Ar := fun a tk => [.ref (a 0), .int (zJ 0), .int (zJ (n : Int))]) (by decide) (Nat.le_of_ble_eq_true rfl) (fun Γ G _ hM eD eY eA hR _ => ?_)
  refine (?_ : PT Γ 3 (shV m) 0 σ [(0, .ref (ga Γ 0)), (1, .int (zJ 0)), (2, .int (zJ (n : Int)))] [])
  have hcs1 : gmc Γ + 1 ≤ (gR Γ).cells ∧ gms Γ + 34 ≤ (gR Γ).slots := by rw [hM.2.2.1, hM.2.2.2, G.2.2.2.2.2.2.2.2.1]; exact ⟨Nat.le_refl _, Nat.le_refl _⟩
  refine p_iload_n G rfl 1 rfl dJ7_copyOfRange_39247_0 ?_
  refine p_ifne (tgt := 10) (A := (none : Option Unit)) (B := some ()) (out := ()) G dJ7_copyOfRange_39247_1 (by decide) (by decide) (fun c _ => absurd c (by decide)) (fun _ _ => ?_)
  refine p_iload_n G rfl 2 rfl dJ7_copyOfRange_39247_4 ?_
  refine p_aload_n G rfl 0 rfl dJ7_copyOfRange_39247_5 ?_
  refine p_alen (k := 0) G dJ7_copyOfRange_39247_6 rfl (by decide) (by omega) ?_
  by_cases c : n = m
  · subst c
    refine p_icmpeq (tgt := 17) (A := some ()) (B := (none : Option Unit)) (out := ()) G dJ7_copyOfRange_39247_7 (by decide) (if_pos rfl) (fun _ _ => ?_) (fun c _ => absurd rfl c)
    refine p_aload_n G rfl 0 rfl dJ7_copyOfRange_39247_17 ?_
    intro H locs ls hW hN hS hl
    have hR9 := G.2.2.2.2.2.2.2.2.1
    refine va_clone (ad := "[B") G.1 G.2.1 (by rw [G.2.2.1]; exact hl.1.symm) G.2.2.2.1 (G.2.2.2.2.1 _ (gt_mem 527 (by decide +kernel) (by decide +kernel))) (G.2.2.2.2.1 _ (gt_mem 528 (by decide +kernel) (by decide +kernel))) (G.2.2.2.2.1 _ (gt_mem 529 (by decide +kernel) (by decide +kernel))) (G.2.2.2.2.1 _ (gt_mem 530 (by decide +kernel) (by decide +kernel))) (G.2.2.2.2.1 _ (gt_mem 531 (by decide +kernel) (by decide +kernel))) ((gd_o G).2.2.2.2.2.2.1 _ (nt_mem 532 (by decide +kernel) (by decide +kernel))) G.2.2.2.2.2.1 (ws := [(ga Γ 0, .inl (gy Γ 2, n, .inl (fun j => zJ (σ 0 j))))]) (fun k q hk => ?_) ⟨fun i j p q hp hq _ => ?_, fun k q hk => ?_⟩ hS G.2.2.2.2.2.2.2.1 0 2 rfl rfl ((G.2.2.2.2.2.1.2 2 _ rfl).2) (fun i v hv => ?_) (by rw [hR9]; exact Nat.le_of_ble_eq_true rfl) (by rw [hR9]; exact Nat.le_of_ble_eq_true rfl) (by rw [hM.2.2.1, hR9]; exact Nat.le_refl _) (by rw [hM.2.2.2, hR9]; show 0 + n ≤ 34; omega) dJ7_copyOfRange_39247_18 (fun w H1 hK1 hP1 hD1 hS1 => ?_)
    · match k, hk with
      | 0, hk => cases hk; exact zC_byt.mp (hW 0 _ rfl trivial)
      | k + 1, hk => simp at hk
    · have h1 := (List.getElem?_eq_some_iff.mp hp).1
      have h2 := (List.getElem?_eq_some_iff.mp hq).1
      simp at h1 h2
      omega
    · match k, hk with
      | 0, hk => cases hk; exact G.2.2.2.2.2.2.1.2 0 _ rfl (hN 0 _ rfl trivial)
      | k + 1, hk => simp at hk
    · have hi : i < n := by
        have h1 := (Array.getElem?_eq_some_iff.mp hv).1
        rw [vp_cell_i, arrV_size] at h1
        exact h1
      rw [vp_cell_i, arrV_read _ _ hi] at hv
      cases hv
      exact hf i
    · refine va_castA (nm := "[B") G.1 G.2.1 G.2.2.2.1 (G.2.2.2.2.1 _ (gt_mem 533 (by decide +kernel) (by decide +kernel))) hP1 1 rfl ((G.2.2.2.2.2.1.2 2 _ rfl).2) dJ7_copyOfRange_39247_21 ?_
      have hAw : gA Γ w := hD1.2 1 _ rfl
      have hne : ga Γ 0 ≠ w := fun e => by
        have := hD1.1 0 1 _ _ rfl rfl e
        cases this
      have hw : (gs Γ).heap.size ≤ w := by
        rw [hR.2.1] at hAw
        rcases hAw with ⟨k, p, hp, -, e⟩ | e
        · obtain ⟨rfl, -⟩ := shV_at hp
          rw [← eA] at e
          exact absurd e hne
        · exact e
      have hc : H1[w]? = some (arrV (yy 2) n (fun j => .int (zJ (σ 0 j)))) := by
        rw [← eY]
        exact hP1 1 _ rfl
      have M' := mk_N hM (ga Γ) (go Γ) 1 n
      exact gW_retQ (Γ := gN Γ (ga Γ) (go Γ) (gmc Γ + 1) (gms Γ + n)) M' (Nat.le_refl _) (by show 0 + n ≤ 34; omega) (rtq_N hR _ _ _ _) (v := some (.ref w)) ⟨w, rfl, hw, hc⟩ hS1 (fun hr Qc free hq hf => W.aret G.1 G.2.1 hr (Or.inr ⟨_, rfl⟩) (Or.inr ⟨_, rfl⟩) hq hf dJ7_copyOfRange_39247_24 G.2.2.2.2.2.2.2.2.2.1)
  · refine p_icmpeq (tgt := 17) (A := (none : Option Unit)) (B := some ()) (out := ()) G dJ7_copyOfRange_39247_7 (by decide) (if_neg (by rw [zw_n (by omega), zw_n (by omega)]; omega)) (fun c _ => absurd c (by rw [zw_n (by omega), zw_n (by omega)]; omega)) (fun _ _ => ?_)
    refine p_aload_n G rfl 0 rfl dJ7_copyOfRange_39247_10 ?_
    refine p_iload_n G rfl 1 rfl dJ7_copyOfRange_39247_11 ?_
    refine p_iload_n G rfl 2 rfl dJ7_copyOfRange_39247_12 ?_
    intro H locs ls hW hN hS hl
    have hp := pcw_same (As := [.ref (ga Γ 0), .int (zJ 0), .int (zJ (n : Int))]) G hW hN hS
    have hr := r_S (H := H) (locs := locs) (ls := ls) (rest := []) G dJ7_copyOfRange_39247_13 ls_Arrays_339 (c_copyRB (gl Γ) (D := gD Γ) (yy := gy Γ) (tk := gk Γ) (tv := gv Γ) (a := ga Γ) (σ := σ) (m := m) (n := n) (by omega) hm hf H.size) (As := [.ref (ga Γ 0), .int (zJ 0), .int (zJ (n : Int))]) ⟨pcw_blind, hp.1⟩ rfl (Nat.le_of_ble_eq_true rfl) hl.1 ⟨rfl, rfl, Nat.le_of_ble_eq_true rfl, Nat.le_of_ble_eq_true rfl⟩ hcs1
    refine w_goQ (Qp := fun oc H1 => ∃ w, oc = .returned (some (.ref w)) ∧ H.size ≤ w ∧ H1[w]? = some (arrV (gy Γ 2) n (fun j => .int (zJ (σ 0 j))))) G hS hp.2 hr (fun v0 H1 locs1 hq hz1 hF hS1 => ?_)
    obtain ⟨w, hv0, hw, hc⟩ := hq
    cases hv0
    rw [eY] at hc
    have M' := mk_N hM (ga Γ) (go Γ) 1 34
    exact gW_retQ (Γ := gN Γ (ga Γ) (go Γ) (gmc Γ + 1) (gms Γ + 34)) M' (Nat.le_refl _) (Nat.le_refl _) (rtq_N hR _ _ _ _) (v := some (.ref w)) ⟨w, rfl, Nat.le_trans hS.1 hw, hc⟩ hS1 (fun hr Qc free hq hf => W.aret G.1 G.2.1 hr (Or.inr ⟨_, rfl⟩) (Or.inr ⟨_, rfl⟩) hq hf dJ7_copyOfRange_39247_16 G.2.2.2.2.2.2.2.2.2.1)
