/-! The constant texts' own methods -/
theorem ct_ofV {l : Launch} {y : MethodName} {b : ByteArray} {n : Nat} {ret : Option FieldType} {rm : Room} {sh : Sh} {D : va_G} {yy : Nat → ClassId} {tk tv : Nat → Nat} {a : Nat → Nat} {σ : Mm} {Ar : (Nat → Nat) → (Nat → Nat) → (Nat → Nat) → List Value} {σ1 : Mm} {ov : Option Value} (hy : plainName y.cls = true) (hn : (lg_sl (Ar a tk tv)).length ≤ n)
    (body : ∀ Γ : Cx, Gd Γ b y.cls n rm sh → go Γ = σ → gl Γ = l → RT Γ sh ret σ1 ov → PT Γ n sh 0 σ (lv_args 0 (Ar (ga Γ) (gk Γ) (gv Γ))) []) : CT l y b n ret rm sh D yy tk tv a σ (Ar a tk tv) σ1 ov := by
  intro sz
  refine Met.ofW (cc := b) (maxL := n) (ret := ret) hy rfl ?_
  intro p e s m args below meth c s₁ B hml hv
  obtain ⟨rfl, rfl, hW, hK, hP, hO⟩ := hv
  have hts : ∀ w ∈ WS y b n ret, w.before (Ar a tk tv).toArray s = true := atoms_spec (ws := WS y b n ret) B.pre
  have hown : s.vm.findClass y.cls = some m.cls := findClass_of_methodNamed B.named
  have hl := lv_entry (Ar a tk tv) (n := n) hn
  rw [lg_entry_eq]
  have h := body (p, l, e, (headSpec (WS y b n ret) rm).room, s, m, (Ar a tk tv).toArray, below, meth, c, D, yy, tk, tv, a, aW sh a σ s.heap.size, σ, 0, 0, MQ below (QcW D yy sh a σ s.heap.size σ1 ov) (Ar a tk tv).toArray s 0 0 (aW sh a σ s.heap.size))
    ⟨B.exec, B.bytes, hml, hown, fun w hw => hts w (List.mem_cons_of_mem _ hw), hK, ⟨hP.1, fun k q hq hx => Or.inl ⟨k, q, hq, hx, rfl⟩⟩, fun q hq => Or.inr hq, rfl, B.notSynchronized, hO⟩ rfl rfl
    ⟨B.returns, rfl, rfl, rfl, rfl⟩
  exact h s.heap [] _ hW (fun _ _ _ h => h) va_S.rf hl
section STX
variable {Γ : Cx} {cc : ByteArray} {own : String} {nL : Nat} {rm : Room} {sh : Sh} {pc : Nat} {σ σ1 : Mm} {lv : List (Nat × Value)} {st : List Value} {ov : Option Value}
theorem gd_o (G : Gd Γ cc own nL rm sh) : OX (gk Γ) (gv Γ) (gA Γ) (gs Γ) (gs Γ).heap := G.2.2.2.2.2.2.2.2.2.2
theorem p_getsCS (G : Gd Γ cc own nL rm sh) {idx : Nat} (hd : decode cc pc = .ok (.getstatic idx, 3)) (hl : Cond.fieldLink own idx "java/lang/String" "COMPACT_STRINGS" "Z" ∈ GT) (k : PT Γ nL sh (pc + 3) σ lv (.int (zJ 1) :: st)) : PT Γ nL sh pc σ lv st := fun H locs ls hW hN hS h9 => va_gets G.1 G.2.1 (gd_o G).2.2.1 hS G.2.2.2.1 (G.2.2.2.2.1 _ hl) (fun x h => h) hd (k H locs ls hW hN hS h9)
theorem p_getsSF (G : Gd Γ cc own nL rm sh) {idx : Nat} (hd : decode cc pc = .ok (.getstatic idx, 3)) (hl : Cond.fieldLink own idx "jdk/internal/util/Preconditions" "SIOOBE_FORMATTER" "Ljava/util/function/BiFunction;" ∈ GT) (k1 : PT Γ nL sh (pc + 3) σ lv (.null :: st)) (k2 : ∀ t, PT Γ nL sh (pc + 3) σ lv (.ref t :: st)) : PT Γ nL sh pc σ lv st := fun H locs ls hW hN hS h9 => by
  rcases (gd_o G).2.2.2.1 with hZ | ⟨t, hZ⟩
  · exact va_gets G.1 G.2.1 hZ hS G.2.2.2.1 (G.2.2.2.2.1 _ hl) (fun x h => h) hd (k1 H locs ls hW hN hS h9)
  · exact va_gets G.1 G.2.1 hZ hS G.2.2.2.1 (G.2.2.2.2.1 _ hl) (fun x h => h) hd (k2 t H locs ls hW hN hS h9)
theorem p_getCo (G : Gd Γ cc own nL rm sh) {idx u : Nat} (hu : u < zsN) (hd : decode cc pc = .ok (.getfield idx, 3)) (hl : Cond.fieldLink own idx "java/lang/String" "coder" "B" ∈ GT) (k : PT Γ nL sh (pc + 3) σ lv (.int (zJ 0) :: st)) : PT Γ nL sh pc σ lv (.ref (gk Γ u) :: st) := fun H locs ls hW hN hS h9 => vk_getf G.1 G.2.1 ((gd_o G).1.1 u hu).2.1 hS G.2.2.2.1 (G.2.2.2.2.1 _ hl) (fun x h => h) hd (k H locs ls hW hN hS h9)
theorem p_getVa (G : Gd Γ cc own nL rm sh) {idx u : Nat} (hu : u < zsN) (hd : decode cc pc = .ok (.getfield idx, 3)) (hl : Cond.fieldLink own idx "java/lang/String" "value" "[B" ∈ GT) (k : PT Γ nL sh (pc + 3) σ lv (.ref (gv Γ u) :: st)) : PT Γ nL sh pc σ lv (.ref (gk Γ u) :: st) := fun H locs ls hW hN hS h9 => vk_getf G.1 G.2.1 ((gd_o G).1.1 u hu).2.2.1 hS G.2.2.2.1 (G.2.2.2.2.1 _ hl) (fun x h => h) hd (k H locs ls hW hN hS h9)
theorem p_tlenS (G : Gd Γ cc own nL rm sh) {u : Nat} (hu : u < zsN) (hd : decode cc pc = .ok (.arraylength, 1)) (k : PT Γ nL sh (pc + 1) σ lv (.int (zJ (zsLen.getD u 0 : Nat)) :: st)) : PT Γ nL sh pc σ lv (.ref (gv Γ u) :: st) := fun H locs ls hW hN hS h9 => va_tlen G.1 G.2.1 ((gd_o G).1.1 u hu).2.2.2 hS rfl hd (k H locs ls hW hN hS h9)
def zsb (u j : Nat) : Int := ((zsByt.getD u []).getD j 0).toInt
theorem p_tbS (G : Gd Γ cc own nL rm sh) {u : Nat} {x : Int} (hu : u < zsN) (hi : zin x (zsLen.getD u 0)) (hd : decode cc pc = .ok (.baload, 1)) (k : PT Γ nL sh (pc + 1) σ lv (.int (zJ (zsb u (zix x))) :: st)) : PT Γ nL sh pc σ lv (.int (zJ x) :: .ref (gv Γ u) :: st) := fun H locs ls hW hN hS h9 => va_tb G.1 G.2.1 ((gd_o G).1.1 u hu).2.2.2 hS (zin_vp hi) (by show Value.int _ = .int (zJ (zsb u (zix x))); unfold zsb; rw [zJ_toInt, zix_J]) hd (k H locs ls hW hN hS h9)
theorem p_nret {ty : FieldType} (G : Gd Γ cc own nL rm sh) {x : Int} (hR : RT Γ sh (some ty) σ1 ov) (hd : decode cc pc = .ok (.ireturn, 1)) (hb : narrow ty (.int (zJ x)) = .int (zJ x)) (hv : some (Value.int (zJ x)) = ov) (hs : σ = σ1) : PT Γ nL sh pc σ lv [.int (zJ x)] := fun H locs ls hW hN hS hl =>
  gW_ret hR (W.zret G.1 G.2.1 hR.1 hb (rt_q G hR hv hs hW hN hS) (rt_f G hR hS) hd G.2.2.2.2.2.2.2.2.2.1)
/-- a call on a constant text -/
theorem p_callT (G : Gd Γ cc own nL rm sh) {idx : Nat} {y : MethodName} {b : ByteArray} {n : Nat} {ret : Option FieldType} {np : Nat} {rm1 : Room} {u : Nat} {As stk : List Value} {ov : Option Value} (hu : u < zsN)
    (hd : decode cc pc = .ok (.invokevirtual idx, 3)) (hL : LKV own idx "java/lang/String" y b n ret np) (hM : CT (gl Γ) y b n ret rm1 [] (gD Γ) (gy Γ) (gk Γ) (gv Γ) (fun i => ga Γ (zp [] i)) (zb [] σ) (.ref (gk Γ u) :: As) (zb [] σ) ov) (hstk : stk = As.reverse ++ .ref (gk Γ u) :: st) (hz : zk [] sh [] = true)
    (hnp : As.length = np) (h8 : (st.map fun v => v.category).sum ≤ 8)
    (hrm : rm1.cells = 0 ∧ rm1.slots = 0 ∧ rm1.frames + 1 ≤ rm.frames ∧ 8 + (n + 11) + rm1.locals ≤ rm.locals) (hcs : gmc Γ ≤ (gR Γ).cells ∧ gms Γ ≤ (gR Γ).slots)
    (k : PT Γ nL sh (pc + 3) σ lv (ov.toList ++ st)) : PT Γ nL sh pc σ lv stk := by
  rw [← zj_self [] σ] at k
  exact fun H locs ls hW hN hS hl => by
    have hx : Zx sh [] σ := fun i q hi => absurd hi (Nat.not_lt_zero i)
    subst hstk
    obtain ⟨hlk, hin, hse, hini, hcode, hy⟩ := hL
    have S : CallFix (gp Γ) (gm Γ) (gc Γ) cc nL (gs Γ) (gargs Γ) GT own := ⟨G.1, G.2.1, G.2.2.1, G.2.2.2.1, G.2.2.2.2.1⟩
    have hts := G.2.2.2.2.1
    have hR := G.2.2.2.2.2.2.2.2.1
    have hrecv := vk_recv (gd_o G).1 hu hS
    have hpv : PreV (gs Γ) H "java/lang/String" (gk Γ u) (PcW (gD Γ) (gy Γ) (gk Γ) (gv Γ) [] (fun i => ga Γ (zp [] i)) (fun i => σ (zp [] i)) H.size (.ref (gk Γ u) :: As)) As := ⟨pcw_blind, hrecv, pcw_at G hz hx hW hN hS _⟩
    have hroom : rm1.frames + 1 ≤ (gR Γ).frames ∧ 8 + (n + 11) + rm1.locals ≤ (gR Γ).locals := by rw [hR]; exact hrm.2.2
    rcases hlk with hlk | ⟨host, hlk⟩
    · have cw : CallW (gR Γ) (gs Γ) (gargs Γ) own "java/lang/String" idx y b n ret (WS y b n ret) rm1 0 0 np := ⟨callB_of np hts (ws_good hcode) rfl hrm.1 hrm.2.1 (by rw [hy.1]; exact hts _ hini) (hts _ hlk) hy.2 hroom, hts _ hin, hts _ hse⟩
      exact run_go G hz hx hW hN hS hl (va_runV S (hM H.size) cw hpv rfl hnp hl.1 rfl (lv_room h8) hd hcs) k
    · have cw := va_cnB (R := gR Γ) (s := gs Γ) (args := gargs Γ) np hts (ws_good hcode) rfl hrm.1 hrm.2.1 (va_Nw.of rfl (gd_n G hlk)) (by rw [hy.1]; exact hts _ hini) hy.2 hroom
      exact run_go G hz hx hW hN hS hl (va_runVN S (hM H.size) ⟨cw, hts _ hin, hts _ hse⟩ hpv rfl hnp hl.1 rfl (lv_room h8) hd hcs) k
end STX
def rm_J_String_coder : Room := { frames := 0, cells := 0, slots := 0, locals := 0 }
theorem c_J_String_coder (l : Launch) {D : va_G} {yy : Nat → ClassId} {tk tv a : Nat → Nat} {σ : Mm} {u : Nat} (hu : u < zsN) : CT l yJ_String_coder cJ_String_coder 1 (some .byte) rm_J_String_coder shN D yy tk tv a σ [.ref (tk u)] σ (some (.int (zJ 0))) := by
  refine ct_of (Ar := fun a tk => [.ref (tk u)]) (by decide) (Nat.le_of_ble_eq_true rfl) (fun Γ G _ _ hR => ?_)
  refine (?_ : PT Γ 1 shN 0 σ [(0, .ref (gk Γ u))] [])
  have h : (if zw 1 = 0 then none else some ()) = some () := by decide
  refine p_getsCS G dJ_String_coder_0 gm_295 ?_
  refine p_ifeq (tgt := 13) G dJ_String_coder_3 (by decide) h (fun c h => absurd c (by decide)) (fun c h => ?_)
  refine p_aload_n G rfl 0 rfl dJ_String_coder_6 ?_
  refine p_getCo G hu dJ_String_coder_7 gm_748 ?_
  refine p_goto (tgt := 14) G dJ_String_coder_10 (by decide) ?_
  exact p_nret G hR dJ_String_coder_14 (by decide) rfl rfl
def rm_J_String_isLatin1 : Room := { frames := 0, cells := 0, slots := 0, locals := 0 }
theorem c_J_String_isLatin1 (l : Launch) {D : va_G} {yy : Nat → ClassId} {tk tv a : Nat → Nat} {σ : Mm} {u : Nat} (hu : u < zsN) : CT l yJ_String_isLatin1 cJ_String_isLatin1 1 (some .boolean) rm_J_String_isLatin1 shN D yy tk tv a σ [.ref (tk u)] σ (some (.int (zJ 1))) := by
  refine ct_of (Ar := fun a tk => [.ref (tk u)]) (by decide) (Nat.le_of_ble_eq_true rfl) (fun Γ G _ _ hR => ?_)
  refine (?_ : PT Γ 1 shN 0 σ [(0, .ref (gk Γ u))] [])
  have h : (if zw 1 = 0 then none else some ()) = some () := by decide
  have h2 : (if zw 0 ≠ 0 then none else some ()) = some () := by decide
  refine p_getsCS G dJ_String_isLatin1_0 gm_295 ?_
  refine p_ifeq (tgt := 17) G dJ_String_isLatin1_3 (by decide) h (fun c h => absurd c (by decide)) (fun c h => ?_)
  refine p_aload_n G rfl 0 rfl dJ_String_isLatin1_6 ?_
  refine p_getCo G hu dJ_String_isLatin1_7 gm_748 ?_
  refine p_ifne (tgt := 17) G dJ_String_isLatin1_10 (by decide) h2 (fun c h => absurd c (by decide)) (fun c h => ?_)
  refine p_iconst G rfl dJ_String_isLatin1_13 ?_
  refine p_goto (tgt := 18) G dJ_String_isLatin1_14 (by decide) ?_
  exact p_nret G hR dJ_String_isLatin1_18 (by decide) rfl rfl
def rm_J_String_length : Room := { frames := 1, cells := 0, slots := 0, locals := 20 }
def x_zlen (u : Nat) : Option Int := if u < zsN then some (zsLen.getD u 0 : Nat) else none
theorem zlen_ok : ∀ u : Nat, u < zsN → zshr ((zsLen.getD u 0 : Nat) : Int) 0 = (zsLen.getD u 0 : Nat) := by decide +kernel
theorem c_J_String_length (l : Launch) {D : va_G} {yy : Nat → ClassId} {tk tv a : Nat → Nat} {σ : Mm} {u : Nat} {o : Int} (h : x_zlen u = some o) : CT l yJ_String_length cJ_String_length 1 (some .int) rm_J_String_length shN D yy tk tv a σ [.ref (tk u)] σ (some (.int (zJ o))) := by
  refine ct_of (Ar := fun a tk => [.ref (tk u)]) (by decide) (Nat.le_of_ble_eq_true rfl) (fun Γ G _ _ hR => ?_)
  refine (?_ : PT Γ 1 shN 0 σ [(0, .ref (gk Γ u))] [])
  have hcs := rt_cs hR
  unfold x_zlen at h
  refine zift h (fun hu h => ?_)
  cases h
  refine p_aload_n G rfl 0 rfl dJ_String_length_0 ?_
  refine p_getVa G hu dJ_String_length_1 gm_747 ?_
  refine p_tlenS G hu dJ_String_length_4 ?_
  refine p_aload_n G rfl 0 rfl dJ_String_length_5 ?_
  refine p_callT G hu dJ_String_length_6 lk_java_lang_String_335 (c_J_String_coder (gl Γ) hu) (As := []) rfl zk_1 rfl (Nat.le_of_ble_eq_true rfl) ⟨rfl, rfl, Nat.le_of_ble_eq_true rfl, Nat.le_of_ble_eq_true rfl⟩ hcs ?_
  refine p_ishr G dJ_String_length_9 ?_
  rw [zlen_ok u hu]
  exact p_iret G hR dJ_String_length_10 rfl rfl
def rm_J_Preconditions_checkIndex : Room := { frames := 0, cells := 0, slots := 0, locals := 0 }
theorem c_J_Preconditions_checkIndexN (l : Launch) {D : va_G} {yy : Nat → ClassId} {tk tv a : Nat → Nat} {σ : Mm} {x n : Int} (h0 : 0 ≤ zw x) (h1 : zw x < zw n) : CT l yJ_Preconditions_checkIndex cJ_Preconditions_checkIndex 3 (some .int) rm_J_Preconditions_checkIndex shN D yy tk tv a σ [.int (zJ x), .int (zJ n), .null] σ (some (.int (zJ x))) := by
  refine ct_of (Ar := fun a tk => [.int (zJ x), .int (zJ n), .null]) (by decide) (Nat.le_of_ble_eq_true rfl) (fun Γ G _ _ hR => ?_)
  refine (?_ : PT Γ 3 shN 0 σ [(0, .int (zJ x)), (1, .int (zJ n)), (2, .null)] [])
  refine p_iload_n G rfl 0 rfl dJ_Preconditions_checkIndex_0 ?_
  refine p_iflt (tgt := 9) (A := (none : Option Unit)) (B := some ()) (out := ()) G dJ_Preconditions_checkIndex_1 (by decide) (by rw [if_neg (by omega)]) (fun c _ => absurd c (by omega)) (fun c _ => ?_)
  refine p_iload_n G rfl 0 rfl dJ_Preconditions_checkIndex_4 ?_
  refine p_iload_n G rfl 1 rfl dJ_Preconditions_checkIndex_5 ?_
  refine p_icmplt (tgt := 16) (A := some ()) (B := (none : Option Unit)) (out := ()) G dJ_Preconditions_checkIndex_6 (by decide) (by rw [if_pos h1]) (fun c _ => ?_) (fun c _ => absurd h1 c)
  refine p_iload_n G rfl 0 rfl dJ_Preconditions_checkIndex_16 ?_
  exact p_iret G hR dJ_Preconditions_checkIndex_17 rfl rfl
theorem c_J_Preconditions_checkIndexR (l : Launch) {D : va_G} {yy : Nat → ClassId} {tk tv a : Nat → Nat} {σ : Mm} {x n : Int} {t : Nat} (h0 : 0 ≤ zw x) (h1 : zw x < zw n) : CT l yJ_Preconditions_checkIndex cJ_Preconditions_checkIndex 3 (some .int) rm_J_Preconditions_checkIndex shN D yy tk tv a σ [.int (zJ x), .int (zJ n), (.ref t)] σ (some (.int (zJ x))) := by
  refine ct_of (Ar := fun a tk => [.int (zJ x), .int (zJ n), (.ref t)]) (by decide) (Nat.le_of_ble_eq_true rfl) (fun Γ G _ _ hR => ?_)
  refine (?_ : PT Γ 3 shN 0 σ [(0, .int (zJ x)), (1, .int (zJ n)), (2, (.ref t))] [])
  refine p_iload_n G rfl 0 rfl dJ_Preconditions_checkIndex_0 ?_
  refine p_iflt (tgt := 9) (A := (none : Option Unit)) (B := some ()) (out := ()) G dJ_Preconditions_checkIndex_1 (by decide) (by rw [if_neg (by omega)]) (fun c _ => absurd c (by omega)) (fun c _ => ?_)
  refine p_iload_n G rfl 0 rfl dJ_Preconditions_checkIndex_4 ?_
  refine p_iload_n G rfl 1 rfl dJ_Preconditions_checkIndex_5 ?_
  refine p_icmplt (tgt := 16) (A := some ()) (B := (none : Option Unit)) (out := ()) G dJ_Preconditions_checkIndex_6 (by decide) (by rw [if_pos h1]) (fun c _ => ?_) (fun c _ => absurd h1 c)
  refine p_iload_n G rfl 0 rfl dJ_Preconditions_checkIndex_16 ?_
  exact p_iret G hR dJ_Preconditions_checkIndex_17 rfl rfl
def rm_J_String_checkIndex : Room := { frames := 1, cells := 0, slots := 0, locals := 22 }
theorem c_J_String_checkIndex (l : Launch) {D : va_G} {yy : Nat → ClassId} {tk tv a : Nat → Nat} {σ : Mm} {x n : Int} (h0 : 0 ≤ zw x) (h1 : zw x < zw n) : CT l yJ_String_checkIndex cJ_String_checkIndex 2 none rm_J_String_checkIndex shN D yy tk tv a σ [.int (zJ x), .int (zJ n)] σ none := by
  refine ct_of (Ar := fun a tk => [.int (zJ x), .int (zJ n)]) (by decide) (Nat.le_of_ble_eq_true rfl) (fun Γ G _ _ hR => ?_)
  refine (?_ : PT Γ 2 shN 0 σ [(0, .int (zJ x)), (1, .int (zJ n))] [])
  have hcs := rt_cs hR
  refine p_iload_n G rfl 0 rfl dJ_String_checkIndex_0 ?_
  refine p_iload_n G rfl 1 rfl dJ_String_checkIndex_1 ?_
  refine p_getsSF G dJ_String_checkIndex_2 gm_311 ?_ (fun t => ?_)
  · refine p_callS0 G dJ_String_checkIndex_5 lk_java_lang_String_1059 (c_J_Preconditions_checkIndexN (gl Γ) h0 h1) (As := [.int (zJ x), .int (zJ n), .null]) rfl zk_1 rfl (Nat.le_of_ble_eq_true rfl) ⟨rfl, rfl, Nat.le_of_ble_eq_true rfl, Nat.le_of_ble_eq_true rfl⟩ hcs ?_
    refine p_pop G rfl dJ_String_checkIndex_8 ?_
    exact p_vret G hR dJ_String_checkIndex_9 rfl rfl
  · refine p_callS0 G dJ_String_checkIndex_5 lk_java_lang_String_1059 (c_J_Preconditions_checkIndexR (gl Γ) h0 h1) (As := [.int (zJ x), .int (zJ n), .ref t]) rfl zk_1 rfl (Nat.le_of_ble_eq_true rfl) ⟨rfl, rfl, Nat.le_of_ble_eq_true rfl, Nat.le_of_ble_eq_true rfl⟩ hcs ?_
    refine p_pop G rfl dJ_String_checkIndex_8 ?_
    exact p_vret G hR dJ_String_checkIndex_9 rfl rfl
def rm_J_StringLatin1_charAt : Room := { frames := 2, cells := 0, slots := 0, locals := 43 }
theorem zsb_ok : ∀ u : Nat, u < zsN → ∀ j : Nat, j < zsLen.getD u 0 → zand (zsb u j) 255 = zsb u j ∧ ((zJ (zsb u j)).toUInt32 % 65536).toInt32 = zJ (zsb u j) ∧ narrow .char (.int (zJ (zsb u j))) = .int (zJ (zsb u j)) := by decide +kernel
theorem zsl_ok : ∀ u : Nat, u < zsN → zw ((zsLen.getD u 0 : Nat) : Int) = (zsLen.getD u 0 : Nat) := by decide +kernel
theorem zix_lt {x : Int} {n : Nat} (h : zin x n) : zix x < n := by
  unfold zix
  have := h.1; have := h.2
  omega
theorem p_i2c {Γ : Cx} {cc : ByteArray} {own : String} {nL : Nat} {rm : Room} {sh : Sh} {pc : Nat} {σ : Mm} {lv : List (Nat × Value)} {st : List Value} (G : Gd Γ cc own nL rm sh) {x : Int} (hx : ((zJ x).toUInt32 % 65536).toInt32 = zJ x) (hd : decode cc pc = .ok (.i2c, 1)) (k : PT Γ nL sh (pc + 1) σ lv (.int (zJ x) :: st)) : PT Γ nL sh pc σ lv (.int (zJ x) :: st) := fun H locs ls hW hN hS hl => lv_i2c G.1 G.2.1 hd hx (k H locs ls hW hN hS hl)
theorem c_J_StringLatin1_charAt (l : Launch) {D : va_G} {yy : Nat → ClassId} {tk tv a : Nat → Nat} {σ : Mm} {x : Int} {u : Nat} (hu : u < zsN) (hi : zin x (zsLen.getD u 0)) : CT l yJ_StringLatin1_charAt cJ_StringLatin1_charAt 2 (some .char) rm_J_StringLatin1_charAt shN D yy tk tv a σ [.ref (tv u), .int (zJ x)] σ (some (.int (zJ (zsb u (zix x))))) := by
  refine ct_ofV (Ar := fun a tk tv => [.ref (tv u), .int (zJ x)]) (by decide) (Nat.le_of_ble_eq_true rfl) (fun Γ G _ _ hR => ?_)
  refine (?_ : PT Γ 2 shN 0 σ [(0, .ref (gv Γ u)), (1, .int (zJ x))] [])
  have hcs := rt_cs hR
  obtain ⟨e1, e2, e3⟩ := zsb_ok u hu (zix x) (zix_lt hi)
  refine p_iload_n G rfl 1 rfl dJ_StringLatin1_charAt_0 ?_
  refine p_aload_n G rfl 0 rfl dJ_StringLatin1_charAt_1 ?_
  refine p_tlenS G hu dJ_StringLatin1_charAt_2 ?_
  refine p_callS0 G dJ_StringLatin1_charAt_3 lk_java_lang_StringLatin1_9 (c_J_String_checkIndex (gl Γ) hi.1 (by rw [zsl_ok u hu]; exact hi.2)) (As := [.int (zJ x), .int (zJ ((zsLen.getD u 0 : Nat) : Int))]) rfl zk_1 rfl (Nat.le_of_ble_eq_true rfl) ⟨rfl, rfl, Nat.le_of_ble_eq_true rfl, Nat.le_of_ble_eq_true rfl⟩ hcs ?_
  refine p_aload_n G rfl 0 rfl dJ_StringLatin1_charAt_6 ?_
  refine p_iload_n G rfl 1 rfl dJ_StringLatin1_charAt_7 ?_
  refine p_tbS G hu hi dJ_StringLatin1_charAt_8 ?_
  refine p_sipush G (by decide) (by decide) dJ_StringLatin1_charAt_9 ?_
  refine p_iand G dJ_StringLatin1_charAt_12 ?_
  rw [e1]
  refine p_i2c G e2 dJ_StringLatin1_charAt_13 ?_
  exact p_nret G hR dJ_StringLatin1_charAt_14 e3 rfl rfl
def rm_J_String_charAt : Room := { frames := 3, cells := 0, slots := 0, locals := 64 }
def x_zchr (u : Nat) (x : Int) : Option Int := if u < zsN then (if zin x (zsLen.getD u 0) then some (zsb u (zix x)) else none) else none
theorem c_J_String_charAt (l : Launch) {D : va_G} {yy : Nat → ClassId} {tk tv a : Nat → Nat} {σ : Mm} {x o : Int} {u : Nat} (h : x_zchr u x = some o) : CT l yJ_String_charAt cJ_String_charAt 2 (some .char) rm_J_String_charAt shN D yy tk tv a σ [.ref (tk u), .int (zJ x)] σ (some (.int (zJ o))) := by
  unfold x_zchr at h
  refine zift h (fun hu h => ?_)
  refine zift h (fun hi h => ?_)
  cases h
  obtain ⟨e1, e2, e3⟩ := zsb_ok u hu (zix x) (zix_lt hi)
  refine ct_of (Ar := fun a tk => [.ref (tk u), .int (zJ x)]) (by decide) (Nat.le_of_ble_eq_true rfl) (fun Γ G _ _ hR => ?_)
  refine (?_ : PT Γ 2 shN 0 σ [(0, .ref (gk Γ u)), (1, .int (zJ x))] [])
  have hcs := rt_cs hR
  have h : (if zw 1 = 0 then none else some ()) = some () := by decide
  refine p_aload_n G rfl 0 rfl dJ_String_charAt_0 ?_
  refine p_callT G hu dJ_String_charAt_1 lk_java_lang_String_492 (c_J_String_isLatin1 (gl Γ) hu) (As := []) rfl zk_1 rfl (Nat.le_of_ble_eq_true rfl) ⟨rfl, rfl, Nat.le_of_ble_eq_true rfl, Nat.le_of_ble_eq_true rfl⟩ hcs ?_
  refine p_ifeq (tgt := 16) G dJ_String_charAt_4 (by decide) h (fun c h => absurd c (by decide)) (fun c h => ?_)
  refine p_aload_n G rfl 0 rfl dJ_String_charAt_7 ?_
  refine p_getVa G hu dJ_String_charAt_8 gm_747 ?_
  refine p_iload_n G rfl 1 rfl dJ_String_charAt_11 ?_
  refine p_callS0 G dJ_String_charAt_12 lk_java_lang_String_495 (c_J_StringLatin1_charAt (gl Γ) hu hi) (As := [.ref (gv Γ u), .int (zJ x)]) rfl zk_1 rfl (Nat.le_of_ble_eq_true rfl) ⟨rfl, rfl, Nat.le_of_ble_eq_true rfl, Nat.le_of_ble_eq_true rfl⟩ hcs ?_
  exact p_nret G hR dJ_String_charAt_15 e3 rfl rfl
theorem zlen_u {u : Nat} {o : Int} (h : x_zlen u = some o) : u < zsN := by
  unfold x_zlen at h
  exact zift h (fun hu _ => hu)
theorem zchr_u {u : Nat} {x o : Int} (h : x_zchr u x = some o) : u < zsN := by
  unfold x_zchr at h
  exact zift h (fun hu _ => hu)
