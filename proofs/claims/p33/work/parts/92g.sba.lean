/-! The builder grows, and takes a text -/
section SBU
variable {Γ : Cx} {cc : ByteArray} {own : String} {nL : Nat} {rm : Room} {m1 : Nat} {pc : Nat} {σ : Mm} {lv : List (Nat × Value)} {st : List Value} {ret9 : Option FieldType} {m0 b v0 : Nat} {σ0 : Mm} {post : Nat → Mm → Prop} {ov : Option Value} {mc ms m n : Nat} {lc : Lc} {nm : String} {lv' : (Nat → Nat) → List (Nat × Value)} {st' : (Nat → Nat) → List Value}
theorem rtb_v (hR : RTB Γ ret9 m0 b v0 σ0 post ov mc ms) : ∃ v, ga Γ = adB b v := ⟨hR.2.2.2.2.choose, hR.2.2.2.2.choose_spec.1⟩
theorem rtb_0 (hR : RTB Γ ret9 m0 b v0 σ0 post ov mc ms) : ga Γ 0 = b := by
  obtain ⟨v, hv⟩ := rtb_v hR
  rw [hv]
  rfl
/-- an inherited method of the builder -/
theorem p_callUB (G : Gd Γ cc own nL rm (shB m1)) (hR : RTB Γ ret9 m0 b v0 σ0 post ov mc ms) (hM : Mk Γ lc nm m n) {idx : Nat} {y : MethodName} {c : ByteArray} {nc mc1 ms1 : Nat} {ret : Option FieldType} {np : Nat} {rm1 : Room} {As stk : List Value} {post1 : Nat → Mm → Prop} {ov1 : Option Value}
    (hd : decode cc pc = .ok (.invokevirtual idx, 3)) (hL : LKU own idx y c nc ret np) (hC : ∀ v1, CB (gl Γ) y c nc ret rm1 (gD Γ) (gy Γ) (gk Γ) (gv Γ) b v1 m1 σ (.ref b :: As) post1 ov1 mc1 ms1) (hstk : stk = As.reverse ++ .ref (ga Γ 0) :: st) (hnp : As.length = np) (h8 : (st.map fun v => v.category).sum ≤ 8)
    (hrm : rm1.cells = mc1 ∧ rm1.slots = ms1 ∧ rm1.frames + 1 ≤ rm.frames ∧ 8 + (nc + 11) + rm1.locals ≤ rm.locals) (hrc : m + mc1 ≤ rm.cells) (hrs : n + ms1 ≤ rm.slots) (hlv : ∀ a : Nat → Nat, a 0 = ga Γ 0 → lv = lv' a ∧ st = st' a)
    (k9 : ∀ (Γ' : Cx) (m' : Nat) (σ' : Mm), Gd Γ' cc own nL rm (shB m') → RTB Γ' ret9 m0 b v0 σ0 post ov mc ms → Mk Γ' lc nm (m + mc1) (n + ms1) → post1 m' σ' → PT Γ' nL (shB m') (pc + 3) σ' (lv' (ga Γ')) (ov1.toList ++ st' (ga Γ'))) : PT Γ nL (shB m1) pc σ lv stk := fun H locs ls hW hN hS hl => by
  subst hstk
  obtain ⟨v1, hv⟩ := rtb_v hR
  have hcs : gmc Γ + mc1 ≤ (gR Γ).cells ∧ gms Γ + ms1 ≤ (gR Γ).slots := by rw [hM.2.2.1, hM.2.2.2, G.2.2.2.2.2.2.2.2.1]; exact ⟨hrc, hrs⟩
  have e0 := rtb_0 hR
  have hrecv := recv_at (ci := 1) (C := "java/lang/StringBuilder") G (k0 := 0) rfl rfl hW trivial
  have hp := (pcw_same (As := .ref b :: As) G hW hN hS).1
  rw [hv] at hp
  rw [e0] at hrecv ⊢
  exact w_goB G hR hM hv hW hN hS hl (r_U G hd hL (hC v1 H.size) ⟨pcw_blind, hrecv, hp⟩ hnp h8 hl.1 hrm hcs) hlv k9
/-- super.y(..) -/
theorem p_callWB (G : Gd Γ cc own nL rm (shB m1)) (hR : RTB Γ ret9 m0 b v0 σ0 post ov mc ms) (hM : Mk Γ lc nm m n) {idx : Nat} {y : MethodName} {c : ByteArray} {nc mc1 ms1 : Nat} {ret : Option FieldType} {np : Nat} {rm1 : Room} {As stk : List Value} {post1 : Nat → Mm → Prop} {ov1 : Option Value}
    (hd : decode cc pc = .ok (.invokespecial idx, 3)) (hL : LKW own idx y c nc ret np) (hC : ∀ v1, CB (gl Γ) y c nc ret rm1 (gD Γ) (gy Γ) (gk Γ) (gv Γ) b v1 m1 σ (.ref b :: As) post1 ov1 mc1 ms1) (hstk : stk = As.reverse ++ .ref (ga Γ 0) :: st) (hnp : As.length = np) (h8 : (st.map fun v => v.category).sum ≤ 8)
    (hrm : rm1.cells = mc1 ∧ rm1.slots = ms1 ∧ rm1.frames + 1 ≤ rm.frames ∧ 8 + (nc + 11) + rm1.locals ≤ rm.locals) (hrc : m + mc1 ≤ rm.cells) (hrs : n + ms1 ≤ rm.slots) (hlv : ∀ a : Nat → Nat, a 0 = ga Γ 0 → lv = lv' a ∧ st = st' a)
    (k9 : ∀ (Γ' : Cx) (m' : Nat) (σ' : Mm), Gd Γ' cc own nL rm (shB m') → RTB Γ' ret9 m0 b v0 σ0 post ov mc ms → Mk Γ' lc nm (m + mc1) (n + ms1) → post1 m' σ' → PT Γ' nL (shB m') (pc + 3) σ' (lv' (ga Γ')) (ov1.toList ++ st' (ga Γ'))) : PT Γ nL (shB m1) pc σ lv stk := fun H locs ls hW hN hS hl => by
  subst hstk
  obtain ⟨v1, hv⟩ := rtb_v hR
  have hcs : gmc Γ + mc1 ≤ (gR Γ).cells ∧ gms Γ + ms1 ≤ (gR Γ).slots := by rw [hM.2.2.1, hM.2.2.2, G.2.2.2.2.2.2.2.2.1]; exact ⟨hrc, hrs⟩
  have e0 := rtb_0 hR
  have hrecv := recv_at (ci := 1) (C := "java/lang/StringBuilder") G (k0 := 0) rfl rfl hW trivial
  have hp := (pcw_same (As := .ref b :: As) G hW hN hS).1
  rw [hv] at hp
  rw [e0] at hrecv ⊢
  exact w_goB G hR hM hv hW hN hS hl (r_W G hd hL (hC v1 H.size) ⟨pcw_blind, hrecv, hp⟩ hnp h8 hl.1 hrm hcs) hlv k9
end SBU
set_option maxHeartbeats 2000000 in
theorem c_ensure (l : Launch) {D : va_G} {yy : Nat → ClassId} {tk tv : Nat → Nat} {b v m : Nat} {σ : Mm} {t : Nat → Int} {n q : Nat} (hB : OKB n m t σ) (hq : q ≤ 34) : CB l yJ5_ensureCapacityInternal_d00df cJ5_ensureCapacityInternal_d00df 3 none (rmS 3 1 34 90) D yy tk tv b v m σ [.ref b, .int (zJ (q : Int))] (fun m' σ' => OKB n m' t σ' ∧ q ≤ m') none 1 34 := by
  refine cb_of (Ar := fun a tk => [.ref (a 0), .int (zJ (q : Int))]) (by decide) (Nat.le_of_ble_eq_true rfl) (fun Γ G _ hM hR => ?_)
  refine (?_ : PT Γ 3 (shB m) 0 σ [(0, .ref (ga Γ 0)), (1, .int (zJ (q : Int)))] [])
  have hcs := mk_cs G hM (Nat.zero_le _) (Nat.zero_le _)
  have hcs1 : gmc Γ + 1 ≤ (gR Γ).cells ∧ gms Γ + 34 ≤ (gR Γ).slots := by rw [hM.2.2.1, hM.2.2.2, G.2.2.2.2.2.2.2.2.1]; exact ⟨Nat.le_refl _, Nat.le_refl _⟩
  have hB0 := hB
  obtain ⟨h1, h3, hn, hm, hf, ht⟩ := hB
  refine p_aload_n G rfl 0 rfl dJ5_ensureCapacityInternal_d00df_0 ?_
  refine p_valB G dJ5_ensureCapacityInternal_d00df_1 flu_AbstractStringBuilder_15 ?_
  refine p_alen (k := 1) G dJ5_ensureCapacityInternal_d00df_4 rfl (by decide) (by omega) ?_
  refine p_aload_n G rfl 0 rfl dJ5_ensureCapacityInternal_d00df_5 ?_
  refine p_fldB G rfl dJ5_ensureCapacityInternal_d00df_6 flu_AbstractStringBuilder_22 ?_
  rw [h1]
  refine p_ishr G dJ5_ensureCapacityInternal_d00df_9 ?_
  rw [(sh_s m (by omega)).2]
  refine p_istore_nU (lv' := [(2, .int (zJ (m : Int))), (0, .ref (ga Γ 0)), (1, .int (zJ (q : Int)))]) G rfl dJ5_ensureCapacityInternal_d00df_10 (by decide) rfl ?_
  refine p_iload_n G rfl 2 rfl dJ5_ensureCapacityInternal_d00df_11 ?_
  refine p_iload_n G rfl 0 rfl dJ5_ensureCapacityInternal_d00df_12 ?_
  refine p_isub G dJ5_ensureCapacityInternal_d00df_13 ?_
  have hz : zw ((q : Int) - m) = (q : Int) - m := zw_eq (by omega) (by omega)
  by_cases c : q ≤ m
  · refine p_ifle (tgt := 38) (A := some ()) (B := (none : Option Unit)) (out := ()) G dJ5_ensureCapacityInternal_d00df_14 (by decide) (if_pos (by rw [hz]; omega)) (fun _ _ => ?_) (fun x _ => absurd (by rw [hz]; omega) x)
    exact p_vretB G hM (Nat.zero_le _) (Nat.zero_le _) hR ⟨hB0, c⟩ dJ5_ensureCapacityInternal_d00df_38 rfl
  · have em : m = 16 := by omega
    subst em
    refine p_ifle (tgt := 38) (A := (none : Option Unit)) (B := some ()) (out := ()) G dJ5_ensureCapacityInternal_d00df_14 (by decide) (if_neg (by rw [hz]; omega)) (fun x _ => absurd x (by rw [hz]; omega)) (fun _ _ => ?_)
    refine p_aload_n G rfl 1 rfl dJ5_ensureCapacityInternal_d00df_17 ?_
    refine p_aload_n G rfl 1 rfl dJ5_ensureCapacityInternal_d00df_18 ?_
    refine p_valB G dJ5_ensureCapacityInternal_d00df_19 flu_AbstractStringBuilder_15 ?_
    refine p_aload_n G rfl 1 rfl dJ5_ensureCapacityInternal_d00df_22 ?_
    refine p_iload_n G rfl 2 rfl dJ5_ensureCapacityInternal_d00df_23 ?_
    refine p_callUi (k0 := 0) G dJ5_ensureCapacityInternal_d00df_24 lu_AbstractStringBuilder_104 (c_newCapacity (gl Γ) (by omega) hq h1) (As := [.int (zJ (q : Int))]) rfl rfl rfl (Nat.le_of_ble_eq_true rfl) ⟨rfl, rfl, Nat.le_of_ble_eq_true rfl, Nat.le_of_ble_eq_true rfl⟩ hcs ?_
    refine p_aload_n G rfl 1 rfl dJ5_ensureCapacityInternal_d00df_27 ?_
    refine p_fldB G rfl dJ5_ensureCapacityInternal_d00df_28 flu_AbstractStringBuilder_22 ?_
    rw [h1]
    refine p_ishl G dJ5_ensureCapacityInternal_d00df_31 ?_
    rw [show zshl 34 0 = ((34 : Nat) : Int) from by decide]
    intro H locs ls hW hN hS hl
    have e0 := rtb_0 hR
    have hcell1 : ga Γ 1 < H.size := zC_lt (hW 1 _ rfl trivial)
    have hcell0 : ga Γ 0 < H.size := zC_lt (hW 0 _ rfl trivial)
    have hne : ga Γ 0 ≠ ga Γ 1 := fun e => by
      have := G.2.2.2.2.2.2.1.1 0 1 _ _ rfl rfl trivial trivial e
      cases this
    have hA1 : ∀ q, aW (shV 16) (fun i => ga Γ (zp [1] i)) (fun i => σ (zp [1] i)) H.size q → gA Γ q := fun q hq => by
      rcases hq with ⟨k, p, hp, -, rfl⟩ | hq
      · obtain ⟨rfl, -⟩ := shV_at hp
        exact G.2.2.2.2.2.2.1.2 1 _ rfl trivial
      · exact G.2.2.2.2.2.2.2.1 q (Nat.le_trans hS.1 hq)
    have hr := r_S (H := H) (locs := locs) (ls := ls) (rest := [.ref (ga Γ 0)]) G dJ5_ensureCapacityInternal_d00df_32 ls_AbstractStringBuilder_108 (c_copyOf (gl Γ) (D := gD Γ) (yy := gy Γ) (tk := gk Γ) (tv := gv Γ) (a := fun i => ga Γ (zp [1] i)) (σ := fun i => σ (zp [1] i)) (m := 16) (q := 34) (by omega) (Nat.le_refl _) (fun j => hf j) H.size) (As := [.ref (ga Γ 1), .int (zJ ((34 : Nat) : Int))]) ⟨pcw_blind, pcw_at G (zk_V 16 (Or.inl rfl)).1 (zs_x (zk_V 16 (Or.inl rfl)).2 σ) hW hN hS _⟩ rfl (Nat.le_of_ble_eq_true rfl) hl.1 ⟨rfl, rfl, Nat.le_of_ble_eq_true rfl, Nat.le_of_ble_eq_true rfl⟩ hcs1
    refine w_goQ (Qp := fun oc H1 => ∃ w, oc = .returned (some (.ref w)) ∧ H.size ≤ w ∧ H1[w]? = some (arrV (gy Γ 2) 34 (fun j => .int (zJ (if j < 16 then σ 1 j else 0))))) G hS hA1 hr (fun v0 H1 locs1 hq1 hz1 hF hS1 => ?_)
    obtain ⟨w, hv0, hw, hc⟩ := hq1
    cases hv0
    have hF0 : H1[ga Γ 0]? = H[ga Γ 0]? := hF _ hcell0 (fun z => by
      rcases z with ⟨k, p, hp, -, e⟩ | z
      · obtain ⟨rfl, -⟩ := shV_at hp
        exact hne e.symm
      · omega)
    have hc0 : t_OB (ga Γ 0) ((gD Γ).1 1) 4 ((gD Γ).2 1) H1 (zF (ga Γ) ([5, 0, 0, 0], 0, 0) (σ 0)) := zC_kept (hW 0 _ rfl trivial) hF0
    refine w_putU G fpu_AbstractStringBuilder_15 (w := .ref w) rfl rfl dJ5_ensureCapacityInternal_d00df_35 rfl hc0 (fun H2 slot x1 x2 x3 => ?_)
    obtain ⟨g1, g2, g3⟩ := sb_step (v' := w) (m' := 34) (mc1 := 1) (ms1 := 34) (σ' := fun c => if c = 0 then σ 0 else fun j => if j < 16 then σ 1 j else 0) G hR hM hS.1 (by rw [← e0]; exact hcell0) (Or.inr hw)
    have k : PT (gN Γ (adB b w) (fun c => if c = 0 then σ 0 else fun j => if j < 16 then σ 1 j else 0) (gmc Γ + 1) (gms Γ + 34)) 3 (shB 34) 38 (fun c => if c = 0 then σ 0 else fun j => if j < 16 then σ 1 j else 0) [(2, .int (zJ ((16 : Nat) : Int))), (0, .ref (ga Γ 0)), (1, .int (zJ (q : Int)))] [] :=
      p_vretB g1 g3 (Nat.le_refl _) (Nat.le_refl _) g2 ⟨⟨h1, h3, by omega, Or.inr rfl, fun j => by
        show fits .byte (.int (zJ (if j < 16 then σ 1 j else 0))) = true
        by_cases cj : j < 16
        · rw [if_pos cj]; exact hf j
        · rw [if_neg cj]; decide, fun j hj => by
        show (if j < 16 then σ 1 j else 0) = t j
        rw [if_pos (by omega)]
        exact ht j hj⟩, hq⟩ dJ5_ensureCapacityInternal_d00df_38 rfl
    refine k H2 _ ls (fun i p hp _ => ?_) ne_B (hS1.put x2 x3 (G.2.2.2.2.2.2.1.2 0 _ rfl trivial)) hl
    rcases shB_at hp with ⟨ei, ep⟩ | ⟨ei, ep⟩ <;> subst ei ep
    · show t_OB b ((gD Γ).1 1) 4 ((gD Γ).2 1) H2 (zF (adB b w) ([5, 0, 0, 0], 0, 0) (σ 0))
      rw [e0] at x1
      refine x1.to (fun k hk => ?_)
      match k, hk with
      | 0, _ => rfl
      | 1, _ => rfl
      | 2, _ => rfl
      | 3, _ => rfl
    · refine zC_byt.mpr ?_
      show H2[w]? = _
      rw [x3 w (by omega)]
      exact hc
set_option maxHeartbeats 2000000 in
theorem c_appendSA (l : Launch) {D : va_G} {yy : Nat → ClassId} {tk tv : Nat → Nat} {b v m : Nat} {σ : Mm} {t : Nat → Int} {n u : Nat} (hu : u < zsN) (hB : OKB n m t σ) (hn : n + zsLen.getD u 0 ≤ 34) : CB l yJ5_append_cf1ce cJ5_append_cf1ce 3 (some (.object "java/lang/AbstractStringBuilder")) (rmS 4 1 34 112) D yy tk tv b v m σ [.ref b, .ref (tk u)] (fun m' σ' => OKB (n + zsLen.getD u 0) m' (catI t n (zsb u)) σ') (some (.ref b)) 1 34 := by
  refine cb_of (Ar := fun a tk => [.ref (a 0), .ref (tk u)]) (by decide) (Nat.le_of_ble_eq_true rfl) (fun Γ G _ hM hR => ?_)
  refine (?_ : PT Γ 3 (shB m) 0 σ [(0, .ref (ga Γ 0)), (1, .ref (gk Γ u))] [])
  have hcs := mk_cs G hM (Nat.zero_le _) (Nat.zero_le _)
  refine p_aload_n G rfl 1 rfl dJ5_append_cf1ce_0 ?_
  refine p_ifnonnull (tgt := 9) G dJ5_append_cf1ce_1 (by decide) ?_
  refine p_aload_n G rfl 1 rfl dJ5_append_cf1ce_9 ?_
  refine p_callT G hu dJ5_append_cf1ce_10 lt_AbstractStringBuilder_32 (c_J_String_length (gl Γ) (o := ((zsLen.getD u 0 : Nat) : Int)) (by unfold x_zlen; rw [if_pos hu])) (As := []) rfl rfl rfl (Nat.le_of_ble_eq_true rfl) ⟨rfl, rfl, Nat.le_of_ble_eq_true rfl, Nat.le_of_ble_eq_true rfl⟩ hcs ?_
  refine p_istore_nU (lv' := [(2, .int (zJ ((zsLen.getD u 0 : Nat) : Int))), (0, .ref (ga Γ 0)), (1, .ref (gk Γ u))]) G rfl dJ5_append_cf1ce_13 (by decide) rfl ?_
  refine p_aload_n G rfl 1 rfl dJ5_append_cf1ce_14 ?_
  refine p_aload_n G rfl 1 rfl dJ5_append_cf1ce_15 ?_
  refine p_fldB G rfl dJ5_append_cf1ce_16 flu_AbstractStringBuilder_79 ?_
  rw [hB.2.1]
  refine p_iload_n G rfl 0 rfl dJ5_append_cf1ce_19 ?_
  refine p_iadd G dJ5_append_cf1ce_20 ?_
  rw [show (n : Int) + ((zsLen.getD u 0 : Nat) : Int) = ((n + zsLen.getD u 0 : Nat) : Int) by omega]
  refine p_callUB (lv' := fun a => [(2, .int (zJ ((zsLen.getD u 0 : Nat) : Int))), (0, .ref (a 0)), (1, .ref (tk u))]) (st' := fun a => []) G hR hM dJ5_append_cf1ce_21 lu_AbstractStringBuilder_100 (fun v1 => c_ensure (gl Γ) hB hn) (As := [.int (zJ ((n + zsLen.getD u 0 : Nat) : Int))]) rfl rfl (Nat.le_of_ble_eq_true rfl) ⟨rfl, rfl, Nat.le_of_ble_eq_true rfl, Nat.le_of_ble_eq_true rfl⟩ (Nat.le_refl _) (Nat.le_refl _) (fun a e => by rw [e, hM.1.2.1]; exact ⟨rfl, rfl⟩) (fun Γ' m' σ' G' R' M' hp => ?_)
  clear hcs hB G hR hM
  obtain ⟨⟨h1, h3, hnm, hm, hf, ht⟩, hq⟩ := hp
  have hcs := mk_cs G' M' (Nat.le_refl _) (Nat.le_refl _)
  have etk : gk Γ' = tk := M'.1.2.1
  rw [← etk]
  obtain ⟨σ2, hs⟩ : ∃ σ2 : Mm, σ2 = (fun c => if c = 1 then fun j => if n ≤ j ∧ j < n + zsLen.getD u 0 then zsb u (j - n) else σ' 1 j else σ' c) := ⟨_, rfl⟩
  have a0 : σ2 0 = σ' 0 := by rw [hs]; rfl
  have a1 : σ2 1 = fun j => if n ≤ j ∧ j < n + zsLen.getD u 0 then zsb u (j - n) else σ' 1 j := by rw [hs]; rfl
  refine p_aload_n G' rfl 1 rfl dJ5_append_cf1ce_24 ?_
  refine p_aload_n G' rfl 1 rfl dJ5_append_cf1ce_25 ?_
  refine p_fldB G' rfl dJ5_append_cf1ce_26 flu_AbstractStringBuilder_79 ?_
  rw [h3]
  refine p_aload_n G' rfl 2 rfl dJ5_append_cf1ce_29 ?_
  refine p_callUi (k0 := 0) (σ1 := σ2) G' dJ5_append_cf1ce_30 lu_AbstractStringBuilder_208 (by rw [hs]; exact c_putStringAt (gl Γ') hu (by omega) hm h1) (As := [.int (zJ (n : Int)), .ref (gk Γ' u)]) rfl rfl rfl (Nat.le_of_ble_eq_true rfl) ⟨rfl, rfl, Nat.le_of_ble_eq_true rfl, Nat.le_of_ble_eq_true rfl⟩ hcs ?_
  refine p_aload_n G' rfl 1 rfl dJ5_append_cf1ce_33 ?_
  refine p_dup G' rfl dJ5_append_cf1ce_34 ?_
  refine p_fldB G' rfl dJ5_append_cf1ce_35 flu_AbstractStringBuilder_79 ?_
  rw [a0, h3]
  refine p_iload_n G' rfl 0 rfl dJ5_append_cf1ce_38 ?_
  refine p_iadd G' dJ5_append_cf1ce_39 ?_
  rw [show (n : Int) + ((zsLen.getD u 0 : Nat) : Int) = ((n + zsLen.getD u 0 : Nat) : Int) by omega]
  refine p_putIU (k := 0) G' dJ5_append_cf1ce_40 fpu_AbstractStringBuilder_79 rfl rfl rfl rfl rfl rfl ?_
  refine p_aload_n G' rfl 1 rfl dJ5_append_cf1ce_43 ?_
  refine p_aretB G' M' (Nat.le_refl _) (Nat.le_refl _) R' ⟨?_, ?_, hq, hm, fun j => ?_, fun j hj => ?_⟩ (Or.inl ⟨_, rfl⟩) dJ5_append_cf1ce_44 (by rw [rtb_0 R'])
  · rw [zu_self, a0]
    exact h1
  · rw [zu_self]
    rfl
  · rw [zu_ne _ _ _ (by decide), a1]
    show fits .byte (.int (zJ (if n ≤ j ∧ j < n + zsLen.getD u 0 then zsb u (j - n) else σ' 1 j))) = true
    by_cases c : n ≤ j ∧ j < n + zsLen.getD u 0
    · rw [if_pos c]
      unfold zsb
      rw [zJ_toInt]
      exact zs_fit u hu _ (by omega)
    · rw [if_neg c]
      exact hf j
  · rw [zu_ne _ _ _ (by decide), a1]
    show (if n ≤ j ∧ j < n + zsLen.getD u 0 then zsb u (j - n) else σ' 1 j) = if j < n then t j else zsb u (j - n)
    by_cases c : j < n
    · rw [if_pos c, if_neg (by omega)]
      exact ht j c
    · rw [if_neg c, if_pos (by omega)]
theorem c_appendS (l : Launch) {D : va_G} {yy : Nat → ClassId} {tk tv : Nat → Nat} {b v m : Nat} {σ : Mm} {t : Nat → Int} {n u : Nat} (hu : u < zsN) (hB : OKB n m t σ) (hn : n + zsLen.getD u 0 ≤ 34) : CB l yJ4_append_15ec4 cJ4_append_15ec4 2 (some (.object "java/lang/StringBuilder")) (rmS 5 1 34 134) D yy tk tv b v m σ [.ref b, .ref (tk u)] (fun m' σ' => OKB (n + zsLen.getD u 0) m' (catI t n (zsb u)) σ') (some (.ref b)) 1 34 := by
  refine cb_of (Ar := fun a tk => [.ref (a 0), .ref (tk u)]) (by decide) (Nat.le_of_ble_eq_true rfl) (fun Γ G _ hM hR => ?_)
  refine (?_ : PT Γ 2 (shB m) 0 σ [(0, .ref (ga Γ 0)), (1, .ref (gk Γ u))] [])
  refine p_aload_n G rfl 0 rfl dJ4_append_15ec4_0 ?_
  refine p_aload_n G rfl 1 rfl dJ4_append_15ec4_1 ?_
  refine p_lv (lv' := [(0, .ref (ga Γ 0))]) [0] rfl ?_
  refine p_callWB (lv' := fun a => [(0, .ref (a 0))]) (st' := fun a => []) G hR hM dJ4_append_15ec4_2 lw_StringBuilder_29 (fun v1 => c_appendSA (gl Γ) hu hB hn) (As := [.ref (gk Γ u)]) rfl rfl (Nat.le_of_ble_eq_true rfl) ⟨rfl, rfl, Nat.le_of_ble_eq_true rfl, Nat.le_of_ble_eq_true rfl⟩ (Nat.le_refl _) (Nat.le_refl _) (fun a e => by rw [e]; exact ⟨rfl, rfl⟩) (fun Γ' m' σ' G' R' M' hp => ?_)
  refine p_pop G' rfl dJ4_append_15ec4_5 ?_
  refine p_aload_n G' rfl 0 rfl dJ4_append_15ec4_6 ?_
  exact p_aretB G' M' (Nat.le_refl _) (Nat.le_refl _) R' hp (Or.inl ⟨_, rfl⟩) dJ4_append_15ec4_7 (by rw [rtb_0 R'])
