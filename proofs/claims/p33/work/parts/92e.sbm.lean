/-! The builder's methods -/
abbrev rmS (f c s l : Nat) : Room := { frames := f, cells := c, slots := s, locals := l }
/-- the builder holds the text t of n bytes, in a row of m -/
def OKB (n m : Nat) (t : Nat → Int) (σ : Mm) : Prop := σ 0 1 = 0 ∧ σ 0 3 = (n : Int) ∧ n ≤ m ∧ (m = 16 ∨ m = 34) ∧ (∀ j, fits .byte (.int (zJ (σ 1 j))) = true) ∧ ∀ j, j < n → σ 1 j = t j
def catI (t : Nat → Int) (n : Nat) (s : Nat → Int) : Nat → Int := fun j => if j < n then t j else s (j - n)
theorem sh_s : ∀ q : Nat, q < 35 → zshl (q : Int) 0 = q ∧ zshr (q : Int) 0 = q := by decide +kernel
theorem zw_n {q : Nat} (h : q < 1000000000) : zw (q : Int) = q := zw_eq (by omega) (by omega)
theorem c_isLatin1 (l : Launch) {D : va_G} {yy : Nat → ClassId} {tk tv a : Nat → Nat} {σ : Mm} {m : Nat} (h1 : σ 0 1 = 0) : CT l yJ5_isLatin1_aae02 cJ5_isLatin1_aae02 1 (some .boolean) (rmS 0 0 0 0) (shB m) D yy tk tv a σ [.ref (a 0)] σ (some (.int (zJ 1))) := by
  refine ct_of (Ar := fun a tk => [.ref (a 0)]) (by decide) (Nat.le_of_ble_eq_true rfl) (fun Γ G _ _ hR => ?_)
  refine (?_ : PT Γ 1 (shB m) 0 σ [(0, .ref (ga Γ 0))] [])
  refine p_getsCS G dJ5_isLatin1_aae02_0 wj_cs_A ?_
  refine p_ifeq (tgt := 17) (A := (none : Option Unit)) (B := some ()) (out := ()) G dJ5_isLatin1_aae02_3 (by decide) (by decide) (fun c _ => absurd c (by decide)) (fun _ _ => ?_)
  refine p_aload_n G rfl 0 rfl dJ5_isLatin1_aae02_6 ?_
  refine p_fldB G rfl dJ5_isLatin1_aae02_7 flu_AbstractStringBuilder_22 ?_
  rw [h1]
  refine p_ifne (tgt := 17) (A := (none : Option Unit)) (B := some ()) (out := ()) G dJ5_isLatin1_aae02_10 (by decide) (by decide) (fun c _ => absurd c (by decide)) (fun _ _ => ?_)
  refine p_iconst G rfl dJ5_isLatin1_aae02_13 ?_
  refine p_goto (tgt := 18) G dJ5_isLatin1_aae02_14 (by decide) ?_
  exact p_zret G hR dJ5_isLatin1_aae02_18 (by decide) rfl rfl
theorem c_getValue (l : Launch) {D : va_G} {yy : Nat → ClassId} {tk tv a : Nat → Nat} {σ : Mm} {m : Nat} : CQ l yJ5_getValue_6d5f1 cJ5_getValue_6d5f1 1 (some (.array .byte)) (rmS 0 0 0 0) (shB m) D yy tk tv a σ [.ref (a 0)] (fun _ oc H => oc = .returned (some (.ref (a 1))) ∧ HW D yy (shB m) a σ H) 0 0 := by
  refine cq_of (Ar := fun a tk => [.ref (a 0)]) (by decide) (Nat.le_of_ble_eq_true rfl) (fun Γ G _ hM eD eY eA hR _ => ?_)
  refine (?_ : PT Γ 1 (shB m) 0 σ [(0, .ref (ga Γ 0))] [])
  refine p_aload_n G rfl 0 rfl dJ5_getValue_6d5f1_0 ?_
  refine p_valB G dJ5_getValue_6d5f1_1 flu_AbstractStringBuilder_15 ?_
  exact p_aretQ G hM (Nat.le_refl _) (Nat.le_refl _) hR (Or.inr ⟨_, rfl⟩) dJ5_getValue_6d5f1_4 (fun H h => ⟨by rw [eA], by rw [← eD, ← eY, ← eA]; exact h⟩)
theorem c_lengthA (l : Launch) {D : va_G} {yy : Nat → ClassId} {tk tv a : Nat → Nat} {σ : Mm} {m : Nat} : CT l yJ5_length_8abf5 cJ5_length_8abf5 1 (some .int) (rmS 0 0 0 0) (shB m) D yy tk tv a σ [.ref (a 0)] σ (some (.int (zJ (σ 0 3)))) := by
  refine ct_of (Ar := fun a tk => [.ref (a 0)]) (by decide) (Nat.le_of_ble_eq_true rfl) (fun Γ G _ _ hR => ?_)
  refine (?_ : PT Γ 1 (shB m) 0 σ [(0, .ref (ga Γ 0))] [])
  refine p_aload_n G rfl 0 rfl dJ5_length_8abf5_0 ?_
  refine p_fldB G rfl dJ5_length_8abf5_1 flu_AbstractStringBuilder_79 ?_
  exact p_iret G hR dJ5_length_8abf5_4 rfl rfl
theorem zmx {g : Nat} (hg : g ≤ 18) : zmax (g : Int) 18 = 18 := by
  unfold zmax
  rw [zw_n (by omega), show zw 18 = 18 from by decide]
  by_cases c : (g : Int) < 18
  · rw [if_pos c]
  · rw [if_neg c]; omega
theorem c_newLength (l : Launch) {D : va_G} {yy : Nat → ClassId} {tk tv a : Nat → Nat} {σ : Mm} {g : Nat} (hg : g ≤ 18) : CT l yJ8_newLength_cabcc cJ8_newLength_cabcc 4 (some .int) (rmS 1 0 0 21) shN D yy tk tv a σ [.int (zJ 16), .int (zJ (g : Int)), .int (zJ 18)] σ (some (.int (zJ 34))) := by
  refine ct_of (Ar := fun a tk => [.int (zJ 16), .int (zJ (g : Int)), .int (zJ 18)]) (by decide) (Nat.le_of_ble_eq_true rfl) (fun Γ G _ _ hR => ?_)
  refine (?_ : PT Γ 4 shN 0 σ [(0, .int (zJ 16)), (1, .int (zJ (g : Int))), (2, .int (zJ 18))] [])
  have hcs := rt_cs hR
  refine p_iload_n G rfl 0 rfl dJ8_newLength_cabcc_0 ?_
  refine p_iload_n G rfl 1 rfl dJ8_newLength_cabcc_1 ?_
  refine p_iload_n G rfl 2 rfl dJ8_newLength_cabcc_2 ?_
  refine p_zmax G wj_max wj_max_s wj_math wj_max_c (Nat.le_refl _) (Nat.le_refl _) hcs dJ8_newLength_cabcc_3 ?_
  rw [zmx hg]
  refine p_iadd G dJ8_newLength_cabcc_6 ?_
  refine (?_ : PT Γ 4 shN 7 σ [(0, .int (zJ 16)), (1, .int (zJ (g : Int))), (2, .int (zJ 18))] [.int (zJ 34)])
  refine p_istore_nU (lv' := [(3, .int (zJ 34)), (0, .int (zJ 16)), (1, .int (zJ (g : Int))), (2, .int (zJ 18))]) G rfl dJ8_newLength_cabcc_7 (by decide) rfl ?_
  refine p_iconst G rfl dJ8_newLength_cabcc_8 ?_
  refine p_iload_n G rfl 0 rfl dJ8_newLength_cabcc_9 ?_
  refine p_icmpge (tgt := 21) (A := (none : Option Unit)) (B := some ()) (out := ()) G dJ8_newLength_cabcc_10 (by decide) (by decide) (fun c _ => absurd c (by decide)) (fun _ _ => ?_)
  refine p_iload_n G rfl 0 rfl dJ8_newLength_cabcc_13 ?_
  refine p_ldc (x := 2147483639) G wj_c1 (by decide) dJ8_newLength_cabcc_14 ?_
  refine p_icmpgt (tgt := 21) (A := (none : Option Unit)) (B := some ()) (out := ()) G dJ8_newLength_cabcc_16 (by decide) (by decide) (fun c _ => absurd c (by decide)) (fun _ _ => ?_)
  refine p_iload_n G rfl 0 rfl dJ8_newLength_cabcc_19 ?_
  exact p_iret G hR dJ8_newLength_cabcc_20 rfl rfl
set_option maxHeartbeats 1000000 in
theorem c_newCapacity (l : Launch) {D : va_G} {yy : Nat → ClassId} {tk tv a : Nat → Nat} {σ : Mm} {q : Nat} (hq : 16 < q) (hq2 : q ≤ 34) (h1 : σ 0 1 = 0) : CT l yJ5_newCapacity_0f7a4 cJ5_newCapacity_0f7a4 6 (some .int) (rmS 2 0 0 44) (shB 16) D yy tk tv a σ [.ref (a 0), .int (zJ (q : Int))] σ (some (.int (zJ 34))) := by
  refine ct_of (Ar := fun a tk => [.ref (a 0), .int (zJ (q : Int))]) (by decide) (Nat.le_of_ble_eq_true rfl) (fun Γ G _ _ hR => ?_)
  refine (?_ : PT Γ 6 (shB 16) 0 σ [(0, .ref (ga Γ 0)), (1, .int (zJ (q : Int)))] [])
  have hcs := rt_cs hR
  refine p_aload_n G rfl 0 rfl dJ5_newCapacity_0f7a4_0 ?_
  refine p_valB G dJ5_newCapacity_0f7a4_1 flu_AbstractStringBuilder_15 ?_
  refine p_alen (k := 1) G dJ5_newCapacity_0f7a4_4 rfl (by decide) (by decide) ?_
  refine (?_ : PT Γ 6 (shB 16) 5 σ [(0, .ref (ga Γ 0)), (1, .int (zJ (q : Int)))] [.int (zJ 16)])
  refine p_istore_nU (lv' := [(2, .int (zJ 16)), (0, .ref (ga Γ 0)), (1, .int (zJ (q : Int)))]) G rfl dJ5_newCapacity_0f7a4_5 (by decide) rfl ?_
  refine p_iload_n G rfl 2 rfl dJ5_newCapacity_0f7a4_6 ?_
  refine p_aload_n G rfl 1 rfl dJ5_newCapacity_0f7a4_7 ?_
  refine p_fldB G rfl dJ5_newCapacity_0f7a4_8 flu_AbstractStringBuilder_22 ?_
  rw [h1]
  refine p_ishl G dJ5_newCapacity_0f7a4_11 ?_
  rw [(sh_s q (by omega)).1]
  refine p_istore_nU (lv' := [(3, .int (zJ (q : Int))), (2, .int (zJ 16)), (0, .ref (ga Γ 0)), (1, .int (zJ (q : Int)))]) G rfl dJ5_newCapacity_0f7a4_12 (by decide) rfl ?_
  refine p_iload_n G rfl 0 rfl dJ5_newCapacity_0f7a4_13 ?_
  refine p_iload_n G rfl 1 rfl dJ5_newCapacity_0f7a4_14 ?_
  refine p_isub G dJ5_newCapacity_0f7a4_15 ?_
  rw [show (q : Int) - 16 = ((q - 16 : Nat) : Int) by omega]
  refine p_istoreU (lv' := [(4, .int (zJ ((q - 16 : Nat) : Int))), (3, .int (zJ (q : Int))), (2, .int (zJ 16)), (0, .ref (ga Γ 0)), (1, .int (zJ (q : Int)))]) G dJ5_newCapacity_0f7a4_16 (by decide) rfl ?_
  refine p_iload_n G rfl 2 rfl dJ5_newCapacity_0f7a4_18 ?_
  refine p_iload G 0 rfl dJ5_newCapacity_0f7a4_19 ?_
  refine p_iload_n G rfl 2 rfl dJ5_newCapacity_0f7a4_21 ?_
  refine p_iconst G rfl dJ5_newCapacity_0f7a4_22 ?_
  refine p_aload_n G rfl 3 rfl dJ5_newCapacity_0f7a4_23 ?_
  refine p_fldB G rfl dJ5_newCapacity_0f7a4_24 flu_AbstractStringBuilder_22 ?_
  rw [h1]
  refine p_ishl G dJ5_newCapacity_0f7a4_27 ?_
  rw [show zshl 2 0 = 2 from by decide]
  refine p_iadd G dJ5_newCapacity_0f7a4_28 ?_
  refine p_callS0 G dJ5_newCapacity_0f7a4_29 ls_AbstractStringBuilder_114 (c_newLength (gl Γ) (g := q - 16) (by omega)) (As := [.int (zJ 16), .int (zJ ((q - 16 : Nat) : Int)), .int (zJ 18)]) rfl rfl rfl (Nat.le_of_ble_eq_true rfl) ⟨rfl, rfl, Nat.le_of_ble_eq_true rfl, Nat.le_of_ble_eq_true rfl⟩ hcs ?_
  refine p_istoreU (lv' := [(5, .int (zJ 34)), (4, .int (zJ ((q - 16 : Nat) : Int))), (3, .int (zJ (q : Int))), (2, .int (zJ 16)), (0, .ref (ga Γ 0)), (1, .int (zJ (q : Int)))]) G dJ5_newCapacity_0f7a4_32 (by decide) rfl ?_
  refine p_iload G 0 rfl dJ5_newCapacity_0f7a4_34 ?_
  refine p_ldc (x := 2147483647) G wj_c2 (by decide) dJ5_newCapacity_0f7a4_36 ?_
  refine p_icmpne (tgt := 51) (A := some ()) (B := (none : Option Unit)) (out := ()) G dJ5_newCapacity_0f7a4_38 (by decide) (by decide) (fun _ _ => ?_) (fun c _ => absurd (by decide) c)
  refine p_iload G 0 rfl dJ5_newCapacity_0f7a4_51 ?_
  refine p_aload_n G rfl 4 rfl dJ5_newCapacity_0f7a4_53 ?_
  refine p_fldB G rfl dJ5_newCapacity_0f7a4_54 flu_AbstractStringBuilder_22 ?_
  rw [h1]
  refine p_ishr G dJ5_newCapacity_0f7a4_57 ?_
  rw [show zshr 34 0 = 34 from by decide]
  exact p_iret G hR dJ5_newCapacity_0f7a4_58 rfl rfl
set_option maxHeartbeats 1000000 in
theorem c_copyOf (l : Launch) {D : va_G} {yy : Nat → ClassId} {tk tv a : Nat → Nat} {σ : Mm} {m q : Nat} (h : m < q) (hq : q ≤ 34) (hf : ∀ j, fits .byte (.int (zJ (σ 0 j))) = true) : CQ l yJ7_copyOf_9075b cJ7_copyOf_9075b 3 (some (.array .byte)) (rmS 1 1 34 60) (shV m) D yy tk tv a σ [.ref (a 0), .int (zJ (q : Int))] (fun sz oc H => ∃ w, oc = .returned (some (.ref w)) ∧ sz ≤ w ∧ H[w]? = some (arrV (yy 2) q (fun j => .int (zJ (if j < m then σ 0 j else 0))))) 1 34 := by
  refine cq_of (Ar := fun a tk => [.ref (a 0), .int (zJ (q : Int))]) (by decide) (Nat.le_of_ble_eq_true rfl) (fun Γ G _ hM eD eY eA hR _ => ?_)
  refine (?_ : PT Γ 3 (shV m) 0 σ [(0, .ref (ga Γ 0)), (1, .int (zJ (q : Int)))] [])
  refine p_iload_n G rfl 1 rfl dJ7_copyOf_9075b_0 ?_
  refine p_aload_n G rfl 0 rfl dJ7_copyOf_9075b_1 ?_
  refine p_alen (k := 0) G dJ7_copyOf_9075b_2 rfl (by decide) (by omega) ?_
  refine p_icmpne (tgt := 14) (A := some ()) (B := (none : Option Unit)) (out := ()) G dJ7_copyOf_9075b_3 (by decide) (if_pos (by rw [zw_n (by omega), zw_n (by omega)]; omega)) (fun _ _ => ?_) (fun c _ => absurd (by rw [zw_n (by omega), zw_n (by omega)]; omega) c)
  refine p_iload_n G rfl 1 rfl dJ7_copyOf_9075b_14 ?_
  refine p_newaV (lv' := fun a => [(0, .ref (a 0)), (1, .int (zJ (q : Int)))]) (st' := fun _ => []) G hM wj_byte dJ7_copyOf_9075b_15 (by omega) (Nat.le_refl _) (by show 0 + q ≤ 34; omega) (fun a e => by rw [e]; exact ⟨rfl, rfl⟩) (fun Γ' G' tR hM' eD' eY' e0 hw => ?_)
  have hR' := tR hR
  have hcs := mk_cs G' hM' (Nat.le_refl _) (by show 0 + q ≤ 34; omega)
  refine p_astore_n (lv' := [(2, .ref (ga Γ' 1)), (0, .ref (ga Γ' 0)), (1, .int (zJ (q : Int)))]) G' rfl dJ7_copyOf_9075b_17 (by decide) rfl ?_
  refine p_aload_n G' rfl 1 rfl dJ7_copyOf_9075b_18 ?_
  refine p_iconst G' rfl dJ7_copyOf_9075b_19 ?_
  refine p_aload_n G' rfl 0 rfl dJ7_copyOf_9075b_20 ?_
  refine p_iconst G' rfl dJ7_copyOf_9075b_21 ?_
  refine p_aload_n G' rfl 1 rfl dJ7_copyOf_9075b_22 ?_
  refine p_alen (k := 0) G' dJ7_copyOf_9075b_23 rfl (by decide) (by omega) ?_
  refine p_iload_n G' rfl 2 rfl dJ7_copyOf_9075b_24 ?_
  refine p_zmin G' wj_min wj_min_s wj_math wj_min_c (Nat.le_refl _) (Nat.le_of_ble_eq_true rfl) hcs dJ7_copyOf_9075b_25 ?_
  rw [show zmin (m : Int) (q : Int) = m from by unfold zmin; rw [zw_n (by omega), zw_n (by omega), if_neg (by omega)]]
  refine p_copyB (k0 := 0) (k1 := 1) G' wj_ac_R rfl rfl (Nat.le_refl _) (by omega) rfl (by omega) (fun j => hf j) ⟨Nat.le_refl _, Nat.le_of_ble_eq_true rfl⟩ dJ7_copyOf_9075b_28 ?_
  refine p_aload_n G' rfl 0 rfl dJ7_copyOf_9075b_31 ?_
  refine p_aretQ G' hM' (Nat.le_refl _) (by show 0 + q ≤ 34; omega) hR' (Or.inr ⟨_, rfl⟩) dJ7_copyOf_9075b_32 (fun H hW => ⟨_, rfl, hw, ?_⟩)
  have h1 := zC_byt.mp (hW 1 _ rfl trivial)
  rw [eY', eY] at h1
  exact h1
theorem c_inflate (l : Launch) {D : va_G} {yy : Nat → ClassId} {tk tv a : Nat → Nat} {σ : Mm} {m u : Nat} (hu : u < zsN) (h1 : σ 0 1 = 0) : CT l yJ5_inflateIfNeededFor_a7421 cJ5_inflateIfNeededFor_a7421 2 none (rmS 1 0 0 20) (shB m) D yy tk tv a σ [.ref (a 0), .ref (tk u)] σ none := by
  refine ct_of (Ar := fun a tk => [.ref (a 0), .ref (tk u)]) (by decide) (Nat.le_of_ble_eq_true rfl) (fun Γ G _ _ hR => ?_)
  refine (?_ : PT Γ 2 (shB m) 0 σ [(0, .ref (ga Γ 0)), (1, .ref (gk Γ u))] [])
  have hcs := rt_cs hR
  refine p_getsCS G dJ5_inflateIfNeededFor_a7421_0 wj_cs_A ?_
  refine p_ifeq (tgt := 21) (A := (none : Option Unit)) (B := some ()) (out := ()) G dJ5_inflateIfNeededFor_a7421_3 (by decide) (by decide) (fun c _ => absurd c (by decide)) (fun _ _ => ?_)
  refine p_aload_n G rfl 0 rfl dJ5_inflateIfNeededFor_a7421_6 ?_
  refine p_fldB G rfl dJ5_inflateIfNeededFor_a7421_7 flu_AbstractStringBuilder_22 ?_
  rw [h1]
  refine p_aload_n G rfl 1 rfl dJ5_inflateIfNeededFor_a7421_10 ?_
  refine p_callT G hu dJ5_inflateIfNeededFor_a7421_11 lt_AbstractStringBuilder_40 (c_J_String_coder (gl Γ) hu) (As := []) rfl rfl rfl (Nat.le_of_ble_eq_true rfl) ⟨rfl, rfl, Nat.le_of_ble_eq_true rfl, Nat.le_of_ble_eq_true rfl⟩ hcs ?_
  refine p_icmpeq (tgt := 21) (A := some ()) (B := (none : Option Unit)) (out := ()) G dJ5_inflateIfNeededFor_a7421_14 (by decide) (if_pos rfl) (fun _ _ => ?_) (fun c _ => absurd rfl c)
  exact p_vret G hR dJ5_inflateIfNeededFor_a7421_21 rfl rfl
