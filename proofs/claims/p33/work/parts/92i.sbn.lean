/-! The builder is made -/
def shO : Sh := [(11, 4, ([6, 0, 0, 0], 0, 0), none)]
theorem shO_at {k : Nat} {q : Zs} (h : shO[k]? = some q) : k = 0 ∧ q = (11, 4, ([6, 0, 0, 0], 0, 0), none) := by
  match k, h with
  | 0, h => cases h; exact ⟨rfl, rfl⟩
  | k + 1, h => simp [shO] at h
theorem ap_B {A : Nat → Prop} {m b v : Nat} {σ : Mm} (hb : A b) (hv : A v) (h : b ≠ v) : AP A (shB m) (adB b v) σ := ⟨fun i j p q hp hq _ _ e => by
  rcases shB_at hp with ⟨ei, -⟩ | ⟨ei, -⟩ <;> rcases shB_at hq with ⟨ej, -⟩ | ⟨ej, -⟩ <;> subst ei ej
  · rfl
  · exact absurd e h
  · exact absurd e.symm h
  · rfl, fun k q hq _ => by
  rcases shB_at hq with ⟨ei, -⟩ | ⟨ei, -⟩ <;> subst ei
  · exact hb
  · exact hv⟩
theorem mk_N {Γ : Cx} {lc : Lc} {nm : String} {m n : Nat} (hM : Mk Γ lc nm m n) (a : Nat → Nat) (o : Mm) (x y : Nat) : Mk (gN Γ a o (gmc Γ + x) (gms Γ + y)) lc nm (m + x) (n + y) := ⟨hM.1, hM.2.1, by show gmc Γ + _ = m + _; rw [hM.2.2.1], by show gms Γ + _ = n + _; rw [hM.2.2.2]⟩
theorem rtq_N {Γ : Cx} {ret : Option FieldType} {Qp : Outcome → Heap → Prop} {mc ms : Nat} {A0 : Nat → Prop} (h : RTQ Γ ret Qp mc ms A0) (a : Nat → Nat) (o : Mm) (x y : Nat) : RTQ (gN Γ a o x y) ret Qp mc ms A0 := h
theorem nw_SB : NW "WrapRunsLaw" 62 1 4 ([6, 0, 0, 0], 0, 0) := ⟨RJ4, TJ4, tyJ4, rfl, ti_J4, tyJ4_ok, (gt_mem 463 (by decide +kernel) (by decide +kernel) : Cond.classLink "WrapRunsLaw" 62 RJ4 ∈ GT), (gt_mem 464 (by decide +kernel) (by decide +kernel) : Cond.instantiable RJ4 4 ∈ GT), (gt_mem 48 (by decide +kernel) (by decide +kernel) : Cond.initialized RJ4 ∈ GT), fun j hj a => match j, hj with
  | 0, _ => rfl
  | 1, _ => rfl
  | 2, _ => rfl
  | 3, _ => rfl⟩
set_option maxHeartbeats 2000000 in
theorem c_initA (l : Launch) {D : va_G} {yy : Nat → ClassId} {tk tv a : Nat → Nat} {t : Nat → Int} : CQ l yJ5_init_d00df cJ5_init_d00df 2 none (rmS 1 1 16 20) shO D yy tk tv a (fun _ _ => 0) [.ref (a 0), .int (zJ 16)] (fun sz oc H => oc = .returned none ∧ ∃ (v : Nat) (σ' : Mm), sz ≤ v ∧ HW D yy (shB 16) (adB (a 0) v) σ' H ∧ OKB 0 16 t σ') 1 16 := by
  refine cq_of (Ar := fun a tk => [.ref (a 0), .int (zJ 16)]) (by decide) (Nat.le_of_ble_eq_true rfl) (fun Γ G _ hM eD eY eA hR _ => ?_)
  refine (?_ : PT Γ 2 shO 0 (fun _ _ => 0) [(0, .ref (ga Γ 0)), (1, .int (zJ 16))] [])
  refine p_aload_n G rfl 0 rfl dJ5_init_d00df_0 ?_
  refine p_objInit G wj_obj_A wj_obj_i wj_obj_c dJ5_init_d00df_1 (Nat.le_refl _) (Nat.le_refl _) (Nat.le_of_ble_eq_true rfl) ?_
  refine p_getsCS G dJ5_init_d00df_4 wj_cs_A ?_
  refine p_ifeq (tgt := 25) (A := (none : Option Unit)) (B := some ()) (out := ()) G dJ5_init_d00df_7 (by decide) (by decide) (fun c _ => absurd c (by decide)) (fun _ _ => ?_)
  refine p_aload_n G rfl 0 rfl dJ5_init_d00df_10 ?_
  refine p_iload_n G rfl 1 rfl dJ5_init_d00df_11 ?_
  intro H locs ls hW hN hS hl
  have hb : ga Γ 0 < H.size := zC_lt (hW 0 _ rfl trivial)
  refine va_newaK G.1 G.2.1 (G.2.2.2.2.1 _ wj_byte) rfl dJ5_init_d00df_12 rfl (N := 16) (by decide) (by decide) (by decide) (by rw [hM.2.2.1, G.2.2.2.2.2.2.2.2.1]; exact Nat.le_refl _) (by rw [hM.2.2.2, G.2.2.2.2.2.2.2.2.1]; exact Nat.le_refl _) rfl (fun H1 cA e1 z1 o1 hAr hNm => ?_)
  have hcA : cA = gy Γ 2 := Option.some.inj (hNm.symm.trans ((G.2.2.2.2.2.1.2 2 _ rfl).2))
  subst hcA
  have hc0 : t_OB (ga Γ 0) ((gD Γ).1 1) 4 ((gD Γ).2 1) H1 (zF (ga Γ) ([6, 0, 0, 0], 0, 0) (fun _ => 0)) := zC_kept (hW 0 _ rfl trivial) (o1 _ hb)
  refine w_putU G fpu_AbstractStringBuilder_15 (w := .ref H.size) rfl rfl dJ5_init_d00df_14 rfl hc0 (fun H2 slot x1 x2 x3 => ?_)
  have hAb := G.2.2.2.2.2.2.1.2 0 _ rfl trivial
  have G' := gd_N (sh2 := shB 16) G (a := adB (ga Γ 0) H.size) (o := fun _ _ => 0) (gmc Γ + 1) (gms Γ + 16) (ap_B hAb (G.2.2.2.2.2.2.2.1 _ hS.1) (Nat.ne_of_lt hb))
  have M' := mk_N hM (adB (ga Γ 0) H.size) (fun _ _ => 0) 1 16
  have k : PT (gN Γ (adB (ga Γ 0) H.size) (fun _ _ => 0) (gmc Γ + 1) (gms Γ + 16)) 2 (shB 16) 17 (fun _ _ => 0) [(0, .ref (ga Γ 0)), (1, .int (zJ 16))] [] := by
    refine p_aload_n G' rfl 0 rfl dJ5_init_d00df_17 ?_
    refine p_iconst G' rfl dJ5_init_d00df_18 ?_
    refine p_putIU (k := 0) (j := 1) G' dJ5_init_d00df_19 fpu_AbstractStringBuilder_22 (by decide) (by decide) rfl rfl rfl rfl ?_
    refine p_goto (tgt := 38) G' dJ5_init_d00df_22 (by decide) ?_
    exact p_vretQ G' M' (Nat.le_of_ble_eq_true rfl) (Nat.le_of_ble_eq_true rfl) (rtq_N hR _ _ _ _) dJ5_init_d00df_38 (fun H9 h9 => ⟨rfl, H.size, _, hS.1, by rw [← eD, ← eY, ← eA]; exact h9, by rw [zu_self]; rfl, by rw [zu_self]; rfl, Nat.zero_le _, Or.inl rfl, fun j => by rw [zu_ne _ _ _ (by decide)]; decide, fun j hj => absurd hj (Nat.not_lt_zero j)⟩)
  refine k H2 _ ls (fun i p hp _ => ?_) ne_B (va_S.put (H := H1) ⟨Nat.le_trans hS.1 (by rw [z1]; exact Nat.le_succ _), fun q h1 h2 => by rw [o1 q (Nat.lt_of_lt_of_le h1 hS.1)]; exact hS.2.1 q h1 h2, hS.2.2⟩ x2 x3 hAb) hl
  rcases shB_at hp with ⟨ei, ep⟩ | ⟨ei, ep⟩ <;> subst ei ep
  · show t_OB (ga Γ 0) ((gD Γ).1 1) 4 ((gD Γ).2 1) H2 (zF (adB (ga Γ 0) H.size) ([5, 0, 0, 0], 0, 0) (fun _ => 0))
    refine x1.to (fun k hk => ?_)
    match k, hk with
    | 0, _ => rfl
    | 1, _ => rfl
    | 2, _ => rfl
    | 3, _ => rfl
  · refine zC_byt.mpr ?_
    show H2[H.size]? = _
    rw [x3 H.size (Nat.ne_of_gt hb)]
    exact e1
set_option maxHeartbeats 1000000 in
theorem c_initS (l : Launch) {D : va_G} {yy : Nat → ClassId} {tk tv a : Nat → Nat} {t : Nat → Int} : CQ l yJ4_init_da8c8 cJ4_init_da8c8 1 none (rmS 2 1 16 41) shO D yy tk tv a (fun _ _ => 0) [.ref (a 0)] (fun sz oc H => oc = .returned none ∧ ∃ (v : Nat) (σ' : Mm), sz ≤ v ∧ HW D yy (shB 16) (adB (a 0) v) σ' H ∧ OKB 0 16 t σ') 1 16 := by
  refine cq_of (Ar := fun a tk => [.ref (a 0)]) (by decide) (Nat.le_of_ble_eq_true rfl) (fun Γ G _ hM eD eY eA hR _ => ?_)
  refine (?_ : PT Γ 1 shO 0 (fun _ _ => 0) [(0, .ref (ga Γ 0))] [])
  have hcs1 : gmc Γ + 1 ≤ (gR Γ).cells ∧ gms Γ + 16 ≤ (gR Γ).slots := by rw [hM.2.2.1, hM.2.2.2, G.2.2.2.2.2.2.2.2.1]; exact ⟨Nat.le_refl _, Nat.le_refl _⟩
  refine p_aload_n G rfl 0 rfl dJ4_init_da8c8_0 ?_
  refine p_bipush G (by decide) (by decide) dJ4_init_da8c8_1 ?_
  intro H locs ls hW hN hS hl
  have hb : ga Γ 0 < H.size := zC_lt (hW 0 _ rfl trivial)
  have hp := pcw_same (As := [.ref (ga Γ 0), .int (zJ 16)]) G hW hN hS
  have hr := r_I (H := H) (locs := locs) (ls := ls) (rest := []) (b0 := ga Γ 0) (As := [.int (zJ 16)]) G dJ4_init_da8c8_3 li_StringBuilder_1_1 rfl li_StringBuilder_1_3 li_StringBuilder_1_4 li_StringBuilder_1_5 li_StringBuilder_1_6 (c_initA (gl Γ) (D := gD Γ) (yy := gy Γ) (tk := gk Γ) (tv := gv Γ) (a := ga Γ) (t := t) H.size) ⟨pcw_blind, hp.1⟩ rfl (Nat.le_of_ble_eq_true rfl) hl.1 ⟨rfl, rfl, Nat.le_of_ble_eq_true rfl, Nat.le_of_ble_eq_true rfl⟩ hcs1
  refine w_goQ (Qp := fun oc H1 => oc = .returned none ∧ ∃ (v : Nat) (σ' : Mm), H.size ≤ v ∧ HW (gD Γ) (gy Γ) (shB 16) (adB (ga Γ 0) v) σ' H1 ∧ OKB 0 16 t σ') G hS hp.2 hr (fun v0 H1 locs1 hq hz1 hF hS1 => ?_)
  obtain ⟨hv0, v, σ', hv, hW1, hO⟩ := hq
  cases hv0
  have G' := gd_N (sh2 := shB 16) G (a := adB (ga Γ 0) v) (o := σ') (gmc Γ + 1) (gms Γ + 16) (ap_B (G.2.2.2.2.2.2.1.2 0 _ rfl trivial) (G.2.2.2.2.2.2.2.1 _ (Nat.le_trans hS.1 hv)) (by omega))
  have M' := mk_N hM (adB (ga Γ 0) v) σ' 1 16
  have k : PT (gN Γ (adB (ga Γ 0) v) σ' (gmc Γ + 1) (gms Γ + 16)) 1 (shB 16) 6 σ' [(0, .ref (ga Γ 0))] [] :=
    p_vretQ G' M' (Nat.le_of_ble_eq_true rfl) (Nat.le_of_ble_eq_true rfl) (rtq_N hR _ _ _ _) dJ4_init_da8c8_6 (fun H9 h9 => ⟨rfl, v, σ', Nat.le_trans hS.1 hv, by rw [← eD, ← eY, ← eA]; exact h9, hO⟩)
  exact k H1 locs1 ls hW1 ne_B hS1 hl
