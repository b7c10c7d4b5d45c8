/-! The law's walk -/
set_option maxRecDepth 100000 in
theorem zk_L1 : zk shX shLg zl_101 = true := by decide +kernel
set_option maxRecDepth 100000 in
theorem zk_L2 : zno shLg zl_101 200 0 = true := by decide +kernel
set_option maxRecDepth 100000 in
theorem zk_L3 : zcs shLg shX [(200, 0)] = true := by decide +kernel
set_option maxRecDepth 100000 in
theorem zk_L4 : zk shX shX zl_101 = true ∧ zkn shX shX zl_101 = true ∧ zs shX zl_101 = true := ⟨by decide +kernel, by decide +kernel, by decide +kernel⟩
theorem nw_L_20 : NW RL 20 8 8 ([6, 16, 26, 130, 152, 158, 172, 202], 0, 0) := ⟨RX6, TX6, tyX6, rfl, ti_X6, tyX6_ok, gt_mem 52 (by decide +kernel) (by decide +kernel), gt_mem 53 (by decide +kernel) (by decide +kernel), gm_27, fun j hj a => by
  match j, hj with
  | 0, _ => rfl
  | 1, _ => rfl
  | 2, _ => rfl
  | 3, _ => rfl
  | 4, _ => rfl
  | 5, _ => rfl
  | 6, _ => rfl
  | 7, _ => rfl⟩
theorem li_L_160 : LKI RL 160 yX6_init cX6_init 1 := ⟨Or.inl (gt_mem 54 (by decide +kernel) (by decide +kernel)), rfl, gt_mem 55 (by decide +kernel) (by decide +kernel), gm_27, gt_mem 56 (by decide +kernel) (by decide +kernel), by decide +kernel⟩
theorem lk_L_161 : LKS RL 161 yL_isSound cL_isSound 4 (some .boolean) 1 := ⟨Or.inl (gt_mem 1099 (by decide +kernel) (by decide +kernel)), gt_mem 1100 (by decide +kernel) (by decide +kernel), gm_26, gt_mem 1101 (by decide +kernel) (by decide +kernel), by decide +kernel⟩
theorem lk_L_165 : LKS RL 165 yL_isNotWorse cL_isNotWorse 4 (some .boolean) 1 := ⟨Or.inl (gt_mem 1159 (by decide +kernel) (by decide +kernel)), gt_mem 1160 (by decide +kernel) (by decide +kernel), gm_26, gt_mem 1161 (by decide +kernel) (by decide +kernel), by decide +kernel⟩
theorem lk_L_168 : LKS RL 168 yL_began cL_began 7 (some .int) 2 := ⟨Or.inl (gt_mem 460 (by decide +kernel) (by decide +kernel)), gt_mem 461 (by decide +kernel) (by decide +kernel), gm_26, gt_mem 462 (by decide +kernel) (by decide +kernel), by decide +kernel⟩
theorem lk_L_172 : LKS RL 172 yL_act cL_act 7 none 3 := ⟨Or.inl (gt_mem 966 (by decide +kernel) (by decide +kernel)), gt_mem 967 (by decide +kernel) (by decide +kernel), gm_26, gt_mem 968 (by decide +kernel) (by decide +kernel), by decide +kernel⟩
noncomputable def x_L_chk (σ : Mm) : Option Mm := (x_L_isSound (zb zl_101 σ)).bind fun o => un2 o fun σ1 v => if zw v = 0 then none else (x_L_isNotWorse (zb zl_101 (zj zl_101 σ σ1))).bind fun o => un2 o fun σ2 w => if zw w = 0 then none else some (zj zl_101 (zj zl_101 σ σ1) σ2)
noncomputable def x_L_lp (xs : Mm) (L : Nat) : Nat → Int → Mm → Option Unit
  | 0, _, _ => some ()
  | n + 1, k, σ => (x_L_act (zb zl_101 σ) xs L k).bind fun σ1 => (x_L_chk (zj zl_101 σ σ1)).bind fun σ2 => x_L_lp xs L n (k + 2) σ2
noncomputable def x_L_law (xs : Mm) (L : Nat) : Option Unit := (x_X6_init (fun _ _ => 0)).bind fun σ1 => (x_L_chk (zu (zj zl_101 (fun _ _ => 0) σ1) 200 0 1)).bind fun σ2 => (x_L_began (zb zl_101 σ2) xs L).bind fun o => un2 o fun σ3 v => if 7 ≤ zw v then x_L_lp xs L 20 4 (zj zl_101 σ2 σ3) else none
section LAWW
variable {Γ : Cx} {xs : Mm} {L b m n : Nat} {l : Launch} {tk tv : Nat → Nat} {nm : String}
set_option maxHeartbeats 4000000 in
set_option maxRecDepth 100000 in
theorem law_loop (hb : tk 1000 = b) : ∀ (r : Nat) (k : Int) (σ : Mm) (Γ : Cx) (m n : Nat), k = 44 - 2 * (r : Int) → 4 ≤ k → x_L_lp (zsc tv) (tk 1001) r k σ = some () → Gd Γ code R_law 3 room_1 shX → RTN Γ shX shX lawR xs none L b → Mk Γ (l, tk, tv) nm m n → m + 40 * r ≤ 100000 → n + 1000 * r ≤ 1000000 → PT Γ 3 shX 36 σ [(0, .ref b), (1, .ref (ga Γ 0)), (2, .int (zJ k))] [] := by
  intro r
  obtain ⟨z1, z2, z3⟩ := zk_L4
  induction r with
  | zero =>
    intro k σ Γ m n hk hk4 h G hR hM hm hn
    obtain rfl : k = 44 := by omega
    refine p_iload_n G rfl 2 rfl dL_law_36 ?_
    refine p_bipush G (by decide) (by decide) dL_law_37 ?_
    refine p_icmpge (tgt := 70) (A := some ()) (B := (none : Option Unit)) (out := ()) G dL_law_39 (by decide) (by decide) (fun _ _ => ?_) (fun c _ => absurd (by decide) c)
    refine p_iconst G rfl dL_law_70 ?_
    exact p_lawret G hR hM (Nat.le_trans (show m ≤ 100000 by omega) (Nat.le_of_ble_eq_true rfl)) (Nat.le_trans (show n ≤ 1000000 by omega) (Nat.le_of_ble_eq_true rfl)) dL_law_71
  | succ r ih =>
    intro k σ Γ m n hk hk4 h G hR hM hm hn
    have hk0 : k < 44 := by omega
    unfold x_L_lp at h
    obtain ⟨σ1, ha, h⟩ := bnd_some h
    obtain ⟨σ2, hc, h⟩ := bnd_some h
    unfold x_L_chk at hc
    obtain ⟨⟨σ3, v⟩, hs, hc⟩ := bnd_some hc
    rw [un2_mk] at hc
    have hv : ¬ zw v = 0 := fun e => by rw [if_pos e] at hc; cases hc
    rw [if_neg hv] at hc
    obtain ⟨⟨σ4, w⟩, hw, hc⟩ := bnd_some hc
    rw [un2_mk] at hc
    have hw0 : ¬ zw w = 0 := fun e => by rw [if_pos e] at hc; cases hc
    rw [if_neg hw0] at hc
    cases hc
    have hkw : zw k = k := zw_eq (by omega) (by omega)
    have hrc : ∀ x, x ≤ 100000 → x ≤ room_1.cells := fun x hx => Nat.le_trans hx (Nat.le_of_ble_eq_true rfl)
    have hrs : ∀ x, x ≤ 1000000 → x ≤ room_1.slots := fun x hx => Nat.le_trans hx (Nat.le_of_ble_eq_true rfl)
    refine p_iload_n G rfl 2 rfl dL_law_36 ?_
    refine p_bipush G (by decide) (by decide) dL_law_37 ?_
    refine p_icmpge (tgt := 70) (A := (none : Option Unit)) (B := some ()) (out := ()) G dL_law_39 (by decide) (if_neg (by rw [hkw, show zw 44 = 44 from by decide]; omega)) (fun c _ => absurd c (by rw [hkw, show zw 44 = 44 from by decide]; omega)) (fun _ _ => ?_)
    refine p_aload_n G rfl 1 rfl dL_law_42 ?_
    refine p_aload_n G rfl 0 rfl dL_law_43 ?_
    refine p_iload_n G rfl 2 rfl dL_law_44 ?_
    refine p_callSN (lv' := fun a => [(0, .ref b), (1, .ref (a 0)), (2, .int (zJ k))]) (st' := fun a => []) (kk := some) (out := zj zl_101 σ σ1) G hR hM zl_101 dL_law_45 lk_L_172 (c_L_act (gl Γ) hM.1.2.1 hM.1.2.2 ha) (As := [.ref (ga Γ 0), .ref (tk 1000), .int (zJ k)]) (by rw [hb]; rfl) z1 zk_P5 z2 (zs_x z3 _) rfl (Nat.le_of_ble_eq_true rfl) ⟨rfl, rfl, Nat.le_of_ble_eq_true rfl, Nat.le_of_ble_eq_true rfl⟩ (hrc _ (by omega)) (hrs _ (by omega)) rfl (fun a e => by
      have q0 := e 0 _ rfl rfl
      rw [q0]
      exact ⟨rfl, rfl⟩) (fun Γ1 G1 R1 M1 τ1 t1 => ?_)
    cases t1
    refine p_aload_n G1 rfl 1 rfl dL_law_48 ?_
    refine p_callSN (lv' := fun a => [(0, .ref b), (1, .ref (a 0)), (2, .int (zJ k))]) (st' := fun a => []) (kk := some) (out := zj zl_101 (zj zl_101 σ σ1) σ3) G1 R1 M1 zl_101 dL_law_49 lk_L_161 (c_L_isSound (gl Γ1) hs) (As := [.ref (ga Γ1 0)]) rfl z1 zk_P5 z2 (zs_x z3 _) rfl (Nat.le_of_ble_eq_true rfl) ⟨rfl, rfl, Nat.le_of_ble_eq_true rfl, Nat.le_of_ble_eq_true rfl⟩ (hrc _ (by omega)) (hrs _ (by omega)) rfl (fun a e => by
      have q0 := e 0 _ rfl rfl
      rw [q0]
      exact ⟨rfl, rfl⟩) (fun Γ2 G2 R2 M2 τ2 t2 => ?_)
    cases t2
    refine p_ifeq (tgt := 62) (A := (none : Option Unit)) (B := some ()) (out := ()) G2 dL_law_52 (by decide) (if_neg hv) (fun c _ => absurd c hv) (fun _ _ => ?_)
    refine p_aload_n G2 rfl 1 rfl dL_law_55 ?_
    refine p_callSN (lv' := fun a => [(0, .ref b), (1, .ref (a 0)), (2, .int (zJ k))]) (st' := fun a => []) (kk := some) (out := zj zl_101 (zj zl_101 (zj zl_101 σ σ1) σ3) σ4) G2 R2 M2 zl_101 dL_law_56 lk_L_165 (c_L_isNotWorse (gl Γ2) hw) (As := [.ref (ga Γ2 0)]) rfl z1 zk_P5 z2 (zs_x z3 _) rfl (Nat.le_of_ble_eq_true rfl) ⟨rfl, rfl, Nat.le_of_ble_eq_true rfl, Nat.le_of_ble_eq_true rfl⟩ (hrc _ (by omega)) (hrs _ (by omega)) rfl (fun a e => by
      have q0 := e 0 _ rfl rfl
      rw [q0]
      exact ⟨rfl, rfl⟩) (fun Γ3 G3 R3 M3 τ3 t3 => ?_)
    cases t3
    refine p_ifne (tgt := 64) (A := some ()) (B := (none : Option Unit)) (out := ()) G3 dL_law_59 (by decide) (if_pos hw0) (fun _ _ => ?_) (fun c _ => absurd hw0 c)
    refine p_iincU (lv2 := [(2, .int (zJ (k + 2))), (0, .ref b), (1, .ref (ga Γ3 0))]) G3 dL_law_64 2 rfl (by decide) rfl ?_
    refine p_goto (tgt := 36) G3 dL_law_67 (by decide) ?_
    refine p_lv [1, 2, 0] rfl ?_
    exact ih (k + 2) _ Γ3 _ _ (by omega) (by omega) h G3 R3 M3 (by omega) (by omega)
set_option maxHeartbeats 4000000 in
set_option maxRecDepth 100000 in
theorem law_pt (hb : tk 1000 = b) (h : x_L_law (zsc tv) (tk 1001) = some ()) (G : Gd Γ code R_law 3 room_1 shLg) (hR : RTN Γ shLg shLg lawR xs none L b) (hM : Mk Γ (l, tk, tv) nm 0 0) : PT Γ 3 shLg 0 (fun _ _ => 0) [(0, .ref b)] [] := by
  obtain ⟨z1, z2, z3⟩ := zk_L4
  unfold x_L_law at h
  obtain ⟨σ1, hi, h⟩ := bnd_some h
  obtain ⟨σ2, hc, h⟩ := bnd_some h
  obtain ⟨⟨σ5, v5⟩, hbg, h⟩ := bnd_some h
  rw [un2_mk] at h
  have h7 : 7 ≤ zw v5 := by
    by_cases c : 7 ≤ zw v5
    · exact c
    · rw [if_neg c] at h; cases h
  rw [if_pos h7] at h
  unfold x_L_chk at hc
  obtain ⟨⟨σ3, v⟩, hs, hc⟩ := bnd_some hc
  rw [un2_mk] at hc
  have hv : ¬ zw v = 0 := fun e => by rw [if_pos e] at hc; cases hc
  rw [if_neg hv] at hc
  obtain ⟨⟨σ4, w⟩, hw, hc⟩ := bnd_some hc
  rw [un2_mk] at hc
  have hw0 : ¬ zw w = 0 := fun e => by rw [if_pos e] at hc; cases hc
  rw [if_neg hw0] at hc
  cases hc
  refine p_newObjSt (s0 := shXc) (s9 := shX) (lvr := fun r => [(1, .ref r), (0, .ref b)]) (lv' := fun a => [(1, .ref (a 0)), (0, .ref b)]) (kf := 200) (j := 0) (K := 0) (kk := some) (out := zu (zj zl_101 (fun _ _ => 0) σ1) 200 0 1) G hR hM zl_101 nw_L_20 rfl (by decide +kernel) li_L_160 (fun a => c_X6_init (gl Γ) hi) dL_law_0 dL_law_3 dL_law_4 dL_law_7 rfl ⟨rfl, rfl, Nat.le_of_ble_eq_true rfl, Nat.le_of_ble_eq_true rfl⟩ (Nat.le_of_ble_eq_true rfl) (Nat.le_of_ble_eq_true rfl) rfl rfl zk_L1 zk_P5 zk_L2 (by decide) (fun _ => rfl) rfl (fun a e => rfl) (fun Γ0 G0 R0 M0 τ0 t0 => ?_)
  cases t0
  refine p_conv (s9 := shX) G0 [(200, 0)] R0 M0 zk_L3 fl_ne (fun Γ9 G9 R9 M9 e9 => ?_)
  rw [← e9]
  have R9 := (rtn_law (s1 := shX) (s8 := shX) R9).1
  refine p_aload_n G9 rfl 0 rfl dL_law_8 ?_
  refine p_callSN (lv' := fun a => [(1, .ref (a 0)), (0, .ref b)]) (st' := fun a => []) (kk := some) (out := zj zl_101 (zu (zj zl_101 (fun _ _ => 0) σ1) 200 0 1) σ3) G9 R9 M9 zl_101 dL_law_9 lk_L_161 (c_L_isSound (gl Γ9) hs) (As := [.ref (ga Γ9 0)]) rfl z1 zk_P5 z2 (zs_x z3 _) rfl (Nat.le_of_ble_eq_true rfl) ⟨rfl, rfl, Nat.le_of_ble_eq_true rfl, Nat.le_of_ble_eq_true rfl⟩ (Nat.le_of_ble_eq_true rfl) (Nat.le_of_ble_eq_true rfl) rfl (fun a e => by
    have q0 := e 0 _ rfl rfl
    rw [q0]
    exact ⟨rfl, rfl⟩) (fun Γ2 G2 R2 M2 τ2 t2 => ?_)
  cases t2
  refine p_ifeq (tgt := 32) (A := (none : Option Unit)) (B := some ()) (out := ()) G2 dL_law_12 (by decide) (if_neg hv) (fun c _ => absurd c hv) (fun _ _ => ?_)
  refine p_aload_n G2 rfl 0 rfl dL_law_15 ?_
  refine p_callSN (lv' := fun a => [(1, .ref (a 0)), (0, .ref b)]) (st' := fun a => []) (kk := some) (out := zj zl_101 (zj zl_101 (zu (zj zl_101 (fun _ _ => 0) σ1) 200 0 1) σ3) σ4) G2 R2 M2 zl_101 dL_law_16 lk_L_165 (c_L_isNotWorse (gl Γ2) hw) (As := [.ref (ga Γ2 0)]) rfl z1 zk_P5 z2 (zs_x z3 _) rfl (Nat.le_of_ble_eq_true rfl) ⟨rfl, rfl, Nat.le_of_ble_eq_true rfl, Nat.le_of_ble_eq_true rfl⟩ (Nat.le_of_ble_eq_true rfl) (Nat.le_of_ble_eq_true rfl) rfl (fun a e => by
    have q0 := e 0 _ rfl rfl
    rw [q0]
    exact ⟨rfl, rfl⟩) (fun Γ3 G3 R3 M3 τ3 t3 => ?_)
  cases t3
  refine p_ifeq (tgt := 32) (A := (none : Option Unit)) (B := some ()) (out := ()) G3 dL_law_19 (by decide) (if_neg hw0) (fun c _ => absurd c hw0) (fun _ _ => ?_)
  refine p_aload_n G3 rfl 0 rfl dL_law_22 ?_
  refine p_aload_n G3 rfl 1 rfl dL_law_23 ?_
  refine p_callSN (lv' := fun a => [(1, .ref (a 0)), (0, .ref b)]) (st' := fun a => []) (kk := some) (out := zj zl_101 (zj zl_101 (zj zl_101 (zu (zj zl_101 (fun _ _ => 0) σ1) 200 0 1) σ3) σ4) σ5) G3 R3 M3 zl_101 dL_law_24 lk_L_168 (c_L_began (gl Γ3) M3.1.2.1 M3.1.2.2 hbg) (As := [.ref (ga Γ3 0), .ref (tk 1000)]) (by rw [hb]; rfl) z1 zk_P5 z2 (zs_x z3 _) rfl (Nat.le_of_ble_eq_true rfl) ⟨rfl, rfl, Nat.le_of_ble_eq_true rfl, Nat.le_of_ble_eq_true rfl⟩ (Nat.le_of_ble_eq_true rfl) (Nat.le_of_ble_eq_true rfl) rfl (fun a e => by
    have q0 := e 0 _ rfl rfl
    rw [q0]
    exact ⟨rfl, rfl⟩) (fun Γ4 G4 R4 M4 τ4 t4 => ?_)
  cases t4
  refine p_bipush G4 (by decide) (by decide) dL_law_27 ?_
  refine p_icmpge (tgt := 34) (A := some ()) (B := (none : Option Unit)) (out := ()) G4 dL_law_29 (by decide) (if_pos (by rw [show zw 7 = 7 from by decide]; exact h7)) (fun _ _ => ?_) (fun c _ => absurd (by rw [show zw 7 = 7 from by decide]; exact h7) c)
  refine p_iconst G4 rfl dL_law_34 ?_
  refine p_istore_nU (lv' := [(2, .int (zJ 4)), (1, .ref (ga Γ4 0)), (0, .ref b)]) G4 rfl dL_law_35 (by decide) rfl ?_
  refine p_lv [2, 1, 0] rfl ?_
  exact law_loop hb 20 4 _ Γ4 _ _ (by decide) (by decide) h G4 R4 M4 (Nat.le_of_ble_eq_true rfl) (Nat.le_of_ble_eq_true rfl)
end LAWW
