noncomputable def x_J_Math_floorMod (p0 : Int) (p1 : Int) : Option (Int) :=
  (if zw p1 = 0 then none else bnd ((zrem p0 p1)) fun v1 => (if 0 ≤ zw (zxor p0 p1) then some v1 else (if zw v1 = 0 then some v1 else some (v1 + p1))))
def rm_J_Math_floorMod : Room := { frames := 0, cells := 0, slots := 0, locals := 0 }
set_option maxHeartbeats 4000000 in
set_option maxRecDepth 100000 in
theorem c_X0_init (l : Launch) {D : va_G} {yy : Nat → ClassId} {tk tv a : Nat → Nat} {σ : Mm} {o : Mm} (h : x_X0_init σ = some o) : CTN l yX0_init cX0_init 1 none rm_X0_init shHc shH D yy tk tv a σ [.ref (a 0)] o none 1 10 := by
  refine ctn_of (Ar := fun a tk => [.ref (a 0)]) (by decide) (Nat.le_of_ble_eq_true rfl) (fun h => by cases h) (fun Γ G _ hM hR => ?_)
  have hcs := mk_cs G hM (Nat.le_of_ble_eq_true rfl) (Nat.le_of_ble_eq_true rfl)
  unfold x_X0_init at h
  refine (?_ : PT Γ 1 shHc 0 σ [(0, .ref (ga Γ 0))] [])
  refine p_aload_n G rfl 0 rfl dX0_init_0 ?_
  refine p_objInit G gm_142 gm_58 gm_59 dX0_init_1 (Nat.le_of_ble_eq_true rfl) (Nat.le_of_ble_eq_true rfl) (Nat.le_of_ble_eq_true rfl) ?_
  refine p_aload_n G rfl 0 rfl dX0_init_4 ?_
  refine p_bipush G (by decide) (by decide) dX0_init_5 ?_
  refine p_newqPut (lv' := fun a => [(0, .ref (a 0))]) (st' := fun a => []) (s9 := shQ10) (k := 0) (K := 1) (j := 0) (N := 10) G hR hM zl_2 gm_143 dX0_init_7 dX0_init_10 ff_X0_11 rfl rfl rfl rfl zk_2 (by decide +kernel) (by decide +kernel) rfl (by decide +kernel) (fun i _ => by rw [zt_l]; omega) (by decide) (Nat.le_of_ble_eq_true rfl) (Nat.le_of_ble_eq_true rfl) h (fun a e => by have q0 := e 0 _ rfl rfl; exact ⟨by simp only [q0], by rfl⟩) (fun Γ G hR hM σ1 h => ?_)
  refine (?_ : PT Γ 1 shHc 13 σ1 [(0, .ref (ga Γ 0))] [])
  have hcs := mk_cs G hM (Nat.le_of_ble_eq_true rfl) (Nat.le_of_ble_eq_true rfl)
  refine zift h (fun hf h => ?_)
  refine p_conv (s9 := shH) G [(0, 0)] hR hM zk_3 hf (fun Γ9 G hR hM hga => ?_)
  rw [← hga]
  clear hga hcs
  revert hM hR G
  generalize Γ9 = Γ
  intro G hR hM
  have hcs := mk_cs G hM (Nat.le_of_ble_eq_true rfl) (Nat.le_of_ble_eq_true rfl)
  (cases h; exact p_vretN G hM (Nat.le_of_ble_eq_true rfl) (Nat.le_of_ble_eq_true rfl) hR dX0_init_13 rfl rfl)
set_option maxHeartbeats 4000000 in
set_option maxRecDepth 100000 in
theorem c_X2_init (l : Launch) {D : va_G} {yy : Nat → ClassId} {tk tv a : Nat → Nat} {σ : Mm} {o : Mm} (h : x_X2_init σ = some o) : CTN l yX2_init cX2_init 1 none rm_X2_init shMc shM D yy tk tv a σ [.ref (a 0)] o none 4 108 := by
  refine ctn_of (Ar := fun a tk => [.ref (a 0)]) (by decide) (Nat.le_of_ble_eq_true rfl) (fun h => by cases h) (fun Γ G _ hM hR => ?_)
  have hcs := mk_cs G hM (Nat.le_of_ble_eq_true rfl) (Nat.le_of_ble_eq_true rfl)
  unfold x_X2_init at h
  refine (?_ : PT Γ 1 shMc 0 σ [(0, .ref (ga Γ 0))] [])
  refine p_aload_n G rfl 0 rfl dX2_init_0 ?_
  refine p_objInit G gm_65 gm_58 gm_59 dX2_init_1 (Nat.le_of_ble_eq_true rfl) (Nat.le_of_ble_eq_true rfl) (Nat.le_of_ble_eq_true rfl) ?_
  refine p_aload_n G rfl 0 rfl dX2_init_4 ?_
  refine p_iconst G rfl dX2_init_5 ?_
  refine p_newaPut (lv' := fun a => [(0, .ref (a 0))]) (st' := fun a => []) (k := 0) (K := 1) (j := 11) (c1 := 0) (kd := 0) (N := 2) G hR hM gm_135 dX2_init_6 dX2_init_8 ff_X2_9 rfl rfl rfl (by decide +kernel) (by decide +kernel) (by decide +kernel) (fun _ => rfl) (fun _ _ h => h) rfl (by decide) (by decide) (by decide) (by decide) (Nat.le_of_ble_eq_true rfl) (Nat.le_of_ble_eq_true rfl) h (fun a e => by have q0 := e 0 _ rfl rfl; exact ⟨by simp only [q0], by rfl⟩) (fun Γ G hR hM σ1 h => ?_)
  refine (?_ : PT Γ 1 shMc 11 σ1 [(0, .ref (ga Γ 0))] [])
  have hcs := mk_cs G hM (Nat.le_of_ble_eq_true rfl) (Nat.le_of_ble_eq_true rfl)
  refine p_aload_n G rfl 0 rfl dX2_init_11 ?_
  refine p_iconst G rfl dX2_init_12 ?_
  refine p_newaPut (lv' := fun a => [(0, .ref (a 0))]) (st' := fun a => []) (k := 0) (K := 2) (j := 12) (c1 := 1) (kd := 1) (N := 2) G hR hM gm_136 dX2_init_13 dX2_init_15 ff_X2_15 rfl rfl rfl (by decide +kernel) (by decide +kernel) (by decide +kernel) (fun _ => rfl) (fun _ _ h => h) rfl (by decide) (by decide) (by decide) (by decide) (Nat.le_of_ble_eq_true rfl) (Nat.le_of_ble_eq_true rfl) h (fun a e => by have q0 := e 0 _ rfl rfl; exact ⟨by simp only [q0], by rfl⟩) (fun Γ G hR hM σ2 h => ?_)
  refine (?_ : PT Γ 1 shMc 18 σ2 [(0, .ref (ga Γ 0))] [])
  have hcs := mk_cs G hM (Nat.le_of_ble_eq_true rfl) (Nat.le_of_ble_eq_true rfl)
  refine p_aload_n G rfl 0 rfl dX2_init_18 ?_
  refine p_bipush G (by decide) (by decide) dX2_init_19 ?_
  refine p_newaPut (lv' := fun a => [(0, .ref (a 0))]) (st' := fun a => []) (k := 0) (K := 3) (j := 13) (c1 := 0) (kd := 0) (N := 52) G hR hM gm_135 dX2_init_21 dX2_init_23 ff_X2_19 rfl rfl rfl (by decide +kernel) (by decide +kernel) (by decide +kernel) (fun _ => rfl) (fun _ _ h => h) rfl (by decide) (by decide) (by decide) (by decide) (Nat.le_of_ble_eq_true rfl) (Nat.le_of_ble_eq_true rfl) h (fun a e => by have q0 := e 0 _ rfl rfl; exact ⟨by simp only [q0], by rfl⟩) (fun Γ G hR hM σ3 h => ?_)
  refine (?_ : PT Γ 1 shMc 26 σ3 [(0, .ref (ga Γ 0))] [])
  have hcs := mk_cs G hM (Nat.le_of_ble_eq_true rfl) (Nat.le_of_ble_eq_true rfl)
  refine p_aload_n G rfl 0 rfl dX2_init_26 ?_
  refine p_bipush G (by decide) (by decide) dX2_init_27 ?_
  refine p_newaPut (lv' := fun a => [(0, .ref (a 0))]) (st' := fun a => []) (k := 0) (K := 4) (j := 15) (c1 := 0) (kd := 0) (N := 52) G hR hM gm_135 dX2_init_29 dX2_init_31 ff_X2_22 rfl rfl rfl (by decide +kernel) (by decide +kernel) (by decide +kernel) (fun _ => rfl) (fun _ _ h => h) rfl (by decide) (by decide) (by decide) (by decide) (Nat.le_of_ble_eq_true rfl) (Nat.le_of_ble_eq_true rfl) h (fun a e => by have q0 := e 0 _ rfl rfl; exact ⟨by simp only [q0], by rfl⟩) (fun Γ G hR hM σ4 h => ?_)
  refine (?_ : PT Γ 1 shMc 34 σ4 [(0, .ref (ga Γ 0))] [])
  have hcs := mk_cs G hM (Nat.le_of_ble_eq_true rfl) (Nat.le_of_ble_eq_true rfl)
  refine zift h (fun hf h => ?_)
  refine p_conv (s9 := shM) G [(0, 11), (0, 12), (0, 13), (0, 15)] hR hM zk_4 hf (fun Γ9 G hR hM hga => ?_)
  rw [← hga]
  clear hga hcs
  revert hM hR G
  generalize Γ9 = Γ
  intro G hR hM
  have hcs := mk_cs G hM (Nat.le_of_ble_eq_true rfl) (Nat.le_of_ble_eq_true rfl)
  (cases h; exact p_vretN G hM (Nat.le_of_ble_eq_true rfl) (Nat.le_of_ble_eq_true rfl) hR dX2_init_34 rfl rfl)
set_option maxHeartbeats 4000000 in
set_option maxRecDepth 100000 in
theorem c_X2_copyFrom (l : Launch) {D : va_G} {yy : Nat → ClassId} {tk tv a : Nat → Nat} {σ : Mm} {o : Mm} (h : x_X2_copyFrom σ = some o) : CT l yX2_copyFrom cX2_copyFrom 2 none rm_X2_copyFrom shMM D yy tk tv a σ [.ref (a 0), .ref (a 5)] o none := by
  refine ct_of (Ar := fun a tk => [.ref (a 0), .ref (a 5)]) (by decide) (Nat.le_of_ble_eq_true rfl) (fun Γ G _ _ hR => ?_)
  have hcs := rt_cs hR
  unfold x_X2_copyFrom at h
  refine (?_ : PT Γ 2 shMM 0 σ [(0, .ref (ga Γ 0)), (1, .ref (ga Γ 5))] [])
  refine p_aload_n G rfl 0 rfl dX2_copyFrom_0 ?_
  refine p_aload_n G rfl 1 rfl dX2_copyFrom_1 ?_
  refine p_get G dX2_copyFrom_2 fl_X2_25 (k := 5) rfl rfl ?_
  refine p_putI G dX2_copyFrom_5 fp_X2_25 (k := 0) rfl rfl rfl rfl h (fun σ1 h => ?_)
  refine p_aload_n G rfl 0 rfl dX2_copyFrom_8 ?_
  refine p_aload_n G rfl 1 rfl dX2_copyFrom_9 ?_
  refine p_get G dX2_copyFrom_10 fl_X2_29 (k := 5) rfl rfl ?_
  refine p_putI G dX2_copyFrom_13 fp_X2_29 (k := 0) rfl rfl rfl rfl h (fun σ2 h => ?_)
  refine p_aload_n G rfl 0 rfl dX2_copyFrom_16 ?_
  refine p_aload_n G rfl 1 rfl dX2_copyFrom_17 ?_
  refine p_get G dX2_copyFrom_18 fl_X2_32 (k := 5) rfl rfl ?_
  refine p_putI G dX2_copyFrom_21 fp_X2_32 (k := 0) rfl rfl rfl rfl h (fun σ3 h => ?_)
  refine p_aload_n G rfl 0 rfl dX2_copyFrom_24 ?_
  refine p_aload_n G rfl 1 rfl dX2_copyFrom_25 ?_
  refine p_get G dX2_copyFrom_26 fl_X2_35 (k := 5) rfl rfl ?_
  refine p_putL G dX2_copyFrom_29 fp_X2_35 (k := 0) rfl rfl rfl rfl h (fun σ4 h => ?_)
  refine p_aload_n G rfl 0 rfl dX2_copyFrom_32 ?_
  refine p_aload_n G rfl 1 rfl dX2_copyFrom_33 ?_
  refine p_get G dX2_copyFrom_34 fl_X2_39 (k := 5) rfl rfl ?_
  refine p_putI G dX2_copyFrom_37 fp_X2_39 (k := 0) rfl rfl rfl rfl h (fun σ5 h => ?_)
  refine p_aload_n G rfl 0 rfl dX2_copyFrom_40 ?_
  refine p_aload_n G rfl 1 rfl dX2_copyFrom_41 ?_
  refine p_get G dX2_copyFrom_42 fl_X2_42 (k := 5) rfl rfl ?_
  refine p_putI G dX2_copyFrom_45 fp_X2_42 (k := 0) rfl rfl rfl rfl h (fun σ6 h => ?_)
  refine p_aload_n G rfl 0 rfl dX2_copyFrom_48 ?_
  refine p_aload_n G rfl 1 rfl dX2_copyFrom_49 ?_
  refine p_get G dX2_copyFrom_50 fl_X2_45 (k := 5) rfl rfl ?_
  refine zift h (fun hb h => ?_)
  refine p_putZ G dX2_copyFrom_53 fp_X2_45 (k := 0) rfl rfl rfl rfl (zb_01 hb) h (fun σ7 h => ?_)
  refine p_aload_n G rfl 0 rfl dX2_copyFrom_56 ?_
  refine p_aload_n G rfl 1 rfl dX2_copyFrom_57 ?_
  refine p_get G dX2_copyFrom_58 fl_X2_49 (k := 5) rfl rfl ?_
  refine p_putI G dX2_copyFrom_61 fp_X2_49 (k := 0) rfl rfl rfl rfl h (fun σ8 h => ?_)
  refine p_aload_n G rfl 0 rfl dX2_copyFrom_64 ?_
  refine p_aload_n G rfl 1 rfl dX2_copyFrom_65 ?_
  refine p_get G dX2_copyFrom_66 fl_X2_52 (k := 5) rfl rfl ?_
  refine zift h (fun hb h => ?_)
  refine p_putZ G dX2_copyFrom_69 fp_X2_52 (k := 0) rfl rfl rfl rfl (zb_01 hb) h (fun σ9 h => ?_)
  refine p_aload_n G rfl 0 rfl dX2_copyFrom_72 ?_
  refine p_aload_n G rfl 1 rfl dX2_copyFrom_73 ?_
  refine p_get G dX2_copyFrom_74 fl_X2_55 (k := 5) rfl rfl ?_
  refine p_putI G dX2_copyFrom_77 fp_X2_55 (k := 0) rfl rfl rfl rfl h (fun σ10 h => ?_)
  refine p_aload_n G rfl 0 rfl dX2_copyFrom_80 ?_
  refine p_aload_n G rfl 1 rfl dX2_copyFrom_81 ?_
  refine p_get G dX2_copyFrom_82 fl_X2_58 (k := 5) rfl rfl ?_
  refine p_putI G dX2_copyFrom_85 fp_X2_58 (k := 0) rfl rfl rfl rfl h (fun σ11 h => ?_)
  refine p_aload_n G rfl 0 rfl dX2_copyFrom_88 ?_
  refine p_aload_n G rfl 1 rfl dX2_copyFrom_89 ?_
  refine p_get G dX2_copyFrom_90 fl_X2_61 (k := 5) rfl rfl ?_
  refine p_putI G dX2_copyFrom_93 fp_X2_61 (k := 0) rfl rfl rfl rfl h (fun σ12 h => ?_)
  refine p_aload_n G rfl 0 rfl dX2_copyFrom_96 ?_
  refine p_aload_n G rfl 1 rfl dX2_copyFrom_97 ?_
  refine p_get G dX2_copyFrom_98 fl_X2_64 (k := 5) rfl rfl ?_
  refine p_putI G dX2_copyFrom_101 fp_X2_64 (k := 0) rfl rfl rfl rfl h (fun σ13 h => ?_)
  refine p_aload_n G rfl 1 rfl dX2_copyFrom_104 ?_
  refine p_get G dX2_copyFrom_105 fl_X2_9 (k := 5) rfl rfl ?_
  refine p_iconst G rfl dX2_copyFrom_108 ?_
  refine p_aload_n G rfl 0 rfl dX2_copyFrom_109 ?_
  refine p_get G dX2_copyFrom_110 fl_X2_9 (k := 0) rfl rfl ?_
  refine p_iconst G rfl dX2_copyFrom_113 ?_
  refine p_iconst G rfl dX2_copyFrom_114 ?_
  refine p_copy G gm_963 gm_424 gm_423 gm_38 (k0 := 6) (k1 := 1) (n := 2) (kd := 0) rfl rfl (zt_c _) (zt_c _) (by decide) (by decide) (by decide) (by decide) rfl (by decide) (by decide) dX2_copyFrom_115 h (fun σ14 h => ?_)
  refine p_aload_n G rfl 1 rfl dX2_copyFrom_118 ?_
  refine p_get G dX2_copyFrom_119 fl_X2_15 (k := 5) rfl rfl ?_
  refine p_iconst G rfl dX2_copyFrom_122 ?_
  refine p_aload_n G rfl 0 rfl dX2_copyFrom_123 ?_
  refine p_get G dX2_copyFrom_124 fl_X2_15 (k := 0) rfl rfl ?_
  refine p_iconst G rfl dX2_copyFrom_127 ?_
  refine p_iconst G rfl dX2_copyFrom_128 ?_
  refine p_copy G gm_963 gm_424 gm_423 gm_38 (k0 := 7) (k1 := 2) (n := 2) (kd := 1) rfl rfl (zt_c _) (zt_c _) (by decide) (by decide) (by decide) (by decide) rfl (by decide) (by decide) dX2_copyFrom_129 h (fun σ15 h => ?_)
  refine p_aload_n G rfl 1 rfl dX2_copyFrom_132 ?_
  refine p_get G dX2_copyFrom_133 fl_X2_19 (k := 5) rfl rfl ?_
  refine p_iconst G rfl dX2_copyFrom_136 ?_
  refine p_aload_n G rfl 0 rfl dX2_copyFrom_137 ?_
  refine p_get G dX2_copyFrom_138 fl_X2_19 (k := 0) rfl rfl ?_
  refine p_iconst G rfl dX2_copyFrom_141 ?_
  refine p_bipush G (by decide) (by decide) dX2_copyFrom_142 ?_
  refine p_copy G gm_963 gm_424 gm_423 gm_38 (k0 := 8) (k1 := 3) (n := 52) (kd := 0) rfl rfl (zt_c _) (zt_c _) (by decide) (by decide) (by decide) (by decide) rfl (by decide) (by decide) dX2_copyFrom_144 h (fun σ16 h => ?_)
  refine p_aload_n G rfl 1 rfl dX2_copyFrom_147 ?_
  refine p_get G dX2_copyFrom_148 fl_X2_22 (k := 5) rfl rfl ?_
  refine p_iconst G rfl dX2_copyFrom_151 ?_
  refine p_aload_n G rfl 0 rfl dX2_copyFrom_152 ?_
  refine p_get G dX2_copyFrom_153 fl_X2_22 (k := 0) rfl rfl ?_
  refine p_iconst G rfl dX2_copyFrom_156 ?_
  refine p_bipush G (by decide) (by decide) dX2_copyFrom_157 ?_
  refine p_copy G gm_963 gm_424 gm_423 gm_38 (k0 := 9) (k1 := 4) (n := 52) (kd := 0) rfl rfl (zt_c _) (zt_c _) (by decide) (by decide) (by decide) (by decide) rfl (by decide) (by decide) dX2_copyFrom_159 h (fun σ17 h => ?_)
  (cases h; exact p_vret G hR dX2_copyFrom_162 rfl rfl)
set_option maxHeartbeats 4000000 in
set_option maxRecDepth 100000 in
theorem c_X0_push (l : Launch) {D : va_G} {yy : Nat → ClassId} {tk tv a : Nat → Nat} {σ : Mm} {o : Mm} (h : x_X0_push σ = some o) : CTN l yX0_push cX0_push 4 none rm_X0_push shHM shHM D yy tk tv a σ [.ref (a 0), .ref (a 52)] o none 5 125 := by
  refine ctn_of (Ar := fun a tk => [.ref (a 0), .ref (a 52)]) (by decide) (Nat.le_of_ble_eq_true rfl) (fun h => by cases h) (fun Γ G _ hM hR => ?_)
  have hcs := mk_cs G hM (Nat.le_of_ble_eq_true rfl) (Nat.le_of_ble_eq_true rfl)
  unfold x_X0_push at h
  refine (?_ : PT Γ 4 shHM 0 σ [(0, .ref (ga Γ 0)), (1, .ref (ga Γ 52))] [])
  refine p_aload_n G rfl 0 rfl dX0_push_0 ?_
  refine p_get G dX0_push_1 fl_X0_15 (k := 0) rfl rfl ?_
  refine p_iflt (tgt := 23) G dX0_push_4 (by decide) h (fun c45 h => ?_) (fun c45 h => ?_)
  · refine p_iconst G rfl dX0_push_23 ?_
    refine p_istore_nU (lv' := [(2, .int (zJ (0 : Int))), (0, .ref (ga Γ 0)), (1, .ref (ga Γ 52))]) G rfl dX0_push_24 (by decide) rfl ?_
    refine p_aload_n G rfl 1 rfl dX0_push_25 ?_
    refine p_get G dX0_push_26 fl_X0_11 (k := 0) rfl rfl ?_
    refine p_iload_n G rfl 0 rfl dX0_push_29 ?_
    refine p_aaldM (b := 2) (d := 5) G dX0_push_30 (k := 1) rfl (fun j => by rw [zt_l]; omega) h (fun c14 c14a h => ?_) (fun c14 c14a h => ?_)
    · refine p_astoreN (lv2 := [(3, .null), (2, .int (zJ (0 : Int))), (0, .ref (ga Γ 0)), (1, .ref (ga Γ 52))]) G rfl dX0_push_31 (by decide) rfl ?_
      refine p_aloadN G rfl 0 rfl dX0_push_32 ?_
      refine p_ifnonnullN G dX0_push_33 ?_
      refine zift h (fun c3 h => ?_)
      obtain ⟨σ2, hc, h⟩ := bnd_some h
      have c3z := zk_5 (zix (0 : Int)) (zix_lt c3)
      refine p_newAast (sc := shMc) (s9 := shM) (lvr := fun r => [(3, .ref r), (2, .int (zJ (0 : Int))), (0, .ref (ga Γ 0)), (1, .ref (ga Γ 52))]) (lv' := fun a => [(3, .ref (a (2 + 5 * zix (0 : Int)))), (2, .int (zJ (0 : Int))), (0, .ref (a 0)), (1, .ref (a 52))]) (k0 := 0) (kr := 1) (bs := 2) (ds := 5) G hR hM (zl_5 (zix (0 : Int))) 2 1 nw_X0_9 rfl (by decide +kernel) rfl rfl li_X0_19 (fun a => c_X2_init (gl Γ) hc) dX0_push_36 dX0_push_39 dX0_push_40 dX0_push_43 dX0_push_44 dX0_push_45 dX0_push_48 dX0_push_49 dX0_push_50 rfl rfl rfl rfl ⟨rfl, rfl, Nat.le_of_ble_eq_true rfl, Nat.le_of_ble_eq_true rfl⟩ (Nat.le_of_ble_eq_true rfl) (Nat.le_of_ble_eq_true rfl) fl_X0_11 rfl rfl rfl rfl (fun j => by rw [zt_l]; omega) c3 c3z.1 c3z.2.1 (by decide +kernel) c3z.2.2 (by decide) (fun _ => rfl) (fun _ => rfl) (fun _ => rfl) (fun _ => rfl) h (fun a e => by have q0 := e 0 _ rfl rfl; have q52 := e 52 _ rfl rfl; simp only [q0, q52]) (fun Γ G hR hM σ1 h => ?_)
      refine (?_ : PT Γ 4 shHM 51 σ1 [(3, .ref (ga Γ (2 + 5 * zix (0 : Int)))), (2, .int (zJ (0 : Int))), (0, .ref (ga Γ 0)), (1, .ref (ga Γ 52))] [])
      have hcs := mk_cs G hM (Nat.le_of_ble_eq_true rfl) (Nat.le_of_ble_eq_true rfl)
      refine p_aload_n G rfl 0 rfl dX0_push_51 ?_
      refine p_aload_n G rfl 3 rfl dX0_push_52 ?_
      refine zift h (fun c8 h => ?_)
      refine zite h (fun c8n h => ?_) (fun c8n h => ?_)
      · cases h
      obtain ⟨σ4, hc, h⟩ := bnd_some h
      have c8z := zk_6 (zix (0 : Int)) (zix_lt c8)
      refine p_callVg G (zl_6 (zix (0 : Int))) dX0_push_53 lk_X0_20 (c_X2_copyFrom (gl Γ) hc) (As := [.ref (ga Γ 52)]) (k0 := 2 + 5 * zix (0 : Int)) (ci := 4) (g0 := some (1, zix (0 : Int))) rfl c8z.1 (zsg_x c8z.2.1 c8n) c8z.2.2 c8n rfl rfl (Nat.le_of_ble_eq_true rfl) ⟨rfl, rfl, Nat.le_of_ble_eq_true rfl, Nat.le_of_ble_eq_true rfl⟩ hcs ?_
      refine p_nm h (fun σ5 h => ?_)
      refine p_aload_n G rfl 2 rfl dX0_push_56 ?_
      refine p_iload_n G rfl 1 rfl dX0_push_57 ?_
      refine p_iconst G rfl dX0_push_58 ?_
      refine p_iadd G dX0_push_59 ?_
      refine p_putI G dX0_push_60 fp_X0_15 (k := 0) rfl rfl rfl rfl h (fun σ6 h => ?_)
      refine p_aload_n G rfl 2 rfl dX0_push_63 ?_
      refine p_aload_n G rfl 2 rfl dX0_push_64 ?_
      refine p_get G dX0_push_65 fl_X0_24 (k := 0) rfl rfl ?_
      refine p_iconst G rfl dX0_push_68 ?_
      refine p_iadd G dX0_push_69 ?_
      refine p_bipush G (by decide) (by decide) dX0_push_70 ?_
      refine p_zmin G gm_964 gm_535 gm_41 gm_536 (by decide) (by decide) hcs dX0_push_72 ?_
      refine p_putI G dX0_push_75 fp_X0_24 (k := 0) rfl rfl rfl rfl h (fun σ7 h => ?_)
      (cases h; exact p_vretN G hM (Nat.le_of_ble_eq_true rfl) (Nat.le_of_ble_eq_true rfl) hR dX0_push_78 rfl rfl)
    · refine p_astore_n (lv' := [(3, .ref (ga Γ (2 + 5 * zix (0 : Int)))), (2, .int (zJ (0 : Int))), (0, .ref (ga Γ 0)), (1, .ref (ga Γ 52))]) G rfl dX0_push_31 (by decide) rfl ?_
      refine p_aload_n G rfl 0 rfl dX0_push_32 ?_
      refine p_ifnonnull (tgt := 51) G dX0_push_33 (by decide) ?_
      refine p_aload_n G rfl 0 rfl dX0_push_51 ?_
      refine p_aload_n G rfl 3 rfl dX0_push_52 ?_
      refine zift h (fun c13 h => ?_)
      refine zite h (fun c13n h => ?_) (fun c13n h => ?_)
      · cases h
      obtain ⟨σ9, hc, h⟩ := bnd_some h
      have c13z := zk_6 (zix (0 : Int)) (zix_lt c13)
      refine p_callVg G (zl_6 (zix (0 : Int))) dX0_push_53 lk_X0_20 (c_X2_copyFrom (gl Γ) hc) (As := [.ref (ga Γ 52)]) (k0 := 2 + 5 * zix (0 : Int)) (ci := 4) (g0 := some (1, zix (0 : Int))) rfl c13z.1 (zsg_x c13z.2.1 c13n) c13z.2.2 c13n rfl rfl (Nat.le_of_ble_eq_true rfl) ⟨rfl, rfl, Nat.le_of_ble_eq_true rfl, Nat.le_of_ble_eq_true rfl⟩ hcs ?_
      refine p_nm h (fun σ10 h => ?_)
      refine p_aload_n G rfl 2 rfl dX0_push_56 ?_
      refine p_iload_n G rfl 1 rfl dX0_push_57 ?_
      refine p_iconst G rfl dX0_push_58 ?_
      refine p_iadd G dX0_push_59 ?_
      refine p_putI G dX0_push_60 fp_X0_15 (k := 0) rfl rfl rfl rfl h (fun σ11 h => ?_)
      refine p_aload_n G rfl 2 rfl dX0_push_63 ?_
      refine p_aload_n G rfl 2 rfl dX0_push_64 ?_
      refine p_get G dX0_push_65 fl_X0_24 (k := 0) rfl rfl ?_
      refine p_iconst G rfl dX0_push_68 ?_
      refine p_iadd G dX0_push_69 ?_
      refine p_bipush G (by decide) (by decide) dX0_push_70 ?_
      refine p_zmin G gm_964 gm_535 gm_41 gm_536 (by decide) (by decide) hcs dX0_push_72 ?_
      refine p_putI G dX0_push_75 fp_X0_24 (k := 0) rfl rfl rfl rfl h (fun σ12 h => ?_)
      (cases h; exact p_vretN G hM (Nat.le_of_ble_eq_true rfl) (Nat.le_of_ble_eq_true rfl) hR dX0_push_78 rfl rfl)
  · refine p_aload_n G rfl 0 rfl dX0_push_7 ?_
    refine p_get G dX0_push_8 fl_X0_15 (k := 0) rfl rfl ?_
    refine p_bipush G (by decide) (by decide) dX0_push_11 ?_
    refine p_icmpge (tgt := 23) G dX0_push_13 (by decide) h (fun c44 h => ?_) (fun c44 h => ?_)
    · refine p_iconst G rfl dX0_push_23 ?_
      refine p_istore_nU (lv' := [(2, .int (zJ (0 : Int))), (0, .ref (ga Γ 0)), (1, .ref (ga Γ 52))]) G rfl dX0_push_24 (by decide) rfl ?_
      refine p_aload_n G rfl 1 rfl dX0_push_25 ?_
      refine p_get G dX0_push_26 fl_X0_11 (k := 0) rfl rfl ?_
      refine p_iload_n G rfl 0 rfl dX0_push_29 ?_
      refine p_aaldM (b := 2) (d := 5) G dX0_push_30 (k := 1) rfl (fun j => by rw [zt_l]; omega) h (fun c28 c28a h => ?_) (fun c28 c28a h => ?_)
      · refine p_astoreN (lv2 := [(3, .null), (2, .int (zJ (0 : Int))), (0, .ref (ga Γ 0)), (1, .ref (ga Γ 52))]) G rfl dX0_push_31 (by decide) rfl ?_
        refine p_aloadN G rfl 0 rfl dX0_push_32 ?_
        refine p_ifnonnullN G dX0_push_33 ?_
        refine zift h (fun c17 h => ?_)
        obtain ⟨σ16, hc, h⟩ := bnd_some h
        have c17z := zk_5 (zix (0 : Int)) (zix_lt c17)
        refine p_newAast (sc := shMc) (s9 := shM) (lvr := fun r => [(3, .ref r), (2, .int (zJ (0 : Int))), (0, .ref (ga Γ 0)), (1, .ref (ga Γ 52))]) (lv' := fun a => [(3, .ref (a (2 + 5 * zix (0 : Int)))), (2, .int (zJ (0 : Int))), (0, .ref (a 0)), (1, .ref (a 52))]) (k0 := 0) (kr := 1) (bs := 2) (ds := 5) G hR hM (zl_5 (zix (0 : Int))) 2 1 nw_X0_9 rfl (by decide +kernel) rfl rfl li_X0_19 (fun a => c_X2_init (gl Γ) hc) dX0_push_36 dX0_push_39 dX0_push_40 dX0_push_43 dX0_push_44 dX0_push_45 dX0_push_48 dX0_push_49 dX0_push_50 rfl rfl rfl rfl ⟨rfl, rfl, Nat.le_of_ble_eq_true rfl, Nat.le_of_ble_eq_true rfl⟩ (Nat.le_of_ble_eq_true rfl) (Nat.le_of_ble_eq_true rfl) fl_X0_11 rfl rfl rfl rfl (fun j => by rw [zt_l]; omega) c17 c17z.1 c17z.2.1 (by decide +kernel) c17z.2.2 (by decide) (fun _ => rfl) (fun _ => rfl) (fun _ => rfl) (fun _ => rfl) h (fun a e => by have q0 := e 0 _ rfl rfl; have q52 := e 52 _ rfl rfl; simp only [q0, q52]) (fun Γ G hR hM σ15 h => ?_)
        refine (?_ : PT Γ 4 shHM 51 σ15 [(3, .ref (ga Γ (2 + 5 * zix (0 : Int)))), (2, .int (zJ (0 : Int))), (0, .ref (ga Γ 0)), (1, .ref (ga Γ 52))] [])
        have hcs := mk_cs G hM (Nat.le_of_ble_eq_true rfl) (Nat.le_of_ble_eq_true rfl)
        refine p_aload_n G rfl 0 rfl dX0_push_51 ?_
        refine p_aload_n G rfl 3 rfl dX0_push_52 ?_
        refine zift h (fun c22 h => ?_)
        refine zite h (fun c22n h => ?_) (fun c22n h => ?_)
        · cases h
        obtain ⟨σ18, hc, h⟩ := bnd_some h
        have c22z := zk_6 (zix (0 : Int)) (zix_lt c22)
        refine p_callVg G (zl_6 (zix (0 : Int))) dX0_push_53 lk_X0_20 (c_X2_copyFrom (gl Γ) hc) (As := [.ref (ga Γ 52)]) (k0 := 2 + 5 * zix (0 : Int)) (ci := 4) (g0 := some (1, zix (0 : Int))) rfl c22z.1 (zsg_x c22z.2.1 c22n) c22z.2.2 c22n rfl rfl (Nat.le_of_ble_eq_true rfl) ⟨rfl, rfl, Nat.le_of_ble_eq_true rfl, Nat.le_of_ble_eq_true rfl⟩ hcs ?_
        refine p_nm h (fun σ19 h => ?_)
        refine p_aload_n G rfl 2 rfl dX0_push_56 ?_
        refine p_iload_n G rfl 1 rfl dX0_push_57 ?_
        refine p_iconst G rfl dX0_push_58 ?_
        refine p_iadd G dX0_push_59 ?_
        refine p_putI G dX0_push_60 fp_X0_15 (k := 0) rfl rfl rfl rfl h (fun σ20 h => ?_)
        refine p_aload_n G rfl 2 rfl dX0_push_63 ?_
        refine p_aload_n G rfl 2 rfl dX0_push_64 ?_
        refine p_get G dX0_push_65 fl_X0_24 (k := 0) rfl rfl ?_
        refine p_iconst G rfl dX0_push_68 ?_
        refine p_iadd G dX0_push_69 ?_
        refine p_bipush G (by decide) (by decide) dX0_push_70 ?_
        refine p_zmin G gm_964 gm_535 gm_41 gm_536 (by decide) (by decide) hcs dX0_push_72 ?_
        refine p_putI G dX0_push_75 fp_X0_24 (k := 0) rfl rfl rfl rfl h (fun σ21 h => ?_)
        (cases h; exact p_vretN G hM (Nat.le_of_ble_eq_true rfl) (Nat.le_of_ble_eq_true rfl) hR dX0_push_78 rfl rfl)
      · refine p_astore_n (lv' := [(3, .ref (ga Γ (2 + 5 * zix (0 : Int)))), (2, .int (zJ (0 : Int))), (0, .ref (ga Γ 0)), (1, .ref (ga Γ 52))]) G rfl dX0_push_31 (by decide) rfl ?_
        refine p_aload_n G rfl 0 rfl dX0_push_32 ?_
        refine p_ifnonnull (tgt := 51) G dX0_push_33 (by decide) ?_
        refine p_aload_n G rfl 0 rfl dX0_push_51 ?_
        refine p_aload_n G rfl 3 rfl dX0_push_52 ?_
        refine zift h (fun c27 h => ?_)
        refine zite h (fun c27n h => ?_) (fun c27n h => ?_)
        · cases h
        obtain ⟨σ23, hc, h⟩ := bnd_some h
        have c27z := zk_6 (zix (0 : Int)) (zix_lt c27)
        refine p_callVg G (zl_6 (zix (0 : Int))) dX0_push_53 lk_X0_20 (c_X2_copyFrom (gl Γ) hc) (As := [.ref (ga Γ 52)]) (k0 := 2 + 5 * zix (0 : Int)) (ci := 4) (g0 := some (1, zix (0 : Int))) rfl c27z.1 (zsg_x c27z.2.1 c27n) c27z.2.2 c27n rfl rfl (Nat.le_of_ble_eq_true rfl) ⟨rfl, rfl, Nat.le_of_ble_eq_true rfl, Nat.le_of_ble_eq_true rfl⟩ hcs ?_
        refine p_nm h (fun σ24 h => ?_)
        refine p_aload_n G rfl 2 rfl dX0_push_56 ?_
        refine p_iload_n G rfl 1 rfl dX0_push_57 ?_
        refine p_iconst G rfl dX0_push_58 ?_
        refine p_iadd G dX0_push_59 ?_
        refine p_putI G dX0_push_60 fp_X0_15 (k := 0) rfl rfl rfl rfl h (fun σ25 h => ?_)
        refine p_aload_n G rfl 2 rfl dX0_push_63 ?_
        refine p_aload_n G rfl 2 rfl dX0_push_64 ?_
        refine p_get G dX0_push_65 fl_X0_24 (k := 0) rfl rfl ?_
        refine p_iconst G rfl dX0_push_68 ?_
        refine p_iadd G dX0_push_69 ?_
        refine p_bipush G (by decide) (by decide) dX0_push_70 ?_
        refine p_zmin G gm_964 gm_535 gm_41 gm_536 (by decide) (by decide) hcs dX0_push_72 ?_
        refine p_putI G dX0_push_75 fp_X0_24 (k := 0) rfl rfl rfl rfl h (fun σ26 h => ?_)
        (cases h; exact p_vretN G hM (Nat.le_of_ble_eq_true rfl) (Nat.le_of_ble_eq_true rfl) hR dX0_push_78 rfl rfl)
    · refine p_aload_n G rfl 0 rfl dX0_push_16 ?_
      refine p_get G dX0_push_17 fl_X0_15 (k := 0) rfl rfl ?_
      refine p_goto (tgt := 24) G dX0_push_20 (by decide) ?_
      refine p_istore_n (lv' := fun v29 => [(2, .int (zJ v29)), (0, .ref (ga Γ 0)), (1, .ref (ga Γ 52))]) G rfl dX0_push_24 h (by decide) (fun _ => rfl) (fun v29 h => ?_)
      refine p_aload_n G rfl 1 rfl dX0_push_25 ?_
      refine p_get G dX0_push_26 fl_X0_11 (k := 0) rfl rfl ?_
      refine p_iload_n G rfl 0 rfl dX0_push_29 ?_
      refine p_aaldM (b := 2) (d := 5) G dX0_push_30 (k := 1) rfl (fun j => by rw [zt_l]; omega) h (fun c43 c43a h => ?_) (fun c43 c43a h => ?_)
      · refine p_astoreN (lv2 := [(3, .null), (2, .int (zJ v29)), (0, .ref (ga Γ 0)), (1, .ref (ga Γ 52))]) G rfl dX0_push_31 (by decide) rfl ?_
        refine p_aloadN G rfl 0 rfl dX0_push_32 ?_
        refine p_ifnonnullN G dX0_push_33 ?_
        refine zift h (fun c32 h => ?_)
        obtain ⟨σ31, hc, h⟩ := bnd_some h
        have c32z := zk_5 (zix v29) (zix_lt c32)
        refine p_newAast (sc := shMc) (s9 := shM) (lvr := fun r => [(3, .ref r), (2, .int (zJ v29)), (0, .ref (ga Γ 0)), (1, .ref (ga Γ 52))]) (lv' := fun a => [(3, .ref (a (2 + 5 * zix v29))), (2, .int (zJ v29)), (0, .ref (a 0)), (1, .ref (a 52))]) (k0 := 0) (kr := 1) (bs := 2) (ds := 5) G hR hM (zl_5 (zix v29)) 2 1 nw_X0_9 rfl (by decide +kernel) rfl rfl li_X0_19 (fun a => c_X2_init (gl Γ) hc) dX0_push_36 dX0_push_39 dX0_push_40 dX0_push_43 dX0_push_44 dX0_push_45 dX0_push_48 dX0_push_49 dX0_push_50 rfl rfl rfl rfl ⟨rfl, rfl, Nat.le_of_ble_eq_true rfl, Nat.le_of_ble_eq_true rfl⟩ (Nat.le_of_ble_eq_true rfl) (Nat.le_of_ble_eq_true rfl) fl_X0_11 rfl rfl rfl rfl (fun j => by rw [zt_l]; omega) c32 c32z.1 c32z.2.1 (by decide +kernel) c32z.2.2 (by decide) (fun _ => rfl) (fun _ => rfl) (fun _ => rfl) (fun _ => rfl) h (fun a e => by have q0 := e 0 _ rfl rfl; have q52 := e 52 _ rfl rfl; simp only [q0, q52]) (fun Γ G hR hM σ30 h => ?_)
        refine (?_ : PT Γ 4 shHM 51 σ30 [(3, .ref (ga Γ (2 + 5 * zix v29))), (2, .int (zJ v29)), (0, .ref (ga Γ 0)), (1, .ref (ga Γ 52))] [])
        have hcs := mk_cs G hM (Nat.le_of_ble_eq_true rfl) (Nat.le_of_ble_eq_true rfl)
        refine p_aload_n G rfl 0 rfl dX0_push_51 ?_
        refine p_aload_n G rfl 3 rfl dX0_push_52 ?_
        refine zift h (fun c37 h => ?_)
        refine zite h (fun c37n h => ?_) (fun c37n h => ?_)
        · cases h
        obtain ⟨σ33, hc, h⟩ := bnd_some h
        have c37z := zk_6 (zix v29) (zix_lt c37)
        refine p_callVg G (zl_6 (zix v29)) dX0_push_53 lk_X0_20 (c_X2_copyFrom (gl Γ) hc) (As := [.ref (ga Γ 52)]) (k0 := 2 + 5 * zix v29) (ci := 4) (g0 := some (1, zix v29)) rfl c37z.1 (zsg_x c37z.2.1 c37n) c37z.2.2 c37n rfl rfl (Nat.le_of_ble_eq_true rfl) ⟨rfl, rfl, Nat.le_of_ble_eq_true rfl, Nat.le_of_ble_eq_true rfl⟩ hcs ?_
        refine p_nm h (fun σ34 h => ?_)
        refine p_aload_n G rfl 2 rfl dX0_push_56 ?_
        refine p_iload_n G rfl 1 rfl dX0_push_57 ?_
        refine p_iconst G rfl dX0_push_58 ?_
        refine p_iadd G dX0_push_59 ?_
        refine p_putI G dX0_push_60 fp_X0_15 (k := 0) rfl rfl rfl rfl h (fun σ35 h => ?_)
        refine p_aload_n G rfl 2 rfl dX0_push_63 ?_
        refine p_aload_n G rfl 2 rfl dX0_push_64 ?_
        refine p_get G dX0_push_65 fl_X0_24 (k := 0) rfl rfl ?_
        refine p_iconst G rfl dX0_push_68 ?_
        refine p_iadd G dX0_push_69 ?_
        refine p_bipush G (by decide) (by decide) dX0_push_70 ?_
        refine p_zmin G gm_964 gm_535 gm_41 gm_536 (by decide) (by decide) hcs dX0_push_72 ?_
        refine p_putI G dX0_push_75 fp_X0_24 (k := 0) rfl rfl rfl rfl h (fun σ36 h => ?_)
        (cases h; exact p_vretN G hM (Nat.le_of_ble_eq_true rfl) (Nat.le_of_ble_eq_true rfl) hR dX0_push_78 rfl rfl)
      · refine p_astore_n (lv' := [(3, .ref (ga Γ (2 + 5 * zix v29))), (2, .int (zJ v29)), (0, .ref (ga Γ 0)), (1, .ref (ga Γ 52))]) G rfl dX0_push_31 (by decide) rfl ?_
        refine p_aload_n G rfl 0 rfl dX0_push_32 ?_
        refine p_ifnonnull (tgt := 51) G dX0_push_33 (by decide) ?_
        refine p_aload_n G rfl 0 rfl dX0_push_51 ?_
        refine p_aload_n G rfl 3 rfl dX0_push_52 ?_
        refine zift h (fun c42 h => ?_)
        refine zite h (fun c42n h => ?_) (fun c42n h => ?_)
        · cases h
        obtain ⟨σ38, hc, h⟩ := bnd_some h
        have c42z := zk_6 (zix v29) (zix_lt c42)
        refine p_callVg G (zl_6 (zix v29)) dX0_push_53 lk_X0_20 (c_X2_copyFrom (gl Γ) hc) (As := [.ref (ga Γ 52)]) (k0 := 2 + 5 * zix v29) (ci := 4) (g0 := some (1, zix v29)) rfl c42z.1 (zsg_x c42z.2.1 c42n) c42z.2.2 c42n rfl rfl (Nat.le_of_ble_eq_true rfl) ⟨rfl, rfl, Nat.le_of_ble_eq_true rfl, Nat.le_of_ble_eq_true rfl⟩ hcs ?_
        refine p_nm h (fun σ39 h => ?_)
        refine p_aload_n G rfl 2 rfl dX0_push_56 ?_
        refine p_iload_n G rfl 1 rfl dX0_push_57 ?_
        refine p_iconst G rfl dX0_push_58 ?_
        refine p_iadd G dX0_push_59 ?_
        refine p_putI G dX0_push_60 fp_X0_15 (k := 0) rfl rfl rfl rfl h (fun σ40 h => ?_)
        refine p_aload_n G rfl 2 rfl dX0_push_63 ?_
        refine p_aload_n G rfl 2 rfl dX0_push_64 ?_
        refine p_get G dX0_push_65 fl_X0_24 (k := 0) rfl rfl ?_
        refine p_iconst G rfl dX0_push_68 ?_
        refine p_iadd G dX0_push_69 ?_
        refine p_bipush G (by decide) (by decide) dX0_push_70 ?_
        refine p_zmin G gm_964 gm_535 gm_41 gm_536 (by decide) (by decide) hcs dX0_push_72 ?_
        refine p_putI G dX0_push_75 fp_X0_24 (k := 0) rfl rfl rfl rfl h (fun σ41 h => ?_)
        (cases h; exact p_vretN G hM (Nat.le_of_ble_eq_true rfl) (Nat.le_of_ble_eq_true rfl) hR dX0_push_78 rfl rfl)
set_option maxHeartbeats 4000000 in
set_option maxRecDepth 100000 in
theorem c_X0_pop (l : Launch) {D : va_G} {yy : Nat → ClassId} {tk tv a : Nat → Nat} {σ : Mm} {o : Mm × Int} (h : x_X0_pop σ = some o) : CT l yX0_pop cX0_pop 4 (some .boolean) rm_X0_pop shHM D yy tk tv a σ [.ref (a 0), .ref (a 52)] o.1 (some (.int (zJ o.2))) := by
  refine ct_of (Ar := fun a tk => [.ref (a 0), .ref (a 52)]) (by decide) (Nat.le_of_ble_eq_true rfl) (fun Γ G _ _ hR => ?_)
  have hcs := rt_cs hR
  unfold x_X0_pop at h
  refine (?_ : PT Γ 4 shHM 0 σ [(0, .ref (ga Γ 0)), (1, .ref (ga Γ 52))] [])
  have j27 : ∀ (σ_27 : Mm) (w0_27 : Int), x_X0_pop_j27 σ_27 w0_27 = some o → PT Γ 4 shHM 27 σ_27 [(0, .ref (ga Γ 0)), (1, .ref (ga Γ 52))] [.int (zJ w0_27)] := by
    intro σ_27 w0_27 h
    unfold x_X0_pop_j27 at h
    refine p_istore_nU (lv' := [(2, .int (zJ w0_27)), (0, .ref (ga Γ 0)), (1, .ref (ga Γ 52))]) G rfl dX0_pop_27 (by decide) rfl ?_
    refine p_aload_n G rfl 1 rfl dX0_pop_28 ?_
    refine p_get G dX0_pop_29 fl_X0_11 (k := 0) rfl rfl ?_
    refine p_iload_n G rfl 0 rfl dX0_pop_32 ?_
    refine p_aaldM (b := 2) (d := 5) G dX0_pop_33 (k := 1) rfl (fun j => by rw [zt_l]; omega) h (fun c8 c8a h => ?_) (fun c8 c8a h => ?_)
    · refine p_astoreN (lv2 := [(3, .null), (2, .int (zJ w0_27)), (0, .ref (ga Γ 0)), (1, .ref (ga Γ 52))]) G rfl dX0_pop_34 (by decide) rfl ?_
      refine p_aload_n G rfl 2 rfl dX0_pop_35 ?_
      refine p_get G dX0_pop_36 fl_X0_24 (k := 0) rfl rfl ?_
      refine p_ifeq (tgt := 46) G dX0_pop_39 (by decide) h (fun c1 h => ?_) (fun c1 h => ?_)
      · refine p_iconst G rfl dX0_pop_46 ?_
        (cases h; exact p_zret G hR dX0_pop_47 (by decide) rfl rfl)
      · refine p_aloadN G rfl 0 rfl dX0_pop_42 ?_
        refine p_ifnonnullN G dX0_pop_43 ?_
        refine p_iconst G rfl dX0_pop_46 ?_
        (cases h; exact p_zret G hR dX0_pop_47 (by decide) rfl rfl)
    · refine p_astore_n (lv' := [(3, .ref (ga Γ (2 + 5 * zix w0_27))), (2, .int (zJ w0_27)), (0, .ref (ga Γ 0)), (1, .ref (ga Γ 52))]) G rfl dX0_pop_34 (by decide) rfl ?_
      refine p_aload_n G rfl 2 rfl dX0_pop_35 ?_
      refine p_get G dX0_pop_36 fl_X0_24 (k := 0) rfl rfl ?_
      refine p_ifeq (tgt := 46) G dX0_pop_39 (by decide) h (fun c7 h => ?_) (fun c7 h => ?_)
      · refine p_iconst G rfl dX0_pop_46 ?_
        (cases h; exact p_zret G hR dX0_pop_47 (by decide) rfl rfl)
      · refine p_aload_n G rfl 0 rfl dX0_pop_42 ?_
        refine p_ifnonnull (tgt := 48) G dX0_pop_43 (by decide) ?_
        refine p_aload_n G rfl 3 rfl dX0_pop_48 ?_
        refine p_aload_n G rfl 0 rfl dX0_pop_49 ?_
        refine zift h (fun c6 h => ?_)
        refine zite h (fun c6n h => ?_) (fun c6n h => ?_)
        · cases h
        obtain ⟨σ2, hc, h⟩ := bnd_some h
        have c6z := zk_7 (zix w0_27) (zix_lt c6)
        refine p_callV G (zl_7 (zix w0_27)) dX0_pop_50 lk_X0_20 (c_X2_copyFrom (gl Γ) hc) (As := [.ref (ga Γ (2 + 5 * zix w0_27))]) (k0 := 52) (ci := 4) rfl c6z.1 (zsg_x c6z.2.1 c6n) rfl rfl rfl (Nat.le_of_ble_eq_true rfl) ⟨rfl, rfl, Nat.le_of_ble_eq_true rfl, Nat.le_of_ble_eq_true rfl⟩ hcs ?_
        refine p_nm h (fun σ3 h => ?_)
        refine p_aload_n G rfl 2 rfl dX0_pop_53 ?_
        refine p_iload_n G rfl 1 rfl dX0_pop_54 ?_
        refine p_putI G dX0_pop_55 fp_X0_15 (k := 0) rfl rfl rfl rfl h (fun σ4 h => ?_)
        refine p_aload_n G rfl 2 rfl dX0_pop_58 ?_
        refine p_dup G rfl dX0_pop_59 ?_
        refine p_get G dX0_pop_60 fl_X0_24 (k := 0) rfl rfl ?_
        refine p_iconst G rfl dX0_pop_63 ?_
        refine p_isub G dX0_pop_64 ?_
        refine p_putI G dX0_pop_65 fp_X0_24 (k := 0) rfl rfl rfl rfl h (fun σ5 h => ?_)
        refine p_iconst G rfl dX0_pop_68 ?_
        (cases h; exact p_zret G hR dX0_pop_69 (by decide) rfl rfl)
  have j25 : ∀ (σ_25 : Mm), x_X0_pop_j25 σ_25 = some o → PT Γ 4 shHM 25 σ_25 [(0, .ref (ga Γ 0)), (1, .ref (ga Γ 52))] [] := by
    intro σ_25 h
    unfold x_X0_pop_j25 at h
    refine p_bipush G (by decide) (by decide) dX0_pop_25 ?_
    exact j27 _ _ h
  refine p_aload_n G rfl 0 rfl dX0_pop_0 ?_
  refine p_get G dX0_pop_1 fl_X0_15 (k := 0) rfl rfl ?_
  refine p_ifle (tgt := 25) G dX0_pop_4 (by decide) h (fun c10 h => ?_) (fun c10 h => ?_)
  · exact j25 _ h
  · refine p_aload_n G rfl 0 rfl dX0_pop_7 ?_
    refine p_get G dX0_pop_8 fl_X0_15 (k := 0) rfl rfl ?_
    refine p_bipush G (by decide) (by decide) dX0_pop_11 ?_
    refine p_icmpgt (tgt := 25) G dX0_pop_13 (by decide) h (fun c9 h => ?_) (fun c9 h => ?_)
    · exact j25 _ h
    · refine p_aload_n G rfl 0 rfl dX0_pop_16 ?_
      refine p_get G dX0_pop_17 fl_X0_15 (k := 0) rfl rfl ?_
      refine p_iconst G rfl dX0_pop_20 ?_
      refine p_isub G dX0_pop_21 ?_
      refine p_goto (tgt := 27) G dX0_pop_22 (by decide) ?_
      exact j27 _ _ h
set_option maxHeartbeats 4000000 in
set_option maxRecDepth 100000 in
theorem c_X1_init (l : Launch) {D : va_G} {yy : Nat → ClassId} {tk tv a : Nat → Nat} {σ : Mm} {o : Mm} (h : x_X1_init σ = some o) : CTN l yX1_init cX1_init 1 none rm_X1_init shLc shL D yy tk tv a σ [.ref (a 0)] o none 6 264 := by
  refine ctn_of (Ar := fun a tk => [.ref (a 0)]) (by decide) (Nat.le_of_ble_eq_true rfl) (fun h => by cases h) (fun Γ G _ hM hR => ?_)
  have hcs := mk_cs G hM (Nat.le_of_ble_eq_true rfl) (Nat.le_of_ble_eq_true rfl)
  unfold x_X1_init at h
  refine (?_ : PT Γ 1 shLc 0 σ [(0, .ref (ga Γ 0))] [])
  refine p_aload_n G rfl 0 rfl dX1_init_0 ?_
  refine p_objInit G gm_194 gm_58 gm_59 dX1_init_1 (Nat.le_of_ble_eq_true rfl) (Nat.le_of_ble_eq_true rfl) (Nat.le_of_ble_eq_true rfl) ?_
  refine p_aload_n G rfl 0 rfl dX1_init_4 ?_
  refine p_bipush G (by decide) (by decide) dX1_init_5 ?_
  refine p_newaPut (lv' := fun a => [(0, .ref (a 0))]) (st' := fun a => []) (k := 0) (K := 1) (j := 0) (c1 := 1) (kd := 1) (N := 64) G hR hM gm_136 dX1_init_7 dX1_init_9 ff_X1_11 rfl rfl rfl (by decide +kernel) (by decide +kernel) (by decide +kernel) (fun _ => rfl) (fun _ _ h => h) rfl (by decide) (by decide) (by decide) (by decide) (Nat.le_of_ble_eq_true rfl) (Nat.le_of_ble_eq_true rfl) h (fun a e => by have q0 := e 0 _ rfl rfl; exact ⟨by simp only [q0], by rfl⟩) (fun Γ G hR hM σ1 h => ?_)
  refine (?_ : PT Γ 1 shLc 12 σ1 [(0, .ref (ga Γ 0))] [])
  have hcs := mk_cs G hM (Nat.le_of_ble_eq_true rfl) (Nat.le_of_ble_eq_true rfl)
  refine p_aload_n G rfl 0 rfl dX1_init_12 ?_
  refine p_bipush G (by decide) (by decide) dX1_init_13 ?_
  refine p_newaPut (lv' := fun a => [(0, .ref (a 0))]) (st' := fun a => []) (k := 0) (K := 2) (j := 1) (c1 := 0) (kd := 0) (N := 64) G hR hM gm_135 dX1_init_15 dX1_init_17 ff_X1_15 rfl rfl rfl (by decide +kernel) (by decide +kernel) (by decide +kernel) (fun _ => rfl) (fun _ _ h => h) rfl (by decide) (by decide) (by decide) (by decide) (Nat.le_of_ble_eq_true rfl) (Nat.le_of_ble_eq_true rfl) h (fun a e => by have q0 := e 0 _ rfl rfl; exact ⟨by simp only [q0], by rfl⟩) (fun Γ G hR hM σ2 h => ?_)
  refine (?_ : PT Γ 1 shLc 20 σ2 [(0, .ref (ga Γ 0))] [])
  have hcs := mk_cs G hM (Nat.le_of_ble_eq_true rfl) (Nat.le_of_ble_eq_true rfl)
  refine p_aload_n G rfl 0 rfl dX1_init_20 ?_
  refine p_bipush G (by decide) (by decide) dX1_init_21 ?_
  refine p_newaPut (lv' := fun a => [(0, .ref (a 0))]) (st' := fun a => []) (k := 0) (K := 3) (j := 2) (c1 := 0) (kd := 0) (N := 64) G hR hM gm_135 dX1_init_23 dX1_init_25 ff_X1_19 rfl rfl rfl (by decide +kernel) (by decide +kernel) (by decide +kernel) (fun _ => rfl) (fun _ _ h => h) rfl (by decide) (by decide) (by decide) (by decide) (Nat.le_of_ble_eq_true rfl) (Nat.le_of_ble_eq_true rfl) h (fun a e => by have q0 := e 0 _ rfl rfl; exact ⟨by simp only [q0], by rfl⟩) (fun Γ G hR hM σ3 h => ?_)
  refine (?_ : PT Γ 1 shLc 28 σ3 [(0, .ref (ga Γ 0))] [])
  have hcs := mk_cs G hM (Nat.le_of_ble_eq_true rfl) (Nat.le_of_ble_eq_true rfl)
  refine p_aload_n G rfl 0 rfl dX1_init_28 ?_
  refine p_bipush G (by decide) (by decide) dX1_init_29 ?_
  refine p_newaPut (lv' := fun a => [(0, .ref (a 0))]) (st' := fun a => []) (k := 0) (K := 4) (j := 3) (c1 := 0) (kd := 0) (N := 64) G hR hM gm_135 dX1_init_31 dX1_init_33 ff_X1_22 rfl rfl rfl (by decide +kernel) (by decide +kernel) (by decide +kernel) (fun _ => rfl) (fun _ _ h => h) rfl (by decide) (by decide) (by decide) (by decide) (Nat.le_of_ble_eq_true rfl) (Nat.le_of_ble_eq_true rfl) h (fun a e => by have q0 := e 0 _ rfl rfl; exact ⟨by simp only [q0], by rfl⟩) (fun Γ G hR hM σ4 h => ?_)
  refine (?_ : PT Γ 1 shLc 36 σ4 [(0, .ref (ga Γ 0))] [])
  have hcs := mk_cs G hM (Nat.le_of_ble_eq_true rfl) (Nat.le_of_ble_eq_true rfl)
  refine p_aload_n G rfl 0 rfl dX1_init_36 ?_
  refine p_iconst G rfl dX1_init_37 ?_
  refine p_newaPut (lv' := fun a => [(0, .ref (a 0))]) (st' := fun a => []) (k := 0) (K := 5) (j := 5) (c1 := 1) (kd := 1) (N := 4) G hR hM gm_136 dX1_init_38 dX1_init_40 ff_X1_25 rfl rfl rfl (by decide +kernel) (by decide +kernel) (by decide +kernel) (fun _ => rfl) (fun _ _ h => h) rfl (by decide) (by decide) (by decide) (by decide) (Nat.le_of_ble_eq_true rfl) (Nat.le_of_ble_eq_true rfl) h (fun a e => by have q0 := e 0 _ rfl rfl; exact ⟨by simp only [q0], by rfl⟩) (fun Γ G hR hM σ5 h => ?_)
  refine (?_ : PT Γ 1 shLc 43 σ5 [(0, .ref (ga Γ 0))] [])
  have hcs := mk_cs G hM (Nat.le_of_ble_eq_true rfl) (Nat.le_of_ble_eq_true rfl)
  refine p_aload_n G rfl 0 rfl dX1_init_43 ?_
  refine p_iconst G rfl dX1_init_44 ?_
  refine p_newaPut (lv' := fun a => [(0, .ref (a 0))]) (st' := fun a => []) (k := 0) (K := 6) (j := 6) (c1 := 1) (kd := 1) (N := 4) G hR hM gm_136 dX1_init_45 dX1_init_47 ff_X1_28 rfl rfl rfl (by decide +kernel) (by decide +kernel) (by decide +kernel) (fun _ => rfl) (fun _ _ h => h) rfl (by decide) (by decide) (by decide) (by decide) (Nat.le_of_ble_eq_true rfl) (Nat.le_of_ble_eq_true rfl) h (fun a e => by have q0 := e 0 _ rfl rfl; exact ⟨by simp only [q0], by rfl⟩) (fun Γ G hR hM σ6 h => ?_)
  refine (?_ : PT Γ 1 shLc 50 σ6 [(0, .ref (ga Γ 0))] [])
  have hcs := mk_cs G hM (Nat.le_of_ble_eq_true rfl) (Nat.le_of_ble_eq_true rfl)
  refine zift h (fun hf h => ?_)
  refine p_conv (s9 := shL) G [(0, 0), (0, 1), (0, 2), (0, 3), (0, 5), (0, 6)] hR hM zk_8 hf (fun Γ9 G hR hM hga => ?_)
  rw [← hga]
  clear hga hcs
  revert hM hR G
  generalize Γ9 = Γ
  intro G hR hM
  have hcs := mk_cs G hM (Nat.le_of_ble_eq_true rfl) (Nat.le_of_ble_eq_true rfl)
  (cases h; exact p_vretN G hM (Nat.le_of_ble_eq_true rfl) (Nat.le_of_ble_eq_true rfl) hR dX1_init_50 rfl rfl)
set_option maxHeartbeats 4000000 in
set_option maxRecDepth 100000 in
theorem c_J_Long_bitCount (l : Launch) {D : va_G} {yy : Nat → ClassId} {tk tv a : Nat → Nat} {σ : Mm} {p0 : Int64} {o : Int} (h : x_J_Long_bitCount p0 = some o) : CT l yJ_Long_bitCount cJ_Long_bitCount 2 (some .int) rm_J_Long_bitCount shN D yy tk tv a σ [.long p0] σ (some (.int (zJ o))) := by
  refine ct_of (Ar := fun a tk => [.long p0]) (by decide) (Nat.le_of_ble_eq_true rfl) (fun Γ G _ _ hR => ?_)
  have hcs := rt_cs hR
  unfold x_J_Long_bitCount at h
  refine (?_ : PT Γ 2 shN 0 σ [(0, .long p0)] [])
  refine p_lload_n G rfl 0 rfl dJ_Long_bitCount_0 ?_
  refine p_lload_n G rfl 0 rfl dJ_Long_bitCount_1 ?_
  refine p_iconst G rfl dJ_Long_bitCount_2 ?_
  refine p_lushr G dJ_Long_bitCount_3 ?_
  refine p_ldc2 G gm_846 dJ_Long_bitCount_4 ?_
  refine p_land G dJ_Long_bitCount_7 ?_
  refine p_lsub G dJ_Long_bitCount_8 ?_
  refine p_lstore_n (lv' := fun v1 => [(0, .long v1)]) G rfl dJ_Long_bitCount_9 h (by decide) (fun _ => rfl) (fun v1 h => ?_)
  refine p_lload_n G rfl 0 rfl dJ_Long_bitCount_10 ?_
  refine p_ldc2 G gm_847 dJ_Long_bitCount_11 ?_
  refine p_land G dJ_Long_bitCount_14 ?_
  refine p_lload_n G rfl 0 rfl dJ_Long_bitCount_15 ?_
  refine p_iconst G rfl dJ_Long_bitCount_16 ?_
  refine p_lushr G dJ_Long_bitCount_17 ?_
  refine p_ldc2 G gm_847 dJ_Long_bitCount_18 ?_
  refine p_land G dJ_Long_bitCount_21 ?_
  refine p_ladd G dJ_Long_bitCount_22 ?_
  refine p_lstore_n (lv' := fun v2 => [(0, .long v2)]) G rfl dJ_Long_bitCount_23 h (by decide) (fun _ => rfl) (fun v2 h => ?_)
  refine p_lload_n G rfl 0 rfl dJ_Long_bitCount_24 ?_
  refine p_lload_n G rfl 0 rfl dJ_Long_bitCount_25 ?_
  refine p_iconst G rfl dJ_Long_bitCount_26 ?_
  refine p_lushr G dJ_Long_bitCount_27 ?_
  refine p_ladd G dJ_Long_bitCount_28 ?_
  refine p_ldc2 G gm_848 dJ_Long_bitCount_29 ?_
  refine p_land G dJ_Long_bitCount_32 ?_
  refine p_lstore_n (lv' := fun v3 => [(0, .long v3)]) G rfl dJ_Long_bitCount_33 h (by decide) (fun _ => rfl) (fun v3 h => ?_)
  refine p_lload_n G rfl 0 rfl dJ_Long_bitCount_34 ?_
  refine p_lload_n G rfl 0 rfl dJ_Long_bitCount_35 ?_
  refine p_bipush G (by decide) (by decide) dJ_Long_bitCount_36 ?_
  refine p_lushr G dJ_Long_bitCount_38 ?_
  refine p_ladd G dJ_Long_bitCount_39 ?_
  refine p_lstore_n (lv' := fun v4 => [(0, .long v4)]) G rfl dJ_Long_bitCount_40 h (by decide) (fun _ => rfl) (fun v4 h => ?_)
  refine p_lload_n G rfl 0 rfl dJ_Long_bitCount_41 ?_
  refine p_lload_n G rfl 0 rfl dJ_Long_bitCount_42 ?_
  refine p_bipush G (by decide) (by decide) dJ_Long_bitCount_43 ?_
  refine p_lushr G dJ_Long_bitCount_45 ?_
  refine p_ladd G dJ_Long_bitCount_46 ?_
  refine p_lstore_n (lv' := fun v5 => [(0, .long v5)]) G rfl dJ_Long_bitCount_47 h (by decide) (fun _ => rfl) (fun v5 h => ?_)
  refine p_lload_n G rfl 0 rfl dJ_Long_bitCount_48 ?_
  refine p_lload_n G rfl 0 rfl dJ_Long_bitCount_49 ?_
  refine p_bipush G (by decide) (by decide) dJ_Long_bitCount_50 ?_
  refine p_lushr G dJ_Long_bitCount_52 ?_
  refine p_ladd G dJ_Long_bitCount_53 ?_
  refine p_lstore_n (lv' := fun v6 => [(0, .long v6)]) G rfl dJ_Long_bitCount_54 h (by decide) (fun _ => rfl) (fun v6 h => ?_)
  refine p_lload_n G rfl 0 rfl dJ_Long_bitCount_55 ?_
  refine p_l2i G dJ_Long_bitCount_56 ?_
  refine p_bipush G (by decide) (by decide) dJ_Long_bitCount_57 ?_
  refine p_iand G dJ_Long_bitCount_59 ?_
  (cases h; exact p_iret G hR dJ_Long_bitCount_60 rfl rfl)
set_option maxHeartbeats 4000000 in
set_option maxRecDepth 100000 in
theorem c_X1_addMeld (l : Launch) {D : va_G} {yy : Nat → ClassId} {tk tv a : Nat → Nat} {σ : Mm} {p1 : Int64} {p3 : Int} {o : Mm} (h : x_X1_addMeld σ p1 p3 = some o) : CT l yX1_addMeld cX1_addMeld 4 none rm_X1_addMeld shL D yy tk tv a σ [.ref (a 0), .long p1, .int (zJ p3)] o none := by
  refine ct_of (Ar := fun a tk => [.ref (a 0), .long p1, .int (zJ p3)]) (by decide) (Nat.le_of_ble_eq_true rfl) (fun Γ G _ _ hR => ?_)
  have hcs := rt_cs hR
  unfold x_X1_addMeld at h
  refine (?_ : PT Γ 4 shL 0 σ [(0, .ref (ga Γ 0)), (1, .long p1), (3, .int (zJ p3))] [])
  refine p_aload_n G rfl 0 rfl dX1_addMeld_0 ?_
  refine p_get G dX1_addMeld_1 fl_X1_35 (k := 0) rfl rfl ?_
  refine p_bipush G (by decide) (by decide) dX1_addMeld_4 ?_
  refine p_icmpge (tgt := 39) G dX1_addMeld_6 (by decide) h (fun c6 h => ?_) (fun c6 h => ?_)
  · (cases h; exact p_vret G hR dX1_addMeld_39 rfl rfl)
  · refine p_aload_n G rfl 0 rfl dX1_addMeld_9 ?_
    refine p_get G dX1_addMeld_10 fl_X1_11 (k := 0) rfl rfl ?_
    refine p_aload_n G rfl 0 rfl dX1_addMeld_13 ?_
    refine p_get G dX1_addMeld_14 fl_X1_35 (k := 0) rfl rfl ?_
    refine p_lload_n G rfl 1 rfl dX1_addMeld_17 ?_
    refine p_last G dX1_addMeld_18 (k := 1) rfl (zt_c _) rfl h (fun σ1 c2 h => ?_)
    refine p_aload_n G rfl 0 rfl dX1_addMeld_19 ?_
    refine p_get G dX1_addMeld_20 fl_X1_15 (k := 0) rfl rfl ?_
    refine p_aload_n G rfl 0 rfl dX1_addMeld_23 ?_
    refine p_get G dX1_addMeld_24 fl_X1_35 (k := 0) rfl rfl ?_
    refine p_iload_n G rfl 2 rfl dX1_addMeld_27 ?_
    refine p_iast G dX1_addMeld_28 (k := 2) rfl (zt_c _) rfl h (fun σ3 c4 h => ?_)
    refine p_aload_n G rfl 0 rfl dX1_addMeld_29 ?_
    refine p_dup G rfl dX1_addMeld_30 ?_
    refine p_get G dX1_addMeld_31 fl_X1_35 (k := 0) rfl rfl ?_
    refine p_iconst G rfl dX1_addMeld_34 ?_
    refine p_iadd G dX1_addMeld_35 ?_
    refine p_putI G dX1_addMeld_36 fp_X1_35 (k := 0) rfl rfl rfl rfl h (fun σ5 h => ?_)
    (cases h; exact p_vret G hR dX1_addMeld_39 rfl rfl)
set_option maxHeartbeats 4000000 in
set_option maxRecDepth 100000 in
theorem c_X1_collectSets (l : Launch) {D : va_G} {yy : Nat → ClassId} {tk tv a : Nat → Nat} {σ : Mm} {p1 : Int64} {o : Mm} (h : x_X1_collectSets σ p1 = some o) : CT l yX1_collectSets cX1_collectSets 5 none rm_X1_collectSets shL D yy tk tv a σ [.ref (a 0), .long p1] o none := by
  refine ct_of (Ar := fun a tk => [.ref (a 0), .long p1]) (by decide) (Nat.le_of_ble_eq_true rfl) (fun Γ G _ _ hR => ?_)
  have hcs := rt_cs hR
  unfold x_X1_collectSets at h
  refine (?_ : PT Γ 5 shL 0 σ [(0, .ref (ga Γ 0)), (1, .long p1)] [])
  refine p_lload_n G rfl 1 rfl dX1_collectSets_0 ?_
  obtain ⟨v1, hc, h⟩ := bnd_some h
  refine p_callS0 G dX1_collectSets_1 lk_X1_97 (c_J_Long_bitCount (gl Γ) hc) (As := [.long p1]) rfl zk_9 rfl (Nat.le_of_ble_eq_true rfl) ⟨rfl, rfl, Nat.le_of_ble_eq_true rfl, Nat.le_of_ble_eq_true rfl⟩ hcs ?_
  refine p_istore_nU (lv' := [(3, .int (zJ v1)), (0, .ref (ga Γ 0)), (1, .long p1)]) G rfl dX1_collectSets_4 (by decide) rfl ?_
  refine p_iload_n G rfl 0 rfl dX1_collectSets_5 ?_
  refine p_iconst G rfl dX1_collectSets_6 ?_
  refine p_icmpge (tgt := 11) G dX1_collectSets_7 (by decide) h (fun c10 h => ?_) (fun c10 h => ?_)
  · refine p_aload_n G rfl 1 rfl dX1_collectSets_11 ?_
    refine p_lload_n G rfl 2 rfl dX1_collectSets_12 ?_
    refine p_iconst G rfl dX1_collectSets_13 ?_
    obtain ⟨σ2, hc, h⟩ := bnd_some h
    refine p_callVi G dX1_collectSets_14 lk_X1_102 (c_X1_addMeld (gl Γ) hc) (As := [.long p1, .int (zJ (1 : Int))]) (ci := 3) rfl rfl rfl rfl (Nat.le_of_ble_eq_true rfl) ⟨rfl, rfl, Nat.le_of_ble_eq_true rfl, Nat.le_of_ble_eq_true rfl⟩ hcs ?_
    refine p_iconst G rfl dX1_collectSets_17 ?_
    refine p_istoreU (lv' := [(4, .int (zJ (0 : Int))), (3, .int (zJ v1)), (0, .ref (ga Γ 0)), (1, .long p1)]) G dX1_collectSets_18 (by decide) rfl ?_
    refine p_lv [2, 3, 1, 0] rfl ?_
    obtain ⟨e8, hl20, h⟩ := bnd_some h
    have hX20_57 : ∀ (σ9 : Mm), σ9 = e8 → PT Γ 5 shL 57 σ9 [] [] := by
      intro σ9 he
      subst he
      (cases h; exact p_vret G hR dX1_collectSets_57 rfl rfl)
    refine lup_walk (s := (σ2, (0 : Int))) (At := fun s : Mm × Int => PT Γ 5 shL 20 s.1 [(0, .ref (ga Γ 0)), (1, .long p1), (3, .int (zJ v1)), (4, .int (zJ s.2))] []) (fun s r hf hin20 hout20 => ?_) hl20
    obtain ⟨σ20, u4_20⟩ := s
    have h : x_X1_collectSets_b20 p1 v1 σ20 u4_20 = some r := hf
    clear hf
    unfold x_X1_collectSets_b20 at h
    refine (?_ : PT Γ 5 shL 20 σ20 [(0, .ref (ga Γ 0)), (1, .long p1), (3, .int (zJ v1)), (4, .int (zJ u4_20))] [])
    refine p_iload G 3 rfl dX1_collectSets_20 ?_
    refine p_iconst G rfl dX1_collectSets_22 ?_
    refine p_icmpge (tgt := 57) G dX1_collectSets_23 (by decide) h (fun c6 h => ?_) (fun c6 h => ?_)
    · refine p_lv [] rfl ?_
      have he := hout20 _ (Option.some.inj h).symm
      subst he
      exact hX20_57 _ rfl
    · refine p_iload_n G rfl 2 rfl dX1_collectSets_26 ?_
      refine p_iconst G rfl dX1_collectSets_27 ?_
      refine p_icmpne (tgt := 57) G dX1_collectSets_28 (by decide) h (fun c5 h => ?_) (fun c5 h => ?_)
      · refine p_lv [] rfl ?_
        have he := hout20 _ (Option.some.inj h).symm
        subst he
        exact hX20_57 _ rfl
      · refine p_aload_n G rfl 0 rfl dX1_collectSets_31 ?_
        refine p_lload_n G rfl 1 rfl dX1_collectSets_32 ?_
        refine p_ldc2 G gm_853 dX1_collectSets_33 ?_
        refine p_iload G 3 rfl dX1_collectSets_36 ?_
        refine p_bipush G (by decide) (by decide) dX1_collectSets_38 ?_
        refine p_imul G dX1_collectSets_40 ?_
        refine p_lshl G dX1_collectSets_41 ?_
        refine p_ldc2 G gm_854 dX1_collectSets_42 ?_
        refine p_lxor G dX1_collectSets_45 ?_
        refine p_land G dX1_collectSets_46 ?_
        refine p_iconst G rfl dX1_collectSets_47 ?_
        obtain ⟨σ3, hc, h⟩ := bnd_some h
        refine p_callVi G dX1_collectSets_48 lk_X1_102 (c_X1_addMeld (gl Γ) hc) (As := [.long (p1 &&& ((zlshl (8191 : Int64) (u4_20 * (13 : Int))) ^^^ (-1 : Int64))), .int (zJ (1 : Int))]) (ci := 3) rfl rfl rfl rfl (Nat.le_of_ble_eq_true rfl) ⟨rfl, rfl, Nat.le_of_ble_eq_true rfl, Nat.le_of_ble_eq_true rfl⟩ hcs ?_
        refine p_iinc (lv' := fun v4 => [(4, .int (zJ v4)), (0, .ref (ga Γ 0)), (1, .long p1), (3, .int (zJ v1))]) G dX1_collectSets_51 h 3 rfl (by decide) (fun _ => rfl) (fun v4 h => ?_)
        refine p_goto (tgt := 20) G dX1_collectSets_54 (by decide) ?_
        refine p_lv [1, 2, 3, 0] rfl ?_
        exact hin20 _ (Option.some.inj h).symm
  · (cases h; exact p_vret G hR dX1_collectSets_10 rfl rfl)
set_option maxHeartbeats 4000000 in
set_option maxRecDepth 100000 in
theorem c_X1_collectRuns (l : Launch) {D : va_G} {yy : Nat → ClassId} {tk tv a : Nat → Nat} {σ : Mm} {p1 : Int64} {p3 : Int} {o : Mm} (h : x_X1_collectRuns σ p1 p3 = some o) : CT l yX1_collectRuns cX1_collectRuns 11 none rm_X1_collectRuns shL D yy tk tv a σ [.ref (a 0), .long p1, .int (zJ p3)] o none := by
  refine ct_of (Ar := fun a tk => [.ref (a 0), .long p1, .int (zJ p3)]) (by decide) (Nat.le_of_ble_eq_true rfl) (fun Γ G _ _ hR => ?_)
  have hcs := rt_cs hR
  unfold x_X1_collectRuns at h
  refine (?_ : PT Γ 11 shL 0 σ [(0, .ref (ga Γ 0)), (1, .long p1), (3, .int (zJ p3))] [])
  refine p_lload_n G rfl 1 rfl dX1_collectRuns_0 ?_
  obtain ⟨v1, hc, h⟩ := bnd_some h
  refine p_callS0 G dX1_collectRuns_1 lk_X1_97 (c_J_Long_bitCount (gl Γ) hc) (As := [.long p1]) rfl zk_9 rfl (Nat.le_of_ble_eq_true rfl) ⟨rfl, rfl, Nat.le_of_ble_eq_true rfl, Nat.le_of_ble_eq_true rfl⟩ hcs ?_
  refine p_iconst G rfl dX1_collectRuns_4 ?_
  refine p_icmpge (tgt := 9) G dX1_collectRuns_5 (by decide) h (fun c21 h => ?_) (fun c21 h => ?_)
  · refine p_iconst G rfl dX1_collectRuns_9 ?_
    refine p_istoreU (lv' := [(4, .int (zJ (0 : Int))), (0, .ref (ga Γ 0)), (1, .long p1), (3, .int (zJ p3))]) G dX1_collectRuns_10 (by decide) rfl ?_
    refine p_lv [1, 2, 3, 0] rfl ?_
    obtain ⟨e19, hl12, h⟩ := bnd_some h
    have hX12_106 : ∀ (σ20 : Mm), σ20 = e19 → PT Γ 11 shL 106 σ20 [] [] := by
      intro σ20 he
      subst he
      (cases h; exact p_vret G hR dX1_collectRuns_106 rfl rfl)
    refine lup_walk (s := (σ, (0 : Int))) (At := fun s : Mm × Int => PT Γ 11 shL 12 s.1 [(0, .ref (ga Γ 0)), (1, .long p1), (3, .int (zJ p3)), (4, .int (zJ s.2))] []) (fun s r hf hin12 hout12 => ?_) hl12
    obtain ⟨σ12, u4_12⟩ := s
    have h : x_X1_collectRuns_b12 p1 p3 σ12 u4_12 = some r := hf
    clear hf
    have j34 : ∀ (σ_34 : Mm) (v4_34 : Int) (v5_34 : Int64) (w0_34 : Int), x_X1_collectRuns_j34_12 p1 p3 σ_34 v4_34 v5_34 w0_34 = some r → PT Γ 11 shL 34 σ_34 [(0, .ref (ga Γ 0)), (1, .long p1), (3, .int (zJ p3)), (4, .int (zJ v4_34)), (5, .long v5_34)] [.int (zJ w0_34)] := by
      intro σ_34 v4_34 v5_34 w0_34 h
      unfold x_X1_collectRuns_j34_12 at h
      refine p_istoreU (lv' := [(7, .int (zJ w0_34)), (0, .ref (ga Γ 0)), (1, .long p1), (3, .int (zJ p3)), (4, .int (zJ v4_34)), (5, .long v5_34)]) G dX1_collectRuns_34 (by decide) rfl ?_
      refine p_iconst G rfl dX1_collectRuns_36 ?_
      refine p_istoreU (lv' := [(8, .int (zJ (1 : Int))), (7, .int (zJ w0_34)), (0, .ref (ga Γ 0)), (1, .long p1), (3, .int (zJ p3)), (4, .int (zJ v4_34)), (5, .long v5_34)]) G dX1_collectRuns_37 (by decide) rfl ?_
      refine p_lv [2, 3, 4, 5, 6, 1, 0] rfl ?_
      obtain ⟨e11, hl39, h⟩ := bnd_some h
      have hX39_69 : ∀ (σ12 : Mm), (.inl σ12) = e11 → PT Γ 11 shL 69 σ12 [(0, .ref (ga Γ 0)), (1, .long p1), (3, .int (zJ p3)), (4, .int (zJ v4_34))] [] := by
        intro σ12 he
        subst he
        rw [zel_l] at h
        refine p_goto (tgt := 100) G dX1_collectRuns_69 (by decide) ?_
        refine p_iinc (lv' := fun v13 => [(4, .int (zJ v13)), (0, .ref (ga Γ 0)), (1, .long p1), (3, .int (zJ p3))]) G dX1_collectRuns_100 h 3 rfl (by decide) (fun _ => rfl) (fun v13 h => ?_)
        refine p_goto (tgt := 12) G dX1_collectRuns_103 (by decide) ?_
        refine p_lv [1, 2, 3, 0] rfl ?_
        exact hin12 _ (Option.some.inj h).symm
      have hX39_100 : ∀ (σ14 : Mm), (.inr σ14) = e11 → PT Γ 11 shL 100 σ14 [(0, .ref (ga Γ 0)), (1, .long p1), (3, .int (zJ p3)), (4, .int (zJ v4_34))] [] := by
        intro σ14 he
        subst he
        rw [zel_r] at h
        refine p_iinc (lv' := fun v15 => [(4, .int (zJ v15)), (0, .ref (ga Γ 0)), (1, .long p1), (3, .int (zJ p3))]) G dX1_collectRuns_100 h 3 rfl (by decide) (fun _ => rfl) (fun v15 h => ?_)
        refine p_goto (tgt := 12) G dX1_collectRuns_103 (by decide) ?_
        refine p_lv [1, 2, 3, 0] rfl ?_
        exact hin12 _ (Option.some.inj h).symm
      refine lup_walk (s := (σ_34, v5_34, (1 : Int))) (At := fun s : Mm × Int64 × Int => PT Γ 11 shL 39 s.1 [(0, .ref (ga Γ 0)), (1, .long p1), (3, .int (zJ p3)), (4, .int (zJ v4_34)), (5, .long s.2.1), (7, .int (zJ w0_34)), (8, .int (zJ s.2.2))] []) (fun s r hf hin39 hout39 => ?_) hl39
      obtain ⟨σ39, u5_39, u8_39⟩ := s
      have h : x_X1_collectRuns_b39 p1 p3 v4_34 w0_34 σ39 u5_39 u8_39 = some r := hf
      clear hf
      unfold x_X1_collectRuns_b39 at h
      refine (?_ : PT Γ 11 shL 39 σ39 [(0, .ref (ga Γ 0)), (1, .long p1), (3, .int (zJ p3)), (4, .int (zJ v4_34)), (5, .long u5_39), (7, .int (zJ w0_34)), (8, .int (zJ u8_39))] [])
      refine p_iload G 6 rfl dX1_collectRuns_39 ?_
      refine p_iload G 5 rfl dX1_collectRuns_41 ?_
      refine p_icmpgt (tgt := 100) G dX1_collectRuns_43 (by decide) h (fun c9 h => ?_) (fun c9 h => ?_)
      · refine p_lv [0, 1, 2, 3] rfl ?_
        have he := hout39 _ (Option.some.inj h).symm
        subst he
        exact hX39_100 _ rfl
      · refine p_lconst G (v := 1) (by decide) dX1_collectRuns_46 ?_
        refine p_iload G 3 rfl dX1_collectRuns_47 ?_
        refine p_iload G 6 rfl dX1_collectRuns_49 ?_
        refine p_iadd G dX1_collectRuns_51 ?_
        refine p_iconst G rfl dX1_collectRuns_52 ?_
        refine p_isub G dX1_collectRuns_53 ?_
        refine p_bipush G (by decide) (by decide) dX1_collectRuns_54 ?_
        refine p_iremK G dX1_collectRuns_56 (by decide) ?_
        refine p_lshl G dX1_collectRuns_57 ?_
        refine p_lstore (lv' := fun v2 => [(9, .long v2), (0, .ref (ga Γ 0)), (1, .long p1), (3, .int (zJ p3)), (4, .int (zJ v4_34)), (5, .long u5_39), (7, .int (zJ w0_34)), (8, .int (zJ u8_39))]) G dX1_collectRuns_58 h (by decide) (fun _ => rfl) (fun v2 h => ?_)
        refine p_lload_n G rfl 2 rfl dX1_collectRuns_60 ?_
        refine p_lload G 0 rfl dX1_collectRuns_61 ?_
        refine p_land G dX1_collectRuns_63 ?_
        refine p_lconst G (v := 0) (by decide) dX1_collectRuns_64 ?_
        refine p_lcmp G dX1_collectRuns_65 ?_
        refine p_ifne (tgt := 72) G dX1_collectRuns_66 (by decide) h (fun c8 h => ?_) (fun c8 h => ?_)
        · refine p_lload G 5 rfl dX1_collectRuns_72 ?_
          refine p_lload G 0 rfl dX1_collectRuns_74 ?_
          refine p_lor G dX1_collectRuns_76 ?_
          refine p_lstore (lv' := fun v3 => [(5, .long v3), (9, .long v2), (0, .ref (ga Γ 0)), (1, .long p1), (3, .int (zJ p3)), (4, .int (zJ v4_34)), (7, .int (zJ w0_34)), (8, .int (zJ u8_39))]) G dX1_collectRuns_77 h (by decide) (fun _ => rfl) (fun v3 h => ?_)
          refine p_iload G 7 rfl dX1_collectRuns_79 ?_
          refine p_iconst G rfl dX1_collectRuns_81 ?_
          refine p_icmplt (tgt := 94) G dX1_collectRuns_82 (by decide) h (fun c7 h => ?_) (fun c7 h => ?_)
          · refine p_iinc (lv' := fun v4 => [(8, .int (zJ v4)), (5, .long v3), (9, .long v2), (0, .ref (ga Γ 0)), (1, .long p1), (3, .int (zJ p3)), (4, .int (zJ v4_34)), (7, .int (zJ w0_34))]) G dX1_collectRuns_94 h 7 rfl (by decide) (fun _ => rfl) (fun v4 h => ?_)
            refine p_goto (tgt := 39) G dX1_collectRuns_97 (by decide) ?_
            refine p_lv [3, 4, 5, 6, 1, 7, 0] rfl ?_
            exact hin39 _ (Option.some.inj h).symm
          · refine p_aload_n G rfl 2 rfl dX1_collectRuns_85 ?_
            refine p_lload G 0 rfl dX1_collectRuns_86 ?_
            refine p_iload_n G rfl 4 rfl dX1_collectRuns_88 ?_
            refine p_lshl G dX1_collectRuns_89 ?_
            refine p_iconst G rfl dX1_collectRuns_90 ?_
            obtain ⟨σ5, hc, h⟩ := bnd_some h
            refine p_callVi G dX1_collectRuns_91 lk_X1_102 (c_X1_addMeld (gl Γ) hc) (As := [.long (zlshl v3 p3), .int (zJ (2 : Int))]) (ci := 3) rfl rfl rfl rfl (Nat.le_of_ble_eq_true rfl) ⟨rfl, rfl, Nat.le_of_ble_eq_true rfl, Nat.le_of_ble_eq_true rfl⟩ hcs ?_
            refine p_iinc (lv' := fun v6 => [(8, .int (zJ v6)), (5, .long v3), (9, .long v2), (0, .ref (ga Γ 0)), (1, .long p1), (3, .int (zJ p3)), (4, .int (zJ v4_34)), (7, .int (zJ w0_34))]) G dX1_collectRuns_94 h 7 rfl (by decide) (fun _ => rfl) (fun v6 h => ?_)
            refine p_goto (tgt := 39) G dX1_collectRuns_97 (by decide) ?_
            refine p_lv [3, 4, 5, 6, 1, 7, 0] rfl ?_
            exact hin39 _ (Option.some.inj h).symm
        · refine p_lv [1, 2, 3, 4] rfl ?_
          have he := hout39 _ (Option.some.inj h).symm
          subst he
          exact hX39_69 _ rfl
    unfold x_X1_collectRuns_b12 at h
    refine (?_ : PT Γ 11 shL 12 σ12 [(0, .ref (ga Γ 0)), (1, .long p1), (3, .int (zJ p3)), (4, .int (zJ u4_12))] [])
    refine p_iload G 3 rfl dX1_collectRuns_12 ?_
    refine p_bipush G (by decide) (by decide) dX1_collectRuns_14 ?_
    refine p_icmpge (tgt := 106) G dX1_collectRuns_16 (by decide) h (fun c17 h => ?_) (fun c17 h => ?_)
    · refine p_lv [] rfl ?_
      have he := hout12 _ (Option.some.inj h).symm
      subst he
      exact hX12_106 _ rfl
    · refine p_lconst G (v := 0) (by decide) dX1_collectRuns_19 ?_
      refine p_lstoreU (lv' := [(5, .long (0 : Int64)), (0, .ref (ga Γ 0)), (1, .long p1), (3, .int (zJ p3)), (4, .int (zJ u4_12))]) G dX1_collectRuns_20 (by decide) rfl ?_
      refine p_iload G 4 rfl dX1_collectRuns_22 ?_
      refine p_ifne (tgt := 32) G dX1_collectRuns_24 (by decide) h (fun c16 h => ?_) (fun c16 h => ?_)
      · refine p_bipush G (by decide) (by decide) dX1_collectRuns_32 ?_
        refine p_lv [1, 2, 3, 4, 0] rfl ?_
        exact j34 _ _ _ _ h
      · refine p_bipush G (by decide) (by decide) dX1_collectRuns_27 ?_
        refine p_goto (tgt := 34) G dX1_collectRuns_29 (by decide) ?_
        refine p_lv [1, 2, 3, 4, 0] rfl ?_
        exact j34 _ _ _ _ h
  · (cases h; exact p_vret G hR dX1_collectRuns_8 rfl rfl)
set_option maxHeartbeats 4000000 in
set_option maxRecDepth 100000 in
theorem c_X1_collect (l : Launch) {D : va_G} {yy : Nat → ClassId} {tk tv a : Nat → Nat} {σ : Mm} {p1 : Int64} {o : Mm} (h : x_X1_collect σ p1 = some o) : CT l yX1_collect cX1_collect 4 none rm_X1_collect shL D yy tk tv a σ [.ref (a 0), .long p1] o none := by
  refine ct_of (Ar := fun a tk => [.ref (a 0), .long p1]) (by decide) (Nat.le_of_ble_eq_true rfl) (fun Γ G _ _ hR => ?_)
  have hcs := rt_cs hR
  unfold x_X1_collect at h
  refine (?_ : PT Γ 4 shL 0 σ [(0, .ref (ga Γ 0)), (1, .long p1)] [])
  refine p_aload_n G rfl 0 rfl dX1_collect_0 ?_
  refine p_iconst G rfl dX1_collect_1 ?_
  refine p_putI G dX1_collect_2 fp_X1_35 (k := 0) rfl rfl rfl rfl h (fun σ1 h => ?_)
  refine p_iconst G rfl dX1_collect_5 ?_
  refine p_istore_nU (lv' := [(3, .int (zJ (0 : Int))), (0, .ref (ga Γ 0)), (1, .long p1)]) G rfl dX1_collect_6 (by decide) rfl ?_
  refine p_lv [1, 2, 0] rfl ?_
  obtain ⟨e6, hl7, h⟩ := bnd_some h
  have hX7_30 : ∀ (σ7 : Mm), σ7 = e6 → PT Γ 4 shL 30 σ7 [(0, .ref (ga Γ 0)), (1, .long p1)] [] := by
    intro σ7 he
    subst he
    refine p_iconst G rfl dX1_collect_30 ?_
    refine p_istore_nU (lv' := [(3, .int (zJ (0 : Int))), (0, .ref (ga Γ 0)), (1, .long p1)]) G rfl dX1_collect_31 (by decide) rfl ?_
    refine p_lv [1, 2, 0] rfl ?_
    obtain ⟨e12, hl32, h⟩ := bnd_some h
    have hX32_61 : ∀ (σ13 : Mm), σ13 = e12 → PT Γ 4 shL 61 σ13 [] [] := by
      intro σ13 he
      subst he
      (cases h; exact p_vret G hR dX1_collect_61 rfl rfl)
    refine lup_walk (s := (σ7, (0 : Int))) (At := fun s : Mm × Int => PT Γ 4 shL 32 s.1 [(0, .ref (ga Γ 0)), (1, .long p1), (3, .int (zJ s.2))] []) (fun s r hf hin32 hout32 => ?_) hl32
    obtain ⟨σ32, u3_32⟩ := s
    have h : x_X1_collect_b32 p1 σ32 u3_32 = some r := hf
    clear hf
    unfold x_X1_collect_b32 at h
    refine (?_ : PT Γ 4 shL 32 σ32 [(0, .ref (ga Γ 0)), (1, .long p1), (3, .int (zJ u3_32))] [])
    refine p_iload_n G rfl 2 rfl dX1_collect_32 ?_
    refine p_iconst G rfl dX1_collect_33 ?_
    refine p_icmpge (tgt := 61) G dX1_collect_34 (by decide) h (fun c10 h => ?_) (fun c10 h => ?_)
    · refine p_lv [] rfl ?_
      have he := hout32 _ (Option.some.inj h).symm
      subst he
      exact hX32_61 _ rfl
    · refine p_aload_n G rfl 0 rfl dX1_collect_37 ?_
      refine p_lload_n G rfl 1 rfl dX1_collect_38 ?_
      refine p_iload_n G rfl 2 rfl dX1_collect_39 ?_
      refine p_bipush G (by decide) (by decide) dX1_collect_40 ?_
      refine p_imul G dX1_collect_42 ?_
      refine p_lushr G dX1_collect_43 ?_
      refine p_ldc2 G gm_853 dX1_collect_44 ?_
      refine p_land G dX1_collect_47 ?_
      refine p_iload_n G rfl 2 rfl dX1_collect_48 ?_
      refine p_bipush G (by decide) (by decide) dX1_collect_49 ?_
      refine p_imul G dX1_collect_51 ?_
      obtain ⟨σ8, hc, h⟩ := bnd_some h
      refine p_callVi G dX1_collect_52 lk_X1_93 (c_X1_collectRuns (gl Γ) hc) (As := [.long ((zlushr p1 (u3_32 * (13 : Int))) &&& (8191 : Int64)), .int (zJ (u3_32 * (13 : Int)))]) (ci := 3) rfl rfl rfl rfl (Nat.le_of_ble_eq_true rfl) ⟨rfl, rfl, Nat.le_of_ble_eq_true rfl, Nat.le_of_ble_eq_true rfl⟩ hcs ?_
      refine p_iinc (lv' := fun v9 => [(3, .int (zJ v9)), (0, .ref (ga Γ 0)), (1, .long p1)]) G dX1_collect_55 h 2 rfl (by decide) (fun _ => rfl) (fun v9 h => ?_)
      refine p_goto (tgt := 32) G dX1_collect_58 (by decide) ?_
      refine p_lv [1, 2, 0] rfl ?_
      exact hin32 _ (Option.some.inj h).symm
  refine lup_walk (s := (σ1, (0 : Int))) (At := fun s : Mm × Int => PT Γ 4 shL 7 s.1 [(0, .ref (ga Γ 0)), (1, .long p1), (3, .int (zJ s.2))] []) (fun s r hf hin7 hout7 => ?_) hl7
  obtain ⟨σ7, u3_7⟩ := s
  have h : x_X1_collect_b7 p1 σ7 u3_7 = some r := hf
  clear hf
  unfold x_X1_collect_b7 at h
  refine (?_ : PT Γ 4 shL 7 σ7 [(0, .ref (ga Γ 0)), (1, .long p1), (3, .int (zJ u3_7))] [])
  refine p_iload_n G rfl 2 rfl dX1_collect_7 ?_
  refine p_bipush G (by decide) (by decide) dX1_collect_8 ?_
  refine p_icmpge (tgt := 30) G dX1_collect_10 (by decide) h (fun c4 h => ?_) (fun c4 h => ?_)
  · refine p_lv [0, 1] rfl ?_
    have he := hout7 _ (Option.some.inj h).symm
    subst he
    exact hX7_30 _ rfl
  · refine p_aload_n G rfl 0 rfl dX1_collect_13 ?_
    refine p_lload_n G rfl 1 rfl dX1_collect_14 ?_
    refine p_ldc2 G gm_838 dX1_collect_15 ?_
    refine p_iload_n G rfl 2 rfl dX1_collect_18 ?_
    refine p_lshl G dX1_collect_19 ?_
    refine p_land G dX1_collect_20 ?_
    obtain ⟨σ2, hc, h⟩ := bnd_some h
    refine p_callVi G dX1_collect_21 lk_X1_88 (c_X1_collectSets (gl Γ) hc) (As := [.long (p1 &&& (zlshl (549822930945 : Int64) u3_7))]) (ci := 3) rfl rfl rfl rfl (Nat.le_of_ble_eq_true rfl) ⟨rfl, rfl, Nat.le_of_ble_eq_true rfl, Nat.le_of_ble_eq_true rfl⟩ hcs ?_
    refine p_iinc (lv' := fun v3 => [(3, .int (zJ v3)), (0, .ref (ga Γ 0)), (1, .long p1)]) G dX1_collect_24 h 2 rfl (by decide) (fun _ => rfl) (fun v3 h => ?_)
    refine p_goto (tgt := 7) G dX1_collect_27 (by decide) ?_
    refine p_lv [1, 2, 0] rfl ?_
    exact hin7 _ (Option.some.inj h).symm
set_option maxHeartbeats 4000000 in
set_option maxRecDepth 100000 in
theorem c_X6_lowestOf (l : Launch) {D : va_G} {yy : Nat → ClassId} {tk tv a : Nat → Nat} {σ : Mm} {p0 : Int64} {o : Int} (h : x_X6_lowestOf p0 = some o) : CT l yX6_lowestOf cX6_lowestOf 2 (some .int) rm_X6_lowestOf shN D yy tk tv a σ [.long p0] σ (some (.int (zJ o))) := by
  refine ct_of (Ar := fun a tk => [.long p0]) (by decide) (Nat.le_of_ble_eq_true rfl) (fun Γ G _ _ hR => ?_)
  have hcs := rt_cs hR
  unfold x_X6_lowestOf at h
  refine (?_ : PT Γ 2 shN 0 σ [(0, .long p0)] [])
  refine p_lload_n G rfl 0 rfl dX6_lowestOf_0 ?_
  refine p_lload_n G rfl 0 rfl dX6_lowestOf_1 ?_
  refine p_lneg G dX6_lowestOf_2 ?_
  refine p_land G dX6_lowestOf_3 ?_
  refine p_lconst G (v := 1) (by decide) dX6_lowestOf_4 ?_
  refine p_lsub G dX6_lowestOf_5 ?_
  obtain ⟨v1, hc, h⟩ := bnd_some h
  refine p_callS0 G dX6_lowestOf_6 lk_X6_226 (c_J_Long_bitCount (gl Γ) hc) (As := [.long ((p0 &&& (-p0)) - (1 : Int64))]) rfl zk_1 rfl (Nat.le_of_ble_eq_true rfl) ⟨rfl, rfl, Nat.le_of_ble_eq_true rfl, Nat.le_of_ble_eq_true rfl⟩ hcs ?_
  (cases h; exact p_iret G hR dX6_lowestOf_9 rfl rfl)
set_option maxHeartbeats 4000000 in
set_option maxRecDepth 100000 in
theorem c_X1_keyOf (l : Launch) {D : va_G} {yy : Nat → ClassId} {tk tv a : Nat → Nat} {σ : Mm} {p0 : Int64} {p2 : Int} {o : Int} (h : x_X1_keyOf p0 p2 = some o) : CT l yX1_keyOf cX1_keyOf 3 (some .int) rm_X1_keyOf shN D yy tk tv a σ [.long p0, .int (zJ p2)] σ (some (.int (zJ o))) := by
  refine ct_of (Ar := fun a tk => [.long p0, .int (zJ p2)]) (by decide) (Nat.le_of_ble_eq_true rfl) (fun Γ G _ _ hR => ?_)
  have hcs := rt_cs hR
  unfold x_X1_keyOf at h
  refine (?_ : PT Γ 3 shN 0 σ [(0, .long p0), (2, .int (zJ p2))] [])
  refine p_lload_n G rfl 0 rfl dX1_keyOf_0 ?_
  obtain ⟨v1, hc, h⟩ := bnd_some h
  refine p_callS0 G dX1_keyOf_1 lk_X1_105 (c_X6_lowestOf (gl Γ) hc) (As := [.long p0]) rfl zk_1 rfl (Nat.le_of_ble_eq_true rfl) ⟨rfl, rfl, Nat.le_of_ble_eq_true rfl, Nat.le_of_ble_eq_true rfl⟩ hcs ?_
  refine p_bipush G (by decide) (by decide) dX1_keyOf_4 ?_
  refine p_imul G dX1_keyOf_6 ?_
  refine p_lload_n G rfl 0 rfl dX1_keyOf_7 ?_
  obtain ⟨v2, hc, h⟩ := bnd_some h
  refine p_callS0 G dX1_keyOf_8 lk_X1_97 (c_J_Long_bitCount (gl Γ) hc) (As := [.long p0]) rfl zk_1 rfl (Nat.le_of_ble_eq_true rfl) ⟨rfl, rfl, Nat.le_of_ble_eq_true rfl, Nat.le_of_ble_eq_true rfl⟩ hcs ?_
  refine p_iadd G dX1_keyOf_11 ?_
  refine p_iconst G rfl dX1_keyOf_12 ?_
  refine p_imul G dX1_keyOf_13 ?_
  refine p_iload_n G rfl 1 rfl dX1_keyOf_14 ?_
  refine p_iadd G dX1_keyOf_15 ?_
  (cases h; exact p_iret G hR dX1_keyOf_16 rfl rfl)
set_option maxHeartbeats 4000000 in
set_option maxRecDepth 100000 in
theorem c_X6_pointsFor (l : Launch) {D : va_G} {yy : Nat → ClassId} {tk tv a : Nat → Nat} {σ : Mm} {p0 : Int} {o : Int} (h : x_X6_pointsFor p0 = some o) : CT l yX6_pointsFor cX6_pointsFor 1 (some .int) rm_X6_pointsFor shN D yy tk tv a σ [.int (zJ p0)] σ (some (.int (zJ o))) := by
  refine ct_of (Ar := fun a tk => [.int (zJ p0)]) (by decide) (Nat.le_of_ble_eq_true rfl) (fun Γ G _ _ hR => ?_)
  have hcs := rt_cs hR
  unfold x_X6_pointsFor at h
  refine (?_ : PT Γ 1 shN 0 σ [(0, .int (zJ p0))] [])
  refine p_iload_n G rfl 0 rfl dX6_pointsFor_0 ?_
  refine p_bipush G (by decide) (by decide) dX6_pointsFor_1 ?_
  refine p_iremK G dX6_pointsFor_3 (by decide) ?_
  refine p_iconst G rfl dX6_pointsFor_4 ?_
  refine p_iadd G dX6_pointsFor_5 ?_
  refine p_bipush G (by decide) (by decide) dX6_pointsFor_6 ?_
  refine p_zmin G gm_873 gm_535 gm_41 gm_536 (by decide) (by decide) hcs dX6_pointsFor_8 ?_
  (cases h; exact p_iret G hR dX6_pointsFor_11 rfl rfl)
set_option maxHeartbeats 4000000 in
set_option maxRecDepth 100000 in
theorem c_X6_pointsOf (l : Launch) {D : va_G} {yy : Nat → ClassId} {tk tv a : Nat → Nat} {σ : Mm} {p0 : Int64} {o : Int} (h : x_X6_pointsOf p0 = some o) : CT l yX6_pointsOf cX6_pointsOf 6 (some .int) rm_X6_pointsOf shN D yy tk tv a σ [.long p0] σ (some (.int (zJ o))) := by
  refine ct_of (Ar := fun a tk => [.long p0]) (by decide) (Nat.le_of_ble_eq_true rfl) (fun Γ G _ _ hR => ?_)
  have hcs := rt_cs hR
  unfold x_X6_pointsOf at h
  refine (?_ : PT Γ 6 shN 0 σ [(0, .long p0)] [])
  refine p_iconst G rfl dX6_pointsOf_0 ?_
  refine p_istore_nU (lv' := [(2, .int (zJ (0 : Int))), (0, .long p0)]) G rfl dX6_pointsOf_1 (by decide) rfl ?_
  refine p_lload_n G rfl 1 rfl dX6_pointsOf_2 ?_
  refine p_lstore_nU (lv' := [(3, .long p0), (2, .int (zJ (0 : Int))), (0, .long p0)]) G rfl dX6_pointsOf_3 (by decide) rfl ?_
  refine p_iconst G rfl dX6_pointsOf_4 ?_
  refine p_istoreU (lv' := [(5, .int (zJ (0 : Int))), (3, .long p0), (2, .int (zJ (0 : Int))), (0, .long p0)]) G dX6_pointsOf_5 (by decide) rfl ?_
  refine p_lv [2, 1, 0] rfl ?_
  obtain ⟨e9, hl7, h⟩ := bnd_some h
  have hX7_42 : ∀ (v10 : Int), v10 = e9 → PT Γ 6 shN 42 σ [(2, .int (zJ v10))] [] := by
    intro v10 he
    subst he
    refine p_iload_n G rfl 0 rfl dX6_pointsOf_42 ?_
    (cases h; exact p_iret G hR dX6_pointsOf_43 rfl rfl)
  refine lup_walk (s := ((0 : Int), p0, (0 : Int))) (At := fun s : Int × Int64 × Int => PT Γ 6 shN 7 σ [(2, .int (zJ s.1)), (3, .long s.2.1), (5, .int (zJ s.2.2))] []) (fun s r hf hin7 hout7 => ?_) hl7
  obtain ⟨u2_7, u3_7, u5_7⟩ := s
  have h : x_X6_pointsOf_b7 u2_7 u3_7 u5_7 = some r := hf
  clear hf
  unfold x_X6_pointsOf_b7 at h
  refine (?_ : PT Γ 6 shN 7 σ [(2, .int (zJ u2_7)), (3, .long u3_7), (5, .int (zJ u5_7))] [])
  refine p_iload G 2 rfl dX6_pointsOf_7 ?_
  refine p_bipush G (by decide) (by decide) dX6_pointsOf_9 ?_
  refine p_icmpge (tgt := 42) G dX6_pointsOf_11 (by decide) h (fun c7 h => ?_) (fun c7 h => ?_)
  · refine p_lv [0] rfl ?_
    have he := hout7 _ (Option.some.inj h).symm
    subst he
    exact hX7_42 _ rfl
  · refine p_lload_n G rfl 1 rfl dX6_pointsOf_14 ?_
    refine p_lconst G (v := 0) (by decide) dX6_pointsOf_15 ?_
    refine p_lcmp G dX6_pointsOf_16 ?_
    refine p_ifeq (tgt := 42) G dX6_pointsOf_17 (by decide) h (fun c6 h => ?_) (fun c6 h => ?_)
    · refine p_lv [0] rfl ?_
      have he := hout7 _ (Option.some.inj h).symm
      subst he
      exact hX7_42 _ rfl
    · refine p_iload_n G rfl 0 rfl dX6_pointsOf_20 ?_
      refine p_lload_n G rfl 1 rfl dX6_pointsOf_21 ?_
      obtain ⟨v1, hc, h⟩ := bnd_some h
      refine p_callS0 G dX6_pointsOf_22 lk_X6_250 (c_X6_lowestOf (gl Γ) hc) (As := [.long u3_7]) rfl zk_1 rfl (Nat.le_of_ble_eq_true rfl) ⟨rfl, rfl, Nat.le_of_ble_eq_true rfl, Nat.le_of_ble_eq_true rfl⟩ hcs ?_
      obtain ⟨v2, hc, h⟩ := bnd_some h
      refine p_callS0 G dX6_pointsOf_25 lk_X6_278 (c_X6_pointsFor (gl Γ) hc) (As := [.int (zJ v1)]) rfl zk_1 rfl (Nat.le_of_ble_eq_true rfl) ⟨rfl, rfl, Nat.le_of_ble_eq_true rfl, Nat.le_of_ble_eq_true rfl⟩ hcs ?_
      refine p_iadd G dX6_pointsOf_28 ?_
      refine p_istore_n (lv' := fun v3 => [(2, .int (zJ v3)), (3, .long u3_7), (5, .int (zJ u5_7))]) G rfl dX6_pointsOf_29 h (by decide) (fun _ => rfl) (fun v3 h => ?_)
      refine p_lload_n G rfl 1 rfl dX6_pointsOf_30 ?_
      refine p_lload_n G rfl 1 rfl dX6_pointsOf_31 ?_
      refine p_lconst G (v := 1) (by decide) dX6_pointsOf_32 ?_
      refine p_lsub G dX6_pointsOf_33 ?_
      refine p_land G dX6_pointsOf_34 ?_
      refine p_lstore_n (lv' := fun v4 => [(3, .long v4), (2, .int (zJ v3)), (5, .int (zJ u5_7))]) G rfl dX6_pointsOf_35 h (by decide) (fun _ => rfl) (fun v4 h => ?_)
      refine p_iinc (lv' := fun v5 => [(5, .int (zJ v5)), (3, .long v4), (2, .int (zJ v3))]) G dX6_pointsOf_36 h 2 rfl (by decide) (fun _ => rfl) (fun v5 h => ?_)
      refine p_goto (tgt := 7) G dX6_pointsOf_39 (by decide) ?_
      refine p_lv [2, 1, 0] rfl ?_
      exact hin7 _ (Option.some.inj h).symm
set_option maxHeartbeats 4000000 in
set_option maxRecDepth 100000 in
theorem c_X1_isAhead (l : Launch) {D : va_G} {yy : Nat → ClassId} {tk tv a : Nat → Nat} {σ : Mm} {p1 : Int} {p2 : Int} {o : Int} (h : x_X1_isAhead σ p1 p2 = some o) : CT l yX1_isAhead cX1_isAhead 5 (some .boolean) rm_X1_isAhead shL D yy tk tv a σ [.ref (a 0), .int (zJ p1), .int (zJ p2)] σ (some (.int (zJ o))) := by
  refine ct_of (Ar := fun a tk => [.ref (a 0), .int (zJ p1), .int (zJ p2)]) (by decide) (Nat.le_of_ble_eq_true rfl) (fun Γ G _ _ hR => ?_)
  have hcs := rt_cs hR
  unfold x_X1_isAhead at h
  refine (?_ : PT Γ 5 shL 0 σ [(0, .ref (ga Γ 0)), (1, .int (zJ p1)), (2, .int (zJ p2))] [])
  refine p_aload_n G rfl 0 rfl dX1_isAhead_0 ?_
  refine p_get G dX1_isAhead_1 fl_X1_19 (k := 0) rfl rfl ?_
  refine p_iload_n G rfl 1 rfl dX1_isAhead_4 ?_
  refine p_iald G dX1_isAhead_5 (k := 3) rfl (zt_c _) h (fun c1 h => ?_)
  refine p_aload_n G rfl 0 rfl dX1_isAhead_6 ?_
  refine p_get G dX1_isAhead_7 fl_X1_19 (k := 0) rfl rfl ?_
  refine p_iload_n G rfl 2 rfl dX1_isAhead_10 ?_
  refine p_iald G dX1_isAhead_11 (k := 3) rfl (zt_c _) h (fun c2 h => ?_)
  refine p_icmpeq (tgt := 36) G dX1_isAhead_12 (by decide) h (fun c11 h => ?_) (fun c11 h => ?_)
  · refine p_aload_n G rfl 0 rfl dX1_isAhead_36 ?_
    refine p_get G dX1_isAhead_37 fl_X1_11 (k := 0) rfl rfl ?_
    refine p_iload_n G rfl 1 rfl dX1_isAhead_40 ?_
    refine p_lald G dX1_isAhead_41 (k := 1) rfl (zt_c _) h (fun c3 h => ?_)
    refine p_aload_n G rfl 0 rfl dX1_isAhead_42 ?_
    refine p_get G dX1_isAhead_43 fl_X1_11 (k := 0) rfl rfl ?_
    refine p_iload_n G rfl 2 rfl dX1_isAhead_46 ?_
    refine p_lald G dX1_isAhead_47 (k := 1) rfl (zt_c _) h (fun c4 h => ?_)
    refine p_lxor G dX1_isAhead_48 ?_
    refine p_lstore_n (lv' := fun v5 => [(3, .long v5), (0, .ref (ga Γ 0)), (1, .int (zJ p1)), (2, .int (zJ p2))]) G rfl dX1_isAhead_49 h (by decide) (fun _ => rfl) (fun v5 h => ?_)
    refine p_aload_n G rfl 1 rfl dX1_isAhead_50 ?_
    refine p_get G dX1_isAhead_51 fl_X1_11 (k := 0) rfl rfl ?_
    refine p_iload_n G rfl 2 rfl dX1_isAhead_54 ?_
    refine p_lald G dX1_isAhead_55 (k := 1) rfl (zt_c _) h (fun c6 h => ?_)
    refine p_lload_n G rfl 0 rfl dX1_isAhead_56 ?_
    refine p_land G dX1_isAhead_57 ?_
    refine p_lload_n G rfl 0 rfl dX1_isAhead_58 ?_
    refine p_lneg G dX1_isAhead_59 ?_
    refine p_land G dX1_isAhead_60 ?_
    refine p_lconst G (v := 0) (by decide) dX1_isAhead_61 ?_
    refine p_lcmp G dX1_isAhead_62 ?_
    refine p_ifeq (tgt := 70) G dX1_isAhead_63 (by decide) h (fun c7 h => ?_) (fun c7 h => ?_)
    · refine p_iconst G rfl dX1_isAhead_70 ?_
      (cases h; exact p_zret G hR dX1_isAhead_71 (by decide) rfl rfl)
    · refine p_iconst G rfl dX1_isAhead_66 ?_
      refine p_goto (tgt := 71) G dX1_isAhead_67 (by decide) ?_
      (cases h; exact p_zret G hR dX1_isAhead_71 (by decide) rfl rfl)
  · refine p_aload_n G rfl 0 rfl dX1_isAhead_15 ?_
    refine p_get G dX1_isAhead_16 fl_X1_19 (k := 0) rfl rfl ?_
    refine p_iload_n G rfl 1 rfl dX1_isAhead_19 ?_
    refine p_iald G dX1_isAhead_20 (k := 3) rfl (zt_c _) h (fun c8 h => ?_)
    refine p_aload_n G rfl 0 rfl dX1_isAhead_21 ?_
    refine p_get G dX1_isAhead_22 fl_X1_19 (k := 0) rfl rfl ?_
    refine p_iload_n G rfl 2 rfl dX1_isAhead_25 ?_
    refine p_iald G dX1_isAhead_26 (k := 3) rfl (zt_c _) h (fun c9 h => ?_)
    refine p_icmpge (tgt := 34) G dX1_isAhead_27 (by decide) h (fun c10 h => ?_) (fun c10 h => ?_)
    · refine p_iconst G rfl dX1_isAhead_34 ?_
      (cases h; exact p_zret G hR dX1_isAhead_35 (by decide) rfl rfl)
    · refine p_iconst G rfl dX1_isAhead_30 ?_
      refine p_goto (tgt := 35) G dX1_isAhead_31 (by decide) ?_
      (cases h; exact p_zret G hR dX1_isAhead_35 (by decide) rfl rfl)
set_option maxHeartbeats 4000000 in
set_option maxRecDepth 100000 in
theorem c_X1_sort (l : Launch) {D : va_G} {yy : Nat → ClassId} {tk tv a : Nat → Nat} {σ : Mm} {o : Mm} (h : x_X1_sort σ = some o) : CT l yX1_sort cX1_sort 7 none rm_X1_sort shL D yy tk tv a σ [.ref (a 0)] o none := by
  refine ct_of (Ar := fun a tk => [.ref (a 0)]) (by decide) (Nat.le_of_ble_eq_true rfl) (fun Γ G _ _ hR => ?_)
  have hcs := rt_cs hR
  unfold x_X1_sort at h
  refine (?_ : PT Γ 7 shL 0 σ [(0, .ref (ga Γ 0))] [])
  refine p_iconst G rfl dX1_sort_0 ?_
  refine p_istore_nU (lv' := [(1, .int (zJ (1 : Int))), (0, .ref (ga Γ 0))]) G rfl dX1_sort_1 (by decide) rfl ?_
  refine p_lv [1, 0] rfl ?_
  obtain ⟨e33, hl2, h⟩ := bnd_some h
  have hX2_139 : ∀ (σ34 : Mm), σ34 = e33 → PT Γ 7 shL 139 σ34 [] [] := by
    intro σ34 he
    subst he
    (cases h; exact p_vret G hR dX1_sort_139 rfl rfl)
  refine lup_walk (s := (σ, (1 : Int))) (At := fun s : Mm × Int => PT Γ 7 shL 2 s.1 [(0, .ref (ga Γ 0)), (1, .int (zJ s.2))] []) (fun s r hf hin2 hout2 => ?_) hl2
  obtain ⟨σ2, u1_2⟩ := s
  have h : x_X1_sort_b2 σ2 u1_2 = some r := hf
  clear hf
  unfold x_X1_sort_b2 at h
  refine (?_ : PT Γ 7 shL 2 σ2 [(0, .ref (ga Γ 0)), (1, .int (zJ u1_2))] [])
  refine p_iload_n G rfl 1 rfl dX1_sort_2 ?_
  refine p_aload_n G rfl 0 rfl dX1_sort_3 ?_
  refine p_get G dX1_sort_4 fl_X1_35 (k := 0) rfl rfl ?_
  refine p_icmpge (tgt := 139) G dX1_sort_7 (by decide) h (fun c31 h => ?_) (fun c31 h => ?_)
  · refine p_lv [] rfl ?_
    have he := hout2 _ (Option.some.inj h).symm
    subst he
    exact hX2_139 _ rfl
  · refine p_iload_n G rfl 1 rfl dX1_sort_10 ?_
    refine p_bipush G (by decide) (by decide) dX1_sort_11 ?_
    refine p_icmpge (tgt := 139) G dX1_sort_13 (by decide) h (fun c30 h => ?_) (fun c30 h => ?_)
    · refine p_lv [] rfl ?_
      have he := hout2 _ (Option.some.inj h).symm
      subst he
      exact hX2_139 _ rfl
    · refine p_iload_n G rfl 1 rfl dX1_sort_16 ?_
      refine p_istore_nU (lv' := [(2, .int (zJ u1_2)), (0, .ref (ga Γ 0)), (1, .int (zJ u1_2))]) G rfl dX1_sort_17 (by decide) rfl ?_
      refine p_lv [1, 2, 0] rfl ?_
      obtain ⟨e27, hl18, h⟩ := bnd_some h
      have hX18_133 : ∀ (σ28 : Mm), σ28 = e27 → PT Γ 7 shL 133 σ28 [(0, .ref (ga Γ 0)), (1, .int (zJ u1_2))] [] := by
        intro σ28 he
        subst he
        refine p_iinc (lv' := fun v29 => [(1, .int (zJ v29)), (0, .ref (ga Γ 0))]) G dX1_sort_133 h 1 rfl (by decide) (fun _ => rfl) (fun v29 h => ?_)
        refine p_goto (tgt := 2) G dX1_sort_136 (by decide) ?_
        refine p_lv [1, 0] rfl ?_
        exact hin2 _ (Option.some.inj h).symm
      refine lup_walk (s := (σ2, u1_2)) (At := fun s : Mm × Int => PT Γ 7 shL 18 s.1 [(0, .ref (ga Γ 0)), (1, .int (zJ u1_2)), (2, .int (zJ s.2))] []) (fun s r hf hin18 hout18 => ?_) hl18
      obtain ⟨σ18, u2_18⟩ := s
      have h : x_X1_sort_b18 u1_2 σ18 u2_18 = some r := hf
      clear hf
      unfold x_X1_sort_b18 at h
      refine (?_ : PT Γ 7 shL 18 σ18 [(0, .ref (ga Γ 0)), (1, .int (zJ u1_2)), (2, .int (zJ u2_18))] [])
      refine p_iload_n G rfl 2 rfl dX1_sort_18 ?_
      refine p_ifle (tgt := 133) G dX1_sort_19 (by decide) h (fun c25 h => ?_) (fun c25 h => ?_)
      · refine p_lv [0, 1] rfl ?_
        have he := hout18 _ (Option.some.inj h).symm
        subst he
        exact hX18_133 _ rfl
      · refine p_aload_n G rfl 0 rfl dX1_sort_22 ?_
        refine p_iload_n G rfl 2 rfl dX1_sort_23 ?_
        refine p_iload_n G rfl 2 rfl dX1_sort_24 ?_
        refine p_iconst G rfl dX1_sort_25 ?_
        refine p_isub G dX1_sort_26 ?_
        obtain ⟨v1, hc, h⟩ := bnd_some h
        refine p_callVi G dX1_sort_27 lk_X1_108 (c_X1_isAhead (gl Γ) hc) (As := [.int (zJ u2_18), .int (zJ (u2_18 - (1 : Int)))]) (ci := 3) rfl rfl rfl rfl (Nat.le_of_ble_eq_true rfl) ⟨rfl, rfl, Nat.le_of_ble_eq_true rfl, Nat.le_of_ble_eq_true rfl⟩ hcs ?_
        refine p_ifeq (tgt := 133) G dX1_sort_30 (by decide) h (fun c24 h => ?_) (fun c24 h => ?_)
        · refine p_lv [0, 1] rfl ?_
          have he := hout18 _ (Option.some.inj h).symm
          subst he
          exact hX18_133 _ rfl
        · refine p_aload_n G rfl 0 rfl dX1_sort_33 ?_
          refine p_get G dX1_sort_34 fl_X1_11 (k := 0) rfl rfl ?_
          refine p_iload_n G rfl 2 rfl dX1_sort_37 ?_
          refine p_lald G dX1_sort_38 (k := 1) rfl (zt_c _) h (fun c2 h => ?_)
          refine p_lstore_n (lv' := fun v3 => [(3, .long v3), (0, .ref (ga Γ 0)), (1, .int (zJ u1_2)), (2, .int (zJ u2_18))]) G rfl dX1_sort_39 h (by decide) (fun _ => rfl) (fun v3 h => ?_)
          refine p_aload_n G rfl 1 rfl dX1_sort_40 ?_
          refine p_get G dX1_sort_41 fl_X1_11 (k := 0) rfl rfl ?_
          refine p_iload_n G rfl 3 rfl dX1_sort_44 ?_
          refine p_aload_n G rfl 1 rfl dX1_sort_45 ?_
          refine p_get G dX1_sort_46 fl_X1_11 (k := 0) rfl rfl ?_
          refine p_iload_n G rfl 3 rfl dX1_sort_49 ?_
          refine p_iconst G rfl dX1_sort_50 ?_
          refine p_isub G dX1_sort_51 ?_
          refine p_lald G dX1_sort_52 (k := 1) rfl (zt_c _) h (fun c4 h => ?_)
          refine p_last G dX1_sort_53 (k := 1) rfl (zt_c _) rfl h (fun σ5 c6 h => ?_)
          refine p_aload_n G rfl 1 rfl dX1_sort_54 ?_
          refine p_get G dX1_sort_55 fl_X1_11 (k := 0) rfl rfl ?_
          refine p_iload_n G rfl 3 rfl dX1_sort_58 ?_
          refine p_iconst G rfl dX1_sort_59 ?_
          refine p_isub G dX1_sort_60 ?_
          refine p_lload_n G rfl 0 rfl dX1_sort_61 ?_
          refine p_last G dX1_sort_62 (k := 1) rfl (zt_c _) rfl h (fun σ7 c8 h => ?_)
          refine p_aload_n G rfl 1 rfl dX1_sort_63 ?_
          refine p_get G dX1_sort_64 fl_X1_19 (k := 0) rfl rfl ?_
          refine p_iload_n G rfl 3 rfl dX1_sort_67 ?_
          refine p_iald G dX1_sort_68 (k := 3) rfl (zt_c _) h (fun c9 h => ?_)
          refine p_istore (lv' := fun v10 => [(5, .int (zJ v10)), (3, .long v3), (0, .ref (ga Γ 0)), (1, .int (zJ u1_2)), (2, .int (zJ u2_18))]) G dX1_sort_69 h (by decide) (fun _ => rfl) (fun v10 h => ?_)
          refine p_aload_n G rfl 2 rfl dX1_sort_71 ?_
          refine p_get G dX1_sort_72 fl_X1_19 (k := 0) rfl rfl ?_
          refine p_iload_n G rfl 4 rfl dX1_sort_75 ?_
          refine p_aload_n G rfl 2 rfl dX1_sort_76 ?_
          refine p_get G dX1_sort_77 fl_X1_19 (k := 0) rfl rfl ?_
          refine p_iload_n G rfl 4 rfl dX1_sort_80 ?_
          refine p_iconst G rfl dX1_sort_81 ?_
          refine p_isub G dX1_sort_82 ?_
          refine p_iald G dX1_sort_83 (k := 3) rfl (zt_c _) h (fun c11 h => ?_)
          refine p_iast G dX1_sort_84 (k := 3) rfl (zt_c _) rfl h (fun σ12 c13 h => ?_)
          refine p_aload_n G rfl 2 rfl dX1_sort_85 ?_
          refine p_get G dX1_sort_86 fl_X1_19 (k := 0) rfl rfl ?_
          refine p_iload_n G rfl 4 rfl dX1_sort_89 ?_
          refine p_iconst G rfl dX1_sort_90 ?_
          refine p_isub G dX1_sort_91 ?_
          refine p_iload G 0 rfl dX1_sort_92 ?_
          refine p_iast G dX1_sort_94 (k := 3) rfl (zt_c _) rfl h (fun σ14 c15 h => ?_)
          refine p_aload_n G rfl 2 rfl dX1_sort_95 ?_
          refine p_get G dX1_sort_96 fl_X1_22 (k := 0) rfl rfl ?_
          refine p_iload_n G rfl 4 rfl dX1_sort_99 ?_
          refine p_iald G dX1_sort_100 (k := 4) rfl (zt_c _) h (fun c16 h => ?_)
          refine p_istore (lv' := fun v17 => [(6, .int (zJ v17)), (5, .int (zJ v10)), (3, .long v3), (0, .ref (ga Γ 0)), (1, .int (zJ u1_2)), (2, .int (zJ u2_18))]) G dX1_sort_101 h (by decide) (fun _ => rfl) (fun v17 h => ?_)
          refine p_aload_n G rfl 3 rfl dX1_sort_103 ?_
          refine p_get G dX1_sort_104 fl_X1_22 (k := 0) rfl rfl ?_
          refine p_iload_n G rfl 5 rfl dX1_sort_107 ?_
          refine p_aload_n G rfl 3 rfl dX1_sort_108 ?_
          refine p_get G dX1_sort_109 fl_X1_22 (k := 0) rfl rfl ?_
          refine p_iload_n G rfl 5 rfl dX1_sort_112 ?_
          refine p_iconst G rfl dX1_sort_113 ?_
          refine p_isub G dX1_sort_114 ?_
          refine p_iald G dX1_sort_115 (k := 4) rfl (zt_c _) h (fun c18 h => ?_)
          refine p_iast G dX1_sort_116 (k := 4) rfl (zt_c _) rfl h (fun σ19 c20 h => ?_)
          refine p_aload_n G rfl 3 rfl dX1_sort_117 ?_
          refine p_get G dX1_sort_118 fl_X1_22 (k := 0) rfl rfl ?_
          refine p_iload_n G rfl 5 rfl dX1_sort_121 ?_
          refine p_iconst G rfl dX1_sort_122 ?_
          refine p_isub G dX1_sort_123 ?_
          refine p_iload G 0 rfl dX1_sort_124 ?_
          refine p_iast G dX1_sort_126 (k := 4) rfl (zt_c _) rfl h (fun σ21 c22 h => ?_)
          refine p_iinc (lv' := fun v23 => [(2, .int (zJ v23)), (6, .int (zJ v17)), (5, .int (zJ v10)), (3, .long v3), (0, .ref (ga Γ 0)), (1, .int (zJ u1_2))]) G dX1_sort_127 h 5 rfl (by decide) (fun _ => rfl) (fun v23 h => ?_)
          refine p_goto (tgt := 18) G dX1_sort_130 (by decide) ?_
          refine p_lv [4, 5, 0] rfl ?_
          exact hin18 _ (Option.some.inj h).symm
set_option maxHeartbeats 4000000 in
set_option maxRecDepth 100000 in
theorem s_X1_search (R : Mm → Int → Int64 → Int → Int → Option (Mm)) (n : Nat) (IH : ∀ (l : Launch) {D : va_G} {yy : Nat → ClassId} {tk tv a : Nat → Nat} {σ : Mm} {p1 : Int} {p2 : Int64} {p4 : Int} {p5 : Int} {o : Mm} (h : R σ p1 p2 p4 p5 = some o), CT l yX1_search cX1_search 7 none (rm_X1_search n) shL D yy tk tv a σ [.ref (a 0), .int (zJ p1), .long p2, .int (zJ p4), .int (zJ p5)] o none) (l : Launch) {D : va_G} {yy : Nat → ClassId} {tk tv a : Nat → Nat} {σ : Mm} {p1 : Int} {p2 : Int64} {p4 : Int} {p5 : Int} {o : Mm} (h : x_X1_search_1 R σ p1 p2 p4 p5 = some o) : CT l yX1_search cX1_search 7 none (rm_X1_search (n + 1)) shL D yy tk tv a σ [.ref (a 0), .int (zJ p1), .long p2, .int (zJ p4), .int (zJ p5)] o none := by
  refine ct_of (Ar := fun a tk => [.ref (a 0), .int (zJ p1), .long p2, .int (zJ p4), .int (zJ p5)]) (by decide) (Nat.le_of_ble_eq_true rfl) (fun Γ G _ _ hR => ?_)
  have hcs := rt_cs hR
  unfold x_X1_search_1 at h
  refine (?_ : PT Γ 7 shL 0 σ [(0, .ref (ga Γ 0)), (1, .int (zJ p1)), (2, .long p2), (4, .int (zJ p4)), (5, .int (zJ p5))] [])
  have j107 : ∀ (σ_107 : Mm) (v4_107 : Int) (v5_107 : Int), x_X1_search_j107 R σ_107 v4_107 v5_107 = some o → PT Γ 7 shL 107 σ_107 [(0, .ref (ga Γ 0)), (4, .int (zJ v4_107)), (5, .int (zJ v5_107))] [] := by
    intro σ_107 v4_107 v5_107 h
    unfold x_X1_search_j107 at h
    refine p_iload G 1 rfl dX1_search_107 ?_
    refine p_aload_n G rfl 0 rfl dX1_search_109 ?_
    refine p_get G dX1_search_110 fl_X1_53 (k := 0) rfl rfl ?_
    refine p_icmple (tgt := 164) G dX1_search_113 (by decide) h (fun c29 h => ?_) (fun c29 h => ?_)
    · (cases h; exact p_vret G hR dX1_search_164 rfl rfl)
    · refine p_aload_n G rfl 0 rfl dX1_search_116 ?_
      refine p_iload G 1 rfl dX1_search_117 ?_
      refine p_putI G dX1_search_119 fp_X1_53 (k := 0) rfl rfl rfl rfl h (fun σ18 h => ?_)
      refine p_aload_n G rfl 0 rfl dX1_search_122 ?_
      refine p_iload G 2 rfl dX1_search_123 ?_
      refine p_putI G dX1_search_125 fp_X1_50 (k := 0) rfl rfl rfl rfl h (fun σ19 h => ?_)
      refine p_iconst G rfl dX1_search_128 ?_
      refine p_istoreU (lv' := [(6, .int (zJ (0 : Int))), (0, .ref (ga Γ 0)), (4, .int (zJ v4_107)), (5, .int (zJ v5_107))]) G dX1_search_129 (by decide) rfl ?_
      refine p_lv [1, 3, 0] rfl ?_
      obtain ⟨e27, hl131, h⟩ := bnd_some h
      have hX131_164 : ∀ (σ28 : Mm), σ28 = e27 → PT Γ 7 shL 164 σ28 [] [] := by
        intro σ28 he
        subst he
        (cases h; exact p_vret G hR dX1_search_164 rfl rfl)
      refine lup_walk (s := (σ19, (0 : Int))) (At := fun s : Mm × Int => PT Γ 7 shL 131 s.1 [(0, .ref (ga Γ 0)), (5, .int (zJ v5_107)), (6, .int (zJ s.2))] []) (fun s r hf hin131 hout131 => ?_) hl131
      obtain ⟨σ131, u6_131⟩ := s
      have h : x_X1_search_b131 R v5_107 σ131 u6_131 = some r := hf
      clear hf
      unfold x_X1_search_b131 at h
      refine (?_ : PT Γ 7 shL 131 σ131 [(0, .ref (ga Γ 0)), (5, .int (zJ v5_107)), (6, .int (zJ u6_131))] [])
      refine p_iload G 2 rfl dX1_search_131 ?_
      refine p_iload G 1 rfl dX1_search_133 ?_
      refine p_icmpge (tgt := 164) G dX1_search_135 (by decide) h (fun c25 h => ?_) (fun c25 h => ?_)
      · refine p_lv [] rfl ?_
        have he := hout131 _ (Option.some.inj h).symm
        subst he
        exact hX131_164 _ rfl
      · refine p_iload G 2 rfl dX1_search_138 ?_
        refine p_iconst G rfl dX1_search_140 ?_
        refine p_icmpge (tgt := 164) G dX1_search_141 (by decide) h (fun c24 h => ?_) (fun c24 h => ?_)
        · refine p_lv [] rfl ?_
          have he := hout131 _ (Option.some.inj h).symm
          subst he
          exact hX131_164 _ rfl
        · refine p_aload_n G rfl 0 rfl dX1_search_144 ?_
          refine p_get G dX1_search_145 fl_X1_28 (k := 0) rfl rfl ?_
          refine p_iload G 2 rfl dX1_search_148 ?_
          refine p_aload_n G rfl 0 rfl dX1_search_150 ?_
          refine p_get G dX1_search_151 fl_X1_25 (k := 0) rfl rfl ?_
          refine p_iload G 2 rfl dX1_search_154 ?_
          refine p_lald G dX1_search_156 (k := 5) rfl (zt_c _) h (fun c20 h => ?_)
          refine p_last G dX1_search_157 (k := 6) rfl (zt_c _) rfl h (fun σ21 c22 h => ?_)
          refine p_iinc (lv' := fun v23 => [(6, .int (zJ v23)), (0, .ref (ga Γ 0)), (5, .int (zJ v5_107))]) G dX1_search_158 h 2 rfl (by decide) (fun _ => rfl) (fun v23 h => ?_)
          refine p_goto (tgt := 131) G dX1_search_161 (by decide) ?_
          refine p_lv [1, 2, 0] rfl ?_
          exact hin131 _ (Option.some.inj h).symm
  refine p_iload G 4 rfl dX1_search_0 ?_
  refine p_iflt (tgt := 11) G dX1_search_2 (by decide) h (fun c31 h => ?_) (fun c31 h => ?_)
  · (cases h; exact p_vret G hR dX1_search_11 rfl rfl)
  · refine p_iload G 4 rfl dX1_search_5 ?_
    refine p_iconst G rfl dX1_search_7 ?_
    refine p_icmple (tgt := 12) G dX1_search_8 (by decide) h (fun c30 h => ?_) (fun c30 h => ?_)
    · refine p_iload_n G rfl 1 rfl dX1_search_12 ?_
      refine p_istoreU (lv' := [(6, .int (zJ p1)), (0, .ref (ga Γ 0)), (1, .int (zJ p1)), (2, .long p2), (4, .int (zJ p4)), (5, .int (zJ p5))]) G dX1_search_13 (by decide) rfl ?_
      refine p_lv [1, 3, 4, 5, 0] rfl ?_
      obtain ⟨e16, hl15, h⟩ := bnd_some h
      have hX15_107 : ∀ (σ17 : Mm), σ17 = e16 → PT Γ 7 shL 107 σ17 [(0, .ref (ga Γ 0)), (4, .int (zJ p4)), (5, .int (zJ p5))] [] := by
        intro σ17 he
        subst he
        exact j107 _ _ _ h
      refine lup_walk (s := (σ, p1)) (At := fun s : Mm × Int => PT Γ 7 shL 15 s.1 [(0, .ref (ga Γ 0)), (2, .long p2), (4, .int (zJ p4)), (5, .int (zJ p5)), (6, .int (zJ s.2))] []) (fun s r hf hin15 hout15 => ?_) hl15
      obtain ⟨σ15, u6_15⟩ := s
      have h : x_X1_search_b15 R p2 p4 p5 σ15 u6_15 = some r := hf
      clear hf
      unfold x_X1_search_b15 at h
      refine (?_ : PT Γ 7 shL 15 σ15 [(0, .ref (ga Γ 0)), (2, .long p2), (4, .int (zJ p4)), (5, .int (zJ p5)), (6, .int (zJ u6_15))] [])
      refine p_iload G 4 rfl dX1_search_15 ?_
      refine p_iflt (tgt := 107) G dX1_search_17 (by decide) h (fun c14 h => ?_) (fun c14 h => ?_)
      · refine p_lv [0, 2, 3] rfl ?_
        have he := hout15 _ (Option.some.inj h).symm
        subst he
        exact hX15_107 _ rfl
      · refine p_iload G 4 rfl dX1_search_20 ?_
        refine p_aload_n G rfl 0 rfl dX1_search_22 ?_
        refine p_get G dX1_search_23 fl_X1_35 (k := 0) rfl rfl ?_
        refine p_icmpge (tgt := 107) G dX1_search_26 (by decide) h (fun c13 h => ?_) (fun c13 h => ?_)
        · refine p_lv [0, 2, 3] rfl ?_
          have he := hout15 _ (Option.some.inj h).symm
          subst he
          exact hX15_107 _ rfl
        · refine p_iload G 4 rfl dX1_search_29 ?_
          refine p_bipush G (by decide) (by decide) dX1_search_31 ?_
          refine p_icmpge (tgt := 107) G dX1_search_33 (by decide) h (fun c12 h => ?_) (fun c12 h => ?_)
          · refine p_lv [0, 2, 3] rfl ?_
            have he := hout15 _ (Option.some.inj h).symm
            subst he
            exact hX15_107 _ rfl
          · refine p_iload G 3 rfl dX1_search_36 ?_
            refine p_iconst G rfl dX1_search_38 ?_
            refine p_icmpge (tgt := 107) G dX1_search_39 (by decide) h (fun c11 h => ?_) (fun c11 h => ?_)
            · refine p_lv [0, 2, 3] rfl ?_
              have he := hout15 _ (Option.some.inj h).symm
              subst he
              exact hX15_107 _ rfl
            · refine p_aload_n G rfl 0 rfl dX1_search_42 ?_
              refine p_get G dX1_search_43 fl_X1_11 (k := 0) rfl rfl ?_
              refine p_iload G 4 rfl dX1_search_46 ?_
              refine p_lald G dX1_search_48 (k := 1) rfl (zt_c _) h (fun c1 h => ?_)
              refine p_lload_n G rfl 1 rfl dX1_search_49 ?_
              refine p_land G dX1_search_50 ?_
              refine p_lconst G (v := 0) (by decide) dX1_search_51 ?_
              refine p_lcmp G dX1_search_52 ?_
              refine p_ifne (tgt := 101) G dX1_search_53 (by decide) h (fun c10 h => ?_) (fun c10 h => ?_)
              · refine p_iinc (lv' := fun v2 => [(6, .int (zJ v2)), (0, .ref (ga Γ 0)), (2, .long p2), (4, .int (zJ p4)), (5, .int (zJ p5))]) G dX1_search_101 h 4 rfl (by decide) (fun _ => rfl) (fun v2 h => ?_)
                refine p_goto (tgt := 15) G dX1_search_104 (by decide) ?_
                refine p_lv [1, 2, 3, 4, 0] rfl ?_
                exact hin15 _ (Option.some.inj h).symm
              · refine p_aload_n G rfl 0 rfl dX1_search_56 ?_
                refine p_get G dX1_search_57 fl_X1_25 (k := 0) rfl rfl ?_
                refine p_iload G 3 rfl dX1_search_60 ?_
                refine p_aload_n G rfl 0 rfl dX1_search_62 ?_
                refine p_get G dX1_search_63 fl_X1_11 (k := 0) rfl rfl ?_
                refine p_iload G 4 rfl dX1_search_66 ?_
                refine p_lald G dX1_search_68 (k := 1) rfl (zt_c _) h (fun c3 h => ?_)
                refine p_last G dX1_search_69 (k := 5) rfl (zt_c _) rfl h (fun σ4 c5 h => ?_)
                refine p_aload_n G rfl 0 rfl dX1_search_70 ?_
                refine p_iload G 4 rfl dX1_search_71 ?_
                refine p_iconst G rfl dX1_search_73 ?_
                refine p_iadd G dX1_search_74 ?_
                refine p_lload_n G rfl 1 rfl dX1_search_75 ?_
                refine p_aload_n G rfl 0 rfl dX1_search_76 ?_
                refine p_get G dX1_search_77 fl_X1_11 (k := 0) rfl rfl ?_
                refine p_iload G 4 rfl dX1_search_80 ?_
                refine p_lald G dX1_search_82 (k := 1) rfl (zt_c _) h (fun c6 h => ?_)
                refine p_lor G dX1_search_83 ?_
                refine p_iload G 2 rfl dX1_search_84 ?_
                refine p_aload_n G rfl 0 rfl dX1_search_86 ?_
                refine p_get G dX1_search_87 fl_X1_22 (k := 0) rfl rfl ?_
                refine p_iload G 4 rfl dX1_search_90 ?_
                refine p_iald G dX1_search_92 (k := 4) rfl (zt_c _) h (fun c7 h => ?_)
                refine p_iadd G dX1_search_93 ?_
                refine p_iload G 3 rfl dX1_search_94 ?_
                refine p_iconst G rfl dX1_search_96 ?_
                refine p_iadd G dX1_search_97 ?_
                obtain ⟨σ8, hc, h⟩ := bnd_some h
                refine p_callVi G dX1_search_98 lk_X1_56 (IH (gl Γ) hc) (As := [.int (zJ (u6_15 + (1 : Int))), .long (p2 ||| (zL (σ4 1 (zix u6_15)))), .int (zJ (p4 + (σ4 4 (zix u6_15)))), .int (zJ (p5 + (1 : Int)))]) (ci := 3) rfl rfl rfl rfl (Nat.le_of_ble_eq_true rfl) (by refine ⟨rfl, rfl, ?_, ?_⟩ <;> simp only [rm_X1_search, rm_X1_search] <;> omega) hcs ?_
                refine p_iinc (lv' := fun v9 => [(6, .int (zJ v9)), (0, .ref (ga Γ 0)), (2, .long p2), (4, .int (zJ p4)), (5, .int (zJ p5))]) G dX1_search_101 h 4 rfl (by decide) (fun _ => rfl) (fun v9 h => ?_)
                refine p_goto (tgt := 15) G dX1_search_104 (by decide) ?_
                refine p_lv [1, 2, 3, 4, 0] rfl ?_
                exact hin15 _ (Option.some.inj h).symm
    · (cases h; exact p_vret G hR dX1_search_11 rfl rfl)
theorem c_X1_search : ∀ (d : Nat) (l : Launch) {D : va_G} {yy : Nat → ClassId} {tk tv a : Nat → Nat} {σ : Mm} {p1 : Int} {p2 : Int64} {p4 : Int} {p5 : Int} {o : Mm} (h : x_X1_search d σ p1 p2 p4 p5 = some o), CT l yX1_search cX1_search 7 none (rm_X1_search d) shL D yy tk tv a σ [.ref (a 0), .int (zJ p1), .long p2, .int (zJ p4), .int (zJ p5)] o none
  | 0, _, _, _, _, _, _, _, _, _, _, _, _, h => by cases h
  | n + 1, l, D, yy, tk, tv, a, _, _, _, _, _, _, h => s_X1_search (x_X1_search n) n (fun l {_} {_} {_} {_} {_} {_} {_} {_} {_} {_} {_} h => c_X1_search n l h) l h
set_option maxHeartbeats 4000000 in
set_option maxRecDepth 100000 in
theorem c_X1_lay (l : Launch) {D : va_G} {yy : Nat → ClassId} {tk tv a : Nat → Nat} {σ : Mm} {p1 : Int64} {o : Mm} (h : x_X1_lay σ p1 = some o) : CT l yX1_lay cX1_lay 4 none rm_X1_lay shL D yy tk tv a σ [.ref (a 0), .long p1] o none := by
  refine ct_of (Ar := fun a tk => [.ref (a 0), .long p1]) (by decide) (Nat.le_of_ble_eq_true rfl) (fun Γ G _ _ hR => ?_)
  have hcs := rt_cs hR
  unfold x_X1_lay at h
  refine (?_ : PT Γ 4 shL 0 σ [(0, .ref (ga Γ 0)), (1, .long p1)] [])
  have j63 : ∀ (σ_63 : Mm) (v1_63 : Int64), x_X1_lay_j63 σ_63 v1_63 = some o → PT Γ 4 shL 63 σ_63 [(0, .ref (ga Γ 0)), (1, .long v1_63)] [] := by
    intro σ_63 v1_63 h
    unfold x_X1_lay_j63 at h
    refine p_aload_n G rfl 0 rfl dX1_lay_63 ?_
    obtain ⟨σ17, hc, h⟩ := bnd_some h
    refine p_callVi G dX1_lay_64 lk_X1_47 (c_X1_sort (gl Γ) hc) (As := []) (ci := 3) rfl rfl rfl rfl (Nat.le_of_ble_eq_true rfl) ⟨rfl, rfl, Nat.le_of_ble_eq_true rfl, Nat.le_of_ble_eq_true rfl⟩ hcs ?_
    refine p_aload_n G rfl 0 rfl dX1_lay_67 ?_
    refine p_iconst G rfl dX1_lay_68 ?_
    refine p_putI G dX1_lay_69 fp_X1_50 (k := 0) rfl rfl rfl rfl h (fun σ18 h => ?_)
    refine p_aload_n G rfl 0 rfl dX1_lay_72 ?_
    refine p_iconst G rfl dX1_lay_73 ?_
    refine p_putI G dX1_lay_74 fp_X1_53 (k := 0) rfl rfl rfl rfl h (fun σ19 h => ?_)
    refine p_aload_n G rfl 0 rfl dX1_lay_77 ?_
    refine p_iconst G rfl dX1_lay_78 ?_
    refine p_lconst G (v := 0) (by decide) dX1_lay_79 ?_
    refine p_iconst G rfl dX1_lay_80 ?_
    refine p_iconst G rfl dX1_lay_81 ?_
    obtain ⟨σ20, hc, h⟩ := bnd_some h
    refine p_callVi G dX1_lay_82 lk_X1_56 (c_X1_search 6 (gl Γ) hc) (As := [.int (zJ (0 : Int)), .long (0 : Int64), .int (zJ (0 : Int)), .int (zJ (0 : Int))]) (ci := 3) rfl rfl rfl rfl (Nat.le_of_ble_eq_true rfl) ⟨rfl, rfl, Nat.le_of_ble_eq_true rfl, Nat.le_of_ble_eq_true rfl⟩ hcs ?_
    refine p_aload_n G rfl 0 rfl dX1_lay_85 ?_
    refine p_lload_n G rfl 1 rfl dX1_lay_86 ?_
    refine p_putL G dX1_lay_87 fp_X1_60 (k := 0) rfl rfl rfl rfl h (fun σ21 h => ?_)
    refine p_iconst G rfl dX1_lay_90 ?_
    refine p_istore_nU (lv' := [(3, .int (zJ (0 : Int))), (0, .ref (ga Γ 0)), (1, .long v1_63)]) G rfl dX1_lay_91 (by decide) rfl ?_
    refine p_lv [1, 0] rfl ?_
    obtain ⟨e28, hl92, h⟩ := bnd_some h
    have hX92_134 : ∀ (σ29 : Mm), σ29 = e28 → PT Γ 4 shL 134 σ29 [(0, .ref (ga Γ 0))] [] := by
      intro σ29 he
      subst he
      refine p_aload_n G rfl 0 rfl dX1_lay_134 ?_
      refine p_aload_n G rfl 0 rfl dX1_lay_135 ?_
      refine p_get G dX1_lay_136 fl_X1_60 (k := 0) rfl rfl ?_
      obtain ⟨v30, hc, h⟩ := bnd_some h
      refine p_callS0 G dX1_lay_139 lk_X1_43 (c_X6_pointsOf (gl Γ) hc) (As := [.long (zL (σ29 0 9))]) rfl zk_9 rfl (Nat.le_of_ble_eq_true rfl) ⟨rfl, rfl, Nat.le_of_ble_eq_true rfl, Nat.le_of_ble_eq_true rfl⟩ hcs ?_
      refine p_putI G dX1_lay_142 fp_X1_66 (k := 0) rfl rfl rfl rfl h (fun σ31 h => ?_)
      (cases h; exact p_vret G hR dX1_lay_145 rfl rfl)
    refine lup_walk (s := (σ21, (0 : Int))) (At := fun s : Mm × Int => PT Γ 4 shL 92 s.1 [(0, .ref (ga Γ 0)), (3, .int (zJ s.2))] []) (fun s r hf hin92 hout92 => ?_) hl92
    obtain ⟨σ92, u3_92⟩ := s
    have h : x_X1_lay_b92 σ92 u3_92 = some r := hf
    clear hf
    unfold x_X1_lay_b92 at h
    refine (?_ : PT Γ 4 shL 92 σ92 [(0, .ref (ga Γ 0)), (3, .int (zJ u3_92))] [])
    refine p_iload_n G rfl 1 rfl dX1_lay_92 ?_
    refine p_aload_n G rfl 0 rfl dX1_lay_93 ?_
    refine p_get G dX1_lay_94 fl_X1_50 (k := 0) rfl rfl ?_
    refine p_icmpge (tgt := 134) G dX1_lay_97 (by decide) h (fun c26 h => ?_) (fun c26 h => ?_)
    · refine p_lv [0] rfl ?_
      have he := hout92 _ (Option.some.inj h).symm
      subst he
      exact hX92_134 _ rfl
    · refine p_iload_n G rfl 1 rfl dX1_lay_100 ?_
      refine p_aload_n G rfl 0 rfl dX1_lay_101 ?_
      refine p_get G dX1_lay_102 fl_X1_28 (k := 0) rfl rfl ?_
      refine p_alen G dX1_lay_105 (k := 6) (kd := 1) rfl (by decide) (by decide) ?_
      refine p_icmpge (tgt := 134) G dX1_lay_106 (by decide) h (fun c25 h => ?_) (fun c25 h => ?_)
      · refine p_lv [0] rfl ?_
        have he := hout92 _ (Option.some.inj h).symm
        subst he
        exact hX92_134 _ rfl
      · refine p_aload_n G rfl 0 rfl dX1_lay_109 ?_
        refine p_dup G rfl dX1_lay_110 ?_
        refine p_get G dX1_lay_111 fl_X1_60 (k := 0) rfl rfl ?_
        refine p_aload_n G rfl 0 rfl dX1_lay_114 ?_
        refine p_get G dX1_lay_115 fl_X1_28 (k := 0) rfl rfl ?_
        refine p_iload_n G rfl 1 rfl dX1_lay_118 ?_
        refine p_lald G dX1_lay_119 (k := 6) rfl (zt_c _) h (fun c22 h => ?_)
        refine p_ldc2 G gm_854 dX1_lay_120 ?_
        refine p_lxor G dX1_lay_123 ?_
        refine p_land G dX1_lay_124 ?_
        refine p_putL G dX1_lay_125 fp_X1_60 (k := 0) rfl rfl rfl rfl h (fun σ23 h => ?_)
        refine p_iinc (lv' := fun v24 => [(3, .int (zJ v24)), (0, .ref (ga Γ 0))]) G dX1_lay_128 h 1 rfl (by decide) (fun _ => rfl) (fun v24 h => ?_)
        refine p_goto (tgt := 92) G dX1_lay_131 (by decide) ?_
        refine p_lv [1, 0] rfl ?_
        exact hin92 _ (Option.some.inj h).symm
  refine p_aload_n G rfl 0 rfl dX1_lay_0 ?_
  refine p_lload_n G rfl 1 rfl dX1_lay_1 ?_
  obtain ⟨σ1, hc, h⟩ := bnd_some h
  refine p_callVi G dX1_lay_2 lk_X1_31 (c_X1_collect (gl Γ) hc) (As := [.long p1]) (ci := 3) rfl rfl rfl rfl (Nat.le_of_ble_eq_true rfl) ⟨rfl, rfl, Nat.le_of_ble_eq_true rfl, Nat.le_of_ble_eq_true rfl⟩ hcs ?_
  refine p_iconst G rfl dX1_lay_5 ?_
  refine p_istore_nU (lv' := [(3, .int (zJ (0 : Int))), (0, .ref (ga Γ 0)), (1, .long p1)]) G rfl dX1_lay_6 (by decide) rfl ?_
  refine p_lv [1, 2, 0] rfl ?_
  obtain ⟨e15, hl7, h⟩ := bnd_some h
  have hX7_63 : ∀ (σ16 : Mm), σ16 = e15 → PT Γ 4 shL 63 σ16 [(0, .ref (ga Γ 0)), (1, .long p1)] [] := by
    intro σ16 he
    subst he
    exact j63 _ _ h
  refine lup_walk (s := (σ1, (0 : Int))) (At := fun s : Mm × Int => PT Γ 4 shL 7 s.1 [(0, .ref (ga Γ 0)), (1, .long p1), (3, .int (zJ s.2))] []) (fun s r hf hin7 hout7 => ?_) hl7
  obtain ⟨σ7, u3_7⟩ := s
  have h : x_X1_lay_b7 p1 σ7 u3_7 = some r := hf
  clear hf
  unfold x_X1_lay_b7 at h
  refine (?_ : PT Γ 4 shL 7 σ7 [(0, .ref (ga Γ 0)), (1, .long p1), (3, .int (zJ u3_7))] [])
  refine p_iload_n G rfl 2 rfl dX1_lay_7 ?_
  refine p_aload_n G rfl 0 rfl dX1_lay_8 ?_
  refine p_get G dX1_lay_9 fl_X1_35 (k := 0) rfl rfl ?_
  refine p_icmpge (tgt := 63) G dX1_lay_12 (by decide) h (fun c13 h => ?_) (fun c13 h => ?_)
  · refine p_lv [0, 1] rfl ?_
    have he := hout7 _ (Option.some.inj h).symm
    subst he
    exact hX7_63 _ rfl
  · refine p_iload_n G rfl 2 rfl dX1_lay_15 ?_
    refine p_bipush G (by decide) (by decide) dX1_lay_16 ?_
    refine p_icmpge (tgt := 63) G dX1_lay_18 (by decide) h (fun c12 h => ?_) (fun c12 h => ?_)
    · refine p_lv [0, 1] rfl ?_
      have he := hout7 _ (Option.some.inj h).symm
      subst he
      exact hX7_63 _ rfl
    · refine p_aload_n G rfl 0 rfl dX1_lay_21 ?_
      refine p_get G dX1_lay_22 fl_X1_19 (k := 0) rfl rfl ?_
      refine p_iload_n G rfl 2 rfl dX1_lay_25 ?_
      refine p_aload_n G rfl 0 rfl dX1_lay_26 ?_
      refine p_get G dX1_lay_27 fl_X1_11 (k := 0) rfl rfl ?_
      refine p_iload_n G rfl 2 rfl dX1_lay_30 ?_
      refine p_lald G dX1_lay_31 (k := 1) rfl (zt_c _) h (fun c2 h => ?_)
      refine p_aload_n G rfl 0 rfl dX1_lay_32 ?_
      refine p_get G dX1_lay_33 fl_X1_15 (k := 0) rfl rfl ?_
      refine p_iload_n G rfl 2 rfl dX1_lay_36 ?_
      refine p_iald G dX1_lay_37 (k := 2) rfl (zt_c _) h (fun c3 h => ?_)
      obtain ⟨v4, hc, h⟩ := bnd_some h
      refine p_callS0 G dX1_lay_38 lk_X1_39 (c_X1_keyOf (gl Γ) hc) (As := [.long (zL (σ7 1 (zix u3_7))), .int (zJ (σ7 2 (zix u3_7)))]) rfl zk_9 rfl (Nat.le_of_ble_eq_true rfl) ⟨rfl, rfl, Nat.le_of_ble_eq_true rfl, Nat.le_of_ble_eq_true rfl⟩ hcs ?_
      refine p_iast G dX1_lay_41 (k := 3) rfl (zt_c _) rfl h (fun σ5 c6 h => ?_)
      refine p_aload_n G rfl 0 rfl dX1_lay_42 ?_
      refine p_get G dX1_lay_43 fl_X1_22 (k := 0) rfl rfl ?_
      refine p_iload_n G rfl 2 rfl dX1_lay_46 ?_
      refine p_aload_n G rfl 0 rfl dX1_lay_47 ?_
      refine p_get G dX1_lay_48 fl_X1_11 (k := 0) rfl rfl ?_
      refine p_iload_n G rfl 2 rfl dX1_lay_51 ?_
      refine p_lald G dX1_lay_52 (k := 1) rfl (zt_c _) h (fun c7 h => ?_)
      obtain ⟨v8, hc, h⟩ := bnd_some h
      refine p_callS0 G dX1_lay_53 lk_X1_43 (c_X6_pointsOf (gl Γ) hc) (As := [.long (zL (σ5 1 (zix u3_7)))]) rfl zk_9 rfl (Nat.le_of_ble_eq_true rfl) ⟨rfl, rfl, Nat.le_of_ble_eq_true rfl, Nat.le_of_ble_eq_true rfl⟩ hcs ?_
      refine p_iast G dX1_lay_56 (k := 4) rfl (zt_c _) rfl h (fun σ9 c10 h => ?_)
      refine p_iinc (lv' := fun v11 => [(3, .int (zJ v11)), (0, .ref (ga Γ 0)), (1, .long p1)]) G dX1_lay_57 h 2 rfl (by decide) (fun _ => rfl) (fun v11 h => ?_)
      refine p_goto (tgt := 7) G dX1_lay_60 (by decide) ?_
      refine p_lv [1, 2, 0] rfl ?_
      exact hin7 _ (Option.some.inj h).symm
set_option maxHeartbeats 4000000 in
set_option maxRecDepth 100000 in
theorem c_X6_bitOf (l : Launch) {D : va_G} {yy : Nat → ClassId} {tk tv a : Nat → Nat} {σ : Mm} {p0 : Int} {o : Int64} (h : x_X6_bitOf p0 = some o) : CT l yX6_bitOf cX6_bitOf 1 (some .long) rm_X6_bitOf shN D yy tk tv a σ [.int (zJ p0)] σ (some (.long o)) := by
  refine ct_of (Ar := fun a tk => [.int (zJ p0)]) (by decide) (Nat.le_of_ble_eq_true rfl) (fun Γ G _ _ hR => ?_)
  have hcs := rt_cs hR
  unfold x_X6_bitOf at h
  refine (?_ : PT Γ 1 shN 0 σ [(0, .int (zJ p0))] [])
  refine p_iload_n G rfl 0 rfl dX6_bitOf_0 ?_
  refine p_iflt (tgt := 16) G dX6_bitOf_1 (by decide) h (fun c2 h => ?_) (fun c2 h => ?_)
  · refine p_lconst G (v := 0) (by decide) dX6_bitOf_16 ?_
    (cases h; exact p_lret G hR dX6_bitOf_17 rfl rfl)
  · refine p_iload_n G rfl 0 rfl dX6_bitOf_4 ?_
    refine p_bipush G (by decide) (by decide) dX6_bitOf_5 ?_
    refine p_icmpge (tgt := 16) G dX6_bitOf_7 (by decide) h (fun c1 h => ?_) (fun c1 h => ?_)
    · refine p_lconst G (v := 0) (by decide) dX6_bitOf_16 ?_
      (cases h; exact p_lret G hR dX6_bitOf_17 rfl rfl)
    · refine p_lconst G (v := 1) (by decide) dX6_bitOf_10 ?_
      refine p_iload_n G rfl 0 rfl dX6_bitOf_11 ?_
      refine p_lshl G dX6_bitOf_12 ?_
      refine p_goto (tgt := 17) G dX6_bitOf_13 (by decide) ?_
      (cases h; exact p_lret G hR dX6_bitOf_17 rfl rfl)
set_option maxHeartbeats 4000000 in
set_option maxRecDepth 100000 in
theorem c_X1_mostPointsOf (l : Launch) {D : va_G} {yy : Nat → ClassId} {tk tv a : Nat → Nat} {σ : Mm} {p0 : Int64} {o : Int} (h : x_X1_mostPointsOf p0 = some o) : CT l yX1_mostPointsOf cX1_mostPointsOf 6 (some .int) rm_X1_mostPointsOf shN D yy tk tv a σ [.long p0] σ (some (.int (zJ o))) := by
  refine ct_of (Ar := fun a tk => [.long p0]) (by decide) (Nat.le_of_ble_eq_true rfl) (fun Γ G _ _ hR => ?_)
  have hcs := rt_cs hR
  unfold x_X1_mostPointsOf at h
  refine (?_ : PT Γ 6 shN 0 σ [(0, .long p0)] [])
  refine p_iconst G rfl dX1_mostPointsOf_0 ?_
  refine p_istore_nU (lv' := [(2, .int (zJ (0 : Int))), (0, .long p0)]) G rfl dX1_mostPointsOf_1 (by decide) rfl ?_
  refine p_lload_n G rfl 1 rfl dX1_mostPointsOf_2 ?_
  refine p_lstore_nU (lv' := [(3, .long p0), (2, .int (zJ (0 : Int))), (0, .long p0)]) G rfl dX1_mostPointsOf_3 (by decide) rfl ?_
  refine p_iconst G rfl dX1_mostPointsOf_4 ?_
  refine p_istoreU (lv' := [(5, .int (zJ (0 : Int))), (3, .long p0), (2, .int (zJ (0 : Int))), (0, .long p0)]) G dX1_mostPointsOf_5 (by decide) rfl ?_
  refine p_lv [2, 1, 0] rfl ?_
  obtain ⟨e9, hl7, h⟩ := bnd_some h
  have hX7_44 : ∀ (v10 : Int), v10 = e9 → PT Γ 6 shN 44 σ [(2, .int (zJ v10))] [] := by
    intro v10 he
    subst he
    refine p_iload_n G rfl 0 rfl dX1_mostPointsOf_44 ?_
    (cases h; exact p_iret G hR dX1_mostPointsOf_45 rfl rfl)
  refine lup_walk (s := ((0 : Int), p0, (0 : Int))) (At := fun s : Int × Int64 × Int => PT Γ 6 shN 7 σ [(2, .int (zJ s.1)), (3, .long s.2.1), (5, .int (zJ s.2.2))] []) (fun s r hf hin7 hout7 => ?_) hl7
  obtain ⟨u2_7, u3_7, u5_7⟩ := s
  have h : x_X1_mostPointsOf_b7 u2_7 u3_7 u5_7 = some r := hf
  clear hf
  unfold x_X1_mostPointsOf_b7 at h
  refine (?_ : PT Γ 6 shN 7 σ [(2, .int (zJ u2_7)), (3, .long u3_7), (5, .int (zJ u5_7))] [])
  refine p_iload G 2 rfl dX1_mostPointsOf_7 ?_
  refine p_bipush G (by decide) (by decide) dX1_mostPointsOf_9 ?_
  refine p_icmpge (tgt := 44) G dX1_mostPointsOf_11 (by decide) h (fun c7 h => ?_) (fun c7 h => ?_)
  · refine p_lv [0] rfl ?_
    have he := hout7 _ (Option.some.inj h).symm
    subst he
    exact hX7_44 _ rfl
  · refine p_lload_n G rfl 1 rfl dX1_mostPointsOf_14 ?_
    refine p_lconst G (v := 0) (by decide) dX1_mostPointsOf_15 ?_
    refine p_lcmp G dX1_mostPointsOf_16 ?_
    refine p_ifeq (tgt := 44) G dX1_mostPointsOf_17 (by decide) h (fun c6 h => ?_) (fun c6 h => ?_)
    · refine p_lv [0] rfl ?_
      have he := hout7 _ (Option.some.inj h).symm
      subst he
      exact hX7_44 _ rfl
    · refine p_iload_n G rfl 0 rfl dX1_mostPointsOf_20 ?_
      refine p_lload_n G rfl 1 rfl dX1_mostPointsOf_21 ?_
      obtain ⟨v1, hc, h⟩ := bnd_some h
      refine p_callS0 G dX1_mostPointsOf_22 lk_X1_105 (c_X6_lowestOf (gl Γ) hc) (As := [.long u3_7]) rfl zk_1 rfl (Nat.le_of_ble_eq_true rfl) ⟨rfl, rfl, Nat.le_of_ble_eq_true rfl, Nat.le_of_ble_eq_true rfl⟩ hcs ?_
      obtain ⟨v2, hc, h⟩ := bnd_some h
      refine p_callS0 G dX1_mostPointsOf_25 lk_X1_115 (c_X6_pointsFor (gl Γ) hc) (As := [.int (zJ v1)]) rfl zk_1 rfl (Nat.le_of_ble_eq_true rfl) ⟨rfl, rfl, Nat.le_of_ble_eq_true rfl, Nat.le_of_ble_eq_true rfl⟩ hcs ?_
      refine p_zmax G gm_1185 gm_517 gm_41 gm_518 (by decide) (by decide) hcs dX1_mostPointsOf_28 ?_
      refine p_istore_n (lv' := fun v3 => [(2, .int (zJ v3)), (3, .long u3_7), (5, .int (zJ u5_7))]) G rfl dX1_mostPointsOf_31 h (by decide) (fun _ => rfl) (fun v3 h => ?_)
      refine p_lload_n G rfl 1 rfl dX1_mostPointsOf_32 ?_
      refine p_lload_n G rfl 1 rfl dX1_mostPointsOf_33 ?_
      refine p_lconst G (v := 1) (by decide) dX1_mostPointsOf_34 ?_
      refine p_lsub G dX1_mostPointsOf_35 ?_
      refine p_land G dX1_mostPointsOf_36 ?_
      refine p_lstore_n (lv' := fun v4 => [(3, .long v4), (2, .int (zJ v3)), (5, .int (zJ u5_7))]) G rfl dX1_mostPointsOf_37 h (by decide) (fun _ => rfl) (fun v4 h => ?_)
      refine p_iinc (lv' := fun v5 => [(5, .int (zJ v5)), (3, .long v4), (2, .int (zJ v3))]) G dX1_mostPointsOf_38 h 2 rfl (by decide) (fun _ => rfl) (fun v5 h => ?_)
      refine p_goto (tgt := 7) G dX1_mostPointsOf_41 (by decide) ?_
      refine p_lv [2, 1, 0] rfl ?_
      exact hin7 _ (Option.some.inj h).symm
set_option maxHeartbeats 4000000 in
set_option maxRecDepth 100000 in
theorem s_X1_searchDrop (R : Mm → Int → Int64 → Int → Option (Mm)) (n : Nat) (IH : ∀ (l : Launch) {D : va_G} {yy : Nat → ClassId} {tk tv a : Nat → Nat} {σ : Mm} {p1 : Int} {p2 : Int64} {p4 : Int} {o : Mm} (h : R σ p1 p2 p4 = some o), CT l yX1_searchDrop cX1_searchDrop 7 none (rm_X1_searchDrop n) shL D yy tk tv a σ [.ref (a 0), .int (zJ p1), .long p2, .int (zJ p4)] o none) (l : Launch) {D : va_G} {yy : Nat → ClassId} {tk tv a : Nat → Nat} {σ : Mm} {p1 : Int} {p2 : Int64} {p4 : Int} {o : Mm} (h : x_X1_searchDrop_1 R σ p1 p2 p4 = some o) : CT l yX1_searchDrop cX1_searchDrop 7 none (rm_X1_searchDrop (n + 1)) shL D yy tk tv a σ [.ref (a 0), .int (zJ p1), .long p2, .int (zJ p4)] o none := by
  refine ct_of (Ar := fun a tk => [.ref (a 0), .int (zJ p1), .long p2, .int (zJ p4)]) (by decide) (Nat.le_of_ble_eq_true rfl) (fun Γ G _ _ hR => ?_)
  have hcs := rt_cs hR
  unfold x_X1_searchDrop_1 at h
  refine (?_ : PT Γ 7 shL 0 σ [(0, .ref (ga Γ 0)), (1, .int (zJ p1)), (2, .long p2), (4, .int (zJ p4))] [])
  have j77 : ∀ (σ_77 : Mm) (v2_77 : Int64), x_X1_searchDrop_j77 R σ_77 v2_77 = some o → PT Γ 7 shL 77 σ_77 [(0, .ref (ga Γ 0)), (2, .long v2_77)] [] := by
    intro σ_77 v2_77 h
    unfold x_X1_searchDrop_j77 at h
    refine p_aload_n G rfl 0 rfl dX1_searchDrop_77 ?_
    refine p_get G dX1_searchDrop_78 fl_X1_76 (k := 0) rfl rfl ?_
    refine p_lload_n G rfl 1 rfl dX1_searchDrop_81 ?_
    refine p_ldc2 G gm_854 dX1_searchDrop_82 ?_
    refine p_lxor G dX1_searchDrop_85 ?_
    refine p_land G dX1_searchDrop_86 ?_
    obtain ⟨v13, hc, h⟩ := bnd_some h
    refine p_callS0 G dX1_searchDrop_87 lk_X1_112 (c_X1_mostPointsOf (gl Γ) hc) (As := [.long ((zL (σ_77 0 12)) &&& (v2_77 ^^^ (-1 : Int64)))]) rfl zk_9 rfl (Nat.le_of_ble_eq_true rfl) (by refine ⟨rfl, rfl, ?_, ?_⟩ <;> simp only [rm_X1_searchDrop, rm_X1_mostPointsOf] <;> omega) hcs ?_
    refine p_istoreU (lv' := [(5, .int (zJ v13)), (0, .ref (ga Γ 0)), (2, .long v2_77)]) G dX1_searchDrop_90 (by decide) rfl ?_
    refine p_aload_n G rfl 1 rfl dX1_searchDrop_92 ?_
    refine p_get G dX1_searchDrop_93 fl_X1_69 (k := 0) rfl rfl ?_
    refine p_lload_n G rfl 2 rfl dX1_searchDrop_96 ?_
    refine p_ldc2 G gm_854 dX1_searchDrop_97 ?_
    refine p_lxor G dX1_searchDrop_100 ?_
    refine p_land G dX1_searchDrop_101 ?_
    obtain ⟨v14, hc, h⟩ := bnd_some h
    refine p_callS0 G dX1_searchDrop_102 lk_X1_43 (c_X6_pointsOf (gl Γ) hc) (As := [.long ((zL (σ_77 0 11)) &&& (v2_77 ^^^ (-1 : Int64)))]) rfl zk_9 rfl (Nat.le_of_ble_eq_true rfl) (by refine ⟨rfl, rfl, ?_, ?_⟩ <;> simp only [rm_X1_searchDrop, rm_X6_pointsOf] <;> omega) hcs ?_
    refine p_iload G 0 rfl dX1_searchDrop_105 ?_
    refine p_isub G dX1_searchDrop_107 ?_
    refine p_istore (lv' := fun v15 => [(6, .int (zJ v15)), (5, .int (zJ v13)), (0, .ref (ga Γ 0)), (2, .long v2_77)]) G dX1_searchDrop_108 h (by decide) (fun _ => rfl) (fun v15 h => ?_)
    refine p_iload G 1 rfl dX1_searchDrop_110 ?_
    refine p_ifle (tgt := 138) G dX1_searchDrop_112 (by decide) h (fun c20 h => ?_) (fun c20 h => ?_)
    · (cases h; exact p_vret G hR dX1_searchDrop_138 rfl rfl)
    · refine p_aload_n G rfl 2 rfl dX1_searchDrop_115 ?_
      refine p_get G dX1_searchDrop_116 fl_X1_79 (k := 0) rfl rfl ?_
      refine p_iconst G rfl dX1_searchDrop_119 ?_
      refine p_icmpeq (tgt := 132) G dX1_searchDrop_120 (by decide) h (fun c19 h => ?_) (fun c19 h => ?_)
      · refine p_aload_n G rfl 2 rfl dX1_searchDrop_132 ?_
        refine p_iload G 0 rfl dX1_searchDrop_133 ?_
        refine p_putI G dX1_searchDrop_135 fp_X1_79 (k := 0) rfl rfl rfl rfl h (fun σ16 h => ?_)
        (cases h; exact p_vret G hR dX1_searchDrop_138 rfl rfl)
      · refine p_iload G 0 rfl dX1_searchDrop_123 ?_
        refine p_aload_n G rfl 2 rfl dX1_searchDrop_125 ?_
        refine p_get G dX1_searchDrop_126 fl_X1_79 (k := 0) rfl rfl ?_
        refine p_icmpge (tgt := 138) G dX1_searchDrop_129 (by decide) h (fun c18 h => ?_) (fun c18 h => ?_)
        · (cases h; exact p_vret G hR dX1_searchDrop_138 rfl rfl)
        · refine p_aload_n G rfl 2 rfl dX1_searchDrop_132 ?_
          refine p_iload G 0 rfl dX1_searchDrop_133 ?_
          refine p_putI G dX1_searchDrop_135 fp_X1_79 (k := 0) rfl rfl rfl rfl h (fun σ17 h => ?_)
          (cases h; exact p_vret G hR dX1_searchDrop_138 rfl rfl)
  refine p_iload G 3 rfl dX1_searchDrop_0 ?_
  refine p_iflt (tgt := 11) G dX1_searchDrop_2 (by decide) h (fun c22 h => ?_) (fun c22 h => ?_)
  · (cases h; exact p_vret G hR dX1_searchDrop_11 rfl rfl)
  · refine p_iload G 3 rfl dX1_searchDrop_5 ?_
    refine p_iconst G rfl dX1_searchDrop_7 ?_
    refine p_icmple (tgt := 12) G dX1_searchDrop_8 (by decide) h (fun c21 h => ?_) (fun c21 h => ?_)
    · refine p_iload_n G rfl 1 rfl dX1_searchDrop_12 ?_
      refine p_istoreU (lv' := [(5, .int (zJ p1)), (0, .ref (ga Γ 0)), (1, .int (zJ p1)), (2, .long p2), (4, .int (zJ p4))]) G dX1_searchDrop_13 (by decide) rfl ?_
      refine p_lv [1, 3, 4, 0] rfl ?_
      obtain ⟨e11, hl15, h⟩ := bnd_some h
      have hX15_77 : ∀ (σ12 : Mm), σ12 = e11 → PT Γ 7 shL 77 σ12 [(0, .ref (ga Γ 0)), (2, .long p2)] [] := by
        intro σ12 he
        subst he
        exact j77 _ _ h
      refine lup_walk (s := (σ, p1)) (At := fun s : Mm × Int => PT Γ 7 shL 15 s.1 [(0, .ref (ga Γ 0)), (2, .long p2), (4, .int (zJ p4)), (5, .int (zJ s.2))] []) (fun s r hf hin15 hout15 => ?_) hl15
      obtain ⟨σ15, u5_15⟩ := s
      have h : x_X1_searchDrop_b15 R p2 p4 σ15 u5_15 = some r := hf
      clear hf
      unfold x_X1_searchDrop_b15 at h
      refine (?_ : PT Γ 7 shL 15 σ15 [(0, .ref (ga Γ 0)), (2, .long p2), (4, .int (zJ p4)), (5, .int (zJ u5_15))] [])
      refine p_iload G 3 rfl dX1_searchDrop_15 ?_
      refine p_iflt (tgt := 77) G dX1_searchDrop_17 (by decide) h (fun c9 h => ?_) (fun c9 h => ?_)
      · refine p_lv [0, 1] rfl ?_
        have he := hout15 _ (Option.some.inj h).symm
        subst he
        exact hX15_77 _ rfl
      · refine p_iload G 3 rfl dX1_searchDrop_20 ?_
        refine p_aload_n G rfl 0 rfl dX1_searchDrop_22 ?_
        refine p_get G dX1_searchDrop_23 fl_X1_35 (k := 0) rfl rfl ?_
        refine p_icmpge (tgt := 77) G dX1_searchDrop_26 (by decide) h (fun c8 h => ?_) (fun c8 h => ?_)
        · refine p_lv [0, 1] rfl ?_
          have he := hout15 _ (Option.some.inj h).symm
          subst he
          exact hX15_77 _ rfl
        · refine p_iload G 3 rfl dX1_searchDrop_29 ?_
          refine p_bipush G (by decide) (by decide) dX1_searchDrop_31 ?_
          refine p_icmpge (tgt := 77) G dX1_searchDrop_33 (by decide) h (fun c7 h => ?_) (fun c7 h => ?_)
          · refine p_lv [0, 1] rfl ?_
            have he := hout15 _ (Option.some.inj h).symm
            subst he
            exact hX15_77 _ rfl
          · refine p_aload_n G rfl 0 rfl dX1_searchDrop_36 ?_
            refine p_get G dX1_searchDrop_37 fl_X1_11 (k := 0) rfl rfl ?_
            refine p_iload G 3 rfl dX1_searchDrop_40 ?_
            refine p_lald G dX1_searchDrop_42 (k := 1) rfl (zt_c _) h (fun c1 h => ?_)
            refine p_lload_n G rfl 1 rfl dX1_searchDrop_43 ?_
            refine p_land G dX1_searchDrop_44 ?_
            refine p_lconst G (v := 0) (by decide) dX1_searchDrop_45 ?_
            refine p_lcmp G dX1_searchDrop_46 ?_
            refine p_ifne (tgt := 71) G dX1_searchDrop_47 (by decide) h (fun c6 h => ?_) (fun c6 h => ?_)
            · refine p_iinc (lv' := fun v2 => [(5, .int (zJ v2)), (0, .ref (ga Γ 0)), (2, .long p2), (4, .int (zJ p4))]) G dX1_searchDrop_71 h 3 rfl (by decide) (fun _ => rfl) (fun v2 h => ?_)
              refine p_goto (tgt := 15) G dX1_searchDrop_74 (by decide) ?_
              refine p_lv [1, 2, 3, 0] rfl ?_
              exact hin15 _ (Option.some.inj h).symm
            · refine p_aload_n G rfl 0 rfl dX1_searchDrop_50 ?_
              refine p_iload G 3 rfl dX1_searchDrop_51 ?_
              refine p_iconst G rfl dX1_searchDrop_53 ?_
              refine p_iadd G dX1_searchDrop_54 ?_
              refine p_lload_n G rfl 1 rfl dX1_searchDrop_55 ?_
              refine p_aload_n G rfl 0 rfl dX1_searchDrop_56 ?_
              refine p_get G dX1_searchDrop_57 fl_X1_11 (k := 0) rfl rfl ?_
              refine p_iload G 3 rfl dX1_searchDrop_60 ?_
              refine p_lald G dX1_searchDrop_62 (k := 1) rfl (zt_c _) h (fun c3 h => ?_)
              refine p_lor G dX1_searchDrop_63 ?_
              refine p_iload G 2 rfl dX1_searchDrop_64 ?_
              refine p_iconst G rfl dX1_searchDrop_66 ?_
              refine p_iadd G dX1_searchDrop_67 ?_
              obtain ⟨σ4, hc, h⟩ := bnd_some h
              refine p_callVi G dX1_searchDrop_68 lk_X1_82 (IH (gl Γ) hc) (As := [.int (zJ (u5_15 + (1 : Int))), .long (p2 ||| (zL (σ15 1 (zix u5_15)))), .int (zJ (p4 + (1 : Int)))]) (ci := 3) rfl rfl rfl rfl (Nat.le_of_ble_eq_true rfl) (by refine ⟨rfl, rfl, ?_, ?_⟩ <;> simp only [rm_X1_searchDrop, rm_X1_searchDrop] <;> omega) hcs ?_
              refine p_iinc (lv' := fun v5 => [(5, .int (zJ v5)), (0, .ref (ga Γ 0)), (2, .long p2), (4, .int (zJ p4))]) G dX1_searchDrop_71 h 3 rfl (by decide) (fun _ => rfl) (fun v5 h => ?_)
              refine p_goto (tgt := 15) G dX1_searchDrop_74 (by decide) ?_
              refine p_lv [1, 2, 3, 0] rfl ?_
              exact hin15 _ (Option.some.inj h).symm
    · (cases h; exact p_vret G hR dX1_searchDrop_11 rfl rfl)
theorem c_X1_searchDrop : ∀ (d : Nat) (l : Launch) {D : va_G} {yy : Nat → ClassId} {tk tv a : Nat → Nat} {σ : Mm} {p1 : Int} {p2 : Int64} {p4 : Int} {o : Mm} (h : x_X1_searchDrop d σ p1 p2 p4 = some o), CT l yX1_searchDrop cX1_searchDrop 7 none (rm_X1_searchDrop d) shL D yy tk tv a σ [.ref (a 0), .int (zJ p1), .long p2, .int (zJ p4)] o none
  | 0, _, _, _, _, _, _, _, _, _, _, _, h => by cases h
  | n + 1, l, D, yy, tk, tv, a, _, _, _, _, _, h => s_X1_searchDrop (x_X1_searchDrop n) n (fun l {_} {_} {_} {_} {_} {_} {_} {_} {_} {_} h => c_X1_searchDrop n l h) l h
set_option maxHeartbeats 4000000 in
set_option maxRecDepth 100000 in
theorem c_X1_restBehindDrop (l : Launch) {D : va_G} {yy : Nat → ClassId} {tk tv a : Nat → Nat} {σ : Mm} {p1 : Int64} {p3 : Int} {o : Mm × Int} (h : x_X1_restBehindDrop σ p1 p3 = some o) : CT l yX1_restBehindDrop cX1_restBehindDrop 4 (some .int) rm_X1_restBehindDrop shL D yy tk tv a σ [.ref (a 0), .long p1, .int (zJ p3)] o.1 (some (.int (zJ o.2))) := by
  refine ct_of (Ar := fun a tk => [.ref (a 0), .long p1, .int (zJ p3)]) (by decide) (Nat.le_of_ble_eq_true rfl) (fun Γ G _ _ hR => ?_)
  have hcs := rt_cs hR
  unfold x_X1_restBehindDrop at h
  refine (?_ : PT Γ 4 shL 0 σ [(0, .ref (ga Γ 0)), (1, .long p1), (3, .int (zJ p3))] [])
  refine p_aload_n G rfl 0 rfl dX1_restBehindDrop_0 ?_
  refine p_lload_n G rfl 1 rfl dX1_restBehindDrop_1 ?_
  obtain ⟨σ1, hc, h⟩ := bnd_some h
  refine p_callVi G dX1_restBehindDrop_2 lk_X1_31 (c_X1_collect (gl Γ) hc) (As := [.long p1]) (ci := 3) rfl rfl rfl rfl (Nat.le_of_ble_eq_true rfl) ⟨rfl, rfl, Nat.le_of_ble_eq_true rfl, Nat.le_of_ble_eq_true rfl⟩ hcs ?_
  refine p_aload_n G rfl 0 rfl dX1_restBehindDrop_5 ?_
  refine p_lload_n G rfl 1 rfl dX1_restBehindDrop_6 ?_
  refine p_putL G dX1_restBehindDrop_7 fp_X1_69 (k := 0) rfl rfl rfl rfl h (fun σ2 h => ?_)
  refine p_aload_n G rfl 0 rfl dX1_restBehindDrop_10 ?_
  refine p_lload_n G rfl 1 rfl dX1_restBehindDrop_11 ?_
  refine p_iload_n G rfl 2 rfl dX1_restBehindDrop_12 ?_
  obtain ⟨v3, hc, h⟩ := bnd_some h
  refine p_callS0 G dX1_restBehindDrop_13 lk_X1_72 (c_X6_bitOf (gl Γ) hc) (As := [.int (zJ p3)]) rfl zk_9 rfl (Nat.le_of_ble_eq_true rfl) ⟨rfl, rfl, Nat.le_of_ble_eq_true rfl, Nat.le_of_ble_eq_true rfl⟩ hcs ?_
  refine p_ldc2 G gm_854 dX1_restBehindDrop_16 ?_
  refine p_lxor G dX1_restBehindDrop_19 ?_
  refine p_land G dX1_restBehindDrop_20 ?_
  refine p_putL G dX1_restBehindDrop_21 fp_X1_76 (k := 0) rfl rfl rfl rfl h (fun σ4 h => ?_)
  refine p_aload_n G rfl 0 rfl dX1_restBehindDrop_24 ?_
  refine p_iconst G rfl dX1_restBehindDrop_25 ?_
  refine p_putI G dX1_restBehindDrop_26 fp_X1_79 (k := 0) rfl rfl rfl rfl h (fun σ5 h => ?_)
  refine p_aload_n G rfl 0 rfl dX1_restBehindDrop_29 ?_
  refine p_iconst G rfl dX1_restBehindDrop_30 ?_
  refine p_lconst G (v := 0) (by decide) dX1_restBehindDrop_31 ?_
  refine p_iconst G rfl dX1_restBehindDrop_32 ?_
  obtain ⟨σ6, hc, h⟩ := bnd_some h
  refine p_callVi G dX1_restBehindDrop_33 lk_X1_82 (c_X1_searchDrop 6 (gl Γ) hc) (As := [.int (zJ (0 : Int)), .long (0 : Int64), .int (zJ (0 : Int))]) (ci := 3) rfl rfl rfl rfl (Nat.le_of_ble_eq_true rfl) ⟨rfl, rfl, Nat.le_of_ble_eq_true rfl, Nat.le_of_ble_eq_true rfl⟩ hcs ?_
  refine p_aload_n G rfl 0 rfl dX1_restBehindDrop_36 ?_
  refine p_get G dX1_restBehindDrop_37 fl_X1_79 (k := 0) rfl rfl ?_
  (cases h; exact p_iret G hR dX1_restBehindDrop_40 rfl rfl)
set_option maxHeartbeats 4000000 in
set_option maxRecDepth 100000 in
theorem c_X1_foundAt (l : Launch) {D : va_G} {yy : Nat → ClassId} {tk tv a : Nat → Nat} {σ : Mm} {p1 : Int} {o : Int64} (h : x_X1_foundAt σ p1 = some o) : CT l yX1_foundAt cX1_foundAt 2 (some .long) rm_X1_foundAt shL D yy tk tv a σ [.ref (a 0), .int (zJ p1)] σ (some (.long o)) := by
  refine ct_of (Ar := fun a tk => [.ref (a 0), .int (zJ p1)]) (by decide) (Nat.le_of_ble_eq_true rfl) (fun Γ G _ _ hR => ?_)
  have hcs := rt_cs hR
  unfold x_X1_foundAt at h
  refine (?_ : PT Γ 2 shL 0 σ [(0, .ref (ga Γ 0)), (1, .int (zJ p1))] [])
  refine p_iload_n G rfl 1 rfl dX1_foundAt_0 ?_
  refine p_iflt (tgt := 30) G dX1_foundAt_1 (by decide) h (fun c4 h => ?_) (fun c4 h => ?_)
  · refine p_lconst G (v := 0) (by decide) dX1_foundAt_30 ?_
    (cases h; exact p_lret G hR dX1_foundAt_31 rfl rfl)
  · refine p_iload_n G rfl 1 rfl dX1_foundAt_4 ?_
    refine p_aload_n G rfl 0 rfl dX1_foundAt_5 ?_
    refine p_get G dX1_foundAt_6 fl_X1_50 (k := 0) rfl rfl ?_
    refine p_icmpge (tgt := 30) G dX1_foundAt_9 (by decide) h (fun c3 h => ?_) (fun c3 h => ?_)
    · refine p_lconst G (v := 0) (by decide) dX1_foundAt_30 ?_
      (cases h; exact p_lret G hR dX1_foundAt_31 rfl rfl)
    · refine p_iload_n G rfl 1 rfl dX1_foundAt_12 ?_
      refine p_aload_n G rfl 0 rfl dX1_foundAt_13 ?_
      refine p_get G dX1_foundAt_14 fl_X1_28 (k := 0) rfl rfl ?_
      refine p_alen G dX1_foundAt_17 (k := 6) (kd := 1) rfl (by decide) (by decide) ?_
      refine p_icmpge (tgt := 30) G dX1_foundAt_18 (by decide) h (fun c2 h => ?_) (fun c2 h => ?_)
      · refine p_lconst G (v := 0) (by decide) dX1_foundAt_30 ?_
        (cases h; exact p_lret G hR dX1_foundAt_31 rfl rfl)
      · refine p_aload_n G rfl 0 rfl dX1_foundAt_21 ?_
        refine p_get G dX1_foundAt_22 fl_X1_28 (k := 0) rfl rfl ?_
        refine p_iload_n G rfl 1 rfl dX1_foundAt_25 ?_
        refine p_lald G dX1_foundAt_26 (k := 6) rfl (zt_c _) h (fun c1 h => ?_)
        refine p_goto (tgt := 31) G dX1_foundAt_27 (by decide) ?_
        (cases h; exact p_lret G hR dX1_foundAt_31 rfl rfl)
set_option maxHeartbeats 4000000 in
set_option maxRecDepth 100000 in
theorem c_X6_has (l : Launch) {D : va_G} {yy : Nat → ClassId} {tk tv a : Nat → Nat} {σ : Mm} {p0 : Int64} {p2 : Int} {o : Int} (h : x_X6_has p0 p2 = some o) : CT l yX6_has cX6_has 3 (some .boolean) rm_X6_has shN D yy tk tv a σ [.long p0, .int (zJ p2)] σ (some (.int (zJ o))) := by
  refine ct_of (Ar := fun a tk => [.long p0, .int (zJ p2)]) (by decide) (Nat.le_of_ble_eq_true rfl) (fun Γ G _ _ hR => ?_)
  have hcs := rt_cs hR
  unfold x_X6_has at h
  refine (?_ : PT Γ 3 shN 0 σ [(0, .long p0), (2, .int (zJ p2))] [])
  refine p_lload_n G rfl 0 rfl dX6_has_0 ?_
  refine p_iload_n G rfl 1 rfl dX6_has_1 ?_
  obtain ⟨v1, hc, h⟩ := bnd_some h
  refine p_callS0 G dX6_has_2 lk_X6_281 (c_X6_bitOf (gl Γ) hc) (As := [.int (zJ p2)]) rfl zk_1 rfl (Nat.le_of_ble_eq_true rfl) ⟨rfl, rfl, Nat.le_of_ble_eq_true rfl, Nat.le_of_ble_eq_true rfl⟩ hcs ?_
  refine p_land G dX6_has_5 ?_
  refine p_lconst G (v := 0) (by decide) dX6_has_6 ?_
  refine p_lcmp G dX6_has_7 ?_
  refine p_ifeq (tgt := 15) G dX6_has_8 (by decide) h (fun c2 h => ?_) (fun c2 h => ?_)
  · refine p_iconst G rfl dX6_has_15 ?_
    (cases h; exact p_zret G hR dX6_has_16 (by decide) rfl rfl)
  · refine p_iconst G rfl dX6_has_11 ?_
    refine p_goto (tgt := 16) G dX6_has_12 (by decide) ?_
    (cases h; exact p_zret G hR dX6_has_16 (by decide) rfl rfl)
set_option maxHeartbeats 4000000 in
set_option maxRecDepth 100000 in
theorem c_X1_indexOf (l : Launch) {D : va_G} {yy : Nat → ClassId} {tk tv a : Nat → Nat} {σ : Mm} {p1 : Int} {o : Int} (h : x_X1_indexOf σ p1 = some o) : CT l yX1_indexOf cX1_indexOf 3 (some .int) rm_X1_indexOf shL D yy tk tv a σ [.ref (a 0), .int (zJ p1)] σ (some (.int (zJ o))) := by
  refine ct_of (Ar := fun a tk => [.ref (a 0), .int (zJ p1)]) (by decide) (Nat.le_of_ble_eq_true rfl) (fun Γ G _ _ hR => ?_)
  have hcs := rt_cs hR
  unfold x_X1_indexOf at h
  refine (?_ : PT Γ 3 shL 0 σ [(0, .ref (ga Γ 0)), (1, .int (zJ p1))] [])
  refine p_iconst G rfl dX1_indexOf_0 ?_
  refine p_istore_nU (lv' := [(2, .int (zJ (0 : Int))), (0, .ref (ga Γ 0)), (1, .int (zJ p1))]) G rfl dX1_indexOf_1 (by decide) rfl ?_
  refine p_lv [1, 2, 0] rfl ?_
  obtain ⟨e7, hl2, h⟩ := bnd_some h
  have hX2_22 : ∀ (v8 : Int), (.inl v8) = e7 → PT Γ 3 shL 22 σ [(2, .int (zJ v8))] [] := by
    intro v8 he
    subst he
    rw [zel_l] at h
    refine p_iload_n G rfl 0 rfl dX1_indexOf_22 ?_
    (cases h; exact p_iret G hR dX1_indexOf_23 rfl rfl)
  have hX2_30 : ∀ (_ : Unit), (.inr ()) = e7 → PT Γ 3 shL 30 σ [] [] := by
    intro _ he
    subst he
    rw [zel_r] at h
    refine p_iconst G rfl dX1_indexOf_30 ?_
    (cases h; exact p_iret G hR dX1_indexOf_31 rfl rfl)
  refine lup_walk (s := (0 : Int)) (At := fun s : Int => PT Γ 3 shL 2 σ [(0, .ref (ga Γ 0)), (1, .int (zJ p1)), (2, .int (zJ s))] []) (fun u2_2 r hf hin2 hout2 => ?_) hl2
  have h : x_X1_indexOf_b2 σ p1 u2_2 = some r := hf
  clear hf
  unfold x_X1_indexOf_b2 at h
  refine (?_ : PT Γ 3 shL 2 σ [(0, .ref (ga Γ 0)), (1, .int (zJ p1)), (2, .int (zJ u2_2))] [])
  refine p_iload_n G rfl 2 rfl dX1_indexOf_2 ?_
  refine p_aload_n G rfl 0 rfl dX1_indexOf_3 ?_
  refine p_get G dX1_indexOf_4 fl_X1_50 (k := 0) rfl rfl ?_
  refine p_icmpge (tgt := 30) G dX1_indexOf_7 (by decide) h (fun c5 h => ?_) (fun c5 h => ?_)
  · refine p_lv [] rfl ?_
    have he := hout2 _ (Option.some.inj h).symm
    subst he
    exact hX2_30 () rfl
  · refine p_aload_n G rfl 0 rfl dX1_indexOf_10 ?_
    refine p_iload_n G rfl 2 rfl dX1_indexOf_11 ?_
    obtain ⟨v1, hc, h⟩ := bnd_some h
    refine p_callVi G dX1_indexOf_12 lk_X1_125 (c_X1_foundAt (gl Γ) hc) (As := [.int (zJ u2_2)]) (ci := 3) rfl rfl rfl rfl (Nat.le_of_ble_eq_true rfl) ⟨rfl, rfl, Nat.le_of_ble_eq_true rfl, Nat.le_of_ble_eq_true rfl⟩ hcs ?_
    refine p_iload_n G rfl 1 rfl dX1_indexOf_15 ?_
    obtain ⟨v2, hc, h⟩ := bnd_some h
    refine p_callS0 G dX1_indexOf_16 lk_X1_128 (c_X6_has (gl Γ) hc) (As := [.long v1, .int (zJ p1)]) rfl zk_9 rfl (Nat.le_of_ble_eq_true rfl) ⟨rfl, rfl, Nat.le_of_ble_eq_true rfl, Nat.le_of_ble_eq_true rfl⟩ hcs ?_
    refine p_ifeq (tgt := 24) G dX1_indexOf_19 (by decide) h (fun c4 h => ?_) (fun c4 h => ?_)
    · refine p_iinc (lv' := fun v3 => [(2, .int (zJ v3)), (0, .ref (ga Γ 0)), (1, .int (zJ p1))]) G dX1_indexOf_24 h 2 rfl (by decide) (fun _ => rfl) (fun v3 h => ?_)
      refine p_goto (tgt := 2) G dX1_indexOf_27 (by decide) ?_
      refine p_lv [1, 2, 0] rfl ?_
      exact hin2 _ (Option.some.inj h).symm
    · refine p_lv [2] rfl ?_
      have he := hout2 _ (Option.some.inj h).symm
      subst he
      exact hX2_22 _ rfl
set_option maxHeartbeats 4000000 in
set_option maxRecDepth 100000 in
theorem c_X6_beginningsOf (l : Launch) {D : va_G} {yy : Nat → ClassId} {tk tv a : Nat → Nat} {σ : Mm} {p0 : Int64} {o : Int64} (h : x_X6_beginningsOf p0 = some o) : CT l yX6_beginningsOf cX6_beginningsOf 4 (some .long) rm_X6_beginningsOf shN D yy tk tv a σ [.long p0] σ (some (.long o)) := by
  refine ct_of (Ar := fun a tk => [.long p0]) (by decide) (Nat.le_of_ble_eq_true rfl) (fun Γ G _ _ hR => ?_)
  have hcs := rt_cs hR
  unfold x_X6_beginningsOf at h
  refine (?_ : PT Γ 4 shN 0 σ [(0, .long p0)] [])
  refine p_lload_n G rfl 0 rfl dX6_beginningsOf_0 ?_
  refine p_iconst G rfl dX6_beginningsOf_1 ?_
  refine p_lshl G dX6_beginningsOf_2 ?_
  refine p_lload_n G rfl 0 rfl dX6_beginningsOf_3 ?_
  refine p_bipush G (by decide) (by decide) dX6_beginningsOf_4 ?_
  refine p_lushr G dX6_beginningsOf_6 ?_
  refine p_lor G dX6_beginningsOf_7 ?_
  refine p_ldc2 G gm_901 dX6_beginningsOf_8 ?_
  refine p_land G dX6_beginningsOf_11 ?_
  refine p_lstore_n (lv' := fun v1 => [(2, .long v1), (0, .long p0)]) G rfl dX6_beginningsOf_12 h (by decide) (fun _ => rfl) (fun v1 h => ?_)
  refine p_lload_n G rfl 1 rfl dX6_beginningsOf_13 ?_
  refine p_lload_n G rfl 0 rfl dX6_beginningsOf_14 ?_
  refine p_ldc2 G gm_900 dX6_beginningsOf_15 ?_
  refine p_lxor G dX6_beginningsOf_18 ?_
  refine p_land G dX6_beginningsOf_19 ?_
  (cases h; exact p_lret G hR dX6_beginningsOf_20 rfl rfl)
set_option maxHeartbeats 4000000 in
set_option maxRecDepth 100000 in
theorem c_X6_kindOf (l : Launch) {D : va_G} {yy : Nat → ClassId} {tk tv a : Nat → Nat} {σ : Mm} {p0 : Int64} {o : Int} (h : x_X6_kindOf p0 = some o) : CT l yX6_kindOf cX6_kindOf 4 (some .int) rm_X6_kindOf shN D yy tk tv a σ [.long p0] σ (some (.int (zJ o))) := by
  refine ct_of (Ar := fun a tk => [.long p0]) (by decide) (Nat.le_of_ble_eq_true rfl) (fun Γ G _ _ hR => ?_)
  have hcs := rt_cs hR
  unfold x_X6_kindOf at h
  refine (?_ : PT Γ 4 shN 0 σ [(0, .long p0)] [])
  refine p_lload_n G rfl 0 rfl dX6_kindOf_0 ?_
  obtain ⟨v1, hc, h⟩ := bnd_some h
  refine p_callS0 G dX6_kindOf_1 lk_X6_226 (c_J_Long_bitCount (gl Γ) hc) (As := [.long p0]) rfl zk_1 rfl (Nat.le_of_ble_eq_true rfl) ⟨rfl, rfl, Nat.le_of_ble_eq_true rfl, Nat.le_of_ble_eq_true rfl⟩ hcs ?_
  refine p_iconst G rfl dX6_kindOf_4 ?_
  refine p_icmpge (tgt := 10) G dX6_kindOf_5 (by decide) h (fun c9 h => ?_) (fun c9 h => ?_)
  · refine p_lload_n G rfl 0 rfl dX6_kindOf_10 ?_
    obtain ⟨v2, hc, h⟩ := bnd_some h
    refine p_callS0 G dX6_kindOf_11 lk_X6_250 (c_X6_lowestOf (gl Γ) hc) (As := [.long p0]) rfl zk_1 rfl (Nat.le_of_ble_eq_true rfl) ⟨rfl, rfl, Nat.le_of_ble_eq_true rfl, Nat.le_of_ble_eq_true rfl⟩ hcs ?_
    refine p_istore_nU (lv' := [(2, .int (zJ v2)), (0, .long p0)]) G rfl dX6_kindOf_14 (by decide) rfl ?_
    refine p_lload_n G rfl 1 rfl dX6_kindOf_15 ?_
    refine p_ldc2 G gm_899 dX6_kindOf_16 ?_
    refine p_iload_n G rfl 0 rfl dX6_kindOf_19 ?_
    refine p_bipush G (by decide) (by decide) dX6_kindOf_20 ?_
    refine p_iremK G dX6_kindOf_22 (by decide) ?_
    refine p_lshl G dX6_kindOf_23 ?_
    refine p_ldc2 G gm_900 dX6_kindOf_24 ?_
    refine p_lxor G dX6_kindOf_27 ?_
    refine p_land G dX6_kindOf_28 ?_
    refine p_lconst G (v := 0) (by decide) dX6_kindOf_29 ?_
    refine p_lcmp G dX6_kindOf_30 ?_
    refine p_ifne (tgt := 36) G dX6_kindOf_31 (by decide) h (fun c8 h => ?_) (fun c8 h => ?_)
    · refine p_iload_n G rfl 0 rfl dX6_kindOf_36 ?_
      refine p_bipush G (by decide) (by decide) dX6_kindOf_37 ?_
      refine p_idivK G dX6_kindOf_39 (by decide) ?_
      refine p_bipush G (by decide) (by decide) dX6_kindOf_40 ?_
      refine p_imul G dX6_kindOf_42 ?_
      refine p_istore_n (lv' := fun v3 => [(3, .int (zJ v3)), (2, .int (zJ v2)), (0, .long p0)]) G rfl dX6_kindOf_43 h (by decide) (fun _ => rfl) (fun v3 h => ?_)
      refine p_lload_n G rfl 2 rfl dX6_kindOf_44 ?_
      refine p_ldc2 G gm_901 dX6_kindOf_45 ?_
      refine p_iload_n G rfl 0 rfl dX6_kindOf_48 ?_
      refine p_lshl G dX6_kindOf_49 ?_
      refine p_ldc2 G gm_900 dX6_kindOf_50 ?_
      refine p_lxor G dX6_kindOf_53 ?_
      refine p_land G dX6_kindOf_54 ?_
      refine p_lconst G (v := 0) (by decide) dX6_kindOf_55 ?_
      refine p_lcmp G dX6_kindOf_56 ?_
      refine p_ifeq (tgt := 62) G dX6_kindOf_57 (by decide) h (fun c7 h => ?_) (fun c7 h => ?_)
      · refine p_lload_n G rfl 2 rfl dX6_kindOf_62 ?_
        refine p_iload_n G rfl 0 rfl dX6_kindOf_63 ?_
        refine p_lushr G dX6_kindOf_64 ?_
        obtain ⟨v4, hc, h⟩ := bnd_some h
        refine p_callS0 G dX6_kindOf_65 lk_X6_332 (c_X6_beginningsOf (gl Γ) hc) (As := [.long (zlushr p0 v3)]) rfl zk_1 rfl (Nat.le_of_ble_eq_true rfl) ⟨rfl, rfl, Nat.le_of_ble_eq_true rfl, Nat.le_of_ble_eq_true rfl⟩ hcs ?_
        obtain ⟨v5, hc, h⟩ := bnd_some h
        refine p_callS0 G dX6_kindOf_68 lk_X6_226 (c_J_Long_bitCount (gl Γ) hc) (As := [.long v4]) rfl zk_1 rfl (Nat.le_of_ble_eq_true rfl) ⟨rfl, rfl, Nat.le_of_ble_eq_true rfl, Nat.le_of_ble_eq_true rfl⟩ hcs ?_
        refine p_iconst G rfl dX6_kindOf_71 ?_
        refine p_icmpgt (tgt := 79) G dX6_kindOf_72 (by decide) h (fun c6 h => ?_) (fun c6 h => ?_)
        · refine p_iconst G rfl dX6_kindOf_79 ?_
          (cases h; exact p_iret G hR dX6_kindOf_80 rfl rfl)
        · refine p_iconst G rfl dX6_kindOf_75 ?_
          refine p_goto (tgt := 80) G dX6_kindOf_76 (by decide) ?_
          (cases h; exact p_iret G hR dX6_kindOf_80 rfl rfl)
      · refine p_iconst G rfl dX6_kindOf_60 ?_
        (cases h; exact p_iret G hR dX6_kindOf_61 rfl rfl)
    · refine p_iconst G rfl dX6_kindOf_34 ?_
      (cases h; exact p_iret G hR dX6_kindOf_35 rfl rfl)
  · refine p_iconst G rfl dX6_kindOf_8 ?_
    (cases h; exact p_iret G hR dX6_kindOf_9 rfl rfl)
set_option maxHeartbeats 4000000 in
set_option maxRecDepth 100000 in
theorem c_X1_countKind (l : Launch) {D : va_G} {yy : Nat → ClassId} {tk tv a : Nat → Nat} {σ : Mm} {p1 : Int} {o : Int} (h : x_X1_countKind σ p1 = some o) : CT l yX1_countKind cX1_countKind 4 (some .int) rm_X1_countKind shL D yy tk tv a σ [.ref (a 0), .int (zJ p1)] σ (some (.int (zJ o))) := by
  refine ct_of (Ar := fun a tk => [.ref (a 0), .int (zJ p1)]) (by decide) (Nat.le_of_ble_eq_true rfl) (fun Γ G _ _ hR => ?_)
  have hcs := rt_cs hR
  unfold x_X1_countKind at h
  refine (?_ : PT Γ 4 shL 0 σ [(0, .ref (ga Γ 0)), (1, .int (zJ p1))] [])
  refine p_iconst G rfl dX1_countKind_0 ?_
  refine p_istore_nU (lv' := [(2, .int (zJ (0 : Int))), (0, .ref (ga Γ 0)), (1, .int (zJ p1))]) G rfl dX1_countKind_1 (by decide) rfl ?_
  refine p_iconst G rfl dX1_countKind_2 ?_
  refine p_istore_nU (lv' := [(3, .int (zJ (0 : Int))), (2, .int (zJ (0 : Int))), (0, .ref (ga Γ 0)), (1, .int (zJ p1))]) G rfl dX1_countKind_3 (by decide) rfl ?_
  refine p_lv [2, 3, 1, 0] rfl ?_
  obtain ⟨e9, hl4, h⟩ := bnd_some h
  have hX4_33 : ∀ (v10 : Int), v10 = e9 → PT Γ 4 shL 33 σ [(2, .int (zJ v10))] [] := by
    intro v10 he
    subst he
    refine p_iload_n G rfl 0 rfl dX1_countKind_33 ?_
    (cases h; exact p_iret G hR dX1_countKind_34 rfl rfl)
  refine lup_walk (s := ((0 : Int), (0 : Int))) (At := fun s : Int × Int => PT Γ 4 shL 4 σ [(0, .ref (ga Γ 0)), (1, .int (zJ p1)), (2, .int (zJ s.1)), (3, .int (zJ s.2))] []) (fun s r hf hin4 hout4 => ?_) hl4
  obtain ⟨u2_4, u3_4⟩ := s
  have h : x_X1_countKind_b4 σ p1 u2_4 u3_4 = some r := hf
  clear hf
  unfold x_X1_countKind_b4 at h
  refine (?_ : PT Γ 4 shL 4 σ [(0, .ref (ga Γ 0)), (1, .int (zJ p1)), (2, .int (zJ u2_4)), (3, .int (zJ u3_4))] [])
  refine p_iload_n G rfl 3 rfl dX1_countKind_4 ?_
  refine p_aload_n G rfl 0 rfl dX1_countKind_5 ?_
  refine p_get G dX1_countKind_6 fl_X1_50 (k := 0) rfl rfl ?_
  refine p_icmpge (tgt := 33) G dX1_countKind_9 (by decide) h (fun c7 h => ?_) (fun c7 h => ?_)
  · refine p_lv [2] rfl ?_
    have he := hout4 _ (Option.some.inj h).symm
    subst he
    exact hX4_33 _ rfl
  · refine p_aload_n G rfl 0 rfl dX1_countKind_12 ?_
    refine p_iload_n G rfl 3 rfl dX1_countKind_13 ?_
    obtain ⟨v1, hc, h⟩ := bnd_some h
    refine p_callVi G dX1_countKind_14 lk_X1_125 (c_X1_foundAt (gl Γ) hc) (As := [.int (zJ u3_4)]) (ci := 3) rfl rfl rfl rfl (Nat.le_of_ble_eq_true rfl) ⟨rfl, rfl, Nat.le_of_ble_eq_true rfl, Nat.le_of_ble_eq_true rfl⟩ hcs ?_
    obtain ⟨v2, hc, h⟩ := bnd_some h
    refine p_callS0 G dX1_countKind_17 lk_X1_132 (c_X6_kindOf (gl Γ) hc) (As := [.long v1]) rfl zk_9 rfl (Nat.le_of_ble_eq_true rfl) ⟨rfl, rfl, Nat.le_of_ble_eq_true rfl, Nat.le_of_ble_eq_true rfl⟩ hcs ?_
    refine p_iload_n G rfl 1 rfl dX1_countKind_20 ?_
    refine p_icmpne (tgt := 27) G dX1_countKind_21 (by decide) h (fun c6 h => ?_) (fun c6 h => ?_)
    · refine p_iinc (lv' := fun v3 => [(3, .int (zJ v3)), (0, .ref (ga Γ 0)), (1, .int (zJ p1)), (2, .int (zJ u2_4))]) G dX1_countKind_27 h 3 rfl (by decide) (fun _ => rfl) (fun v3 h => ?_)
      refine p_goto (tgt := 4) G dX1_countKind_30 (by decide) ?_
      refine p_lv [1, 2, 3, 0] rfl ?_
      exact hin4 _ (Option.some.inj h).symm
    · refine p_iinc (lv' := fun v4 => [(2, .int (zJ v4)), (0, .ref (ga Γ 0)), (1, .int (zJ p1)), (3, .int (zJ u3_4))]) G dX1_countKind_24 h 2 rfl (by decide) (fun _ => rfl) (fun v4 h => ?_)
      refine p_iinc (lv' := fun v5 => [(3, .int (zJ v5)), (2, .int (zJ v4)), (0, .ref (ga Γ 0)), (1, .int (zJ p1))]) G dX1_countKind_27 h 3 rfl (by decide) (fun _ => rfl) (fun v5 h => ?_)
      refine p_goto (tgt := 4) G dX1_countKind_30 (by decide) ?_
      refine p_lv [2, 3, 1, 0] rfl ?_
      exact hin4 _ (Option.some.inj h).symm
set_option maxHeartbeats 4000000 in
set_option maxRecDepth 100000 in
theorem c_X6_firstOf (l : Launch) {D : va_G} {yy : Nat → ClassId} {tk tv a : Nat → Nat} {σ : Mm} {p0 : Int64} {o : Int} (h : x_X6_firstOf p0 = some o) : CT l yX6_firstOf cX6_firstOf 5 (some .int) rm_X6_firstOf shN D yy tk tv a σ [.long p0] σ (some (.int (zJ o))) := by
  refine ct_of (Ar := fun a tk => [.long p0]) (by decide) (Nat.le_of_ble_eq_true rfl) (fun Γ G _ _ hR => ?_)
  have hcs := rt_cs hR
  unfold x_X6_firstOf at h
  refine (?_ : PT Γ 5 shN 0 σ [(0, .long p0)] [])
  refine p_lload_n G rfl 0 rfl dX6_firstOf_0 ?_
  obtain ⟨v1, hc, h⟩ := bnd_some h
  refine p_callS0 G dX6_firstOf_1 lk_X6_250 (c_X6_lowestOf (gl Γ) hc) (As := [.long p0]) rfl zk_1 rfl (Nat.le_of_ble_eq_true rfl) ⟨rfl, rfl, Nat.le_of_ble_eq_true rfl, Nat.le_of_ble_eq_true rfl⟩ hcs ?_
  refine p_bipush G (by decide) (by decide) dX6_firstOf_4 ?_
  refine p_idivK G dX6_firstOf_6 (by decide) ?_
  refine p_bipush G (by decide) (by decide) dX6_firstOf_7 ?_
  refine p_imul G dX6_firstOf_9 ?_
  refine p_istore_n (lv' := fun v2 => [(2, .int (zJ v2)), (0, .long p0)]) G rfl dX6_firstOf_10 h (by decide) (fun _ => rfl) (fun v2 h => ?_)
  refine p_lload_n G rfl 1 rfl dX6_firstOf_11 ?_
  refine p_iload_n G rfl 0 rfl dX6_firstOf_12 ?_
  refine p_lushr G dX6_firstOf_13 ?_
  refine p_ldc2 G gm_901 dX6_firstOf_14 ?_
  refine p_land G dX6_firstOf_17 ?_
  obtain ⟨v3, hc, h⟩ := bnd_some h
  refine p_callS0 G dX6_firstOf_18 lk_X6_332 (c_X6_beginningsOf (gl Γ) hc) (As := [.long ((zlushr p0 v2) &&& (8191 : Int64))]) rfl zk_1 rfl (Nat.le_of_ble_eq_true rfl) ⟨rfl, rfl, Nat.le_of_ble_eq_true rfl, Nat.le_of_ble_eq_true rfl⟩ hcs ?_
  refine p_lstore_nU (lv' := [(3, .long v3), (2, .int (zJ v2)), (0, .long p0)]) G rfl dX6_firstOf_21 (by decide) rfl ?_
  refine p_lload_n G rfl 0 rfl dX6_firstOf_22 ?_
  refine p_lconst G (v := 0) (by decide) dX6_firstOf_23 ?_
  refine p_lcmp G dX6_firstOf_24 ?_
  refine p_ifne (tgt := 32) G dX6_firstOf_25 (by decide) h (fun c5 h => ?_) (fun c5 h => ?_)
  · refine p_iload_n G rfl 1 rfl dX6_firstOf_32 ?_
    refine p_lload_n G rfl 0 rfl dX6_firstOf_33 ?_
    obtain ⟨v4, hc, h⟩ := bnd_some h
    refine p_callS0 G dX6_firstOf_34 lk_X6_250 (c_X6_lowestOf (gl Γ) hc) (As := [.long v3]) rfl zk_1 rfl (Nat.le_of_ble_eq_true rfl) ⟨rfl, rfl, Nat.le_of_ble_eq_true rfl, Nat.le_of_ble_eq_true rfl⟩ hcs ?_
    refine p_iadd G dX6_firstOf_37 ?_
    (cases h; exact p_iret G hR dX6_firstOf_38 rfl rfl)
  · refine p_iload_n G rfl 1 rfl dX6_firstOf_28 ?_
    refine p_goto (tgt := 38) G dX6_firstOf_29 (by decide) ?_
    (cases h; exact p_iret G hR dX6_firstOf_38 rfl rfl)
set_option maxHeartbeats 4000000 in
set_option maxRecDepth 100000 in
theorem c_X1_countWrapped (l : Launch) {D : va_G} {yy : Nat → ClassId} {tk tv a : Nat → Nat} {σ : Mm} {o : Int} (h : x_X1_countWrapped σ = some o) : CT l yX1_countWrapped cX1_countWrapped 6 (some .int) rm_X1_countWrapped shL D yy tk tv a σ [.ref (a 0)] σ (some (.int (zJ o))) := by
  refine ct_of (Ar := fun a tk => [.ref (a 0)]) (by decide) (Nat.le_of_ble_eq_true rfl) (fun Γ G _ _ hR => ?_)
  have hcs := rt_cs hR
  unfold x_X1_countWrapped at h
  refine (?_ : PT Γ 6 shL 0 σ [(0, .ref (ga Γ 0))] [])
  refine p_iconst G rfl dX1_countWrapped_0 ?_
  refine p_istore_nU (lv' := [(1, .int (zJ (0 : Int))), (0, .ref (ga Γ 0))]) G rfl dX1_countWrapped_1 (by decide) rfl ?_
  refine p_iconst G rfl dX1_countWrapped_2 ?_
  refine p_istore_nU (lv' := [(2, .int (zJ (0 : Int))), (1, .int (zJ (0 : Int))), (0, .ref (ga Γ 0))]) G rfl dX1_countWrapped_3 (by decide) rfl ?_
  refine p_lv [2, 1, 0] rfl ?_
  obtain ⟨e16, hl4, h⟩ := bnd_some h
  have hX4_74 : ∀ (v17 : Int), v17 = e16 → PT Γ 6 shL 74 σ [(1, .int (zJ v17))] [] := by
    intro v17 he
    subst he
    refine p_iload_n G rfl 0 rfl dX1_countWrapped_74 ?_
    (cases h; exact p_iret G hR dX1_countWrapped_75 rfl rfl)
  refine lup_walk (s := ((0 : Int), (0 : Int))) (At := fun s : Int × Int => PT Γ 6 shL 4 σ [(0, .ref (ga Γ 0)), (1, .int (zJ s.1)), (2, .int (zJ s.2))] []) (fun s r hf hin4 hout4 => ?_) hl4
  obtain ⟨u1_4, u2_4⟩ := s
  have h : x_X1_countWrapped_b4 σ u1_4 u2_4 = some r := hf
  clear hf
  have j34 : ∀ (v1_34 : Int) (v2_34 : Int) (v3_34 : Int64) (w0_34 : Int), x_X1_countWrapped_j34_4 σ v1_34 v2_34 v3_34 w0_34 = some r → PT Γ 6 shL 34 σ [(0, .ref (ga Γ 0)), (1, .int (zJ v1_34)), (2, .int (zJ v2_34)), (3, .long v3_34)] [.int (zJ w0_34)] := by
    intro v1_34 v2_34 v3_34 w0_34 h
    unfold x_X1_countWrapped_j34_4 at h
    refine p_istoreU (lv' := [(5, .int (zJ w0_34)), (0, .ref (ga Γ 0)), (1, .int (zJ v1_34)), (2, .int (zJ v2_34)), (3, .long v3_34)]) G dX1_countWrapped_34 (by decide) rfl ?_
    refine p_iload G 0 rfl dX1_countWrapped_36 ?_
    refine p_iconst G rfl dX1_countWrapped_38 ?_
    refine p_icmpeq (tgt := 68) G dX1_countWrapped_39 (by decide) h (fun c11 h => ?_) (fun c11 h => ?_)
    · refine p_iinc (lv' := fun v3 => [(2, .int (zJ v3)), (5, .int (zJ w0_34)), (0, .ref (ga Γ 0)), (1, .int (zJ v1_34)), (3, .long v3_34)]) G dX1_countWrapped_68 h 3 rfl (by decide) (fun _ => rfl) (fun v3 h => ?_)
      refine p_goto (tgt := 4) G dX1_countWrapped_71 (by decide) ?_
      refine p_lv [2, 3, 0] rfl ?_
      exact hin4 _ (Option.some.inj h).symm
    · refine p_iload G 0 rfl dX1_countWrapped_42 ?_
      refine p_bipush G (by decide) (by decide) dX1_countWrapped_44 ?_
      refine p_iremK G dX1_countWrapped_46 (by decide) ?_
      refine p_ifle (tgt := 68) G dX1_countWrapped_47 (by decide) h (fun c10 h => ?_) (fun c10 h => ?_)
      · refine p_iinc (lv' := fun v4 => [(2, .int (zJ v4)), (5, .int (zJ w0_34)), (0, .ref (ga Γ 0)), (1, .int (zJ v1_34)), (3, .long v3_34)]) G dX1_countWrapped_68 h 3 rfl (by decide) (fun _ => rfl) (fun v4 h => ?_)
        refine p_goto (tgt := 4) G dX1_countWrapped_71 (by decide) ?_
        refine p_lv [2, 3, 0] rfl ?_
        exact hin4 _ (Option.some.inj h).symm
      · refine p_lload_n G rfl 4 rfl dX1_countWrapped_50 ?_
        refine p_iload G 0 rfl dX1_countWrapped_51 ?_
        refine p_bipush G (by decide) (by decide) dX1_countWrapped_53 ?_
        refine p_idivK G dX1_countWrapped_55 (by decide) ?_
        refine p_bipush G (by decide) (by decide) dX1_countWrapped_56 ?_
        refine p_imul G dX1_countWrapped_58 ?_
        obtain ⟨v5, hc, h⟩ := bnd_some h
        refine p_callS0 G dX1_countWrapped_59 lk_X1_128 (c_X6_has (gl Γ) hc) (As := [.long v3_34, .int (zJ ((zdiv w0_34 (13 : Int)) * (13 : Int)))]) rfl zk_9 rfl (Nat.le_of_ble_eq_true rfl) ⟨rfl, rfl, Nat.le_of_ble_eq_true rfl, Nat.le_of_ble_eq_true rfl⟩ hcs ?_
        refine p_ifeq (tgt := 68) G dX1_countWrapped_62 (by decide) h (fun c9 h => ?_) (fun c9 h => ?_)
        · refine p_iinc (lv' := fun v6 => [(2, .int (zJ v6)), (5, .int (zJ w0_34)), (0, .ref (ga Γ 0)), (1, .int (zJ v1_34)), (3, .long v3_34)]) G dX1_countWrapped_68 h 3 rfl (by decide) (fun _ => rfl) (fun v6 h => ?_)
          refine p_goto (tgt := 4) G dX1_countWrapped_71 (by decide) ?_
          refine p_lv [2, 3, 0] rfl ?_
          exact hin4 _ (Option.some.inj h).symm
        · refine p_iinc (lv' := fun v7 => [(1, .int (zJ v7)), (5, .int (zJ w0_34)), (0, .ref (ga Γ 0)), (2, .int (zJ v2_34)), (3, .long v3_34)]) G dX1_countWrapped_65 h 2 rfl (by decide) (fun _ => rfl) (fun v7 h => ?_)
          refine p_iinc (lv' := fun v8 => [(2, .int (zJ v8)), (1, .int (zJ v7)), (5, .int (zJ w0_34)), (0, .ref (ga Γ 0)), (3, .long v3_34)]) G dX1_countWrapped_68 h 3 rfl (by decide) (fun _ => rfl) (fun v8 h => ?_)
          refine p_goto (tgt := 4) G dX1_countWrapped_71 (by decide) ?_
          refine p_lv [3, 1, 0] rfl ?_
          exact hin4 _ (Option.some.inj h).symm
  unfold x_X1_countWrapped_b4 at h
  refine (?_ : PT Γ 6 shL 4 σ [(0, .ref (ga Γ 0)), (1, .int (zJ u1_4)), (2, .int (zJ u2_4))] [])
  refine p_iload_n G rfl 2 rfl dX1_countWrapped_4 ?_
  refine p_aload_n G rfl 0 rfl dX1_countWrapped_5 ?_
  refine p_get G dX1_countWrapped_6 fl_X1_50 (k := 0) rfl rfl ?_
  refine p_icmpge (tgt := 74) G dX1_countWrapped_9 (by decide) h (fun c14 h => ?_) (fun c14 h => ?_)
  · refine p_lv [1] rfl ?_
    have he := hout4 _ (Option.some.inj h).symm
    subst he
    exact hX4_74 _ rfl
  · refine p_aload_n G rfl 0 rfl dX1_countWrapped_12 ?_
    refine p_iload_n G rfl 2 rfl dX1_countWrapped_13 ?_
    obtain ⟨v1, hc, h⟩ := bnd_some h
    refine p_callVi G dX1_countWrapped_14 lk_X1_125 (c_X1_foundAt (gl Γ) hc) (As := [.int (zJ u2_4)]) (ci := 3) rfl rfl rfl rfl (Nat.le_of_ble_eq_true rfl) ⟨rfl, rfl, Nat.le_of_ble_eq_true rfl, Nat.le_of_ble_eq_true rfl⟩ hcs ?_
    refine p_lstore_nU (lv' := [(3, .long v1), (0, .ref (ga Γ 0)), (1, .int (zJ u1_4)), (2, .int (zJ u2_4))]) G rfl dX1_countWrapped_17 (by decide) rfl ?_
    refine p_lload_n G rfl 0 rfl dX1_countWrapped_18 ?_
    obtain ⟨v2, hc, h⟩ := bnd_some h
    refine p_callS0 G dX1_countWrapped_19 lk_X1_132 (c_X6_kindOf (gl Γ) hc) (As := [.long v1]) rfl zk_9 rfl (Nat.le_of_ble_eq_true rfl) ⟨rfl, rfl, Nat.le_of_ble_eq_true rfl, Nat.le_of_ble_eq_true rfl⟩ hcs ?_
    refine p_iconst G rfl dX1_countWrapped_22 ?_
    refine p_icmpne (tgt := 33) G dX1_countWrapped_23 (by decide) h (fun c13 h => ?_) (fun c13 h => ?_)
    · refine p_iconst G rfl dX1_countWrapped_33 ?_
      refine p_lv [1, 2, 3, 0] rfl ?_
      exact j34 _ _ _ _ h
    · refine p_lload_n G rfl 0 rfl dX1_countWrapped_26 ?_
      obtain ⟨v12, hc, h⟩ := bnd_some h
      refine p_callS0 G dX1_countWrapped_27 lk_X1_135 (c_X6_firstOf (gl Γ) hc) (As := [.long v1]) rfl zk_9 rfl (Nat.le_of_ble_eq_true rfl) ⟨rfl, rfl, Nat.le_of_ble_eq_true rfl, Nat.le_of_ble_eq_true rfl⟩ hcs ?_
      refine p_goto (tgt := 34) G dX1_countWrapped_30 (by decide) ?_
      refine p_lv [1, 2, 3, 0] rfl ?_
      exact j34 _ _ _ _ h
set_option maxHeartbeats 4000000 in
set_option maxRecDepth 100000 in
theorem c_X1_foundPoints (l : Launch) {D : va_G} {yy : Nat → ClassId} {tk tv a : Nat → Nat} {σ : Mm} {o : Int} (h : x_X1_foundPoints σ = some o) : CT l yX1_foundPoints cX1_foundPoints 3 (some .int) rm_X1_foundPoints shL D yy tk tv a σ [.ref (a 0)] σ (some (.int (zJ o))) := by
  refine ct_of (Ar := fun a tk => [.ref (a 0)]) (by decide) (Nat.le_of_ble_eq_true rfl) (fun Γ G _ _ hR => ?_)
  have hcs := rt_cs hR
  unfold x_X1_foundPoints at h
  refine (?_ : PT Γ 3 shL 0 σ [(0, .ref (ga Γ 0))] [])
  refine p_iconst G rfl dX1_foundPoints_0 ?_
  refine p_istore_nU (lv' := [(1, .int (zJ (0 : Int))), (0, .ref (ga Γ 0))]) G rfl dX1_foundPoints_1 (by decide) rfl ?_
  refine p_iconst G rfl dX1_foundPoints_2 ?_
  refine p_istore_nU (lv' := [(2, .int (zJ (0 : Int))), (1, .int (zJ (0 : Int))), (0, .ref (ga Γ 0))]) G rfl dX1_foundPoints_3 (by decide) rfl ?_
  refine p_lv [2, 1, 0] rfl ?_
  obtain ⟨e7, hl4, h⟩ := bnd_some h
  have hX4_29 : ∀ (v8 : Int), v8 = e7 → PT Γ 3 shL 29 σ [(1, .int (zJ v8))] [] := by
    intro v8 he
    subst he
    refine p_iload_n G rfl 0 rfl dX1_foundPoints_29 ?_
    (cases h; exact p_iret G hR dX1_foundPoints_30 rfl rfl)
  refine lup_walk (s := ((0 : Int), (0 : Int))) (At := fun s : Int × Int => PT Γ 3 shL 4 σ [(0, .ref (ga Γ 0)), (1, .int (zJ s.1)), (2, .int (zJ s.2))] []) (fun s r hf hin4 hout4 => ?_) hl4
  obtain ⟨u1_4, u2_4⟩ := s
  have h : x_X1_foundPoints_b4 σ u1_4 u2_4 = some r := hf
  clear hf
  unfold x_X1_foundPoints_b4 at h
  refine (?_ : PT Γ 3 shL 4 σ [(0, .ref (ga Γ 0)), (1, .int (zJ u1_4)), (2, .int (zJ u2_4))] [])
  refine p_iload_n G rfl 2 rfl dX1_foundPoints_4 ?_
  refine p_aload_n G rfl 0 rfl dX1_foundPoints_5 ?_
  refine p_get G dX1_foundPoints_6 fl_X1_50 (k := 0) rfl rfl ?_
  refine p_icmpge (tgt := 29) G dX1_foundPoints_9 (by decide) h (fun c5 h => ?_) (fun c5 h => ?_)
  · refine p_lv [1] rfl ?_
    have he := hout4 _ (Option.some.inj h).symm
    subst he
    exact hX4_29 _ rfl
  · refine p_iload_n G rfl 1 rfl dX1_foundPoints_12 ?_
    refine p_aload_n G rfl 0 rfl dX1_foundPoints_13 ?_
    refine p_iload_n G rfl 2 rfl dX1_foundPoints_14 ?_
    obtain ⟨v1, hc, h⟩ := bnd_some h
    refine p_callVi G dX1_foundPoints_15 lk_X1_125 (c_X1_foundAt (gl Γ) hc) (As := [.int (zJ u2_4)]) (ci := 3) rfl rfl rfl rfl (Nat.le_of_ble_eq_true rfl) ⟨rfl, rfl, Nat.le_of_ble_eq_true rfl, Nat.le_of_ble_eq_true rfl⟩ hcs ?_
    obtain ⟨v2, hc, h⟩ := bnd_some h
    refine p_callS0 G dX1_foundPoints_18 lk_X1_43 (c_X6_pointsOf (gl Γ) hc) (As := [.long v1]) rfl zk_9 rfl (Nat.le_of_ble_eq_true rfl) ⟨rfl, rfl, Nat.le_of_ble_eq_true rfl, Nat.le_of_ble_eq_true rfl⟩ hcs ?_
    refine p_iadd G dX1_foundPoints_21 ?_
    refine p_istore_n (lv' := fun v3 => [(1, .int (zJ v3)), (0, .ref (ga Γ 0)), (2, .int (zJ u2_4))]) G rfl dX1_foundPoints_22 h (by decide) (fun _ => rfl) (fun v3 h => ?_)
    refine p_iinc (lv' := fun v4 => [(2, .int (zJ v4)), (1, .int (zJ v3)), (0, .ref (ga Γ 0))]) G dX1_foundPoints_23 h 2 rfl (by decide) (fun _ => rfl) (fun v4 h => ?_)
    refine p_goto (tgt := 4) G dX1_foundPoints_26 (by decide) ?_
    refine p_lv [2, 1, 0] rfl ?_
    exact hin4 _ (Option.some.inj h).symm
set_option maxHeartbeats 4000000 in
set_option maxRecDepth 100000 in
theorem c_X1_widen (l : Launch) {D : va_G} {yy : Nat → ClassId} {tk tv a : Nat → Nat} {σ : Mm} {p1 : Int} {p2 : Int} {o : Mm} (h : x_X1_widen σ p1 p2 = some o) : CT l yX1_widen cX1_widen 3 none rm_X1_widen shL D yy tk tv a σ [.ref (a 0), .int (zJ p1), .int (zJ p2)] o none := by
  refine ct_of (Ar := fun a tk => [.ref (a 0), .int (zJ p1), .int (zJ p2)]) (by decide) (Nat.le_of_ble_eq_true rfl) (fun Γ G _ _ hR => ?_)
  have hcs := rt_cs hR
  unfold x_X1_widen at h
  refine (?_ : PT Γ 3 shL 0 σ [(0, .ref (ga Γ 0)), (1, .int (zJ p1)), (2, .int (zJ p2))] [])
  refine p_iload_n G rfl 1 rfl dX1_widen_0 ?_
  refine p_iflt (tgt := 34) G dX1_widen_1 (by decide) h (fun c7 h => ?_) (fun c7 h => ?_)
  · (cases h; exact p_vret G hR dX1_widen_34 rfl rfl)
  · refine p_iload_n G rfl 1 rfl dX1_widen_4 ?_
    refine p_aload_n G rfl 0 rfl dX1_widen_5 ?_
    refine p_get G dX1_widen_6 fl_X1_50 (k := 0) rfl rfl ?_
    refine p_icmpge (tgt := 34) G dX1_widen_9 (by decide) h (fun c6 h => ?_) (fun c6 h => ?_)
    · (cases h; exact p_vret G hR dX1_widen_34 rfl rfl)
    · refine p_iload_n G rfl 1 rfl dX1_widen_12 ?_
      refine p_aload_n G rfl 0 rfl dX1_widen_13 ?_
      refine p_get G dX1_widen_14 fl_X1_28 (k := 0) rfl rfl ?_
      refine p_alen G dX1_widen_17 (k := 6) (kd := 1) rfl (by decide) (by decide) ?_
      refine p_icmpge (tgt := 34) G dX1_widen_18 (by decide) h (fun c5 h => ?_) (fun c5 h => ?_)
      · (cases h; exact p_vret G hR dX1_widen_34 rfl rfl)
      · refine p_aload_n G rfl 0 rfl dX1_widen_21 ?_
        refine p_get G dX1_widen_22 fl_X1_28 (k := 0) rfl rfl ?_
        refine p_iload_n G rfl 1 rfl dX1_widen_25 ?_
        refine p_dup2 G rfl rfl dX1_widen_26 ?_
        refine p_lald G dX1_widen_27 (k := 6) rfl (zt_c _) h (fun c1 h => ?_)
        refine p_iload_n G rfl 2 rfl dX1_widen_28 ?_
        obtain ⟨v2, hc, h⟩ := bnd_some h
        refine p_callS0 G dX1_widen_29 lk_X1_72 (c_X6_bitOf (gl Γ) hc) (As := [.int (zJ p2)]) rfl zk_9 rfl (Nat.le_of_ble_eq_true rfl) ⟨rfl, rfl, Nat.le_of_ble_eq_true rfl, Nat.le_of_ble_eq_true rfl⟩ hcs ?_
        refine p_lor G dX1_widen_32 ?_
        refine p_last G dX1_widen_33 (k := 6) rfl (zt_c _) rfl h (fun σ3 c4 h => ?_)
        (cases h; exact p_vret G hR dX1_widen_34 rfl rfl)
set_option maxHeartbeats 4000000 in
set_option maxRecDepth 100000 in
theorem c_X2_begin (l : Launch) {D : va_G} {yy : Nat → ClassId} {tk tv a : Nat → Nat} {σ : Mm} {o : Mm} (h : x_X2_begin σ = some o) : CT l yX2_begin cX2_begin 1 none rm_X2_begin shM D yy tk tv a σ [.ref (a 0)] o none := by
  refine ct_of (Ar := fun a tk => [.ref (a 0)]) (by decide) (Nat.le_of_ble_eq_true rfl) (fun Γ G _ _ hR => ?_)
  have hcs := rt_cs hR
  unfold x_X2_begin at h
  refine (?_ : PT Γ 1 shM 0 σ [(0, .ref (ga Γ 0))] [])
  refine p_aload_n G rfl 0 rfl dX2_begin_0 ?_
  refine p_iconst G rfl dX2_begin_1 ?_
  refine p_putI G dX2_begin_2 fp_X2_39 (k := 0) rfl rfl rfl rfl h (fun σ1 h => ?_)
  refine p_aload_n G rfl 0 rfl dX2_begin_5 ?_
  refine p_iconst G rfl dX2_begin_6 ?_
  refine p_putI G dX2_begin_7 fp_X2_55 (k := 0) rfl rfl rfl rfl h (fun σ2 h => ?_)
  refine p_aload_n G rfl 0 rfl dX2_begin_10 ?_
  refine p_iconst G rfl dX2_begin_11 ?_
  refine p_putI G dX2_begin_12 fp_X2_58 (k := 0) rfl rfl rfl rfl h (fun σ3 h => ?_)
  refine p_aload_n G rfl 0 rfl dX2_begin_15 ?_
  refine p_get G dX2_begin_16 fl_X2_9 (k := 0) rfl rfl ?_
  refine p_iconst G rfl dX2_begin_19 ?_
  refine p_iconst G rfl dX2_begin_20 ?_
  refine p_iast G dX2_begin_21 (k := 1) rfl (zt_c _) rfl h (fun σ4 c5 h => ?_)
  refine p_aload_n G rfl 0 rfl dX2_begin_22 ?_
  refine p_get G dX2_begin_23 fl_X2_9 (k := 0) rfl rfl ?_
  refine p_iconst G rfl dX2_begin_26 ?_
  refine p_iconst G rfl dX2_begin_27 ?_
  refine p_iast G dX2_begin_28 (k := 1) rfl (zt_c _) rfl h (fun σ6 c7 h => ?_)
  (cases h; exact p_vret G hR dX2_begin_29 rfl rfl)
set_option maxHeartbeats 4000000 in
set_option maxRecDepth 100000 in
theorem c_X2_shuffle (l : Launch) {D : va_G} {yy : Nat → ClassId} {tk tv a : Nat → Nat} {σ : Mm} {o : Mm} (h : x_X2_shuffle σ = some o) : CT l yX2_shuffle cX2_shuffle 4 none rm_X2_shuffle shM D yy tk tv a σ [.ref (a 0)] o none := by
  refine ct_of (Ar := fun a tk => [.ref (a 0)]) (by decide) (Nat.le_of_ble_eq_true rfl) (fun Γ G _ _ hR => ?_)
  have hcs := rt_cs hR
  unfold x_X2_shuffle at h
  refine (?_ : PT Γ 4 shM 0 σ [(0, .ref (ga Γ 0))] [])
  refine p_iconst G rfl dX2_shuffle_0 ?_
  refine p_istore_nU (lv' := [(1, .int (zJ (0 : Int))), (0, .ref (ga Γ 0))]) G rfl dX2_shuffle_1 (by decide) rfl ?_
  refine p_lv [1, 0] rfl ?_
  obtain ⟨e6, hl2, h⟩ := bnd_some h
  have hX2_21 : ∀ (σ7 : Mm), σ7 = e6 → PT Γ 4 shM 21 σ7 [(0, .ref (ga Γ 0))] [] := by
    intro σ7 he
    subst he
    refine p_bipush G (by decide) (by decide) dX2_shuffle_21 ?_
    refine p_istore_nU (lv' := [(1, .int (zJ (51 : Int))), (0, .ref (ga Γ 0))]) G rfl dX2_shuffle_23 (by decide) rfl ?_
    refine p_lv [1, 0] rfl ?_
    obtain ⟨e24, hl24, h⟩ := bnd_some h
    have hX24_105 : ∀ (σ25 : Mm), σ25 = e24 → PT Γ 4 shM 105 σ25 [] [] := by
      intro σ25 he
      subst he
      (cases h; exact p_vret G hR dX2_shuffle_105 rfl rfl)
    refine lup_walk (s := (σ7, (51 : Int))) (At := fun s : Mm × Int => PT Γ 4 shM 24 s.1 [(0, .ref (ga Γ 0)), (1, .int (zJ s.2))] []) (fun s r hf hin24 hout24 => ?_) hl24
    obtain ⟨σ24, u1_24⟩ := s
    have h : x_X2_shuffle_b24 σ24 u1_24 = some r := hf
    clear hf
    unfold x_X2_shuffle_b24 at h
    refine (?_ : PT Γ 4 shM 24 σ24 [(0, .ref (ga Γ 0)), (1, .int (zJ u1_24))] [])
    refine p_iload_n G rfl 1 rfl dX2_shuffle_24 ?_
    refine p_ifle (tgt := 105) G dX2_shuffle_25 (by decide) h (fun c22 h => ?_) (fun c22 h => ?_)
    · refine p_lv [] rfl ?_
      have he := hout24 _ (Option.some.inj h).symm
      subst he
      exact hX24_105 _ rfl
    · refine p_aload_n G rfl 0 rfl dX2_shuffle_28 ?_
      refine p_aload_n G rfl 0 rfl dX2_shuffle_29 ?_
      refine p_get G dX2_shuffle_30 fl_X2_35 (k := 0) rfl rfl ?_
      refine p_ldc2 G gm_410 dX2_shuffle_33 ?_
      refine p_lmul G dX2_shuffle_36 ?_
      refine p_ldc2 G gm_411 dX2_shuffle_37 ?_
      refine p_ladd G dX2_shuffle_40 ?_
      refine p_ldc2 G gm_412 dX2_shuffle_41 ?_
      refine p_lremK G (by decide) dX2_shuffle_44 ?_
      refine p_putL G dX2_shuffle_45 fp_X2_35 (k := 0) rfl rfl rfl rfl h (fun σ8 h => ?_)
      refine p_aload_n G rfl 0 rfl dX2_shuffle_48 ?_
      refine p_get G dX2_shuffle_49 fl_X2_35 (k := 0) rfl rfl ?_
      refine p_ldc2 G gm_413 dX2_shuffle_52 ?_
      refine p_ldivK G (by decide) dX2_shuffle_55 ?_
      refine p_iload_n G rfl 1 rfl dX2_shuffle_56 ?_
      refine p_iconst G rfl dX2_shuffle_57 ?_
      refine p_iadd G dX2_shuffle_58 ?_
      refine p_i2l G dX2_shuffle_59 ?_
      refine p_lrem G dX2_shuffle_60 h (fun h => ?_)
      refine p_l2i G dX2_shuffle_61 ?_
      refine p_istore_n (lv' := fun v9 => [(2, .int (zJ v9)), (0, .ref (ga Γ 0)), (1, .int (zJ u1_24))]) G rfl dX2_shuffle_62 h (by decide) (fun _ => rfl) (fun v9 h => ?_)
      refine p_iload_n G rfl 0 rfl dX2_shuffle_63 ?_
      refine p_iflt (tgt := 99) G dX2_shuffle_64 (by decide) h (fun c21 h => ?_) (fun c21 h => ?_)
      · refine p_iinc (lv' := fun v10 => [(1, .int (zJ v10)), (2, .int (zJ v9)), (0, .ref (ga Γ 0))]) G dX2_shuffle_99 h 2 rfl (by decide) (fun _ => rfl) (fun v10 h => ?_)
        refine p_goto (tgt := 24) G dX2_shuffle_102 (by decide) ?_
        refine p_lv [2, 0] rfl ?_
        exact hin24 _ (Option.some.inj h).symm
      · refine p_iload_n G rfl 0 rfl dX2_shuffle_67 ?_
        refine p_bipush G (by decide) (by decide) dX2_shuffle_68 ?_
        refine p_icmpge (tgt := 99) G dX2_shuffle_70 (by decide) h (fun c20 h => ?_) (fun c20 h => ?_)
        · refine p_iinc (lv' := fun v11 => [(1, .int (zJ v11)), (2, .int (zJ v9)), (0, .ref (ga Γ 0))]) G dX2_shuffle_99 h 2 rfl (by decide) (fun _ => rfl) (fun v11 h => ?_)
          refine p_goto (tgt := 24) G dX2_shuffle_102 (by decide) ?_
          refine p_lv [2, 0] rfl ?_
          exact hin24 _ (Option.some.inj h).symm
        · refine p_aload_n G rfl 1 rfl dX2_shuffle_73 ?_
          refine p_get G dX2_shuffle_74 fl_X2_19 (k := 0) rfl rfl ?_
          refine p_iload_n G rfl 2 rfl dX2_shuffle_77 ?_
          refine p_iald G dX2_shuffle_78 (k := 3) rfl (zt_c _) h (fun c12 h => ?_)
          refine p_istore_n (lv' := fun v13 => [(3, .int (zJ v13)), (2, .int (zJ v9)), (0, .ref (ga Γ 0)), (1, .int (zJ u1_24))]) G rfl dX2_shuffle_79 h (by decide) (fun _ => rfl) (fun v13 h => ?_)
          refine p_aload_n G rfl 2 rfl dX2_shuffle_80 ?_
          refine p_get G dX2_shuffle_81 fl_X2_19 (k := 0) rfl rfl ?_
          refine p_iload_n G rfl 3 rfl dX2_shuffle_84 ?_
          refine p_aload_n G rfl 2 rfl dX2_shuffle_85 ?_
          refine p_get G dX2_shuffle_86 fl_X2_19 (k := 0) rfl rfl ?_
          refine p_iload_n G rfl 1 rfl dX2_shuffle_89 ?_
          refine p_iald G dX2_shuffle_90 (k := 3) rfl (zt_c _) h (fun c14 h => ?_)
          refine p_iast G dX2_shuffle_91 (k := 3) rfl (zt_c _) rfl h (fun σ15 c16 h => ?_)
          refine p_aload_n G rfl 2 rfl dX2_shuffle_92 ?_
          refine p_get G dX2_shuffle_93 fl_X2_19 (k := 0) rfl rfl ?_
          refine p_iload_n G rfl 1 rfl dX2_shuffle_96 ?_
          refine p_iload_n G rfl 0 rfl dX2_shuffle_97 ?_
          refine p_iast G dX2_shuffle_98 (k := 3) rfl (zt_c _) rfl h (fun σ17 c18 h => ?_)
          refine p_iinc (lv' := fun v19 => [(1, .int (zJ v19)), (3, .int (zJ v13)), (2, .int (zJ v9)), (0, .ref (ga Γ 0))]) G dX2_shuffle_99 h 3 rfl (by decide) (fun _ => rfl) (fun v19 h => ?_)
          refine p_goto (tgt := 24) G dX2_shuffle_102 (by decide) ?_
          refine p_lv [3, 0] rfl ?_
          exact hin24 _ (Option.some.inj h).symm
  refine lup_walk (s := (σ, (0 : Int))) (At := fun s : Mm × Int => PT Γ 4 shM 2 s.1 [(0, .ref (ga Γ 0)), (1, .int (zJ s.2))] []) (fun s r hf hin2 hout2 => ?_) hl2
  obtain ⟨σ2, u1_2⟩ := s
  have h : x_X2_shuffle_b2 σ2 u1_2 = some r := hf
  clear hf
  unfold x_X2_shuffle_b2 at h
  refine (?_ : PT Γ 4 shM 2 σ2 [(0, .ref (ga Γ 0)), (1, .int (zJ u1_2))] [])
  refine p_iload_n G rfl 1 rfl dX2_shuffle_2 ?_
  refine p_bipush G (by decide) (by decide) dX2_shuffle_3 ?_
  refine p_icmpge (tgt := 21) G dX2_shuffle_5 (by decide) h (fun c4 h => ?_) (fun c4 h => ?_)
  · refine p_lv [0] rfl ?_
    have he := hout2 _ (Option.some.inj h).symm
    subst he
    exact hX2_21 _ rfl
  · refine p_aload_n G rfl 0 rfl dX2_shuffle_8 ?_
    refine p_get G dX2_shuffle_9 fl_X2_19 (k := 0) rfl rfl ?_
    refine p_iload_n G rfl 1 rfl dX2_shuffle_12 ?_
    refine p_iload_n G rfl 1 rfl dX2_shuffle_13 ?_
    refine p_iast G dX2_shuffle_14 (k := 3) rfl (zt_c _) rfl h (fun σ1 c2 h => ?_)
    refine p_iinc (lv' := fun v3 => [(1, .int (zJ v3)), (0, .ref (ga Γ 0))]) G dX2_shuffle_15 h 1 rfl (by decide) (fun _ => rfl) (fun v3 h => ?_)
    refine p_goto (tgt := 2) G dX2_shuffle_18 (by decide) ?_
    refine p_lv [1, 0] rfl ?_
    exact hin2 _ (Option.some.inj h).symm
set_option maxHeartbeats 4000000 in
set_option maxRecDepth 100000 in
theorem c_X2_deckAt (l : Launch) {D : va_G} {yy : Nat → ClassId} {tk tv a : Nat → Nat} {σ : Mm} {p1 : Int} {o : Int} (h : x_X2_deckAt σ p1 = some o) : CT l yX2_deckAt cX2_deckAt 2 (some .int) rm_X2_deckAt shM D yy tk tv a σ [.ref (a 0), .int (zJ p1)] σ (some (.int (zJ o))) := by
  refine ct_of (Ar := fun a tk => [.ref (a 0), .int (zJ p1)]) (by decide) (Nat.le_of_ble_eq_true rfl) (fun Γ G _ _ hR => ?_)
  have hcs := rt_cs hR
  unfold x_X2_deckAt at h
  refine (?_ : PT Γ 2 shM 0 σ [(0, .ref (ga Γ 0)), (1, .int (zJ p1))] [])
  refine p_iload_n G rfl 1 rfl dX2_deckAt_0 ?_
  refine p_iflt (tgt := 19) G dX2_deckAt_1 (by decide) h (fun c3 h => ?_) (fun c3 h => ?_)
  · refine p_iconst G rfl dX2_deckAt_19 ?_
    (cases h; exact p_iret G hR dX2_deckAt_20 rfl rfl)
  · refine p_iload_n G rfl 1 rfl dX2_deckAt_4 ?_
    refine p_bipush G (by decide) (by decide) dX2_deckAt_5 ?_
    refine p_icmpge (tgt := 19) G dX2_deckAt_7 (by decide) h (fun c2 h => ?_) (fun c2 h => ?_)
    · refine p_iconst G rfl dX2_deckAt_19 ?_
      (cases h; exact p_iret G hR dX2_deckAt_20 rfl rfl)
    · refine p_aload_n G rfl 0 rfl dX2_deckAt_10 ?_
      refine p_get G dX2_deckAt_11 fl_X2_19 (k := 0) rfl rfl ?_
      refine p_iload_n G rfl 1 rfl dX2_deckAt_14 ?_
      refine p_iald G dX2_deckAt_15 (k := 3) rfl (zt_c _) h (fun c1 h => ?_)
      refine p_goto (tgt := 20) G dX2_deckAt_16 (by decide) ?_
      (cases h; exact p_iret G hR dX2_deckAt_20 rfl rfl)
set_option maxHeartbeats 4000000 in
set_option maxRecDepth 100000 in
theorem c_X2_dealOut (l : Launch) {D : va_G} {yy : Nat → ClassId} {tk tv a : Nat → Nat} {σ : Mm} {o : Mm} (h : x_X2_dealOut σ = some o) : CT l yX2_dealOut cX2_dealOut 3 none rm_X2_dealOut shM D yy tk tv a σ [.ref (a 0)] o none := by
  refine ct_of (Ar := fun a tk => [.ref (a 0)]) (by decide) (Nat.le_of_ble_eq_true rfl) (fun Γ G _ _ hR => ?_)
  have hcs := rt_cs hR
  unfold x_X2_dealOut at h
  refine (?_ : PT Γ 3 shM 0 σ [(0, .ref (ga Γ 0))] [])
  refine p_iconst G rfl dX2_dealOut_0 ?_
  refine p_istore_nU (lv' := [(1, .int (zJ (0 : Int))), (0, .ref (ga Γ 0))]) G rfl dX2_dealOut_1 (by decide) rfl ?_
  refine p_lv [1, 0] rfl ?_
  obtain ⟨e16, hl2, h⟩ := bnd_some h
  have hX2_60 : ∀ (σ17 : Mm), σ17 = e16 → PT Γ 3 shM 60 σ17 [(0, .ref (ga Γ 0))] [] := by
    intro σ17 he
    subst he
    refine p_aload_n G rfl 0 rfl dX2_dealOut_60 ?_
    refine p_get G dX2_dealOut_61 fl_X2_22 (k := 0) rfl rfl ?_
    refine p_iconst G rfl dX2_dealOut_64 ?_
    refine p_aload_n G rfl 0 rfl dX2_dealOut_65 ?_
    refine p_iconst G rfl dX2_dealOut_66 ?_
    refine p_aload_n G rfl 0 rfl dX2_dealOut_67 ?_
    refine p_get G dX2_dealOut_68 fl_X2_25 (k := 0) rfl rfl ?_
    refine p_imul G dX2_dealOut_71 ?_
    obtain ⟨v18, hc, h⟩ := bnd_some h
    refine p_callVi G dX2_dealOut_72 lk_X2_81 (c_X2_deckAt (gl Γ) hc) (As := [.int (zJ ((2 : Int) * (σ17 0 0)))]) (ci := 4) rfl rfl rfl rfl (Nat.le_of_ble_eq_true rfl) ⟨rfl, rfl, Nat.le_of_ble_eq_true rfl, Nat.le_of_ble_eq_true rfl⟩ hcs ?_
    refine p_iast G dX2_dealOut_75 (k := 4) rfl (zt_c _) rfl h (fun σ19 c20 h => ?_)
    refine p_aload_n G rfl 0 rfl dX2_dealOut_76 ?_
    refine p_iconst G rfl dX2_dealOut_77 ?_
    refine p_putI G dX2_dealOut_78 fp_X2_64 (k := 0) rfl rfl rfl rfl h (fun σ21 h => ?_)
    refine p_aload_n G rfl 0 rfl dX2_dealOut_81 ?_
    refine p_iconst G rfl dX2_dealOut_82 ?_
    refine p_aload_n G rfl 0 rfl dX2_dealOut_83 ?_
    refine p_get G dX2_dealOut_84 fl_X2_25 (k := 0) rfl rfl ?_
    refine p_imul G dX2_dealOut_87 ?_
    refine p_iconst G rfl dX2_dealOut_88 ?_
    refine p_iadd G dX2_dealOut_89 ?_
    refine p_putI G dX2_dealOut_90 fp_X2_61 (k := 0) rfl rfl rfl rfl h (fun σ22 h => ?_)
    refine p_aload_n G rfl 0 rfl dX2_dealOut_93 ?_
    refine p_aload_n G rfl 0 rfl dX2_dealOut_94 ?_
    refine p_get G dX2_dealOut_95 fl_X2_39 (k := 0) rfl rfl ?_
    refine p_iconst G rfl dX2_dealOut_98 ?_
    refine p_iand G dX2_dealOut_99 ?_
    refine p_ifne (tgt := 107) G dX2_dealOut_100 (by decide) h (fun c31 h => ?_) (fun c31 h => ?_)
    · refine p_iconst G rfl dX2_dealOut_107 ?_
      refine p_putI G dX2_dealOut_108 fp_X2_42 (k := 0) rfl rfl rfl rfl h (fun σ23 h => ?_)
      refine p_aload_n G rfl 0 rfl dX2_dealOut_111 ?_
      refine p_iconst G rfl dX2_dealOut_112 ?_
      refine p_putZ G dX2_dealOut_113 fp_X2_45 (k := 0) rfl rfl rfl rfl (zb_01 (by decide)) h (fun σ24 h => ?_)
      refine p_aload_n G rfl 0 rfl dX2_dealOut_116 ?_
      refine p_iconst G rfl dX2_dealOut_117 ?_
      refine p_putI G dX2_dealOut_118 fp_X2_49 (k := 0) rfl rfl rfl rfl h (fun σ25 h => ?_)
      refine p_aload_n G rfl 0 rfl dX2_dealOut_121 ?_
      refine p_iconst G rfl dX2_dealOut_122 ?_
      refine p_putZ G dX2_dealOut_123 fp_X2_52 (k := 0) rfl rfl rfl rfl (zb_01 (by decide)) h (fun σ26 h => ?_)
      (cases h; exact p_vret G hR dX2_dealOut_126 rfl rfl)
    · refine p_iconst G rfl dX2_dealOut_103 ?_
      refine p_goto (tgt := 108) G dX2_dealOut_104 (by decide) ?_
      refine p_putI G dX2_dealOut_108 fp_X2_42 (k := 0) rfl rfl rfl rfl h (fun σ27 h => ?_)
      refine p_aload_n G rfl 0 rfl dX2_dealOut_111 ?_
      refine p_iconst G rfl dX2_dealOut_112 ?_
      refine p_putZ G dX2_dealOut_113 fp_X2_45 (k := 0) rfl rfl rfl rfl (zb_01 (by decide)) h (fun σ28 h => ?_)
      refine p_aload_n G rfl 0 rfl dX2_dealOut_116 ?_
      refine p_iconst G rfl dX2_dealOut_117 ?_
      refine p_putI G dX2_dealOut_118 fp_X2_49 (k := 0) rfl rfl rfl rfl h (fun σ29 h => ?_)
      refine p_aload_n G rfl 0 rfl dX2_dealOut_121 ?_
      refine p_iconst G rfl dX2_dealOut_122 ?_
      refine p_putZ G dX2_dealOut_123 fp_X2_52 (k := 0) rfl rfl rfl rfl (zb_01 (by decide)) h (fun σ30 h => ?_)
      (cases h; exact p_vret G hR dX2_dealOut_126 rfl rfl)
  refine lup_walk (s := (σ, (0 : Int))) (At := fun s : Mm × Int => PT Γ 3 shM 2 s.1 [(0, .ref (ga Γ 0)), (1, .int (zJ s.2))] []) (fun s r hf hin2 hout2 => ?_) hl2
  obtain ⟨σ2, u1_2⟩ := s
  have h : x_X2_dealOut_b2 σ2 u1_2 = some r := hf
  clear hf
  unfold x_X2_dealOut_b2 at h
  refine (?_ : PT Γ 3 shM 2 σ2 [(0, .ref (ga Γ 0)), (1, .int (zJ u1_2))] [])
  refine p_iload_n G rfl 1 rfl dX2_dealOut_2 ?_
  refine p_iconst G rfl dX2_dealOut_3 ?_
  refine p_icmpge (tgt := 60) G dX2_dealOut_4 (by decide) h (fun c14 h => ?_) (fun c14 h => ?_)
  · refine p_lv [0] rfl ?_
    have he := hout2 _ (Option.some.inj h).symm
    subst he
    exact hX2_60 _ rfl
  · refine p_aload_n G rfl 0 rfl dX2_dealOut_7 ?_
    refine p_get G dX2_dealOut_8 fl_X2_15 (k := 0) rfl rfl ?_
    refine p_iload_n G rfl 1 rfl dX2_dealOut_11 ?_
    refine p_lconst G (v := 0) (by decide) dX2_dealOut_12 ?_
    refine p_last G dX2_dealOut_13 (k := 2) rfl (zt_c _) rfl h (fun σ1 c2 h => ?_)
    refine p_iconst G rfl dX2_dealOut_14 ?_
    refine p_istore_nU (lv' := [(2, .int (zJ (0 : Int))), (0, .ref (ga Γ 0)), (1, .int (zJ u1_2))]) G rfl dX2_dealOut_15 (by decide) rfl ?_
    refine p_lv [1, 2, 0] rfl ?_
    obtain ⟨e11, hl16, h⟩ := bnd_some h
    have hX16_54 : ∀ (σ12 : Mm), σ12 = e11 → PT Γ 3 shM 54 σ12 [(0, .ref (ga Γ 0)), (1, .int (zJ u1_2))] [] := by
      intro σ12 he
      subst he
      refine p_iinc (lv' := fun v13 => [(1, .int (zJ v13)), (0, .ref (ga Γ 0))]) G dX2_dealOut_54 h 1 rfl (by decide) (fun _ => rfl) (fun v13 h => ?_)
      refine p_goto (tgt := 2) G dX2_dealOut_57 (by decide) ?_
      refine p_lv [1, 0] rfl ?_
      exact hin2 _ (Option.some.inj h).symm
    refine lup_walk (s := (σ1, (0 : Int))) (At := fun s : Mm × Int => PT Γ 3 shM 16 s.1 [(0, .ref (ga Γ 0)), (1, .int (zJ u1_2)), (2, .int (zJ s.2))] []) (fun s r hf hin16 hout16 => ?_) hl16
    obtain ⟨σ16, u2_16⟩ := s
    have h : x_X2_dealOut_b16 u1_2 σ16 u2_16 = some r := hf
    clear hf
    unfold x_X2_dealOut_b16 at h
    refine (?_ : PT Γ 3 shM 16 σ16 [(0, .ref (ga Γ 0)), (1, .int (zJ u1_2)), (2, .int (zJ u2_16))] [])
    refine p_iload_n G rfl 2 rfl dX2_dealOut_16 ?_
    refine p_aload_n G rfl 0 rfl dX2_dealOut_17 ?_
    refine p_get G dX2_dealOut_18 fl_X2_25 (k := 0) rfl rfl ?_
    refine p_icmpge (tgt := 54) G dX2_dealOut_21 (by decide) h (fun c9 h => ?_) (fun c9 h => ?_)
    · refine p_lv [0, 1] rfl ?_
      have he := hout16 _ (Option.some.inj h).symm
      subst he
      exact hX16_54 _ rfl
    · refine p_aload_n G rfl 0 rfl dX2_dealOut_24 ?_
      refine p_get G dX2_dealOut_25 fl_X2_15 (k := 0) rfl rfl ?_
      refine p_iload_n G rfl 1 rfl dX2_dealOut_28 ?_
      refine p_dup2 G rfl rfl dX2_dealOut_29 ?_
      refine p_lald G dX2_dealOut_30 (k := 2) rfl (zt_c _) h (fun c3 h => ?_)
      refine p_aload_n G rfl 0 rfl dX2_dealOut_31 ?_
      refine p_iload_n G rfl 1 rfl dX2_dealOut_32 ?_
      refine p_aload_n G rfl 0 rfl dX2_dealOut_33 ?_
      refine p_get G dX2_dealOut_34 fl_X2_25 (k := 0) rfl rfl ?_
      refine p_imul G dX2_dealOut_37 ?_
      refine p_iload_n G rfl 2 rfl dX2_dealOut_38 ?_
      refine p_iadd G dX2_dealOut_39 ?_
      obtain ⟨v4, hc, h⟩ := bnd_some h
      refine p_callVi G dX2_dealOut_40 lk_X2_81 (c_X2_deckAt (gl Γ) hc) (As := [.int (zJ ((u1_2 * (σ16 0 0)) + u2_16))]) (ci := 4) rfl rfl rfl rfl (Nat.le_of_ble_eq_true rfl) ⟨rfl, rfl, Nat.le_of_ble_eq_true rfl, Nat.le_of_ble_eq_true rfl⟩ hcs ?_
      obtain ⟨v5, hc, h⟩ := bnd_some h
      refine p_callS0 G dX2_dealOut_43 lk_X2_85 (c_X6_bitOf (gl Γ) hc) (As := [.int (zJ v4)]) rfl zk_10 rfl (Nat.le_of_ble_eq_true rfl) ⟨rfl, rfl, Nat.le_of_ble_eq_true rfl, Nat.le_of_ble_eq_true rfl⟩ hcs ?_
      refine p_lor G dX2_dealOut_46 ?_
      refine p_last G dX2_dealOut_47 (k := 2) rfl (zt_c _) rfl h (fun σ6 c7 h => ?_)
      refine p_iinc (lv' := fun v8 => [(2, .int (zJ v8)), (0, .ref (ga Γ 0)), (1, .int (zJ u1_2))]) G dX2_dealOut_48 h 2 rfl (by decide) (fun _ => rfl) (fun v8 h => ?_)
      refine p_goto (tgt := 16) G dX2_dealOut_51 (by decide) ?_
      refine p_lv [1, 2, 0] rfl ?_
      exact hin16 _ (Option.some.inj h).symm
set_option maxHeartbeats 4000000 in
set_option maxRecDepth 100000 in
theorem c_X2_beginNextRound (l : Launch) {D : va_G} {yy : Nat → ClassId} {tk tv a : Nat → Nat} {σ : Mm} {o : Mm} (h : x_X2_beginNextRound σ = some o) : CT l yX2_beginNextRound cX2_beginNextRound 1 none rm_X2_beginNextRound shM D yy tk tv a σ [.ref (a 0)] o none := by
  refine ct_of (Ar := fun a tk => [.ref (a 0)]) (by decide) (Nat.le_of_ble_eq_true rfl) (fun Γ G _ _ hR => ?_)
  have hcs := rt_cs hR
  unfold x_X2_beginNextRound at h
  refine (?_ : PT Γ 1 shM 0 σ [(0, .ref (ga Γ 0))] [])
  refine p_aload_n G rfl 0 rfl dX2_beginNextRound_0 ?_
  refine p_dup G rfl dX2_beginNextRound_1 ?_
  refine p_get G dX2_beginNextRound_2 fl_X2_39 (k := 0) rfl rfl ?_
  refine p_iconst G rfl dX2_beginNextRound_5 ?_
  refine p_iadd G dX2_beginNextRound_6 ?_
  refine p_putI G dX2_beginNextRound_7 fp_X2_39 (k := 0) rfl rfl rfl rfl h (fun σ1 h => ?_)
  refine p_aload_n G rfl 0 rfl dX2_beginNextRound_10 ?_
  obtain ⟨σ2, hc, h⟩ := bnd_some h
  refine p_callVi G dX2_beginNextRound_11 lk_X2_89 (c_X2_shuffle (gl Γ) hc) (As := []) (ci := 4) rfl rfl rfl rfl (Nat.le_of_ble_eq_true rfl) ⟨rfl, rfl, Nat.le_of_ble_eq_true rfl, Nat.le_of_ble_eq_true rfl⟩ hcs ?_
  refine p_aload_n G rfl 0 rfl dX2_beginNextRound_14 ?_
  obtain ⟨σ3, hc, h⟩ := bnd_some h
  refine p_callVi G dX2_beginNextRound_15 lk_X2_92 (c_X2_dealOut (gl Γ) hc) (As := []) (ci := 4) rfl rfl rfl rfl (Nat.le_of_ble_eq_true rfl) ⟨rfl, rfl, Nat.le_of_ble_eq_true rfl, Nat.le_of_ble_eq_true rfl⟩ hcs ?_
  (cases h; exact p_vret G hR dX2_beginNextRound_18 rfl rfl)
set_option maxHeartbeats 4000000 in
set_option maxRecDepth 100000 in
theorem c_X2_topOfPile (l : Launch) {D : va_G} {yy : Nat → ClassId} {tk tv a : Nat → Nat} {σ : Mm} {o : Int} (h : x_X2_topOfPile σ = some o) : CT l yX2_topOfPile cX2_topOfPile 1 (some .int) rm_X2_topOfPile shM D yy tk tv a σ [.ref (a 0)] σ (some (.int (zJ o))) := by
  refine ct_of (Ar := fun a tk => [.ref (a 0)]) (by decide) (Nat.le_of_ble_eq_true rfl) (fun Γ G _ _ hR => ?_)
  have hcs := rt_cs hR
  unfold x_X2_topOfPile at h
  refine (?_ : PT Γ 1 shM 0 σ [(0, .ref (ga Γ 0))] [])
  refine p_aload_n G rfl 0 rfl dX2_topOfPile_0 ?_
  refine p_get G dX2_topOfPile_1 fl_X2_64 (k := 0) rfl rfl ?_
  refine p_ifle (tgt := 30) G dX2_topOfPile_4 (by decide) h (fun c3 h => ?_) (fun c3 h => ?_)
  · refine p_iconst G rfl dX2_topOfPile_30 ?_
    (cases h; exact p_iret G hR dX2_topOfPile_31 rfl rfl)
  · refine p_aload_n G rfl 0 rfl dX2_topOfPile_7 ?_
    refine p_get G dX2_topOfPile_8 fl_X2_64 (k := 0) rfl rfl ?_
    refine p_bipush G (by decide) (by decide) dX2_topOfPile_11 ?_
    refine p_icmpgt (tgt := 30) G dX2_topOfPile_13 (by decide) h (fun c2 h => ?_) (fun c2 h => ?_)
    · refine p_iconst G rfl dX2_topOfPile_30 ?_
      (cases h; exact p_iret G hR dX2_topOfPile_31 rfl rfl)
    · refine p_aload_n G rfl 0 rfl dX2_topOfPile_16 ?_
      refine p_get G dX2_topOfPile_17 fl_X2_22 (k := 0) rfl rfl ?_
      refine p_aload_n G rfl 0 rfl dX2_topOfPile_20 ?_
      refine p_get G dX2_topOfPile_21 fl_X2_64 (k := 0) rfl rfl ?_
      refine p_iconst G rfl dX2_topOfPile_24 ?_
      refine p_isub G dX2_topOfPile_25 ?_
      refine p_iald G dX2_topOfPile_26 (k := 4) rfl (zt_c _) h (fun c1 h => ?_)
      refine p_goto (tgt := 31) G dX2_topOfPile_27 (by decide) ?_
      (cases h; exact p_iret G hR dX2_topOfPile_31 rfl rfl)
set_option maxHeartbeats 4000000 in
set_option maxRecDepth 100000 in
theorem c_X2_takeCard (l : Launch) {D : va_G} {yy : Nat → ClassId} {tk tv a : Nat → Nat} {σ : Mm} {p1 : Int} {o : Mm × Int} (h : x_X2_takeCard σ p1 = some o) : CT l yX2_takeCard cX2_takeCard 3 (some .int) rm_X2_takeCard shM D yy tk tv a σ [.ref (a 0), .int (zJ p1)] o.1 (some (.int (zJ o.2))) := by
  refine ct_of (Ar := fun a tk => [.ref (a 0), .int (zJ p1)]) (by decide) (Nat.le_of_ble_eq_true rfl) (fun Γ G _ _ hR => ?_)
  have hcs := rt_cs hR
  unfold x_X2_takeCard at h
  refine (?_ : PT Γ 3 shM 0 σ [(0, .ref (ga Γ 0)), (1, .int (zJ p1))] [])
  have j59 : ∀ (σ_59 : Mm) (v2_59 : Int), x_X2_takeCard_j59 σ_59 v2_59 = some o → PT Γ 3 shM 59 σ_59 [(0, .ref (ga Γ 0)), (2, .int (zJ v2_59))] [] := by
    intro σ_59 v2_59 h
    unfold x_X2_takeCard_j59 at h
    refine p_aload_n G rfl 0 rfl dX2_takeCard_59 ?_
    refine p_get G dX2_takeCard_60 fl_X2_15 (k := 0) rfl rfl ?_
    refine p_aload_n G rfl 0 rfl dX2_takeCard_63 ?_
    refine p_get G dX2_takeCard_64 fl_X2_42 (k := 0) rfl rfl ?_
    refine p_iconst G rfl dX2_takeCard_67 ?_
    refine p_iand G dX2_takeCard_68 ?_
    refine p_dup2 G rfl rfl dX2_takeCard_69 ?_
    refine p_lald G dX2_takeCard_70 (k := 2) rfl (zt_c _) h (fun c3 h => ?_)
    refine p_iload_n G rfl 1 rfl dX2_takeCard_71 ?_
    obtain ⟨v4, hc, h⟩ := bnd_some h
    refine p_callS0 G dX2_takeCard_72 lk_X2_85 (c_X6_bitOf (gl Γ) hc) (As := [.int (zJ v2_59)]) rfl zk_10 rfl (Nat.le_of_ble_eq_true rfl) ⟨rfl, rfl, Nat.le_of_ble_eq_true rfl, Nat.le_of_ble_eq_true rfl⟩ hcs ?_
    refine p_lor G dX2_takeCard_75 ?_
    refine p_last G dX2_takeCard_76 (k := 2) rfl (zt_c _) rfl h (fun σ5 c6 h => ?_)
    refine p_aload_n G rfl 0 rfl dX2_takeCard_77 ?_
    refine p_iconst G rfl dX2_takeCard_78 ?_
    refine p_putZ G dX2_takeCard_79 fp_X2_45 (k := 0) rfl rfl rfl rfl (zb_01 (by decide)) h (fun σ7 h => ?_)
    refine p_iload_n G rfl 1 rfl dX2_takeCard_82 ?_
    (cases h; exact p_iret G hR dX2_takeCard_83 rfl rfl)
  have j19 : ∀ (σ_19 : Mm) (v1_19 : Int) (w0_19 : Int), x_X2_takeCard_j19 σ_19 v1_19 w0_19 = some o → PT Γ 3 shM 19 σ_19 [(0, .ref (ga Γ 0)), (1, .int (zJ v1_19))] [.int (zJ w0_19)] := by
    intro σ_19 v1_19 w0_19 h
    unfold x_X2_takeCard_j19 at h
    refine p_istore_nU (lv' := [(2, .int (zJ w0_19)), (0, .ref (ga Γ 0)), (1, .int (zJ v1_19))]) G rfl dX2_takeCard_19 (by decide) rfl ?_
    refine p_iload_n G rfl 0 rfl dX2_takeCard_20 ?_
    refine p_iconst G rfl dX2_takeCard_21 ?_
    refine p_icmpne (tgt := 27) G dX2_takeCard_22 (by decide) h (fun c11 h => ?_) (fun c11 h => ?_)
    · refine p_iload_n G rfl 2 rfl dX2_takeCard_27 ?_
      refine p_ifeq (tgt := 49) G dX2_takeCard_28 (by decide) h (fun c10 h => ?_) (fun c10 h => ?_)
      · refine p_aload_n G rfl 1 rfl dX2_takeCard_49 ?_
        refine p_dup G rfl dX2_takeCard_50 ?_
        refine p_get G dX2_takeCard_51 fl_X2_61 (k := 0) rfl rfl ?_
        refine p_iconst G rfl dX2_takeCard_54 ?_
        refine p_iadd G dX2_takeCard_55 ?_
        refine p_putI G dX2_takeCard_56 fp_X2_61 (k := 0) rfl rfl rfl rfl h (fun σ2 h => ?_)
        refine p_lv [1, 0] rfl ?_
        exact j59 _ _ h
      · refine p_aload_n G rfl 1 rfl dX2_takeCard_31 ?_
        refine p_dup G rfl dX2_takeCard_32 ?_
        refine p_get G dX2_takeCard_33 fl_X2_64 (k := 0) rfl rfl ?_
        refine p_iconst G rfl dX2_takeCard_36 ?_
        refine p_isub G dX2_takeCard_37 ?_
        refine p_putI G dX2_takeCard_38 fp_X2_64 (k := 0) rfl rfl rfl rfl h (fun σ8 h => ?_)
        refine p_aload_n G rfl 1 rfl dX2_takeCard_41 ?_
        refine p_iload_n G rfl 0 rfl dX2_takeCard_42 ?_
        refine p_putI G dX2_takeCard_43 fp_X2_49 (k := 0) rfl rfl rfl rfl h (fun σ9 h => ?_)
        refine p_goto (tgt := 59) G dX2_takeCard_46 (by decide) ?_
        refine p_lv [1, 0] rfl ?_
        exact j59 _ _ h
    · refine p_iconst G rfl dX2_takeCard_25 ?_
      (cases h; exact p_iret G hR dX2_takeCard_26 rfl rfl)
  refine p_iload_n G rfl 1 rfl dX2_takeCard_0 ?_
  refine p_ifeq (tgt := 11) G dX2_takeCard_1 (by decide) h (fun c13 h => ?_) (fun c13 h => ?_)
  · refine p_aload_n G rfl 0 rfl dX2_takeCard_11 ?_
    refine p_aload_n G rfl 0 rfl dX2_takeCard_12 ?_
    refine p_get G dX2_takeCard_13 fl_X2_61 (k := 0) rfl rfl ?_
    obtain ⟨v1, hc, h⟩ := bnd_some h
    refine p_callVi G dX2_takeCard_16 lk_X2_81 (c_X2_deckAt (gl Γ) hc) (As := [.int (zJ (σ 0 14))]) (ci := 4) rfl rfl rfl rfl (Nat.le_of_ble_eq_true rfl) ⟨rfl, rfl, Nat.le_of_ble_eq_true rfl, Nat.le_of_ble_eq_true rfl⟩ hcs ?_
    exact j19 _ _ _ h
  · refine p_aload_n G rfl 0 rfl dX2_takeCard_4 ?_
    obtain ⟨v12, hc, h⟩ := bnd_some h
    refine p_callVi G dX2_takeCard_5 lk_X2_95 (c_X2_topOfPile (gl Γ) hc) (As := []) (ci := 4) rfl rfl rfl rfl (Nat.le_of_ble_eq_true rfl) ⟨rfl, rfl, Nat.le_of_ble_eq_true rfl, Nat.le_of_ble_eq_true rfl⟩ hcs ?_
    refine p_goto (tgt := 19) G dX2_takeCard_8 (by decide) ?_
    exact j19 _ _ _ h
set_option maxHeartbeats 4000000 in
set_option maxRecDepth 100000 in
theorem c_X2_putDown (l : Launch) {D : va_G} {yy : Nat → ClassId} {tk tv a : Nat → Nat} {σ : Mm} {p1 : Int} {o : Mm} (h : x_X2_putDown σ p1 = some o) : CT l yX2_putDown cX2_putDown 2 none rm_X2_putDown shM D yy tk tv a σ [.ref (a 0), .int (zJ p1)] o none := by
  refine ct_of (Ar := fun a tk => [.ref (a 0), .int (zJ p1)]) (by decide) (Nat.le_of_ble_eq_true rfl) (fun Γ G _ _ hR => ?_)
  have hcs := rt_cs hR
  unfold x_X2_putDown at h
  refine (?_ : PT Γ 2 shM 0 σ [(0, .ref (ga Γ 0)), (1, .int (zJ p1))] [])
  refine p_aload_n G rfl 0 rfl dX2_putDown_0 ?_
  refine p_get G dX2_putDown_1 fl_X2_15 (k := 0) rfl rfl ?_
  refine p_aload_n G rfl 0 rfl dX2_putDown_4 ?_
  refine p_get G dX2_putDown_5 fl_X2_42 (k := 0) rfl rfl ?_
  refine p_iconst G rfl dX2_putDown_8 ?_
  refine p_iand G dX2_putDown_9 ?_
  refine p_dup2 G rfl rfl dX2_putDown_10 ?_
  refine p_lald G dX2_putDown_11 (k := 2) rfl (zt_c _) h (fun c1 h => ?_)
  refine p_iload_n G rfl 1 rfl dX2_putDown_12 ?_
  obtain ⟨v2, hc, h⟩ := bnd_some h
  refine p_callS0 G dX2_putDown_13 lk_X2_85 (c_X6_bitOf (gl Γ) hc) (As := [.int (zJ p1)]) rfl zk_10 rfl (Nat.le_of_ble_eq_true rfl) ⟨rfl, rfl, Nat.le_of_ble_eq_true rfl, Nat.le_of_ble_eq_true rfl⟩ hcs ?_
  refine p_ldc2 G gm_812 dX2_putDown_16 ?_
  refine p_lxor G dX2_putDown_19 ?_
  refine p_land G dX2_putDown_20 ?_
  refine p_last G dX2_putDown_21 (k := 2) rfl (zt_c _) rfl h (fun σ3 c4 h => ?_)
  refine p_aload_n G rfl 0 rfl dX2_putDown_22 ?_
  refine p_get G dX2_putDown_23 fl_X2_64 (k := 0) rfl rfl ?_
  refine p_iflt (tgt := 58) G dX2_putDown_26 (by decide) h (fun c15 h => ?_) (fun c15 h => ?_)
  · refine p_aload_n G rfl 0 rfl dX2_putDown_58 ?_
    refine p_iconst G rfl dX2_putDown_59 ?_
    refine p_putZ G dX2_putDown_60 fp_X2_45 (k := 0) rfl rfl rfl rfl (zb_01 (by decide)) h (fun σ5 h => ?_)
    refine p_aload_n G rfl 0 rfl dX2_putDown_63 ?_
    refine p_iconst G rfl dX2_putDown_64 ?_
    refine p_putI G dX2_putDown_65 fp_X2_49 (k := 0) rfl rfl rfl rfl h (fun σ6 h => ?_)
    (cases h; exact p_vret G hR dX2_putDown_68 rfl rfl)
  · refine p_aload_n G rfl 0 rfl dX2_putDown_29 ?_
    refine p_get G dX2_putDown_30 fl_X2_64 (k := 0) rfl rfl ?_
    refine p_bipush G (by decide) (by decide) dX2_putDown_33 ?_
    refine p_icmpge (tgt := 58) G dX2_putDown_35 (by decide) h (fun c14 h => ?_) (fun c14 h => ?_)
    · refine p_aload_n G rfl 0 rfl dX2_putDown_58 ?_
      refine p_iconst G rfl dX2_putDown_59 ?_
      refine p_putZ G dX2_putDown_60 fp_X2_45 (k := 0) rfl rfl rfl rfl (zb_01 (by decide)) h (fun σ7 h => ?_)
      refine p_aload_n G rfl 0 rfl dX2_putDown_63 ?_
      refine p_iconst G rfl dX2_putDown_64 ?_
      refine p_putI G dX2_putDown_65 fp_X2_49 (k := 0) rfl rfl rfl rfl h (fun σ8 h => ?_)
      (cases h; exact p_vret G hR dX2_putDown_68 rfl rfl)
    · refine p_aload_n G rfl 0 rfl dX2_putDown_38 ?_
      refine p_get G dX2_putDown_39 fl_X2_22 (k := 0) rfl rfl ?_
      refine p_aload_n G rfl 0 rfl dX2_putDown_42 ?_
      refine p_get G dX2_putDown_43 fl_X2_64 (k := 0) rfl rfl ?_
      refine p_iload_n G rfl 1 rfl dX2_putDown_46 ?_
      refine p_iast G dX2_putDown_47 (k := 4) rfl (zt_c _) rfl h (fun σ9 c10 h => ?_)
      refine p_aload_n G rfl 0 rfl dX2_putDown_48 ?_
      refine p_dup G rfl dX2_putDown_49 ?_
      refine p_get G dX2_putDown_50 fl_X2_64 (k := 0) rfl rfl ?_
      refine p_iconst G rfl dX2_putDown_53 ?_
      refine p_iadd G dX2_putDown_54 ?_
      refine p_putI G dX2_putDown_55 fp_X2_64 (k := 0) rfl rfl rfl rfl h (fun σ11 h => ?_)
      refine p_aload_n G rfl 0 rfl dX2_putDown_58 ?_
      refine p_iconst G rfl dX2_putDown_59 ?_
      refine p_putZ G dX2_putDown_60 fp_X2_45 (k := 0) rfl rfl rfl rfl (zb_01 (by decide)) h (fun σ12 h => ?_)
      refine p_aload_n G rfl 0 rfl dX2_putDown_63 ?_
      refine p_iconst G rfl dX2_putDown_64 ?_
      refine p_putI G dX2_putDown_65 fp_X2_49 (k := 0) rfl rfl rfl rfl h (fun σ13 h => ?_)
      (cases h; exact p_vret G hR dX2_putDown_68 rfl rfl)
set_option maxHeartbeats 4000000 in
set_option maxRecDepth 100000 in
theorem c_X2_stockCount (l : Launch) {D : va_G} {yy : Nat → ClassId} {tk tv a : Nat → Nat} {σ : Mm} {o : Int} (h : x_X2_stockCount σ = some o) : CT l yX2_stockCount cX2_stockCount 1 (some .int) rm_X2_stockCount shM D yy tk tv a σ [.ref (a 0)] σ (some (.int (zJ o))) := by
  refine ct_of (Ar := fun a tk => [.ref (a 0)]) (by decide) (Nat.le_of_ble_eq_true rfl) (fun Γ G _ _ hR => ?_)
  have hcs := rt_cs hR
  unfold x_X2_stockCount at h
  refine (?_ : PT Γ 1 shM 0 σ [(0, .ref (ga Γ 0))] [])
  refine p_bipush G (by decide) (by decide) dX2_stockCount_0 ?_
  refine p_aload_n G rfl 0 rfl dX2_stockCount_2 ?_
  refine p_get G dX2_stockCount_3 fl_X2_61 (k := 0) rfl rfl ?_
  refine p_isub G dX2_stockCount_6 ?_
  (cases h; exact p_iret G hR dX2_stockCount_7 rfl rfl)
set_option maxHeartbeats 4000000 in
set_option maxRecDepth 100000 in
theorem c_X2_endTurn (l : Launch) {D : va_G} {yy : Nat → ClassId} {tk tv a : Nat → Nat} {σ : Mm} {p1 : Int} {o : Mm} (h : x_X2_endTurn σ p1 = some o) : CT l yX2_endTurn cX2_endTurn 2 none rm_X2_endTurn shM D yy tk tv a σ [.ref (a 0), .int (zJ p1)] o none := by
  refine ct_of (Ar := fun a tk => [.ref (a 0), .int (zJ p1)]) (by decide) (Nat.le_of_ble_eq_true rfl) (fun Γ G _ _ hR => ?_)
  have hcs := rt_cs hR
  unfold x_X2_endTurn at h
  refine (?_ : PT Γ 2 shM 0 σ [(0, .ref (ga Γ 0)), (1, .int (zJ p1))] [])
  refine p_aload_n G rfl 0 rfl dX2_endTurn_0 ?_
  refine p_iload_n G rfl 1 rfl dX2_endTurn_1 ?_
  obtain ⟨σ1, hc, h⟩ := bnd_some h
  refine p_callVi G dX2_endTurn_2 lk_X2_101 (c_X2_putDown (gl Γ) hc) (As := [.int (zJ p1)]) (ci := 4) rfl rfl rfl rfl (Nat.le_of_ble_eq_true rfl) ⟨rfl, rfl, Nat.le_of_ble_eq_true rfl, Nat.le_of_ble_eq_true rfl⟩ hcs ?_
  refine p_aload_n G rfl 0 rfl dX2_endTurn_5 ?_
  obtain ⟨v2, hc, h⟩ := bnd_some h
  refine p_callVi G dX2_endTurn_6 lk_X2_105 (c_X2_stockCount (gl Γ) hc) (As := []) (ci := 4) rfl rfl rfl rfl (Nat.le_of_ble_eq_true rfl) ⟨rfl, rfl, Nat.le_of_ble_eq_true rfl, Nat.le_of_ble_eq_true rfl⟩ hcs ?_
  refine p_ifle (tgt := 23) G dX2_endTurn_9 (by decide) h (fun c7 h => ?_) (fun c7 h => ?_)
  · refine p_aload_n G rfl 0 rfl dX2_endTurn_23 ?_
    refine p_iconst G rfl dX2_endTurn_24 ?_
    refine p_putZ G dX2_endTurn_25 fp_X2_52 (k := 0) rfl rfl rfl rfl (zb_01 (by decide)) h (fun σ3 h => ?_)
    refine p_aload_n G rfl 0 rfl dX2_endTurn_28 ?_
    refine p_iconst G rfl dX2_endTurn_29 ?_
    refine p_putI G dX2_endTurn_30 fp_X2_55 (k := 0) rfl rfl rfl rfl h (fun σ4 h => ?_)
    refine p_aload_n G rfl 0 rfl dX2_endTurn_33 ?_
    refine p_iconst G rfl dX2_endTurn_34 ?_
    refine p_putI G dX2_endTurn_35 fp_X2_58 (k := 0) rfl rfl rfl rfl h (fun σ5 h => ?_)
    (cases h; exact p_vret G hR dX2_endTurn_38 rfl rfl)
  · refine p_aload_n G rfl 0 rfl dX2_endTurn_12 ?_
    refine p_iconst G rfl dX2_endTurn_13 ?_
    refine p_aload_n G rfl 0 rfl dX2_endTurn_14 ?_
    refine p_get G dX2_endTurn_15 fl_X2_42 (k := 0) rfl rfl ?_
    refine p_isub G dX2_endTurn_18 ?_
    refine p_putI G dX2_endTurn_19 fp_X2_42 (k := 0) rfl rfl rfl rfl h (fun σ6 h => ?_)
    (cases h; exact p_vret G hR dX2_endTurn_22 rfl rfl)
set_option maxHeartbeats 4000000 in
set_option maxRecDepth 100000 in
theorem c_X2_endRound (l : Launch) {D : va_G} {yy : Nat → ClassId} {tk tv a : Nat → Nat} {σ : Mm} {p1 : Int} {p2 : Int} {o : Mm} (h : x_X2_endRound σ p1 p2 = some o) : CT l yX2_endRound cX2_endRound 3 none rm_X2_endRound shM D yy tk tv a σ [.ref (a 0), .int (zJ p1), .int (zJ p2)] o none := by
  refine ct_of (Ar := fun a tk => [.ref (a 0), .int (zJ p1), .int (zJ p2)]) (by decide) (Nat.le_of_ble_eq_true rfl) (fun Γ G _ _ hR => ?_)
  have hcs := rt_cs hR
  unfold x_X2_endRound at h
  refine (?_ : PT Γ 3 shM 0 σ [(0, .ref (ga Γ 0)), (1, .int (zJ p1)), (2, .int (zJ p2))] [])
  refine p_aload_n G rfl 0 rfl dX2_endRound_0 ?_
  refine p_iload_n G rfl 1 rfl dX2_endRound_1 ?_
  obtain ⟨σ1, hc, h⟩ := bnd_some h
  refine p_callVi G dX2_endRound_2 lk_X2_101 (c_X2_putDown (gl Γ) hc) (As := [.int (zJ p1)]) (ci := 4) rfl rfl rfl rfl (Nat.le_of_ble_eq_true rfl) ⟨rfl, rfl, Nat.le_of_ble_eq_true rfl, Nat.le_of_ble_eq_true rfl⟩ hcs ?_
  refine p_aload_n G rfl 0 rfl dX2_endRound_5 ?_
  refine p_iconst G rfl dX2_endRound_6 ?_
  refine p_putZ G dX2_endRound_7 fp_X2_52 (k := 0) rfl rfl rfl rfl (zb_01 (by decide)) h (fun σ2 h => ?_)
  refine p_aload_n G rfl 0 rfl dX2_endRound_10 ?_
  refine p_iload_n G rfl 2 rfl dX2_endRound_11 ?_
  refine p_zabs G gm_925 gm_926 gm_41 gm_927 (by decide) (by decide) hcs dX2_endRound_12 ?_
  refine p_putI G dX2_endRound_15 fp_X2_55 (k := 0) rfl rfl rfl rfl h (fun σ3 h => ?_)
  refine p_aload_n G rfl 0 rfl dX2_endRound_18 ?_
  refine p_iload_n G rfl 2 rfl dX2_endRound_19 ?_
  refine p_ifle (tgt := 30) G dX2_endRound_20 (by decide) h (fun c12 h => ?_) (fun c12 h => ?_)
  · refine p_iconst G rfl dX2_endRound_30 ?_
    refine p_aload_n G rfl 0 rfl dX2_endRound_31 ?_
    refine p_get G dX2_endRound_32 fl_X2_42 (k := 0) rfl rfl ?_
    refine p_isub G dX2_endRound_35 ?_
    refine p_putI G dX2_endRound_36 fp_X2_58 (k := 0) rfl rfl rfl rfl h (fun σ4 h => ?_)
    refine p_aload_n G rfl 0 rfl dX2_endRound_39 ?_
    refine p_get G dX2_endRound_40 fl_X2_9 (k := 0) rfl rfl ?_
    refine p_aload_n G rfl 0 rfl dX2_endRound_43 ?_
    refine p_get G dX2_endRound_44 fl_X2_58 (k := 0) rfl rfl ?_
    refine p_iconst G rfl dX2_endRound_47 ?_
    refine p_iand G dX2_endRound_48 ?_
    refine p_dup2 G rfl rfl dX2_endRound_49 ?_
    refine p_iald G dX2_endRound_50 (k := 1) rfl (zt_c _) h (fun c5 h => ?_)
    refine p_aload_n G rfl 0 rfl dX2_endRound_51 ?_
    refine p_get G dX2_endRound_52 fl_X2_55 (k := 0) rfl rfl ?_
    refine p_iadd G dX2_endRound_55 ?_
    refine p_iast G dX2_endRound_56 (k := 1) rfl (zt_c _) rfl h (fun σ6 c7 h => ?_)
    (cases h; exact p_vret G hR dX2_endRound_57 rfl rfl)
  · refine p_aload_n G rfl 0 rfl dX2_endRound_23 ?_
    refine p_get G dX2_endRound_24 fl_X2_42 (k := 0) rfl rfl ?_
    refine p_goto (tgt := 36) G dX2_endRound_27 (by decide) ?_
    refine p_putI G dX2_endRound_36 fp_X2_58 (k := 0) rfl rfl rfl rfl h (fun σ8 h => ?_)
    refine p_aload_n G rfl 0 rfl dX2_endRound_39 ?_
    refine p_get G dX2_endRound_40 fl_X2_9 (k := 0) rfl rfl ?_
    refine p_aload_n G rfl 0 rfl dX2_endRound_43 ?_
    refine p_get G dX2_endRound_44 fl_X2_58 (k := 0) rfl rfl ?_
    refine p_iconst G rfl dX2_endRound_47 ?_
    refine p_iand G dX2_endRound_48 ?_
    refine p_dup2 G rfl rfl dX2_endRound_49 ?_
    refine p_iald G dX2_endRound_50 (k := 1) rfl (zt_c _) h (fun c9 h => ?_)
    refine p_aload_n G rfl 0 rfl dX2_endRound_51 ?_
    refine p_get G dX2_endRound_52 fl_X2_55 (k := 0) rfl rfl ?_
    refine p_iadd G dX2_endRound_55 ?_
    refine p_iast G dX2_endRound_56 (k := 1) rfl (zt_c _) rfl h (fun σ10 c11 h => ?_)
    (cases h; exact p_vret G hR dX2_endRound_57 rfl rfl)
set_option maxHeartbeats 4000000 in
set_option maxRecDepth 100000 in
theorem c_X2_reasonAgainstDraw (l : Launch) {D : va_G} {yy : Nat → ClassId} {tk tv a : Nat → Nat} {σ : Mm} {o : Int} (h : x_X2_reasonAgainstDraw σ = some o) : CT l yX2_reasonAgainstDraw cX2_reasonAgainstDraw 1 (some .int) rm_X2_reasonAgainstDraw shM D yy tk tv a σ [.ref (a 0)] σ (some (.int (zJ o))) := by
  refine ct_of (Ar := fun a tk => [.ref (a 0)]) (by decide) (Nat.le_of_ble_eq_true rfl) (fun Γ G _ _ hR => ?_)
  have hcs := rt_cs hR
  unfold x_X2_reasonAgainstDraw at h
  refine (?_ : PT Γ 1 shM 0 σ [(0, .ref (ga Γ 0))] [])
  refine p_aload_n G rfl 0 rfl dX2_reasonAgainstDraw_0 ?_
  refine p_get G dX2_reasonAgainstDraw_1 fl_X2_52 (k := 0) rfl rfl ?_
  refine p_ifeq (tgt := 9) G dX2_reasonAgainstDraw_4 (by decide) h (fun c2 h => ?_) (fun c2 h => ?_)
  · refine p_aload_n G rfl 0 rfl dX2_reasonAgainstDraw_9 ?_
    refine p_get G dX2_reasonAgainstDraw_10 fl_X2_45 (k := 0) rfl rfl ?_
    refine p_ifeq (tgt := 20) G dX2_reasonAgainstDraw_13 (by decide) h (fun c1 h => ?_) (fun c1 h => ?_)
    · refine p_iconst G rfl dX2_reasonAgainstDraw_20 ?_
      (cases h; exact p_iret G hR dX2_reasonAgainstDraw_21 rfl rfl)
    · refine p_iconst G rfl dX2_reasonAgainstDraw_16 ?_
      refine p_goto (tgt := 21) G dX2_reasonAgainstDraw_17 (by decide) ?_
      (cases h; exact p_iret G hR dX2_reasonAgainstDraw_21 rfl rfl)
  · refine p_iconst G rfl dX2_reasonAgainstDraw_7 ?_
    (cases h; exact p_iret G hR dX2_reasonAgainstDraw_8 rfl rfl)
set_option maxHeartbeats 4000000 in
set_option maxRecDepth 100000 in
theorem c_X2_reasonAgainstDrop (l : Launch) {D : va_G} {yy : Nat → ClassId} {tk tv a : Nat → Nat} {σ : Mm} {p1 : Int} {o : Int} (h : x_X2_reasonAgainstDrop σ p1 = some o) : CT l yX2_reasonAgainstDrop cX2_reasonAgainstDrop 2 (some .int) rm_X2_reasonAgainstDrop shM D yy tk tv a σ [.ref (a 0), .int (zJ p1)] σ (some (.int (zJ o))) := by
  refine ct_of (Ar := fun a tk => [.ref (a 0), .int (zJ p1)]) (by decide) (Nat.le_of_ble_eq_true rfl) (fun Γ G _ _ hR => ?_)
  have hcs := rt_cs hR
  unfold x_X2_reasonAgainstDrop at h
  refine (?_ : PT Γ 2 shM 0 σ [(0, .ref (ga Γ 0)), (1, .int (zJ p1))] [])
  refine p_aload_n G rfl 0 rfl dX2_reasonAgainstDrop_0 ?_
  refine p_get G dX2_reasonAgainstDrop_1 fl_X2_52 (k := 0) rfl rfl ?_
  refine p_ifeq (tgt := 9) G dX2_reasonAgainstDrop_4 (by decide) h (fun c3 h => ?_) (fun c3 h => ?_)
  · refine p_aload_n G rfl 0 rfl dX2_reasonAgainstDrop_9 ?_
    refine p_get G dX2_reasonAgainstDrop_10 fl_X2_45 (k := 0) rfl rfl ?_
    refine p_ifne (tgt := 18) G dX2_reasonAgainstDrop_13 (by decide) h (fun c2 h => ?_) (fun c2 h => ?_)
    · refine p_iload_n G rfl 1 rfl dX2_reasonAgainstDrop_18 ?_
      refine p_aload_n G rfl 0 rfl dX2_reasonAgainstDrop_19 ?_
      refine p_get G dX2_reasonAgainstDrop_20 fl_X2_49 (k := 0) rfl rfl ?_
      refine p_icmpne (tgt := 30) G dX2_reasonAgainstDrop_23 (by decide) h (fun c1 h => ?_) (fun c1 h => ?_)
      · refine p_iconst G rfl dX2_reasonAgainstDrop_30 ?_
        (cases h; exact p_iret G hR dX2_reasonAgainstDrop_31 rfl rfl)
      · refine p_iconst G rfl dX2_reasonAgainstDrop_26 ?_
        refine p_goto (tgt := 31) G dX2_reasonAgainstDrop_27 (by decide) ?_
        (cases h; exact p_iret G hR dX2_reasonAgainstDrop_31 rfl rfl)
    · refine p_iconst G rfl dX2_reasonAgainstDrop_16 ?_
      (cases h; exact p_iret G hR dX2_reasonAgainstDrop_17 rfl rfl)
  · refine p_iconst G rfl dX2_reasonAgainstDrop_7 ?_
    (cases h; exact p_iret G hR dX2_reasonAgainstDrop_8 rfl rfl)
set_option maxHeartbeats 4000000 in
set_option maxRecDepth 100000 in
theorem c_X2_reasonAgainstKnock (l : Launch) {D : va_G} {yy : Nat → ClassId} {tk tv a : Nat → Nat} {σ : Mm} {p1 : Int} {p2 : Int} {o : Int} (h : x_X2_reasonAgainstKnock σ p1 p2 = some o) : CT l yX2_reasonAgainstKnock cX2_reasonAgainstKnock 4 (some .int) rm_X2_reasonAgainstKnock shM D yy tk tv a σ [.ref (a 0), .int (zJ p1), .int (zJ p2)] σ (some (.int (zJ o))) := by
  refine ct_of (Ar := fun a tk => [.ref (a 0), .int (zJ p1), .int (zJ p2)]) (by decide) (Nat.le_of_ble_eq_true rfl) (fun Γ G _ _ hR => ?_)
  have hcs := rt_cs hR
  unfold x_X2_reasonAgainstKnock at h
  refine (?_ : PT Γ 4 shM 0 σ [(0, .ref (ga Γ 0)), (1, .int (zJ p1)), (2, .int (zJ p2))] [])
  refine p_aload_n G rfl 0 rfl dX2_reasonAgainstKnock_0 ?_
  refine p_iload_n G rfl 1 rfl dX2_reasonAgainstKnock_1 ?_
  obtain ⟨v1, hc, h⟩ := bnd_some h
  refine p_callVi G dX2_reasonAgainstKnock_2 lk_X2_113 (c_X2_reasonAgainstDrop (gl Γ) hc) (As := [.int (zJ p1)]) (ci := 4) rfl rfl rfl rfl (Nat.le_of_ble_eq_true rfl) ⟨rfl, rfl, Nat.le_of_ble_eq_true rfl, Nat.le_of_ble_eq_true rfl⟩ hcs ?_
  refine p_istore_nU (lv' := [(3, .int (zJ v1)), (0, .ref (ga Γ 0)), (1, .int (zJ p1)), (2, .int (zJ p2))]) G rfl dX2_reasonAgainstKnock_5 (by decide) rfl ?_
  refine p_iload_n G rfl 0 rfl dX2_reasonAgainstKnock_6 ?_
  refine p_ifeq (tgt := 12) G dX2_reasonAgainstKnock_7 (by decide) h (fun c3 h => ?_) (fun c3 h => ?_)
  · refine p_iload_n G rfl 3 rfl dX2_reasonAgainstKnock_12 ?_
    refine p_aload_n G rfl 1 rfl dX2_reasonAgainstKnock_13 ?_
    refine p_get G dX2_reasonAgainstKnock_14 fl_X2_29 (k := 0) rfl rfl ?_
    refine p_icmple (tgt := 25) G dX2_reasonAgainstKnock_17 (by decide) h (fun c2 h => ?_) (fun c2 h => ?_)
    · refine p_iconst G rfl dX2_reasonAgainstKnock_25 ?_
      (cases h; exact p_iret G hR dX2_reasonAgainstKnock_26 rfl rfl)
    · refine p_bipush G (by decide) (by decide) dX2_reasonAgainstKnock_20 ?_
      refine p_goto (tgt := 26) G dX2_reasonAgainstKnock_22 (by decide) ?_
      (cases h; exact p_iret G hR dX2_reasonAgainstKnock_26 rfl rfl)
  · refine p_iload_n G rfl 0 rfl dX2_reasonAgainstKnock_10 ?_
    (cases h; exact p_iret G hR dX2_reasonAgainstKnock_11 rfl rfl)
set_option maxHeartbeats 4000000 in
set_option maxRecDepth 100000 in
theorem c_X2_isMatchOver (l : Launch) {D : va_G} {yy : Nat → ClassId} {tk tv a : Nat → Nat} {σ : Mm} {o : Int} (h : x_X2_isMatchOver σ = some o) : CT l yX2_isMatchOver cX2_isMatchOver 1 (some .boolean) rm_X2_isMatchOver shM D yy tk tv a σ [.ref (a 0)] σ (some (.int (zJ o))) := by
  refine ct_of (Ar := fun a tk => [.ref (a 0)]) (by decide) (Nat.le_of_ble_eq_true rfl) (fun Γ G _ _ hR => ?_)
  have hcs := rt_cs hR
  unfold x_X2_isMatchOver at h
  refine (?_ : PT Γ 1 shM 0 σ [(0, .ref (ga Γ 0))] [])
  refine p_aload_n G rfl 0 rfl dX2_isMatchOver_0 ?_
  refine p_get G dX2_isMatchOver_1 fl_X2_52 (k := 0) rfl rfl ?_
  refine p_ifeq (tgt := 37) G dX2_isMatchOver_4 (by decide) h (fun c5 h => ?_) (fun c5 h => ?_)
  · refine p_iconst G rfl dX2_isMatchOver_37 ?_
    (cases h; exact p_zret G hR dX2_isMatchOver_38 (by decide) rfl rfl)
  · refine p_aload_n G rfl 0 rfl dX2_isMatchOver_7 ?_
    refine p_get G dX2_isMatchOver_8 fl_X2_9 (k := 0) rfl rfl ?_
    refine p_iconst G rfl dX2_isMatchOver_11 ?_
    refine p_iald G dX2_isMatchOver_12 (k := 1) rfl (zt_c _) h (fun c1 h => ?_)
    refine p_aload_n G rfl 0 rfl dX2_isMatchOver_13 ?_
    refine p_get G dX2_isMatchOver_14 fl_X2_32 (k := 0) rfl rfl ?_
    refine p_icmpge (tgt := 33) G dX2_isMatchOver_17 (by decide) h (fun c4 h => ?_) (fun c4 h => ?_)
    · refine p_iconst G rfl dX2_isMatchOver_33 ?_
      refine p_goto (tgt := 38) G dX2_isMatchOver_34 (by decide) ?_
      (cases h; exact p_zret G hR dX2_isMatchOver_38 (by decide) rfl rfl)
    · refine p_aload_n G rfl 0 rfl dX2_isMatchOver_20 ?_
      refine p_get G dX2_isMatchOver_21 fl_X2_9 (k := 0) rfl rfl ?_
      refine p_iconst G rfl dX2_isMatchOver_24 ?_
      refine p_iald G dX2_isMatchOver_25 (k := 1) rfl (zt_c _) h (fun c2 h => ?_)
      refine p_aload_n G rfl 0 rfl dX2_isMatchOver_26 ?_
      refine p_get G dX2_isMatchOver_27 fl_X2_32 (k := 0) rfl rfl ?_
      refine p_icmplt (tgt := 37) G dX2_isMatchOver_30 (by decide) h (fun c3 h => ?_) (fun c3 h => ?_)
      · refine p_iconst G rfl dX2_isMatchOver_37 ?_
        (cases h; exact p_zret G hR dX2_isMatchOver_38 (by decide) rfl rfl)
      · refine p_iconst G rfl dX2_isMatchOver_33 ?_
        refine p_goto (tgt := 38) G dX2_isMatchOver_34 (by decide) ?_
        (cases h; exact p_zret G hR dX2_isMatchOver_38 (by decide) rfl rfl)
set_option maxHeartbeats 4000000 in
set_option maxRecDepth 100000 in
theorem c_X2_reasonAgainstDeal (l : Launch) {D : va_G} {yy : Nat → ClassId} {tk tv a : Nat → Nat} {σ : Mm} {o : Int} (h : x_X2_reasonAgainstDeal σ = some o) : CT l yX2_reasonAgainstDeal cX2_reasonAgainstDeal 1 (some .int) rm_X2_reasonAgainstDeal shM D yy tk tv a σ [.ref (a 0)] σ (some (.int (zJ o))) := by
  refine ct_of (Ar := fun a tk => [.ref (a 0)]) (by decide) (Nat.le_of_ble_eq_true rfl) (fun Γ G _ _ hR => ?_)
  have hcs := rt_cs hR
  unfold x_X2_reasonAgainstDeal at h
  refine (?_ : PT Γ 1 shM 0 σ [(0, .ref (ga Γ 0))] [])
  refine p_aload_n G rfl 0 rfl dX2_reasonAgainstDeal_0 ?_
  refine p_get G dX2_reasonAgainstDeal_1 fl_X2_52 (k := 0) rfl rfl ?_
  refine p_ifne (tgt := 10) G dX2_reasonAgainstDeal_4 (by decide) h (fun c3 h => ?_) (fun c3 h => ?_)
  · refine p_aload_n G rfl 0 rfl dX2_reasonAgainstDeal_10 ?_
    obtain ⟨v1, hc, h⟩ := bnd_some h
    refine p_callVi G dX2_reasonAgainstDeal_11 lk_X2_116 (c_X2_isMatchOver (gl Γ) hc) (As := []) (ci := 4) rfl rfl rfl rfl (Nat.le_of_ble_eq_true rfl) ⟨rfl, rfl, Nat.le_of_ble_eq_true rfl, Nat.le_of_ble_eq_true rfl⟩ hcs ?_
    refine p_ifeq (tgt := 22) G dX2_reasonAgainstDeal_14 (by decide) h (fun c2 h => ?_) (fun c2 h => ?_)
    · refine p_iconst G rfl dX2_reasonAgainstDeal_22 ?_
      (cases h; exact p_iret G hR dX2_reasonAgainstDeal_23 rfl rfl)
    · refine p_bipush G (by decide) (by decide) dX2_reasonAgainstDeal_17 ?_
      refine p_goto (tgt := 23) G dX2_reasonAgainstDeal_19 (by decide) ?_
      (cases h; exact p_iret G hR dX2_reasonAgainstDeal_23 rfl rfl)
  · refine p_bipush G (by decide) (by decide) dX2_reasonAgainstDeal_7 ?_
    (cases h; exact p_iret G hR dX2_reasonAgainstDeal_9 rfl rfl)
set_option maxHeartbeats 4000000 in
set_option maxRecDepth 100000 in
theorem c_X2_isDropDue (l : Launch) {D : va_G} {yy : Nat → ClassId} {tk tv a : Nat → Nat} {σ : Mm} {o : Int} (h : x_X2_isDropDue σ = some o) : CT l yX2_isDropDue cX2_isDropDue 1 (some .boolean) rm_X2_isDropDue shM D yy tk tv a σ [.ref (a 0)] σ (some (.int (zJ o))) := by
  refine ct_of (Ar := fun a tk => [.ref (a 0)]) (by decide) (Nat.le_of_ble_eq_true rfl) (fun Γ G _ _ hR => ?_)
  have hcs := rt_cs hR
  unfold x_X2_isDropDue at h
  refine (?_ : PT Γ 1 shM 0 σ [(0, .ref (ga Γ 0))] [])
  refine p_aload_n G rfl 0 rfl dX2_isDropDue_0 ?_
  refine p_get G dX2_isDropDue_1 fl_X2_45 (k := 0) rfl rfl ?_
  refine p_ifeq (tgt := 18) G dX2_isDropDue_4 (by decide) h (fun c2 h => ?_) (fun c2 h => ?_)
  · refine p_iconst G rfl dX2_isDropDue_18 ?_
    (cases h; exact p_zret G hR dX2_isDropDue_19 (by decide) rfl rfl)
  · refine p_aload_n G rfl 0 rfl dX2_isDropDue_7 ?_
    refine p_get G dX2_isDropDue_8 fl_X2_52 (k := 0) rfl rfl ?_
    refine p_ifne (tgt := 18) G dX2_isDropDue_11 (by decide) h (fun c1 h => ?_) (fun c1 h => ?_)
    · refine p_iconst G rfl dX2_isDropDue_18 ?_
      (cases h; exact p_zret G hR dX2_isDropDue_19 (by decide) rfl rfl)
    · refine p_iconst G rfl dX2_isDropDue_14 ?_
      refine p_goto (tgt := 19) G dX2_isDropDue_15 (by decide) ?_
      (cases h; exact p_zret G hR dX2_isDropDue_19 (by decide) rfl rfl)
set_option maxHeartbeats 4000000 in
set_option maxRecDepth 100000 in
theorem c_X2_score (l : Launch) {D : va_G} {yy : Nat → ClassId} {tk tv a : Nat → Nat} {σ : Mm} {p1 : Int} {o : Int} (h : x_X2_score σ p1 = some o) : CT l yX2_score cX2_score 2 (some .int) rm_X2_score shM D yy tk tv a σ [.ref (a 0), .int (zJ p1)] σ (some (.int (zJ o))) := by
  refine ct_of (Ar := fun a tk => [.ref (a 0), .int (zJ p1)]) (by decide) (Nat.le_of_ble_eq_true rfl) (fun Γ G _ _ hR => ?_)
  have hcs := rt_cs hR
  unfold x_X2_score at h
  refine (?_ : PT Γ 2 shM 0 σ [(0, .ref (ga Γ 0)), (1, .int (zJ p1))] [])
  refine p_aload_n G rfl 0 rfl dX2_score_0 ?_
  refine p_get G dX2_score_1 fl_X2_9 (k := 0) rfl rfl ?_
  refine p_iload_n G rfl 1 rfl dX2_score_4 ?_
  refine p_iconst G rfl dX2_score_5 ?_
  refine p_iand G dX2_score_6 ?_
  refine p_iald G dX2_score_7 (k := 1) rfl (zt_c _) h (fun c1 h => ?_)
  (cases h; exact p_iret G hR dX2_score_8 rfl rfl)
set_option maxHeartbeats 4000000 in
set_option maxRecDepth 100000 in
theorem c_X2_handOf (l : Launch) {D : va_G} {yy : Nat → ClassId} {tk tv a : Nat → Nat} {σ : Mm} {p1 : Int} {o : Int64} (h : x_X2_handOf σ p1 = some o) : CT l yX2_handOf cX2_handOf 2 (some .long) rm_X2_handOf shM D yy tk tv a σ [.ref (a 0), .int (zJ p1)] σ (some (.long o)) := by
  refine ct_of (Ar := fun a tk => [.ref (a 0), .int (zJ p1)]) (by decide) (Nat.le_of_ble_eq_true rfl) (fun Γ G _ _ hR => ?_)
  have hcs := rt_cs hR
  unfold x_X2_handOf at h
  refine (?_ : PT Γ 2 shM 0 σ [(0, .ref (ga Γ 0)), (1, .int (zJ p1))] [])
  refine p_aload_n G rfl 0 rfl dX2_handOf_0 ?_
  refine p_get G dX2_handOf_1 fl_X2_15 (k := 0) rfl rfl ?_
  refine p_iload_n G rfl 1 rfl dX2_handOf_4 ?_
  refine p_iconst G rfl dX2_handOf_5 ?_
  refine p_iand G dX2_handOf_6 ?_
  refine p_lald G dX2_handOf_7 (k := 2) rfl (zt_c _) h (fun c1 h => ?_)
  (cases h; exact p_lret G hR dX2_handOf_8 rfl rfl)
set_option maxHeartbeats 4000000 in
set_option maxRecDepth 100000 in
theorem c_X2_otherHand (l : Launch) {D : va_G} {yy : Nat → ClassId} {tk tv a : Nat → Nat} {σ : Mm} {o : Int64} (h : x_X2_otherHand σ = some o) : CT l yX2_otherHand cX2_otherHand 1 (some .long) rm_X2_otherHand shM D yy tk tv a σ [.ref (a 0)] σ (some (.long o)) := by
  refine ct_of (Ar := fun a tk => [.ref (a 0)]) (by decide) (Nat.le_of_ble_eq_true rfl) (fun Γ G _ _ hR => ?_)
  have hcs := rt_cs hR
  unfold x_X2_otherHand at h
  refine (?_ : PT Γ 1 shM 0 σ [(0, .ref (ga Γ 0))] [])
  refine p_aload_n G rfl 0 rfl dX2_otherHand_0 ?_
  refine p_iconst G rfl dX2_otherHand_1 ?_
  refine p_aload_n G rfl 0 rfl dX2_otherHand_2 ?_
  refine p_get G dX2_otherHand_3 fl_X2_42 (k := 0) rfl rfl ?_
  refine p_isub G dX2_otherHand_6 ?_
  obtain ⟨v1, hc, h⟩ := bnd_some h
  refine p_callVi G dX2_otherHand_7 lk_X2_120 (c_X2_handOf (gl Γ) hc) (As := [.int (zJ ((1 : Int) - (σ 0 5)))]) (ci := 4) rfl rfl rfl rfl (Nat.le_of_ble_eq_true rfl) ⟨rfl, rfl, Nat.le_of_ble_eq_true rfl, Nat.le_of_ble_eq_true rfl⟩ hcs ?_
  (cases h; exact p_lret G hR dX2_otherHand_10 rfl rfl)
set_option maxHeartbeats 4000000 in
set_option maxRecDepth 100000 in
theorem c_X2_handWithout (l : Launch) {D : va_G} {yy : Nat → ClassId} {tk tv a : Nat → Nat} {σ : Mm} {p1 : Int} {o : Int64} (h : x_X2_handWithout σ p1 = some o) : CT l yX2_handWithout cX2_handWithout 2 (some .long) rm_X2_handWithout shM D yy tk tv a σ [.ref (a 0), .int (zJ p1)] σ (some (.long o)) := by
  refine ct_of (Ar := fun a tk => [.ref (a 0), .int (zJ p1)]) (by decide) (Nat.le_of_ble_eq_true rfl) (fun Γ G _ _ hR => ?_)
  have hcs := rt_cs hR
  unfold x_X2_handWithout at h
  refine (?_ : PT Γ 2 shM 0 σ [(0, .ref (ga Γ 0)), (1, .int (zJ p1))] [])
  refine p_aload_n G rfl 0 rfl dX2_handWithout_0 ?_
  refine p_aload_n G rfl 0 rfl dX2_handWithout_1 ?_
  refine p_get G dX2_handWithout_2 fl_X2_42 (k := 0) rfl rfl ?_
  obtain ⟨v1, hc, h⟩ := bnd_some h
  refine p_callVi G dX2_handWithout_5 lk_X2_120 (c_X2_handOf (gl Γ) hc) (As := [.int (zJ (σ 0 5))]) (ci := 4) rfl rfl rfl rfl (Nat.le_of_ble_eq_true rfl) ⟨rfl, rfl, Nat.le_of_ble_eq_true rfl, Nat.le_of_ble_eq_true rfl⟩ hcs ?_
  refine p_iload_n G rfl 1 rfl dX2_handWithout_8 ?_
  obtain ⟨v2, hc, h⟩ := bnd_some h
  refine p_callS0 G dX2_handWithout_9 lk_X2_85 (c_X6_bitOf (gl Γ) hc) (As := [.int (zJ p1)]) rfl zk_10 rfl (Nat.le_of_ble_eq_true rfl) ⟨rfl, rfl, Nat.le_of_ble_eq_true rfl, Nat.le_of_ble_eq_true rfl⟩ hcs ?_
  refine p_ldc2 G gm_812 dX2_handWithout_12 ?_
  refine p_lxor G dX2_handWithout_15 ?_
  refine p_land G dX2_handWithout_16 ?_
  (cases h; exact p_lret G hR dX2_handWithout_17 rfl rfl)
set_option maxHeartbeats 4000000 in
set_option maxRecDepth 100000 in
theorem c_X2_placeOf (l : Launch) {D : va_G} {yy : Nat → ClassId} {tk tv a : Nat → Nat} {σ : Mm} {p1 : Int} {o : Int} (h : x_X2_placeOf σ p1 = some o) : CT l yX2_placeOf cX2_placeOf 3 (some .int) rm_X2_placeOf shM D yy tk tv a σ [.ref (a 0), .int (zJ p1)] σ (some (.int (zJ o))) := by
  refine ct_of (Ar := fun a tk => [.ref (a 0), .int (zJ p1)]) (by decide) (Nat.le_of_ble_eq_true rfl) (fun Γ G _ _ hR => ?_)
  have hcs := rt_cs hR
  unfold x_X2_placeOf at h
  refine (?_ : PT Γ 3 shM 0 σ [(0, .ref (ga Γ 0)), (1, .int (zJ p1))] [])
  refine p_iconst G rfl dX2_placeOf_0 ?_
  refine p_istore_nU (lv' := [(2, .int (zJ (0 : Int))), (0, .ref (ga Γ 0)), (1, .int (zJ p1))]) G rfl dX2_placeOf_1 (by decide) rfl ?_
  refine p_lv [1, 2, 0] rfl ?_
  obtain ⟨e7, hl2, h⟩ := bnd_some h
  have hX2_20 : ∀ (v8 : Int), (.inl v8) = e7 → PT Γ 3 shM 20 σ [(2, .int (zJ v8))] [] := by
    intro v8 he
    subst he
    rw [zel_l] at h
    refine p_iload_n G rfl 0 rfl dX2_placeOf_20 ?_
    (cases h; exact p_iret G hR dX2_placeOf_21 rfl rfl)
  have hX2_28 : ∀ (_ : Unit), (.inr ()) = e7 → PT Γ 3 shM 28 σ [(0, .ref (ga Γ 0)), (1, .int (zJ p1))] [] := by
    intro _ he
    subst he
    rw [zel_r] at h
    refine p_iconst G rfl dX2_placeOf_28 ?_
    refine p_istore_nU (lv' := [(2, .int (zJ (0 : Int))), (0, .ref (ga Γ 0)), (1, .int (zJ p1))]) G rfl dX2_placeOf_29 (by decide) rfl ?_
    refine p_lv [1, 2, 0] rfl ?_
    obtain ⟨e15, hl30, h⟩ := bnd_some h
    have hX30_54 : ∀ (_ : Unit), (.inl ()) = e15 → PT Γ 3 shM 54 σ [] [] := by
      intro _ he
      subst he
      rw [zel_l] at h
      refine p_iconst G rfl dX2_placeOf_54 ?_
      (cases h; exact p_iret G hR dX2_placeOf_55 rfl rfl)
    have hX30_62 : ∀ (_ : Unit), (.inr ()) = e15 → PT Γ 3 shM 62 σ [] [] := by
      intro _ he
      subst he
      rw [zel_r] at h
      refine p_iconst G rfl dX2_placeOf_62 ?_
      (cases h; exact p_iret G hR dX2_placeOf_63 rfl rfl)
    refine lup_walk (s := (0 : Int)) (At := fun s : Int => PT Γ 3 shM 30 σ [(0, .ref (ga Γ 0)), (1, .int (zJ p1)), (2, .int (zJ s))] []) (fun u2_30 r hf hin30 hout30 => ?_) hl30
    have h : x_X2_placeOf_b30 σ p1 u2_30 = some r := hf
    clear hf
    unfold x_X2_placeOf_b30 at h
    refine (?_ : PT Γ 3 shM 30 σ [(0, .ref (ga Γ 0)), (1, .int (zJ p1)), (2, .int (zJ u2_30))] [])
    refine p_iload_n G rfl 2 rfl dX2_placeOf_30 ?_
    refine p_aload_n G rfl 0 rfl dX2_placeOf_31 ?_
    refine p_get G dX2_placeOf_32 fl_X2_64 (k := 0) rfl rfl ?_
    refine p_icmpge (tgt := 62) G dX2_placeOf_35 (by decide) h (fun c13 h => ?_) (fun c13 h => ?_)
    · refine p_lv [] rfl ?_
      have he := hout30 _ (Option.some.inj h).symm
      subst he
      exact hX30_62 () rfl
    · refine p_iload_n G rfl 2 rfl dX2_placeOf_38 ?_
      refine p_bipush G (by decide) (by decide) dX2_placeOf_39 ?_
      refine p_icmpge (tgt := 62) G dX2_placeOf_41 (by decide) h (fun c12 h => ?_) (fun c12 h => ?_)
      · refine p_lv [] rfl ?_
        have he := hout30 _ (Option.some.inj h).symm
        subst he
        exact hX30_62 () rfl
      · refine p_aload_n G rfl 0 rfl dX2_placeOf_44 ?_
        refine p_get G dX2_placeOf_45 fl_X2_22 (k := 0) rfl rfl ?_
        refine p_iload_n G rfl 2 rfl dX2_placeOf_48 ?_
        refine p_iald G dX2_placeOf_49 (k := 4) rfl (zt_c _) h (fun c9 h => ?_)
        refine p_iload_n G rfl 1 rfl dX2_placeOf_50 ?_
        refine p_icmpne (tgt := 56) G dX2_placeOf_51 (by decide) h (fun c11 h => ?_) (fun c11 h => ?_)
        · refine p_iinc (lv' := fun v10 => [(2, .int (zJ v10)), (0, .ref (ga Γ 0)), (1, .int (zJ p1))]) G dX2_placeOf_56 h 2 rfl (by decide) (fun _ => rfl) (fun v10 h => ?_)
          refine p_goto (tgt := 30) G dX2_placeOf_59 (by decide) ?_
          refine p_lv [1, 2, 0] rfl ?_
          exact hin30 _ (Option.some.inj h).symm
        · refine p_lv [] rfl ?_
          have he := hout30 _ (Option.some.inj h).symm
          subst he
          exact hX30_54 () rfl
  refine lup_walk (s := (0 : Int)) (At := fun s : Int => PT Γ 3 shM 2 σ [(0, .ref (ga Γ 0)), (1, .int (zJ p1)), (2, .int (zJ s))] []) (fun u2_2 r hf hin2 hout2 => ?_) hl2
  have h : x_X2_placeOf_b2 σ p1 u2_2 = some r := hf
  clear hf
  unfold x_X2_placeOf_b2 at h
  refine (?_ : PT Γ 3 shM 2 σ [(0, .ref (ga Γ 0)), (1, .int (zJ p1)), (2, .int (zJ u2_2))] [])
  refine p_iload_n G rfl 2 rfl dX2_placeOf_2 ?_
  refine p_iconst G rfl dX2_placeOf_3 ?_
  refine p_icmpge (tgt := 28) G dX2_placeOf_4 (by decide) h (fun c5 h => ?_) (fun c5 h => ?_)
  · refine p_lv [0, 1] rfl ?_
    have he := hout2 _ (Option.some.inj h).symm
    subst he
    exact hX2_28 () rfl
  · refine p_aload_n G rfl 0 rfl dX2_placeOf_7 ?_
    refine p_get G dX2_placeOf_8 fl_X2_15 (k := 0) rfl rfl ?_
    refine p_iload_n G rfl 2 rfl dX2_placeOf_11 ?_
    refine p_lald G dX2_placeOf_12 (k := 2) rfl (zt_c _) h (fun c1 h => ?_)
    refine p_iload_n G rfl 1 rfl dX2_placeOf_13 ?_
    obtain ⟨v2, hc, h⟩ := bnd_some h
    refine p_callS0 G dX2_placeOf_14 lk_X2_123 (c_X6_has (gl Γ) hc) (As := [.long (zL (σ 2 (zix u2_2))), .int (zJ p1)]) rfl zk_10 rfl (Nat.le_of_ble_eq_true rfl) ⟨rfl, rfl, Nat.le_of_ble_eq_true rfl, Nat.le_of_ble_eq_true rfl⟩ hcs ?_
    refine p_ifeq (tgt := 22) G dX2_placeOf_17 (by decide) h (fun c4 h => ?_) (fun c4 h => ?_)
    · refine p_iinc (lv' := fun v3 => [(2, .int (zJ v3)), (0, .ref (ga Γ 0)), (1, .int (zJ p1))]) G dX2_placeOf_22 h 2 rfl (by decide) (fun _ => rfl) (fun v3 h => ?_)
      refine p_goto (tgt := 2) G dX2_placeOf_25 (by decide) ?_
      refine p_lv [1, 2, 0] rfl ?_
      exact hin2 _ (Option.some.inj h).symm
    · refine p_lv [2] rfl ?_
      have he := hout2 _ (Option.some.inj h).symm
      subst he
      exact hX2_20 _ rfl
set_option maxHeartbeats 4000000 in
set_option maxRecDepth 100000 in
theorem c_X3_init (l : Launch) {D : va_G} {yy : Nat → ClassId} {tk tv a : Nat → Nat} {σ : Mm} {o : Mm} (h : x_X3_init σ = some o) : CTN l yX3_init cX3_init 1 none rm_X3_init shRc shR D yy tk tv a σ [.ref (a 0)] o none 2 552 := by
  refine ctn_of (Ar := fun a tk => [.ref (a 0)]) (by decide) (Nat.le_of_ble_eq_true rfl) (fun h => by cases h) (fun Γ G _ hM hR => ?_)
  have hcs := mk_cs G hM (Nat.le_of_ble_eq_true rfl) (Nat.le_of_ble_eq_true rfl)
  unfold x_X3_init at h
  refine (?_ : PT Γ 1 shRc 0 σ [(0, .ref (ga Γ 0))] [])
  refine p_aload_n G rfl 0 rfl dX3_init_0 ?_
  refine p_objInit G gm_161 gm_58 gm_59 dX3_init_1 (Nat.le_of_ble_eq_true rfl) (Nat.le_of_ble_eq_true rfl) (Nat.le_of_ble_eq_true rfl) ?_
  refine p_aload_n G rfl 0 rfl dX3_init_4 ?_
  refine p_sipush G (by decide) (by decide) dX3_init_5 ?_
  refine p_newaPut (lv' := fun a => [(0, .ref (a 0))]) (st' := fun a => []) (k := 0) (K := 1) (j := 0) (c1 := 0) (kd := 2) (N := 500) G hR hM gm_188 dX3_init_8 dX3_init_10 ff_X3_9 rfl rfl rfl (by decide +kernel) (by decide +kernel) (by decide +kernel) (fun _ => rfl) (fun _ _ h => h) rfl (by decide) (by decide) (by decide) (by decide) (Nat.le_of_ble_eq_true rfl) (Nat.le_of_ble_eq_true rfl) h (fun a e => by have q0 := e 0 _ rfl rfl; exact ⟨by simp only [q0], by rfl⟩) (fun Γ G hR hM σ1 h => ?_)
  refine (?_ : PT Γ 1 shRc 13 σ1 [(0, .ref (ga Γ 0))] [])
  have hcs := mk_cs G hM (Nat.le_of_ble_eq_true rfl) (Nat.le_of_ble_eq_true rfl)
  refine p_aload_n G rfl 0 rfl dX3_init_13 ?_
  refine p_bipush G (by decide) (by decide) dX3_init_14 ?_
  refine p_newaPut (lv' := fun a => [(0, .ref (a 0))]) (st' := fun a => []) (k := 0) (K := 2) (j := 6) (c1 := 0) (kd := 0) (N := 52) G hR hM gm_135 dX3_init_16 dX3_init_18 ff_X3_15 rfl rfl rfl (by decide +kernel) (by decide +kernel) (by decide +kernel) (fun _ => rfl) (fun _ _ h => h) rfl (by decide) (by decide) (by decide) (by decide) (Nat.le_of_ble_eq_true rfl) (Nat.le_of_ble_eq_true rfl) h (fun a e => by have q0 := e 0 _ rfl rfl; exact ⟨by simp only [q0], by rfl⟩) (fun Γ G hR hM σ2 h => ?_)
  refine (?_ : PT Γ 1 shRc 21 σ2 [(0, .ref (ga Γ 0))] [])
  have hcs := mk_cs G hM (Nat.le_of_ble_eq_true rfl) (Nat.le_of_ble_eq_true rfl)
  refine zift h (fun hf h => ?_)
  refine p_conv (s9 := shR) G [(0, 0), (0, 6)] hR hM zk_11 hf (fun Γ9 G hR hM hga => ?_)
  rw [← hga]
  clear hga hcs
  revert hM hR G
  generalize Γ9 = Γ
  intro G hR hM
  have hcs := mk_cs G hM (Nat.le_of_ble_eq_true rfl) (Nat.le_of_ble_eq_true rfl)
  (cases h; exact p_vretN G hM (Nat.le_of_ble_eq_true rfl) (Nat.le_of_ble_eq_true rfl) hR dX3_init_21 rfl rfl)
set_option maxHeartbeats 4000000 in
set_option maxRecDepth 100000 in
theorem c_X3_writeByte (l : Launch) {D : va_G} {yy : Nat → ClassId} {tk tv a : Nat → Nat} {σ : Mm} {p1 : Int} {o : Mm} (h : x_X3_writeByte σ p1 = some o) : CT l yX3_writeByte cX3_writeByte 2 none rm_X3_writeByte shR D yy tk tv a σ [.ref (a 0), .int (zJ p1)] o none := by
  refine ct_of (Ar := fun a tk => [.ref (a 0), .int (zJ p1)]) (by decide) (Nat.le_of_ble_eq_true rfl) (fun Γ G _ _ hR => ?_)
  have hcs := rt_cs hR
  unfold x_X3_writeByte at h
  refine (?_ : PT Γ 2 shR 0 σ [(0, .ref (ga Γ 0)), (1, .int (zJ p1))] [])
  refine p_aload_n G rfl 0 rfl dX3_writeByte_0 ?_
  refine p_get G dX3_writeByte_1 fl_X3_19 (k := 0) rfl rfl ?_
  refine p_iflt (tgt := 38) G dX3_writeByte_4 (by decide) h (fun c5 h => ?_) (fun c5 h => ?_)
  · (cases h; exact p_vret G hR dX3_writeByte_38 rfl rfl)
  · refine p_aload_n G rfl 0 rfl dX3_writeByte_7 ?_
    refine p_get G dX3_writeByte_8 fl_X3_19 (k := 0) rfl rfl ?_
    refine p_sipush G (by decide) (by decide) dX3_writeByte_11 ?_
    refine p_icmpge (tgt := 38) G dX3_writeByte_14 (by decide) h (fun c4 h => ?_) (fun c4 h => ?_)
    · (cases h; exact p_vret G hR dX3_writeByte_38 rfl rfl)
    · refine p_aload_n G rfl 0 rfl dX3_writeByte_17 ?_
      refine p_get G dX3_writeByte_18 fl_X3_9 (k := 0) rfl rfl ?_
      refine p_aload_n G rfl 0 rfl dX3_writeByte_21 ?_
      refine p_get G dX3_writeByte_22 fl_X3_19 (k := 0) rfl rfl ?_
      refine p_iload_n G rfl 1 rfl dX3_writeByte_25 ?_
      refine p_i2b G dX3_writeByte_26 ?_
      refine p_bast G dX3_writeByte_27 (k := 1) rfl (zt_c _) rfl h (fun σ1 c2 h => ?_)
      refine p_aload_n G rfl 0 rfl dX3_writeByte_28 ?_
      refine p_dup G rfl dX3_writeByte_29 ?_
      refine p_get G dX3_writeByte_30 fl_X3_19 (k := 0) rfl rfl ?_
      refine p_iconst G rfl dX3_writeByte_33 ?_
      refine p_iadd G dX3_writeByte_34 ?_
      refine p_putI G dX3_writeByte_35 fp_X3_19 (k := 0) rfl rfl rfl rfl h (fun σ3 h => ?_)
      (cases h; exact p_vret G hR dX3_writeByte_38 rfl rfl)
set_option maxHeartbeats 4000000 in
set_option maxRecDepth 100000 in
theorem c_X3_writeFour (l : Launch) {D : va_G} {yy : Nat → ClassId} {tk tv a : Nat → Nat} {σ : Mm} {p1 : Int} {o : Mm} (h : x_X3_writeFour σ p1 = some o) : CT l yX3_writeFour cX3_writeFour 3 none rm_X3_writeFour shR D yy tk tv a σ [.ref (a 0), .int (zJ p1)] o none := by
  refine ct_of (Ar := fun a tk => [.ref (a 0), .int (zJ p1)]) (by decide) (Nat.le_of_ble_eq_true rfl) (fun Γ G _ _ hR => ?_)
  have hcs := rt_cs hR
  unfold x_X3_writeFour at h
  refine (?_ : PT Γ 3 shR 0 σ [(0, .ref (ga Γ 0)), (1, .int (zJ p1))] [])
  refine p_bipush G (by decide) (by decide) dX3_writeFour_0 ?_
  refine p_istore_nU (lv' := [(2, .int (zJ (24 : Int))), (0, .ref (ga Γ 0)), (1, .int (zJ p1))]) G rfl dX3_writeFour_2 (by decide) rfl ?_
  refine p_lv [1, 2, 0] rfl ?_
  obtain ⟨e5, hl3, h⟩ := bnd_some h
  have hX3_20 : ∀ (σ6 : Mm), σ6 = e5 → PT Γ 3 shR 20 σ6 [] [] := by
    intro σ6 he
    subst he
    (cases h; exact p_vret G hR dX3_writeFour_20 rfl rfl)
  refine lup_walk (s := (σ, (24 : Int))) (At := fun s : Mm × Int => PT Γ 3 shR 3 s.1 [(0, .ref (ga Γ 0)), (1, .int (zJ p1)), (2, .int (zJ s.2))] []) (fun s r hf hin3 hout3 => ?_) hl3
  obtain ⟨σ3, u2_3⟩ := s
  have h : x_X3_writeFour_b3 p1 σ3 u2_3 = some r := hf
  clear hf
  unfold x_X3_writeFour_b3 at h
  refine (?_ : PT Γ 3 shR 3 σ3 [(0, .ref (ga Γ 0)), (1, .int (zJ p1)), (2, .int (zJ u2_3))] [])
  refine p_iload_n G rfl 2 rfl dX3_writeFour_3 ?_
  refine p_iflt (tgt := 20) G dX3_writeFour_4 (by decide) h (fun c3 h => ?_) (fun c3 h => ?_)
  · refine p_lv [] rfl ?_
    have he := hout3 _ (Option.some.inj h).symm
    subst he
    exact hX3_20 _ rfl
  · refine p_aload_n G rfl 0 rfl dX3_writeFour_7 ?_
    refine p_iload_n G rfl 1 rfl dX3_writeFour_8 ?_
    refine p_iload_n G rfl 2 rfl dX3_writeFour_9 ?_
    refine p_iushr G dX3_writeFour_10 ?_
    obtain ⟨σ1, hc, h⟩ := bnd_some h
    refine p_callVi G dX3_writeFour_11 lk_X3_23 (c_X3_writeByte (gl Γ) hc) (As := [.int (zJ (zushr p1 u2_3))]) (ci := 5) rfl rfl rfl rfl (Nat.le_of_ble_eq_true rfl) ⟨rfl, rfl, Nat.le_of_ble_eq_true rfl, Nat.le_of_ble_eq_true rfl⟩ hcs ?_
    refine p_iinc (lv' := fun v2 => [(2, .int (zJ v2)), (0, .ref (ga Γ 0)), (1, .int (zJ p1))]) G dX3_writeFour_14 h 2 rfl (by decide) (fun _ => rfl) (fun v2 h => ?_)
    refine p_goto (tgt := 3) G dX3_writeFour_17 (by decide) ?_
    refine p_lv [1, 2, 0] rfl ?_
    exact hin3 _ (Option.some.inj h).symm
set_option maxHeartbeats 4000000 in
set_option maxRecDepth 100000 in
theorem c_X3_write (l : Launch) {D : va_G} {yy : Nat → ClassId} {tk tv a : Nat → Nat} {σ : Mm} {p1 : Nat} {o : Mm} (h : x_X3_write σ p1 = some o) : CT l yX3_write cX3_write 3 none rm_X3_write shR D yy tk tv a σ [.ref (a 0), .ref (tk p1)] o none := by
  refine ct_of (Ar := fun a tk => [.ref (a 0), .ref (tk p1)]) (by decide) (Nat.le_of_ble_eq_true rfl) (fun Γ G _ _ hR => ?_)
  have hcs := rt_cs hR
  unfold x_X3_write at h
  refine (?_ : PT Γ 3 shR 0 σ [(0, .ref (ga Γ 0)), (1, .ref (gk Γ p1))] [])
  refine p_iconst G rfl dX3_write_0 ?_
  refine p_istore_nU (lv' := [(2, .int (zJ (0 : Int))), (0, .ref (ga Γ 0)), (1, .ref (gk Γ p1))]) G rfl dX3_write_1 (by decide) rfl ?_
  refine p_lv [1, 2, 0] rfl ?_
  obtain ⟨e7, hl2, h⟩ := bnd_some h
  have hX2_25 : ∀ (σ8 : Mm), σ8 = e7 → PT Γ 3 shR 25 σ8 [] [] := by
    intro σ8 he
    subst he
    (cases h; exact p_vret G hR dX3_write_25 rfl rfl)
  refine lup_walk (s := (σ, (0 : Int))) (At := fun s : Mm × Int => PT Γ 3 shR 2 s.1 [(0, .ref (ga Γ 0)), (1, .ref (gk Γ p1)), (2, .int (zJ s.2))] []) (fun s r hf hin2 hout2 => ?_) hl2
  obtain ⟨σ2, u2_2⟩ := s
  have h : x_X3_write_b2 p1 σ2 u2_2 = some r := hf
  clear hf
  unfold x_X3_write_b2 at h
  refine (?_ : PT Γ 3 shR 2 σ2 [(0, .ref (ga Γ 0)), (1, .ref (gk Γ p1)), (2, .int (zJ u2_2))] [])
  refine p_iload_n G rfl 2 rfl dX3_write_2 ?_
  refine p_aload_n G rfl 1 rfl dX3_write_3 ?_
  obtain ⟨v1, hc, h⟩ := bnd_some h
  refine p_callT G (zlen_u hc) dX3_write_4 lk_X3_27 (c_J_String_length (gl Γ) hc) (As := []) rfl zk_12 rfl (Nat.le_of_ble_eq_true rfl) ⟨rfl, rfl, Nat.le_of_ble_eq_true rfl, Nat.le_of_ble_eq_true rfl⟩ hcs ?_
  refine p_icmpge (tgt := 25) G dX3_write_7 (by decide) h (fun c5 h => ?_) (fun c5 h => ?_)
  · refine p_lv [] rfl ?_
    have he := hout2 _ (Option.some.inj h).symm
    subst he
    exact hX2_25 _ rfl
  · refine p_aload_n G rfl 0 rfl dX3_write_10 ?_
    refine p_aload_n G rfl 1 rfl dX3_write_11 ?_
    refine p_iload_n G rfl 2 rfl dX3_write_12 ?_
    obtain ⟨v2, hc, h⟩ := bnd_some h
    refine p_callT G (zchr_u hc) dX3_write_13 lk_X3_32 (c_J_String_charAt (gl Γ) hc) (As := [.int (zJ u2_2)]) rfl zk_12 rfl (Nat.le_of_ble_eq_true rfl) ⟨rfl, rfl, Nat.le_of_ble_eq_true rfl, Nat.le_of_ble_eq_true rfl⟩ hcs ?_
    obtain ⟨σ3, hc, h⟩ := bnd_some h
    refine p_callVi G dX3_write_16 lk_X3_23 (c_X3_writeByte (gl Γ) hc) (As := [.int (zJ v2)]) (ci := 5) rfl rfl rfl rfl (Nat.le_of_ble_eq_true rfl) ⟨rfl, rfl, Nat.le_of_ble_eq_true rfl, Nat.le_of_ble_eq_true rfl⟩ hcs ?_
    refine p_iinc (lv' := fun v4 => [(2, .int (zJ v4)), (0, .ref (ga Γ 0)), (1, .ref (gk Γ p1))]) G dX3_write_19 h 2 rfl (by decide) (fun _ => rfl) (fun v4 h => ?_)
    refine p_goto (tgt := 2) G dX3_write_22 (by decide) ?_
    refine p_lv [1, 2, 0] rfl ?_
    exact hin2 _ (Option.some.inj h).symm
set_option maxHeartbeats 4000000 in
set_option maxRecDepth 100000 in
theorem c_X3_shorten (l : Launch) {D : va_G} {yy : Nat → ClassId} {tk tv a : Nat → Nat} {σ : Mm} {p1 : Int} {o : Mm} (h : x_X3_shorten σ p1 = some o) : CT l yX3_shorten cX3_shorten 2 none rm_X3_shorten shR D yy tk tv a σ [.ref (a 0), .int (zJ p1)] o none := by
  refine ct_of (Ar := fun a tk => [.ref (a 0), .int (zJ p1)]) (by decide) (Nat.le_of_ble_eq_true rfl) (fun Γ G _ _ hR => ?_)
  have hcs := rt_cs hR
  unfold x_X3_shorten at h
  refine (?_ : PT Γ 2 shR 0 σ [(0, .ref (ga Γ 0)), (1, .int (zJ p1))] [])
  refine p_aload_n G rfl 0 rfl dX3_shorten_0 ?_
  refine p_iload_n G rfl 1 rfl dX3_shorten_1 ?_
  refine p_putI G dX3_shorten_2 fp_X3_19 (k := 0) rfl rfl rfl rfl h (fun σ1 h => ?_)
  (cases h; exact p_vret G hR dX3_shorten_5 rfl rfl)
set_option maxHeartbeats 4000000 in
set_option maxRecDepth 100000 in
theorem c_X3_signAt (l : Launch) {D : va_G} {yy : Nat → ClassId} {tk tv a : Nat → Nat} {σ : Mm} {p1 : Int} {o : Int} (h : x_X3_signAt σ p1 = some o) : CT l yX3_signAt cX3_signAt 2 (some .int) rm_X3_signAt shR D yy tk tv a σ [.ref (a 0), .int (zJ p1)] σ (some (.int (zJ o))) := by
  refine ct_of (Ar := fun a tk => [.ref (a 0), .int (zJ p1)]) (by decide) (Nat.le_of_ble_eq_true rfl) (fun Γ G _ _ hR => ?_)
  have hcs := rt_cs hR
  unfold x_X3_signAt at h
  refine (?_ : PT Γ 2 shR 0 σ [(0, .ref (ga Γ 0)), (1, .int (zJ p1))] [])
  refine p_iload_n G rfl 1 rfl dX3_signAt_0 ?_
  refine p_iflt (tgt := 32) G dX3_signAt_1 (by decide) h (fun c4 h => ?_) (fun c4 h => ?_)
  · refine p_iconst G rfl dX3_signAt_32 ?_
    (cases h; exact p_iret G hR dX3_signAt_33 rfl rfl)
  · refine p_iload_n G rfl 1 rfl dX3_signAt_4 ?_
    refine p_aload_n G rfl 0 rfl dX3_signAt_5 ?_
    refine p_get G dX3_signAt_6 fl_X3_19 (k := 0) rfl rfl ?_
    refine p_icmpge (tgt := 32) G dX3_signAt_9 (by decide) h (fun c3 h => ?_) (fun c3 h => ?_)
    · refine p_iconst G rfl dX3_signAt_32 ?_
      (cases h; exact p_iret G hR dX3_signAt_33 rfl rfl)
    · refine p_iload_n G rfl 1 rfl dX3_signAt_12 ?_
      refine p_sipush G (by decide) (by decide) dX3_signAt_13 ?_
      refine p_icmpge (tgt := 32) G dX3_signAt_16 (by decide) h (fun c2 h => ?_) (fun c2 h => ?_)
      · refine p_iconst G rfl dX3_signAt_32 ?_
        (cases h; exact p_iret G hR dX3_signAt_33 rfl rfl)
      · refine p_aload_n G rfl 0 rfl dX3_signAt_19 ?_
        refine p_get G dX3_signAt_20 fl_X3_9 (k := 0) rfl rfl ?_
        refine p_iload_n G rfl 1 rfl dX3_signAt_23 ?_
        refine p_bald G dX3_signAt_24 (k := 1) rfl (zt_c _) h (fun c1 h => ?_)
        refine p_sipush G (by decide) (by decide) dX3_signAt_25 ?_
        refine p_iand G dX3_signAt_28 ?_
        refine p_goto (tgt := 33) G dX3_signAt_29 (by decide) ?_
        (cases h; exact p_iret G hR dX3_signAt_33 rfl rfl)
set_option maxHeartbeats 4000000 in
set_option maxRecDepth 100000 in
theorem c_X3_isBlank (l : Launch) {D : va_G} {yy : Nat → ClassId} {tk tv a : Nat → Nat} {σ : Mm} {p0 : Int} {o : Int} (h : x_X3_isBlank p0 = some o) : CT l yX3_isBlank cX3_isBlank 1 (some .boolean) rm_X3_isBlank shN D yy tk tv a σ [.int (zJ p0)] σ (some (.int (zJ o))) := by
  refine ct_of (Ar := fun a tk => [.int (zJ p0)]) (by decide) (Nat.le_of_ble_eq_true rfl) (fun Γ G _ _ hR => ?_)
  have hcs := rt_cs hR
  unfold x_X3_isBlank at h
  refine (?_ : PT Γ 1 shN 0 σ [(0, .int (zJ p0))] [])
  refine p_iload_n G rfl 0 rfl dX3_isBlank_0 ?_
  refine p_bipush G (by decide) (by decide) dX3_isBlank_1 ?_
  refine p_icmpeq (tgt := 12) G dX3_isBlank_3 (by decide) h (fun c2 h => ?_) (fun c2 h => ?_)
  · refine p_iconst G rfl dX3_isBlank_12 ?_
    refine p_goto (tgt := 17) G dX3_isBlank_13 (by decide) ?_
    (cases h; exact p_zret G hR dX3_isBlank_17 (by decide) rfl rfl)
  · refine p_iload_n G rfl 0 rfl dX3_isBlank_6 ?_
    refine p_bipush G (by decide) (by decide) dX3_isBlank_7 ?_
    refine p_icmpne (tgt := 16) G dX3_isBlank_9 (by decide) h (fun c1 h => ?_) (fun c1 h => ?_)
    · refine p_iconst G rfl dX3_isBlank_16 ?_
      (cases h; exact p_zret G hR dX3_isBlank_17 (by decide) rfl rfl)
    · refine p_iconst G rfl dX3_isBlank_12 ?_
      refine p_goto (tgt := 17) G dX3_isBlank_13 (by decide) ?_
      (cases h; exact p_zret G hR dX3_isBlank_17 (by decide) rfl rfl)
set_option maxHeartbeats 4000000 in
set_option maxRecDepth 100000 in
theorem c_X3_isLetter (l : Launch) {D : va_G} {yy : Nat → ClassId} {tk tv a : Nat → Nat} {σ : Mm} {p0 : Int} {o : Int} (h : x_X3_isLetter p0 = some o) : CT l yX3_isLetter cX3_isLetter 1 (some .boolean) rm_X3_isLetter shN D yy tk tv a σ [.int (zJ p0)] σ (some (.int (zJ o))) := by
  refine ct_of (Ar := fun a tk => [.int (zJ p0)]) (by decide) (Nat.le_of_ble_eq_true rfl) (fun Γ G _ _ hR => ?_)
  have hcs := rt_cs hR
  unfold x_X3_isLetter at h
  refine (?_ : PT Γ 1 shN 0 σ [(0, .int (zJ p0))] [])
  refine p_iload_n G rfl 0 rfl dX3_isLetter_0 ?_
  refine p_bipush G (by decide) (by decide) dX3_isLetter_1 ?_
  refine p_icmplt (tgt := 16) G dX3_isLetter_3 (by decide) h (fun c2 h => ?_) (fun c2 h => ?_)
  · refine p_iconst G rfl dX3_isLetter_16 ?_
    (cases h; exact p_zret G hR dX3_isLetter_17 (by decide) rfl rfl)
  · refine p_iload_n G rfl 0 rfl dX3_isLetter_6 ?_
    refine p_bipush G (by decide) (by decide) dX3_isLetter_7 ?_
    refine p_icmpgt (tgt := 16) G dX3_isLetter_9 (by decide) h (fun c1 h => ?_) (fun c1 h => ?_)
    · refine p_iconst G rfl dX3_isLetter_16 ?_
      (cases h; exact p_zret G hR dX3_isLetter_17 (by decide) rfl rfl)
    · refine p_iconst G rfl dX3_isLetter_12 ?_
      refine p_goto (tgt := 17) G dX3_isLetter_13 (by decide) ?_
      (cases h; exact p_zret G hR dX3_isLetter_17 (by decide) rfl rfl)
set_option maxHeartbeats 4000000 in
set_option maxRecDepth 100000 in
theorem c_X3_isFigure (l : Launch) {D : va_G} {yy : Nat → ClassId} {tk tv a : Nat → Nat} {σ : Mm} {p0 : Int} {o : Int} (h : x_X3_isFigure p0 = some o) : CT l yX3_isFigure cX3_isFigure 1 (some .boolean) rm_X3_isFigure shN D yy tk tv a σ [.int (zJ p0)] σ (some (.int (zJ o))) := by
  refine ct_of (Ar := fun a tk => [.int (zJ p0)]) (by decide) (Nat.le_of_ble_eq_true rfl) (fun Γ G _ _ hR => ?_)
  have hcs := rt_cs hR
  unfold x_X3_isFigure at h
  refine (?_ : PT Γ 1 shN 0 σ [(0, .int (zJ p0))] [])
  refine p_iload_n G rfl 0 rfl dX3_isFigure_0 ?_
  refine p_bipush G (by decide) (by decide) dX3_isFigure_1 ?_
  refine p_icmplt (tgt := 16) G dX3_isFigure_3 (by decide) h (fun c2 h => ?_) (fun c2 h => ?_)
  · refine p_iconst G rfl dX3_isFigure_16 ?_
    (cases h; exact p_zret G hR dX3_isFigure_17 (by decide) rfl rfl)
  · refine p_iload_n G rfl 0 rfl dX3_isFigure_6 ?_
    refine p_bipush G (by decide) (by decide) dX3_isFigure_7 ?_
    refine p_icmpgt (tgt := 16) G dX3_isFigure_9 (by decide) h (fun c1 h => ?_) (fun c1 h => ?_)
    · refine p_iconst G rfl dX3_isFigure_16 ?_
      (cases h; exact p_zret G hR dX3_isFigure_17 (by decide) rfl rfl)
    · refine p_iconst G rfl dX3_isFigure_12 ?_
      refine p_goto (tgt := 17) G dX3_isFigure_13 (by decide) ?_
      (cases h; exact p_zret G hR dX3_isFigure_17 (by decide) rfl rfl)
set_option maxHeartbeats 4000000 in
set_option maxRecDepth 100000 in
theorem c_X3_readFigures (l : Launch) {D : va_G} {yy : Nat → ClassId} {tk tv a : Nat → Nat} {σ : Mm} {o : Mm} (h : x_X3_readFigures σ = some o) : CT l yX3_readFigures cX3_readFigures 1 none rm_X3_readFigures shR D yy tk tv a σ [.ref (a 0)] o none := by
  refine ct_of (Ar := fun a tk => [.ref (a 0)]) (by decide) (Nat.le_of_ble_eq_true rfl) (fun Γ G _ _ hR => ?_)
  have hcs := rt_cs hR
  unfold x_X3_readFigures at h
  refine (?_ : PT Γ 1 shR 0 σ [(0, .ref (ga Γ 0))] [])
  obtain ⟨e11, hl0, h⟩ := bnd_some h
  have hX0_75 : ∀ (σ12 : Mm), σ12 = e11 → PT Γ 1 shR 75 σ12 [(0, .ref (ga Γ 0))] [] := by
    intro σ12 he
    subst he
    refine p_aload_n G rfl 0 rfl dX3_readFigures_75 ?_
    refine p_aload_n G rfl 0 rfl dX3_readFigures_76 ?_
    refine p_get G dX3_readFigures_77 fl_X3_36 (k := 0) rfl rfl ?_
    refine p_aload_n G rfl 0 rfl dX3_readFigures_80 ?_
    refine p_get G dX3_readFigures_81 fl_X3_199 (k := 0) rfl rfl ?_
    refine p_isub G dX3_readFigures_84 ?_
    refine p_bipush G (by decide) (by decide) dX3_readFigures_85 ?_
    refine p_icmpgt (tgt := 94) G dX3_readFigures_87 (by decide) h (fun c15 h => ?_) (fun c15 h => ?_)
    · refine p_iconst G rfl dX3_readFigures_94 ?_
      refine p_putI G dX3_readFigures_95 fp_X3_61 (k := 0) rfl rfl rfl rfl h (fun σ13 h => ?_)
      (cases h; exact p_vret G hR dX3_readFigures_98 rfl rfl)
    · refine p_iconst G rfl dX3_readFigures_90 ?_
      refine p_goto (tgt := 95) G dX3_readFigures_91 (by decide) ?_
      refine p_putI G dX3_readFigures_95 fp_X3_61 (k := 0) rfl rfl rfl rfl h (fun σ14 h => ?_)
      (cases h; exact p_vret G hR dX3_readFigures_98 rfl rfl)
  refine lup_walk (s := σ) (At := fun s : Mm => PT Γ 1 shR 0 s [(0, .ref (ga Γ 0))] []) (fun σ0 r hf hin0 hout0 => ?_) hl0
  have h : x_X3_readFigures_b0 σ0 = some r := hf
  clear hf
  unfold x_X3_readFigures_b0 at h
  refine (?_ : PT Γ 1 shR 0 σ0 [(0, .ref (ga Γ 0))] [])
  refine p_aload_n G rfl 0 rfl dX3_readFigures_0 ?_
  refine p_get G dX3_readFigures_1 fl_X3_36 (k := 0) rfl rfl ?_
  refine p_aload_n G rfl 0 rfl dX3_readFigures_4 ?_
  refine p_get G dX3_readFigures_5 fl_X3_19 (k := 0) rfl rfl ?_
  refine p_icmpge (tgt := 75) G dX3_readFigures_8 (by decide) h (fun c9 h => ?_) (fun c9 h => ?_)
  · have he := hout0 _ (Option.some.inj h).symm
    subst he
    exact hX0_75 _ rfl
  · refine p_aload_n G rfl 0 rfl dX3_readFigures_11 ?_
    refine p_aload_n G rfl 0 rfl dX3_readFigures_12 ?_
    refine p_get G dX3_readFigures_13 fl_X3_36 (k := 0) rfl rfl ?_
    obtain ⟨v1, hc, h⟩ := bnd_some h
    refine p_callVi G dX3_readFigures_16 lk_X3_202 (c_X3_signAt (gl Γ) hc) (As := [.int (zJ (σ0 0 2))]) (ci := 5) rfl rfl rfl rfl (Nat.le_of_ble_eq_true rfl) ⟨rfl, rfl, Nat.le_of_ble_eq_true rfl, Nat.le_of_ble_eq_true rfl⟩ hcs ?_
    obtain ⟨v2, hc, h⟩ := bnd_some h
    refine p_callS0 G dX3_readFigures_19 lk_X3_212 (c_X3_isFigure (gl Γ) hc) (As := [.int (zJ v1)]) rfl zk_12 rfl (Nat.le_of_ble_eq_true rfl) ⟨rfl, rfl, Nat.le_of_ble_eq_true rfl, Nat.le_of_ble_eq_true rfl⟩ hcs ?_
    refine p_ifeq (tgt := 75) G dX3_readFigures_22 (by decide) h (fun c8 h => ?_) (fun c8 h => ?_)
    · have he := hout0 _ (Option.some.inj h).symm
      subst he
      exact hX0_75 _ rfl
    · refine p_aload_n G rfl 0 rfl dX3_readFigures_25 ?_
      refine p_get G dX3_readFigures_26 fl_X3_36 (k := 0) rfl rfl ?_
      refine p_aload_n G rfl 0 rfl dX3_readFigures_29 ?_
      refine p_get G dX3_readFigures_30 fl_X3_199 (k := 0) rfl rfl ?_
      refine p_isub G dX3_readFigures_33 ?_
      refine p_bipush G (by decide) (by decide) dX3_readFigures_34 ?_
      refine p_icmpge (tgt := 62) G dX3_readFigures_36 (by decide) h (fun c7 h => ?_) (fun c7 h => ?_)
      · refine p_aload_n G rfl 0 rfl dX3_readFigures_62 ?_
        refine p_dup G rfl dX3_readFigures_63 ?_
        refine p_get G dX3_readFigures_64 fl_X3_36 (k := 0) rfl rfl ?_
        refine p_iconst G rfl dX3_readFigures_67 ?_
        refine p_iadd G dX3_readFigures_68 ?_
        refine p_putI G dX3_readFigures_69 fp_X3_36 (k := 0) rfl rfl rfl rfl h (fun σ3 h => ?_)
        refine p_goto (tgt := 0) G dX3_readFigures_72 (by decide) ?_
        exact hin0 _ (Option.some.inj h).symm
      · refine p_aload_n G rfl 0 rfl dX3_readFigures_39 ?_
        refine p_aload_n G rfl 0 rfl dX3_readFigures_40 ?_
        refine p_get G dX3_readFigures_41 fl_X3_82 (k := 0) rfl rfl ?_
        refine p_bipush G (by decide) (by decide) dX3_readFigures_44 ?_
        refine p_imul G dX3_readFigures_46 ?_
        refine p_aload_n G rfl 0 rfl dX3_readFigures_47 ?_
        refine p_aload_n G rfl 0 rfl dX3_readFigures_48 ?_
        refine p_get G dX3_readFigures_49 fl_X3_36 (k := 0) rfl rfl ?_
        obtain ⟨v4, hc, h⟩ := bnd_some h
        refine p_callVi G dX3_readFigures_52 lk_X3_202 (c_X3_signAt (gl Γ) hc) (As := [.int (zJ (σ0 0 2))]) (ci := 5) rfl rfl rfl rfl (Nat.le_of_ble_eq_true rfl) ⟨rfl, rfl, Nat.le_of_ble_eq_true rfl, Nat.le_of_ble_eq_true rfl⟩ hcs ?_
        refine p_iadd G dX3_readFigures_55 ?_
        refine p_bipush G (by decide) (by decide) dX3_readFigures_56 ?_
        refine p_isub G dX3_readFigures_58 ?_
        refine p_putI G dX3_readFigures_59 fp_X3_82 (k := 0) rfl rfl rfl rfl h (fun σ5 h => ?_)
        refine p_aload_n G rfl 0 rfl dX3_readFigures_62 ?_
        refine p_dup G rfl dX3_readFigures_63 ?_
        refine p_get G dX3_readFigures_64 fl_X3_36 (k := 0) rfl rfl ?_
        refine p_iconst G rfl dX3_readFigures_67 ?_
        refine p_iadd G dX3_readFigures_68 ?_
        refine p_putI G dX3_readFigures_69 fp_X3_36 (k := 0) rfl rfl rfl rfl h (fun σ6 h => ?_)
        refine p_goto (tgt := 0) G dX3_readFigures_72 (by decide) ?_
        exact hin0 _ (Option.some.inj h).symm
set_option maxHeartbeats 4000000 in
set_option maxRecDepth 100000 in
theorem c_X3_advance (l : Launch) {D : va_G} {yy : Nat → ClassId} {tk tv a : Nat → Nat} {σ : Mm} {o : Mm} (h : x_X3_advance σ = some o) : CT l yX3_advance cX3_advance 2 none rm_X3_advance shR D yy tk tv a σ [.ref (a 0)] o none := by
  refine ct_of (Ar := fun a tk => [.ref (a 0)]) (by decide) (Nat.le_of_ble_eq_true rfl) (fun Γ G _ _ hR => ?_)
  have hcs := rt_cs hR
  unfold x_X3_advance at h
  refine (?_ : PT Γ 2 shR 0 σ [(0, .ref (ga Γ 0))] [])
  have j38 : ∀ (σ_38 : Mm), x_X3_advance_j38 σ_38 = some o → PT Γ 2 shR 38 σ_38 [(0, .ref (ga Γ 0))] [] := by
    intro σ_38 h
    unfold x_X3_advance_j38 at h
    refine p_aload_n G rfl 0 rfl dX3_advance_38 ?_
    refine p_aload_n G rfl 0 rfl dX3_advance_39 ?_
    refine p_get G dX3_advance_40 fl_X3_36 (k := 0) rfl rfl ?_
    refine p_putI G dX3_advance_43 fp_X3_199 (k := 0) rfl rfl rfl rfl h (fun σ9 h => ?_)
    refine p_aload_n G rfl 0 rfl dX3_advance_46 ?_
    refine p_iconst G rfl dX3_advance_47 ?_
    refine p_putI G dX3_advance_48 fp_X3_82 (k := 0) rfl rfl rfl rfl h (fun σ10 h => ?_)
    refine p_aload_n G rfl 0 rfl dX3_advance_51 ?_
    refine p_aload_n G rfl 0 rfl dX3_advance_52 ?_
    refine p_get G dX3_advance_53 fl_X3_36 (k := 0) rfl rfl ?_
    obtain ⟨v11, hc, h⟩ := bnd_some h
    refine p_callVi G dX3_advance_56 lk_X3_202 (c_X3_signAt (gl Γ) hc) (As := [.int (zJ (σ10 0 2))]) (ci := 5) rfl rfl rfl rfl (Nat.le_of_ble_eq_true rfl) ⟨rfl, rfl, Nat.le_of_ble_eq_true rfl, Nat.le_of_ble_eq_true rfl⟩ hcs ?_
    refine p_istore_nU (lv' := [(1, .int (zJ v11)), (0, .ref (ga Γ 0))]) G rfl dX3_advance_59 (by decide) rfl ?_
    refine p_iload_n G rfl 0 rfl dX3_advance_60 ?_
    refine p_iconst G rfl dX3_advance_61 ?_
    refine p_icmpne (tgt := 73) G dX3_advance_62 (by decide) h (fun c32 h => ?_) (fun c32 h => ?_)
    · refine p_iload_n G rfl 0 rfl dX3_advance_73 ?_
      obtain ⟨v12, hc, h⟩ := bnd_some h
      refine p_callS0 G dX3_advance_74 lk_X3_209 (c_X3_isLetter (gl Γ) hc) (As := [.int (zJ v11)]) rfl zk_12 rfl (Nat.le_of_ble_eq_true rfl) ⟨rfl, rfl, Nat.le_of_ble_eq_true rfl, Nat.le_of_ble_eq_true rfl⟩ hcs ?_
      refine p_ifeq (tgt := 123) G dX3_advance_77 (by decide) h (fun c30 h => ?_) (fun c30 h => ?_)
      · refine p_iload_n G rfl 0 rfl dX3_advance_123 ?_
        obtain ⟨v13, hc, h⟩ := bnd_some h
        refine p_callS0 G dX3_advance_124 lk_X3_212 (c_X3_isFigure (gl Γ) hc) (As := [.int (zJ v11)]) rfl zk_12 rfl (Nat.le_of_ble_eq_true rfl) ⟨rfl, rfl, Nat.le_of_ble_eq_true rfl, Nat.le_of_ble_eq_true rfl⟩ hcs ?_
        refine p_ifeq (tgt := 137) G dX3_advance_127 (by decide) h (fun c20 h => ?_) (fun c20 h => ?_)
        · refine p_aload_n G rfl 1 rfl dX3_advance_137 ?_
          refine p_iload_n G rfl 0 rfl dX3_advance_138 ?_
          refine p_bipush G (by decide) (by decide) dX3_advance_139 ?_
          refine p_icmpne (tgt := 148) G dX3_advance_141 (by decide) h (fun c18 h => ?_) (fun c18 h => ?_)
          · refine p_iconst G rfl dX3_advance_148 ?_
            refine p_putI G dX3_advance_149 fp_X3_61 (k := 0) rfl rfl rfl rfl h (fun σ14 h => ?_)
            refine p_aload_n G rfl 1 rfl dX3_advance_152 ?_
            refine p_dup G rfl dX3_advance_153 ?_
            refine p_get G dX3_advance_154 fl_X3_36 (k := 0) rfl rfl ?_
            refine p_iconst G rfl dX3_advance_157 ?_
            refine p_iadd G dX3_advance_158 ?_
            refine p_putI G dX3_advance_159 fp_X3_36 (k := 0) rfl rfl rfl rfl h (fun σ15 h => ?_)
            (cases h; exact p_vret G hR dX3_advance_162 rfl rfl)
          · refine p_iconst G rfl dX3_advance_144 ?_
            refine p_goto (tgt := 149) G dX3_advance_145 (by decide) ?_
            refine p_putI G dX3_advance_149 fp_X3_61 (k := 0) rfl rfl rfl rfl h (fun σ16 h => ?_)
            refine p_aload_n G rfl 1 rfl dX3_advance_152 ?_
            refine p_dup G rfl dX3_advance_153 ?_
            refine p_get G dX3_advance_154 fl_X3_36 (k := 0) rfl rfl ?_
            refine p_iconst G rfl dX3_advance_157 ?_
            refine p_iadd G dX3_advance_158 ?_
            refine p_putI G dX3_advance_159 fp_X3_36 (k := 0) rfl rfl rfl rfl h (fun σ17 h => ?_)
            (cases h; exact p_vret G hR dX3_advance_162 rfl rfl)
        · refine p_aload_n G rfl 1 rfl dX3_advance_130 ?_
          obtain ⟨σ19, hc, h⟩ := bnd_some h
          refine p_callVi G dX3_advance_131 lk_X3_215 (c_X3_readFigures (gl Γ) hc) (As := []) (ci := 5) rfl rfl rfl rfl (Nat.le_of_ble_eq_true rfl) ⟨rfl, rfl, Nat.le_of_ble_eq_true rfl, Nat.le_of_ble_eq_true rfl⟩ hcs ?_
          refine p_goto (tgt := 162) G dX3_advance_134 (by decide) ?_
          (cases h; exact p_vret G hR dX3_advance_162 rfl rfl)
      · refine p_aload_n G rfl 1 rfl dX3_advance_80 ?_
        refine p_iconst G rfl dX3_advance_81 ?_
        refine p_putI G dX3_advance_82 fp_X3_61 (k := 0) rfl rfl rfl rfl h (fun σ21 h => ?_)
        refine p_lv [1] rfl ?_
        obtain ⟨e28, hl85, h⟩ := bnd_some h
        have hX85_162 : ∀ (σ29 : Mm), σ29 = e28 → PT Γ 2 shR 162 σ29 [] [] := by
          intro σ29 he
          subst he
          (cases h; exact p_vret G hR dX3_advance_162 rfl rfl)
        refine lup_walk (s := σ21) (At := fun s : Mm => PT Γ 2 shR 85 s [(0, .ref (ga Γ 0))] []) (fun σ85 r hf hin85 hout85 => ?_) hl85
        have h : x_X3_advance_b85 σ85 = some r := hf
        clear hf
        unfold x_X3_advance_b85 at h
        refine (?_ : PT Γ 2 shR 85 σ85 [(0, .ref (ga Γ 0))] [])
        refine p_aload_n G rfl 0 rfl dX3_advance_85 ?_
        refine p_get G dX3_advance_86 fl_X3_36 (k := 0) rfl rfl ?_
        refine p_aload_n G rfl 0 rfl dX3_advance_89 ?_
        refine p_get G dX3_advance_90 fl_X3_19 (k := 0) rfl rfl ?_
        refine p_icmpge (tgt := 162) G dX3_advance_93 (by decide) h (fun c26 h => ?_) (fun c26 h => ?_)
        · refine p_lv [] rfl ?_
          have he := hout85 _ (Option.some.inj h).symm
          subst he
          exact hX85_162 _ rfl
        · refine p_aload_n G rfl 0 rfl dX3_advance_96 ?_
          refine p_aload_n G rfl 0 rfl dX3_advance_97 ?_
          refine p_get G dX3_advance_98 fl_X3_36 (k := 0) rfl rfl ?_
          obtain ⟨v22, hc, h⟩ := bnd_some h
          refine p_callVi G dX3_advance_101 lk_X3_202 (c_X3_signAt (gl Γ) hc) (As := [.int (zJ (σ85 0 2))]) (ci := 5) rfl rfl rfl rfl (Nat.le_of_ble_eq_true rfl) ⟨rfl, rfl, Nat.le_of_ble_eq_true rfl, Nat.le_of_ble_eq_true rfl⟩ hcs ?_
          obtain ⟨v23, hc, h⟩ := bnd_some h
          refine p_callS0 G dX3_advance_104 lk_X3_209 (c_X3_isLetter (gl Γ) hc) (As := [.int (zJ v22)]) rfl zk_12 rfl (Nat.le_of_ble_eq_true rfl) ⟨rfl, rfl, Nat.le_of_ble_eq_true rfl, Nat.le_of_ble_eq_true rfl⟩ hcs ?_
          refine p_ifeq (tgt := 162) G dX3_advance_107 (by decide) h (fun c25 h => ?_) (fun c25 h => ?_)
          · refine p_lv [] rfl ?_
            have he := hout85 _ (Option.some.inj h).symm
            subst he
            exact hX85_162 _ rfl
          · refine p_aload_n G rfl 0 rfl dX3_advance_110 ?_
            refine p_dup G rfl dX3_advance_111 ?_
            refine p_get G dX3_advance_112 fl_X3_36 (k := 0) rfl rfl ?_
            refine p_iconst G rfl dX3_advance_115 ?_
            refine p_iadd G dX3_advance_116 ?_
            refine p_putI G dX3_advance_117 fp_X3_36 (k := 0) rfl rfl rfl rfl h (fun σ24 h => ?_)
            refine p_goto (tgt := 85) G dX3_advance_120 (by decide) ?_
            exact hin85 _ (Option.some.inj h).symm
    · refine p_aload_n G rfl 1 rfl dX3_advance_65 ?_
      refine p_iconst G rfl dX3_advance_66 ?_
      refine p_putI G dX3_advance_67 fp_X3_61 (k := 0) rfl rfl rfl rfl h (fun σ31 h => ?_)
      refine p_goto (tgt := 162) G dX3_advance_70 (by decide) ?_
      (cases h; exact p_vret G hR dX3_advance_162 rfl rfl)
  obtain ⟨e7, hl0, h⟩ := bnd_some h
  have hX0_38 : ∀ (σ8 : Mm), σ8 = e7 → PT Γ 2 shR 38 σ8 [(0, .ref (ga Γ 0))] [] := by
    intro σ8 he
    subst he
    exact j38 _ h
  refine lup_walk (s := σ) (At := fun s : Mm => PT Γ 2 shR 0 s [(0, .ref (ga Γ 0))] []) (fun σ0 r hf hin0 hout0 => ?_) hl0
  have h : x_X3_advance_b0 σ0 = some r := hf
  clear hf
  unfold x_X3_advance_b0 at h
  refine (?_ : PT Γ 2 shR 0 σ0 [(0, .ref (ga Γ 0))] [])
  refine p_aload_n G rfl 0 rfl dX3_advance_0 ?_
  refine p_get G dX3_advance_1 fl_X3_36 (k := 0) rfl rfl ?_
  refine p_aload_n G rfl 0 rfl dX3_advance_4 ?_
  refine p_get G dX3_advance_5 fl_X3_19 (k := 0) rfl rfl ?_
  refine p_icmpge (tgt := 38) G dX3_advance_8 (by decide) h (fun c5 h => ?_) (fun c5 h => ?_)
  · have he := hout0 _ (Option.some.inj h).symm
    subst he
    exact hX0_38 _ rfl
  · refine p_aload_n G rfl 0 rfl dX3_advance_11 ?_
    refine p_aload_n G rfl 0 rfl dX3_advance_12 ?_
    refine p_get G dX3_advance_13 fl_X3_36 (k := 0) rfl rfl ?_
    obtain ⟨v1, hc, h⟩ := bnd_some h
    refine p_callVi G dX3_advance_16 lk_X3_202 (c_X3_signAt (gl Γ) hc) (As := [.int (zJ (σ0 0 2))]) (ci := 5) rfl rfl rfl rfl (Nat.le_of_ble_eq_true rfl) ⟨rfl, rfl, Nat.le_of_ble_eq_true rfl, Nat.le_of_ble_eq_true rfl⟩ hcs ?_
    obtain ⟨v2, hc, h⟩ := bnd_some h
    refine p_callS0 G dX3_advance_19 lk_X3_205 (c_X3_isBlank (gl Γ) hc) (As := [.int (zJ v1)]) rfl zk_12 rfl (Nat.le_of_ble_eq_true rfl) ⟨rfl, rfl, Nat.le_of_ble_eq_true rfl, Nat.le_of_ble_eq_true rfl⟩ hcs ?_
    refine p_ifeq (tgt := 38) G dX3_advance_22 (by decide) h (fun c4 h => ?_) (fun c4 h => ?_)
    · have he := hout0 _ (Option.some.inj h).symm
      subst he
      exact hX0_38 _ rfl
    · refine p_aload_n G rfl 0 rfl dX3_advance_25 ?_
      refine p_dup G rfl dX3_advance_26 ?_
      refine p_get G dX3_advance_27 fl_X3_36 (k := 0) rfl rfl ?_
      refine p_iconst G rfl dX3_advance_30 ?_
      refine p_iadd G dX3_advance_31 ?_
      refine p_putI G dX3_advance_32 fp_X3_36 (k := 0) rfl rfl rfl rfl h (fun σ3 h => ?_)
      refine p_goto (tgt := 0) G dX3_advance_35 (by decide) ?_
      exact hin0 _ (Option.some.inj h).symm
set_option maxHeartbeats 4000000 in
set_option maxRecDepth 100000 in
theorem c_X3_isWord (l : Launch) {D : va_G} {yy : Nat → ClassId} {tk tv a : Nat → Nat} {σ : Mm} {p1 : Nat} {o : Int} (h : x_X3_isWord σ p1 = some o) : CT l yX3_isWord cX3_isWord 3 (some .boolean) rm_X3_isWord shR D yy tk tv a σ [.ref (a 0), .ref (tk p1)] σ (some (.int (zJ o))) := by
  refine ct_of (Ar := fun a tk => [.ref (a 0), .ref (tk p1)]) (by decide) (Nat.le_of_ble_eq_true rfl) (fun Γ G _ _ hR => ?_)
  have hcs := rt_cs hR
  unfold x_X3_isWord at h
  refine (?_ : PT Γ 3 shR 0 σ [(0, .ref (ga Γ 0)), (1, .ref (gk Γ p1))] [])
  refine p_aload_n G rfl 0 rfl dX3_isWord_0 ?_
  refine p_get G dX3_isWord_1 fl_X3_61 (k := 0) rfl rfl ?_
  refine p_iconst G rfl dX3_isWord_4 ?_
  refine p_icmpne (tgt := 24) G dX3_isWord_5 (by decide) h (fun c11 h => ?_) (fun c11 h => ?_)
  · refine p_iconst G rfl dX3_isWord_24 ?_
    (cases h; exact p_zret G hR dX3_isWord_25 (by decide) rfl rfl)
  · refine p_aload_n G rfl 0 rfl dX3_isWord_8 ?_
    refine p_get G dX3_isWord_9 fl_X3_36 (k := 0) rfl rfl ?_
    refine p_aload_n G rfl 0 rfl dX3_isWord_12 ?_
    refine p_get G dX3_isWord_13 fl_X3_199 (k := 0) rfl rfl ?_
    refine p_isub G dX3_isWord_16 ?_
    refine p_aload_n G rfl 1 rfl dX3_isWord_17 ?_
    obtain ⟨v1, hc, h⟩ := bnd_some h
    refine p_callT G (zlen_u hc) dX3_isWord_18 lk_X3_27 (c_J_String_length (gl Γ) hc) (As := []) rfl zk_12 rfl (Nat.le_of_ble_eq_true rfl) ⟨rfl, rfl, Nat.le_of_ble_eq_true rfl, Nat.le_of_ble_eq_true rfl⟩ hcs ?_
    refine p_icmpeq (tgt := 26) G dX3_isWord_21 (by decide) h (fun c10 h => ?_) (fun c10 h => ?_)
    · refine p_iconst G rfl dX3_isWord_26 ?_
      refine p_istore_nU (lv' := [(2, .int (zJ (0 : Int))), (0, .ref (ga Γ 0)), (1, .ref (gk Γ p1))]) G rfl dX3_isWord_27 (by decide) rfl ?_
      refine p_lv [1, 2, 0] rfl ?_
      obtain ⟨e9, hl28, h⟩ := bnd_some h
      have hX28_54 : ∀ (_ : Unit), (.inl ()) = e9 → PT Γ 3 shR 54 σ [] [] := by
        intro _ he
        subst he
        rw [zel_l] at h
        refine p_iconst G rfl dX3_isWord_54 ?_
        (cases h; exact p_zret G hR dX3_isWord_55 (by decide) rfl rfl)
      have hX28_62 : ∀ (_ : Unit), (.inr ()) = e9 → PT Γ 3 shR 62 σ [] [] := by
        intro _ he
        subst he
        rw [zel_r] at h
        refine p_iconst G rfl dX3_isWord_62 ?_
        (cases h; exact p_zret G hR dX3_isWord_63 (by decide) rfl rfl)
      refine lup_walk (s := (0 : Int)) (At := fun s : Int => PT Γ 3 shR 28 σ [(0, .ref (ga Γ 0)), (1, .ref (gk Γ p1)), (2, .int (zJ s))] []) (fun u2_28 r hf hin28 hout28 => ?_) hl28
      have h : x_X3_isWord_b28 σ p1 u2_28 = some r := hf
      clear hf
      unfold x_X3_isWord_b28 at h
      refine (?_ : PT Γ 3 shR 28 σ [(0, .ref (ga Γ 0)), (1, .ref (gk Γ p1)), (2, .int (zJ u2_28))] [])
      refine p_iload_n G rfl 2 rfl dX3_isWord_28 ?_
      refine p_aload_n G rfl 1 rfl dX3_isWord_29 ?_
      obtain ⟨v2, hc, h⟩ := bnd_some h
      refine p_callT G (zlen_u hc) dX3_isWord_30 lk_X3_27 (c_J_String_length (gl Γ) hc) (As := []) rfl zk_12 rfl (Nat.le_of_ble_eq_true rfl) ⟨rfl, rfl, Nat.le_of_ble_eq_true rfl, Nat.le_of_ble_eq_true rfl⟩ hcs ?_
      refine p_icmpge (tgt := 62) G dX3_isWord_33 (by decide) h (fun c7 h => ?_) (fun c7 h => ?_)
      · refine p_lv [] rfl ?_
        have he := hout28 _ (Option.some.inj h).symm
        subst he
        exact hX28_62 () rfl
      · refine p_aload_n G rfl 0 rfl dX3_isWord_36 ?_
        refine p_aload_n G rfl 0 rfl dX3_isWord_37 ?_
        refine p_get G dX3_isWord_38 fl_X3_199 (k := 0) rfl rfl ?_
        refine p_iload_n G rfl 2 rfl dX3_isWord_41 ?_
        refine p_iadd G dX3_isWord_42 ?_
        obtain ⟨v3, hc, h⟩ := bnd_some h
        refine p_callVi G dX3_isWord_43 lk_X3_202 (c_X3_signAt (gl Γ) hc) (As := [.int (zJ ((σ 0 3) + u2_28))]) (ci := 5) rfl rfl rfl rfl (Nat.le_of_ble_eq_true rfl) ⟨rfl, rfl, Nat.le_of_ble_eq_true rfl, Nat.le_of_ble_eq_true rfl⟩ hcs ?_
        refine p_aload_n G rfl 1 rfl dX3_isWord_46 ?_
        refine p_iload_n G rfl 2 rfl dX3_isWord_47 ?_
        obtain ⟨v4, hc, h⟩ := bnd_some h
        refine p_callT G (zchr_u hc) dX3_isWord_48 lk_X3_32 (c_J_String_charAt (gl Γ) hc) (As := [.int (zJ u2_28)]) rfl zk_12 rfl (Nat.le_of_ble_eq_true rfl) ⟨rfl, rfl, Nat.le_of_ble_eq_true rfl, Nat.le_of_ble_eq_true rfl⟩ hcs ?_
        refine p_icmpeq (tgt := 56) G dX3_isWord_51 (by decide) h (fun c6 h => ?_) (fun c6 h => ?_)
        · refine p_iinc (lv' := fun v5 => [(2, .int (zJ v5)), (0, .ref (ga Γ 0)), (1, .ref (gk Γ p1))]) G dX3_isWord_56 h 2 rfl (by decide) (fun _ => rfl) (fun v5 h => ?_)
          refine p_goto (tgt := 28) G dX3_isWord_59 (by decide) ?_
          refine p_lv [1, 2, 0] rfl ?_
          exact hin28 _ (Option.some.inj h).symm
        · refine p_lv [] rfl ?_
          have he := hout28 _ (Option.some.inj h).symm
          subst he
          exact hX28_54 () rfl
    · refine p_iconst G rfl dX3_isWord_24 ?_
      (cases h; exact p_zret G hR dX3_isWord_25 (by decide) rfl rfl)
set_option maxHeartbeats 4000000 in
set_option maxRecDepth 100000 in
theorem c_X3_errorAs (l : Launch) {D : va_G} {yy : Nat → ClassId} {tk tv a : Nat → Nat} {σ : Mm} {p1 : Int} {o : Int} (h : x_X3_errorAs σ p1 = some o) : CT l yX3_errorAs cX3_errorAs 2 (some .int) rm_X3_errorAs shR D yy tk tv a σ [.ref (a 0), .int (zJ p1)] σ (some (.int (zJ o))) := by
  refine ct_of (Ar := fun a tk => [.ref (a 0), .int (zJ p1)]) (by decide) (Nat.le_of_ble_eq_true rfl) (fun Γ G _ _ hR => ?_)
  have hcs := rt_cs hR
  unfold x_X3_errorAs at h
  refine (?_ : PT Γ 2 shR 0 σ [(0, .ref (ga Γ 0)), (1, .int (zJ p1))] [])
  refine p_bipush G (by decide) (by decide) dX3_errorAs_0 ?_
  refine p_aload_n G rfl 0 rfl dX3_errorAs_2 ?_
  refine p_get G dX3_errorAs_3 fl_X3_199 (k := 0) rfl rfl ?_
  refine p_imul G dX3_errorAs_6 ?_
  refine p_iload_n G rfl 1 rfl dX3_errorAs_7 ?_
  refine p_iadd G dX3_errorAs_8 ?_
  (cases h; exact p_iret G hR dX3_errorAs_9 rfl rfl)
set_option maxHeartbeats 4000000 in
set_option maxRecDepth 100000 in
theorem c_X3_rangeError (l : Launch) {D : va_G} {yy : Nat → ClassId} {tk tv a : Nat → Nat} {σ : Mm} {p1 : Int} {p2 : Int} {o : Int} (h : x_X3_rangeError σ p1 p2 = some o) : CT l yX3_rangeError cX3_rangeError 3 (some .int) rm_X3_rangeError shR D yy tk tv a σ [.ref (a 0), .int (zJ p1), .int (zJ p2)] σ (some (.int (zJ o))) := by
  refine ct_of (Ar := fun a tk => [.ref (a 0), .int (zJ p1), .int (zJ p2)]) (by decide) (Nat.le_of_ble_eq_true rfl) (fun Γ G _ _ hR => ?_)
  have hcs := rt_cs hR
  unfold x_X3_rangeError at h
  refine (?_ : PT Γ 3 shR 0 σ [(0, .ref (ga Γ 0)), (1, .int (zJ p1)), (2, .int (zJ p2))] [])
  refine p_aload_n G rfl 0 rfl dX3_rangeError_0 ?_
  refine p_get G dX3_rangeError_1 fl_X3_82 (k := 0) rfl rfl ?_
  refine p_iload_n G rfl 1 rfl dX3_rangeError_4 ?_
  refine p_icmplt (tgt := 16) G dX3_rangeError_5 (by decide) h (fun c4 h => ?_) (fun c4 h => ?_)
  · refine p_aload_n G rfl 0 rfl dX3_rangeError_16 ?_
    refine p_iconst G rfl dX3_rangeError_17 ?_
    obtain ⟨v1, hc, h⟩ := bnd_some h
    refine p_callVi G dX3_rangeError_18 lk_X3_73 (c_X3_errorAs (gl Γ) hc) (As := [.int (zJ (2 : Int))]) (ci := 5) rfl rfl rfl rfl (Nat.le_of_ble_eq_true rfl) ⟨rfl, rfl, Nat.le_of_ble_eq_true rfl, Nat.le_of_ble_eq_true rfl⟩ hcs ?_
    refine p_goto (tgt := 25) G dX3_rangeError_21 (by decide) ?_
    (cases h; exact p_iret G hR dX3_rangeError_25 rfl rfl)
  · refine p_aload_n G rfl 0 rfl dX3_rangeError_8 ?_
    refine p_get G dX3_rangeError_9 fl_X3_82 (k := 0) rfl rfl ?_
    refine p_iload_n G rfl 2 rfl dX3_rangeError_12 ?_
    refine p_icmple (tgt := 24) G dX3_rangeError_13 (by decide) h (fun c3 h => ?_) (fun c3 h => ?_)
    · refine p_iconst G rfl dX3_rangeError_24 ?_
      (cases h; exact p_iret G hR dX3_rangeError_25 rfl rfl)
    · refine p_aload_n G rfl 0 rfl dX3_rangeError_16 ?_
      refine p_iconst G rfl dX3_rangeError_17 ?_
      obtain ⟨v2, hc, h⟩ := bnd_some h
      refine p_callVi G dX3_rangeError_18 lk_X3_73 (c_X3_errorAs (gl Γ) hc) (As := [.int (zJ (2 : Int))]) (ci := 5) rfl rfl rfl rfl (Nat.le_of_ble_eq_true rfl) ⟨rfl, rfl, Nat.le_of_ble_eq_true rfl, Nat.le_of_ble_eq_true rfl⟩ hcs ?_
      refine p_goto (tgt := 25) G dX3_rangeError_21 (by decide) ?_
      (cases h; exact p_iret G hR dX3_rangeError_25 rfl rfl)
set_option maxHeartbeats 4000000 in
set_option maxRecDepth 100000 in
theorem c_X3_readNumber (l : Launch) {D : va_G} {yy : Nat → ClassId} {tk tv a : Nat → Nat} {σ : Mm} {p1 : Int} {p2 : Int} {o : Mm × Int} (h : x_X3_readNumber σ p1 p2 = some o) : CT l yX3_readNumber cX3_readNumber 3 (some .int) rm_X3_readNumber shR D yy tk tv a σ [.ref (a 0), .int (zJ p1), .int (zJ p2)] o.1 (some (.int (zJ o.2))) := by
  refine ct_of (Ar := fun a tk => [.ref (a 0), .int (zJ p1), .int (zJ p2)]) (by decide) (Nat.le_of_ble_eq_true rfl) (fun Γ G _ _ hR => ?_)
  have hcs := rt_cs hR
  unfold x_X3_readNumber at h
  refine (?_ : PT Γ 3 shR 0 σ [(0, .ref (ga Γ 0)), (1, .int (zJ p1)), (2, .int (zJ p2))] [])
  refine p_aload_n G rfl 0 rfl dX3_readNumber_0 ?_
  obtain ⟨σ1, hc, h⟩ := bnd_some h
  refine p_callVi G dX3_readNumber_1 lk_X3_64 (c_X3_advance (gl Γ) hc) (As := []) (ci := 5) rfl rfl rfl rfl (Nat.le_of_ble_eq_true rfl) ⟨rfl, rfl, Nat.le_of_ble_eq_true rfl, Nat.le_of_ble_eq_true rfl⟩ hcs ?_
  refine p_aload_n G rfl 0 rfl dX3_readNumber_4 ?_
  refine p_get G dX3_readNumber_5 fl_X3_61 (k := 0) rfl rfl ?_
  refine p_iconst G rfl dX3_readNumber_8 ?_
  refine p_icmpne (tgt := 21) G dX3_readNumber_9 (by decide) h (fun c4 h => ?_) (fun c4 h => ?_)
  · refine p_aload_n G rfl 0 rfl dX3_readNumber_21 ?_
    refine p_iconst G rfl dX3_readNumber_22 ?_
    obtain ⟨v2, hc, h⟩ := bnd_some h
    refine p_callVi G dX3_readNumber_23 lk_X3_73 (c_X3_errorAs (gl Γ) hc) (As := [.int (zJ (1 : Int))]) (ci := 5) rfl rfl rfl rfl (Nat.le_of_ble_eq_true rfl) ⟨rfl, rfl, Nat.le_of_ble_eq_true rfl, Nat.le_of_ble_eq_true rfl⟩ hcs ?_
    (cases h; exact p_iret G hR dX3_readNumber_26 rfl rfl)
  · refine p_aload_n G rfl 0 rfl dX3_readNumber_12 ?_
    refine p_iload_n G rfl 1 rfl dX3_readNumber_13 ?_
    refine p_iload_n G rfl 2 rfl dX3_readNumber_14 ?_
    obtain ⟨v3, hc, h⟩ := bnd_some h
    refine p_callVi G dX3_readNumber_15 lk_X3_114 (c_X3_rangeError (gl Γ) hc) (As := [.int (zJ p1), .int (zJ p2)]) (ci := 5) rfl rfl rfl rfl (Nat.le_of_ble_eq_true rfl) ⟨rfl, rfl, Nat.le_of_ble_eq_true rfl, Nat.le_of_ble_eq_true rfl⟩ hcs ?_
    refine p_goto (tgt := 26) G dX3_readNumber_18 (by decide) ?_
    (cases h; exact p_iret G hR dX3_readNumber_26 rfl rfl)
set_option maxHeartbeats 4000000 in
set_option maxRecDepth 100000 in
theorem c_X3_readSemicolon (l : Launch) {D : va_G} {yy : Nat → ClassId} {tk tv a : Nat → Nat} {σ : Mm} {o : Mm × Int} (h : x_X3_readSemicolon σ = some o) : CT l yX3_readSemicolon cX3_readSemicolon 1 (some .int) rm_X3_readSemicolon shR D yy tk tv a σ [.ref (a 0)] o.1 (some (.int (zJ o.2))) := by
  refine ct_of (Ar := fun a tk => [.ref (a 0)]) (by decide) (Nat.le_of_ble_eq_true rfl) (fun Γ G _ _ hR => ?_)
  have hcs := rt_cs hR
  unfold x_X3_readSemicolon at h
  refine (?_ : PT Γ 1 shR 0 σ [(0, .ref (ga Γ 0))] [])
  refine p_aload_n G rfl 0 rfl dX3_readSemicolon_0 ?_
  obtain ⟨σ1, hc, h⟩ := bnd_some h
  refine p_callVi G dX3_readSemicolon_1 lk_X3_64 (c_X3_advance (gl Γ) hc) (As := []) (ci := 5) rfl rfl rfl rfl (Nat.le_of_ble_eq_true rfl) ⟨rfl, rfl, Nat.le_of_ble_eq_true rfl, Nat.le_of_ble_eq_true rfl⟩ hcs ?_
  refine p_aload_n G rfl 0 rfl dX3_readSemicolon_4 ?_
  refine p_get G dX3_readSemicolon_5 fl_X3_61 (k := 0) rfl rfl ?_
  refine p_iconst G rfl dX3_readSemicolon_8 ?_
  refine p_icmpne (tgt := 16) G dX3_readSemicolon_9 (by decide) h (fun c3 h => ?_) (fun c3 h => ?_)
  · refine p_aload_n G rfl 0 rfl dX3_readSemicolon_16 ?_
    refine p_iconst G rfl dX3_readSemicolon_17 ?_
    obtain ⟨v2, hc, h⟩ := bnd_some h
    refine p_callVi G dX3_readSemicolon_18 lk_X3_73 (c_X3_errorAs (gl Γ) hc) (As := [.int (zJ (1 : Int))]) (ci := 5) rfl rfl rfl rfl (Nat.le_of_ble_eq_true rfl) ⟨rfl, rfl, Nat.le_of_ble_eq_true rfl, Nat.le_of_ble_eq_true rfl⟩ hcs ?_
    (cases h; exact p_iret G hR dX3_readSemicolon_21 rfl rfl)
  · refine p_iconst G rfl dX3_readSemicolon_12 ?_
    refine p_goto (tgt := 21) G dX3_readSemicolon_13 (by decide) ?_
    (cases h; exact p_iret G hR dX3_readSemicolon_21 rfl rfl)
set_option maxHeartbeats 4000000 in
set_option maxRecDepth 100000 in
theorem c_X3_readHead (l : Launch) {D : va_G} {yy : Nat → ClassId} {tk tv a : Nat → Nat} {σ : Mm} {o : Mm × Int} (h : x_X3_readHead σ = some o) : CT l yX3_readHead cX3_readHead 3 (some .int) rm_X3_readHead shRM D yy tk tv a σ [.ref (a 0), .ref (a 3)] o.1 (some (.int (zJ o.2))) := by
  refine ct_of (Ar := fun a tk => [.ref (a 0), .ref (a 3)]) (by decide) (Nat.le_of_ble_eq_true rfl) (fun Γ G _ _ hR => ?_)
  have hcs := rt_cs hR
  unfold x_X3_readHead at h
  refine (?_ : PT Γ 3 shRM 0 σ [(0, .ref (ga Γ 0)), (1, .ref (ga Γ 3))] [])
  have j77 : ∀ (σ_77 : Mm) (v2_77 : Int), x_X3_readHead_j77 σ_77 v2_77 = some o → PT Γ 3 shRM 77 σ_77 [(0, .ref (ga Γ 0)), (1, .ref (ga Γ 3)), (2, .int (zJ v2_77))] [] := by
    intro σ_77 v2_77 h
    unfold x_X3_readHead_j77 at h
    refine p_iload_n G rfl 2 rfl dX3_readHead_77 ?_
    refine p_ifne (tgt := 99) G dX3_readHead_78 (by decide) h (fun c20 h => ?_) (fun c20 h => ?_)
    · refine p_iload_n G rfl 2 rfl dX3_readHead_99 ?_
      refine p_ifne (tgt := 108) G dX3_readHead_100 (by decide) h (fun c11 h => ?_) (fun c11 h => ?_)
      · refine p_iload_n G rfl 2 rfl dX3_readHead_108 ?_
        (cases h; exact p_iret G hR dX3_readHead_109 rfl rfl)
      · refine p_aload_n G rfl 0 rfl dX3_readHead_103 ?_
        obtain ⟨⟨σ8, v9⟩, hc, h⟩ := bnd_some h
        rw [un2_mk] at h
        refine p_callV G zl_13 dX3_readHead_104 lk_X3_98 (c_X3_readSemicolon (gl Γ) hc) (As := []) (ci := 5) rfl zk_13 (zs_x zs_13 _) rfl rfl rfl (Nat.le_of_ble_eq_true rfl) ⟨rfl, rfl, Nat.le_of_ble_eq_true rfl, Nat.le_of_ble_eq_true rfl⟩ hcs ?_
        refine p_nm h (fun σ10 h => ?_)
        refine p_istore_nU (lv' := [(2, .int (zJ v9)), (0, .ref (ga Γ 0)), (1, .ref (ga Γ 3))]) G rfl dX3_readHead_107 (by decide) rfl ?_
        refine p_iload_n G rfl 0 rfl dX3_readHead_108 ?_
        (cases h; exact p_iret G hR dX3_readHead_109 rfl rfl)
    · refine p_aload_n G rfl 0 rfl dX3_readHead_81 ?_
      refine p_bipush G (by decide) (by decide) dX3_readHead_82 ?_
      refine p_sipush G (by decide) (by decide) dX3_readHead_84 ?_
      obtain ⟨⟨σ12, v13⟩, hc, h⟩ := bnd_some h
      rw [un2_mk] at h
      refine p_callV G zl_13 dX3_readHead_87 lk_X3_78 (c_X3_readNumber (gl Γ) hc) (As := [.int (zJ (20 : Int)), .int (zJ (500 : Int))]) (ci := 5) rfl zk_13 (zs_x zs_13 _) rfl rfl rfl (Nat.le_of_ble_eq_true rfl) ⟨rfl, rfl, Nat.le_of_ble_eq_true rfl, Nat.le_of_ble_eq_true rfl⟩ hcs ?_
      refine p_nm h (fun σ14 h => ?_)
      refine p_istore_nU (lv' := [(2, .int (zJ v13)), (0, .ref (ga Γ 0)), (1, .ref (ga Γ 3))]) G rfl dX3_readHead_90 (by decide) rfl ?_
      refine p_aload_n G rfl 2 rfl dX3_readHead_91 ?_
      refine p_aload_n G rfl 1 rfl dX3_readHead_92 ?_
      refine p_get G dX3_readHead_93 fl_X3_82 (k := 0) rfl rfl ?_
      refine p_putI G dX3_readHead_96 fp_X3_95 (k := 3) rfl rfl rfl rfl h (fun σ15 h => ?_)
      refine p_iload_n G rfl 0 rfl dX3_readHead_99 ?_
      refine p_ifne (tgt := 108) G dX3_readHead_100 (by decide) h (fun c19 h => ?_) (fun c19 h => ?_)
      · refine p_iload_n G rfl 0 rfl dX3_readHead_108 ?_
        (cases h; exact p_iret G hR dX3_readHead_109 rfl rfl)
      · refine p_aload_n G rfl 1 rfl dX3_readHead_103 ?_
        obtain ⟨⟨σ16, v17⟩, hc, h⟩ := bnd_some h
        rw [un2_mk] at h
        refine p_callV G zl_13 dX3_readHead_104 lk_X3_98 (c_X3_readSemicolon (gl Γ) hc) (As := []) (ci := 5) rfl zk_13 (zs_x zs_13 _) rfl rfl rfl (Nat.le_of_ble_eq_true rfl) ⟨rfl, rfl, Nat.le_of_ble_eq_true rfl, Nat.le_of_ble_eq_true rfl⟩ hcs ?_
        refine p_nm h (fun σ18 h => ?_)
        refine p_istore_nU (lv' := [(2, .int (zJ v17)), (0, .ref (ga Γ 0)), (1, .ref (ga Γ 3))]) G rfl dX3_readHead_107 (by decide) rfl ?_
        refine p_iload_n G rfl 0 rfl dX3_readHead_108 ?_
        (cases h; exact p_iret G hR dX3_readHead_109 rfl rfl)
  have j57 : ∀ (σ_57 : Mm) (v2_57 : Int), x_X3_readHead_j57 σ_57 v2_57 = some o → PT Γ 3 shRM 57 σ_57 [(0, .ref (ga Γ 0)), (1, .ref (ga Γ 3)), (2, .int (zJ v2_57))] [] := by
    intro σ_57 v2_57 h
    unfold x_X3_readHead_j57 at h
    refine p_iload_n G rfl 2 rfl dX3_readHead_57 ?_
    refine p_ifne (tgt := 77) G dX3_readHead_58 (by decide) h (fun c25 h => ?_) (fun c25 h => ?_)
    · exact j77 _ _ h
    · refine p_aload_n G rfl 0 rfl dX3_readHead_61 ?_
      refine p_iconst G rfl dX3_readHead_62 ?_
      refine p_bipush G (by decide) (by decide) dX3_readHead_63 ?_
      obtain ⟨⟨σ21, v22⟩, hc, h⟩ := bnd_some h
      rw [un2_mk] at h
      refine p_callV G zl_13 dX3_readHead_65 lk_X3_78 (c_X3_readNumber (gl Γ) hc) (As := [.int (zJ (0 : Int)), .int (zJ (20 : Int))]) (ci := 5) rfl zk_13 (zs_x zs_13 _) rfl rfl rfl (Nat.le_of_ble_eq_true rfl) ⟨rfl, rfl, Nat.le_of_ble_eq_true rfl, Nat.le_of_ble_eq_true rfl⟩ hcs ?_
      refine p_nm h (fun σ23 h => ?_)
      refine p_istore_nU (lv' := [(2, .int (zJ v22)), (0, .ref (ga Γ 0)), (1, .ref (ga Γ 3))]) G rfl dX3_readHead_68 (by decide) rfl ?_
      refine p_aload_n G rfl 2 rfl dX3_readHead_69 ?_
      refine p_aload_n G rfl 1 rfl dX3_readHead_70 ?_
      refine p_get G dX3_readHead_71 fl_X3_82 (k := 0) rfl rfl ?_
      refine p_putI G dX3_readHead_74 fp_X3_92 (k := 3) rfl rfl rfl rfl h (fun σ24 h => ?_)
      refine p_lv [1, 2, 0] rfl ?_
      exact j77 _ _ h
  refine p_aload_n G rfl 0 rfl dX3_readHead_0 ?_
  obtain ⟨σ1, hc, h⟩ := bnd_some h
  refine p_callV G zl_13 dX3_readHead_1 lk_X3_64 (c_X3_advance (gl Γ) hc) (As := []) (ci := 5) rfl zk_13 (zs_x zs_13 _) rfl rfl rfl (Nat.le_of_ble_eq_true rfl) ⟨rfl, rfl, Nat.le_of_ble_eq_true rfl, Nat.le_of_ble_eq_true rfl⟩ hcs ?_
  refine p_nm h (fun σ2 h => ?_)
  refine p_aload_n G rfl 0 rfl dX3_readHead_4 ?_
  refine p_ldcS G 1 (by decide) rfl rfl dX3_readHead_5 rfl ?_
  obtain ⟨v3, hc, h⟩ := bnd_some h
  refine p_callVr G zl_13 dX3_readHead_7 lk_X3_69 (c_X3_isWord (gl Γ) hc) (As := [.ref (gk Γ 1)]) (ci := 5) rfl zk_13 (zs_x zs_13 _) rfl rfl rfl (Nat.le_of_ble_eq_true rfl) ⟨rfl, rfl, Nat.le_of_ble_eq_true rfl, Nat.le_of_ble_eq_true rfl⟩ hcs ?_
  refine p_ifne (tgt := 19) G dX3_readHead_10 (by decide) h (fun c32 h => ?_) (fun c32 h => ?_)
  · refine p_aload_n G rfl 0 rfl dX3_readHead_19 ?_
    refine p_iconst G rfl dX3_readHead_20 ?_
    refine p_ldc (x := 999999999) G gm_377 (by decide) dX3_readHead_21 ?_
    obtain ⟨⟨σ4, v5⟩, hc, h⟩ := bnd_some h
    rw [un2_mk] at h
    refine p_callV G zl_13 dX3_readHead_23 lk_X3_78 (c_X3_readNumber (gl Γ) hc) (As := [.int (zJ (0 : Int)), .int (zJ (999999999 : Int))]) (ci := 5) rfl zk_13 (zs_x zs_13 _) rfl rfl rfl (Nat.le_of_ble_eq_true rfl) ⟨rfl, rfl, Nat.le_of_ble_eq_true rfl, Nat.le_of_ble_eq_true rfl⟩ hcs ?_
    refine p_nm h (fun σ6 h => ?_)
    refine p_istore_nU (lv' := [(2, .int (zJ v5)), (0, .ref (ga Γ 0)), (1, .ref (ga Γ 3))]) G rfl dX3_readHead_26 (by decide) rfl ?_
    refine p_aload_n G rfl 2 rfl dX3_readHead_27 ?_
    refine p_aload_n G rfl 1 rfl dX3_readHead_28 ?_
    refine p_get G dX3_readHead_29 fl_X3_82 (k := 0) rfl rfl ?_
    refine p_i2l G dX3_readHead_32 ?_
    refine p_putL G dX3_readHead_33 fp_X3_85 (k := 3) rfl rfl rfl rfl h (fun σ7 h => ?_)
    refine p_iload_n G rfl 0 rfl dX3_readHead_36 ?_
    refine p_ifne (tgt := 57) G dX3_readHead_37 (by decide) h (fun c30 h => ?_) (fun c30 h => ?_)
    · refine p_lv [1, 2, 0] rfl ?_
      exact j57 _ _ h
    · refine p_aload_n G rfl 1 rfl dX3_readHead_40 ?_
      refine p_bipush G (by decide) (by decide) dX3_readHead_41 ?_
      refine p_bipush G (by decide) (by decide) dX3_readHead_43 ?_
      obtain ⟨⟨σ26, v27⟩, hc, h⟩ := bnd_some h
      rw [un2_mk] at h
      refine p_callV G zl_13 dX3_readHead_45 lk_X3_78 (c_X3_readNumber (gl Γ) hc) (As := [.int (zJ (7 : Int)), .int (zJ (10 : Int))]) (ci := 5) rfl zk_13 (zs_x zs_13 _) rfl rfl rfl (Nat.le_of_ble_eq_true rfl) ⟨rfl, rfl, Nat.le_of_ble_eq_true rfl, Nat.le_of_ble_eq_true rfl⟩ hcs ?_
      refine p_nm h (fun σ28 h => ?_)
      refine p_istore_nU (lv' := [(2, .int (zJ v27)), (0, .ref (ga Γ 0)), (1, .ref (ga Γ 3))]) G rfl dX3_readHead_48 (by decide) rfl ?_
      refine p_aload_n G rfl 2 rfl dX3_readHead_49 ?_
      refine p_aload_n G rfl 1 rfl dX3_readHead_50 ?_
      refine p_get G dX3_readHead_51 fl_X3_82 (k := 0) rfl rfl ?_
      refine p_putI G dX3_readHead_54 fp_X3_89 (k := 3) rfl rfl rfl rfl h (fun σ29 h => ?_)
      refine p_lv [1, 2, 0] rfl ?_
      exact j57 _ _ h
  · refine p_aload_n G rfl 0 rfl dX3_readHead_13 ?_
    refine p_iconst G rfl dX3_readHead_14 ?_
    obtain ⟨v31, hc, h⟩ := bnd_some h
    refine p_callVr G zl_13 dX3_readHead_15 lk_X3_73 (c_X3_errorAs (gl Γ) hc) (As := [.int (zJ (1 : Int))]) (ci := 5) rfl zk_13 (zs_x zs_13 _) rfl rfl rfl (Nat.le_of_ble_eq_true rfl) ⟨rfl, rfl, Nat.le_of_ble_eq_true rfl, Nat.le_of_ble_eq_true rfl⟩ hcs ?_
    (cases h; exact p_iret G hR dX3_readHead_18 rfl rfl)
set_option maxHeartbeats 4000000 in
set_option maxRecDepth 100000 in
theorem c_X3_readDeck (l : Launch) {D : va_G} {yy : Nat → ClassId} {tk tv a : Nat → Nat} {σ : Mm} {o : Mm × Int} (h : x_X3_readDeck σ = some o) : CT l yX3_readDeck cX3_readDeck 5 (some .int) rm_X3_readDeck shR D yy tk tv a σ [.ref (a 0)] o.1 (some (.int (zJ o.2))) := by
  refine ct_of (Ar := fun a tk => [.ref (a 0)]) (by decide) (Nat.le_of_ble_eq_true rfl) (fun Γ G _ _ hR => ?_)
  have hcs := rt_cs hR
  unfold x_X3_readDeck at h
  refine (?_ : PT Γ 5 shR 0 σ [(0, .ref (ga Γ 0))] [])
  have j137 : ∀ (σ_137 : Mm) (v3_137 : Int), x_X3_readDeck_j137 σ_137 v3_137 = some o → PT Γ 5 shR 137 σ_137 [(0, .ref (ga Γ 0)), (3, .int (zJ v3_137))] [] := by
    intro σ_137 v3_137 h
    unfold x_X3_readDeck_j137 at h
    refine p_iload_n G rfl 1 rfl dX3_readDeck_137 ?_
    refine p_ifeq (tgt := 143) G dX3_readDeck_138 (by decide) h (fun c31 h => ?_) (fun c31 h => ?_)
    · refine p_aload_n G rfl 0 rfl dX3_readDeck_143 ?_
      refine p_get G dX3_readDeck_144 fl_X3_61 (k := 0) rfl rfl ?_
      refine p_iconst G rfl dX3_readDeck_147 ?_
      refine p_icmpeq (tgt := 157) G dX3_readDeck_148 (by decide) h (fun c30 h => ?_) (fun c30 h => ?_)
      · refine p_aload_n G rfl 0 rfl dX3_readDeck_157 ?_
        obtain ⟨σ28, hc, h⟩ := bnd_some h
        refine p_callVi G dX3_readDeck_158 lk_X3_64 (c_X3_advance (gl Γ) hc) (As := []) (ci := 5) rfl rfl rfl rfl (Nat.le_of_ble_eq_true rfl) ⟨rfl, rfl, Nat.le_of_ble_eq_true rfl, Nat.le_of_ble_eq_true rfl⟩ hcs ?_
        refine p_iconst G rfl dX3_readDeck_161 ?_
        (cases h; exact p_iret G hR dX3_readDeck_162 rfl rfl)
      · refine p_aload_n G rfl 0 rfl dX3_readDeck_151 ?_
        refine p_iconst G rfl dX3_readDeck_152 ?_
        obtain ⟨v29, hc, h⟩ := bnd_some h
        refine p_callVi G dX3_readDeck_153 lk_X3_73 (c_X3_errorAs (gl Γ) hc) (As := [.int (zJ (1 : Int))]) (ci := 5) rfl rfl rfl rfl (Nat.le_of_ble_eq_true rfl) ⟨rfl, rfl, Nat.le_of_ble_eq_true rfl, Nat.le_of_ble_eq_true rfl⟩ hcs ?_
        (cases h; exact p_iret G hR dX3_readDeck_156 rfl rfl)
    · refine p_iload_n G rfl 1 rfl dX3_readDeck_141 ?_
      (cases h; exact p_iret G hR dX3_readDeck_142 rfl rfl)
  refine p_aload_n G rfl 0 rfl dX3_readDeck_0 ?_
  refine p_iconst G rfl dX3_readDeck_1 ?_
  refine p_putI G dX3_readDeck_2 fp_X3_101 (k := 0) rfl rfl rfl rfl h (fun σ1 h => ?_)
  refine p_lconst G (v := 0) (by decide) dX3_readDeck_5 ?_
  refine p_lstore_nU (lv' := [(1, .long (0 : Int64)), (0, .ref (ga Γ 0))]) G rfl dX3_readDeck_6 (by decide) rfl ?_
  refine p_aload_n G rfl 1 rfl dX3_readDeck_7 ?_
  obtain ⟨σ2, hc, h⟩ := bnd_some h
  refine p_callVi G dX3_readDeck_8 lk_X3_64 (c_X3_advance (gl Γ) hc) (As := []) (ci := 5) rfl rfl rfl rfl (Nat.le_of_ble_eq_true rfl) ⟨rfl, rfl, Nat.le_of_ble_eq_true rfl, Nat.le_of_ble_eq_true rfl⟩ hcs ?_
  refine p_aload_n G rfl 1 rfl dX3_readDeck_11 ?_
  refine p_ldcS G 2 (by decide) rfl rfl dX3_readDeck_12 rfl ?_
  obtain ⟨v3, hc, h⟩ := bnd_some h
  refine p_callVi G dX3_readDeck_14 lk_X3_69 (c_X3_isWord (gl Γ) hc) (As := [.ref (gk Γ 2)]) (ci := 5) rfl rfl rfl rfl (Nat.le_of_ble_eq_true rfl) ⟨rfl, rfl, Nat.le_of_ble_eq_true rfl, Nat.le_of_ble_eq_true rfl⟩ hcs ?_
  refine p_ifne (tgt := 22) G dX3_readDeck_17 (by decide) h (fun c32 h => ?_) (fun c32 h => ?_)
  · refine p_aload_n G rfl 1 rfl dX3_readDeck_22 ?_
    refine p_iconst G rfl dX3_readDeck_23 ?_
    refine p_bipush G (by decide) (by decide) dX3_readDeck_24 ?_
    obtain ⟨⟨σ4, v5⟩, hc, h⟩ := bnd_some h
    rw [un2_mk] at h
    refine p_callVi G dX3_readDeck_26 lk_X3_78 (c_X3_readNumber (gl Γ) hc) (As := [.int (zJ (0 : Int)), .int (zJ (51 : Int))]) (ci := 5) rfl rfl rfl rfl (Nat.le_of_ble_eq_true rfl) ⟨rfl, rfl, Nat.le_of_ble_eq_true rfl, Nat.le_of_ble_eq_true rfl⟩ hcs ?_
    refine p_istore_nU (lv' := [(3, .int (zJ v5)), (1, .long (0 : Int64)), (0, .ref (ga Γ 0))]) G rfl dX3_readDeck_29 (by decide) rfl ?_
    refine p_iconst G rfl dX3_readDeck_30 ?_
    refine p_istoreU (lv' := [(4, .int (zJ (0 : Int))), (3, .int (zJ v5)), (1, .long (0 : Int64)), (0, .ref (ga Γ 0))]) G dX3_readDeck_31 (by decide) rfl ?_
    refine p_lv [3, 2, 1, 0] rfl ?_
    obtain ⟨e23, hl33, h⟩ := bnd_some h
    have hX33_72 : ∀ (σ24 : Mm), (.inl σ24) = e23 → PT Γ 5 shR 72 σ24 [(0, .ref (ga Γ 0))] [] := by
      intro σ24 he
      subst he
      rw [zel_l] at h
      refine p_aload_n G rfl 0 rfl dX3_readDeck_72 ?_
      refine p_iconst G rfl dX3_readDeck_73 ?_
      obtain ⟨v25, hc, h⟩ := bnd_some h
      refine p_callVi G dX3_readDeck_74 lk_X3_73 (c_X3_errorAs (gl Γ) hc) (As := [.int (zJ (3 : Int))]) (ci := 5) rfl rfl rfl rfl (Nat.le_of_ble_eq_true rfl) ⟨rfl, rfl, Nat.le_of_ble_eq_true rfl, Nat.le_of_ble_eq_true rfl⟩ hcs ?_
      (cases h; exact p_iret G hR dX3_readDeck_77 rfl rfl)
    have hX33_137 : ∀ (σ26 : Mm) (v27 : Int), (.inr (σ26, v27)) = e23 → PT Γ 5 shR 137 σ26 [(0, .ref (ga Γ 0)), (3, .int (zJ v27))] [] := by
      intro σ26 v27 he
      subst he
      rw [zel_r] at h
      rw [un2_mk] at h
      exact j137 _ _ h
    refine lup_walk (s := (σ4, (0 : Int64), v5, (0 : Int))) (At := fun s : Mm × Int64 × Int × Int => PT Γ 5 shR 33 s.1 [(0, .ref (ga Γ 0)), (1, .long s.2.1), (3, .int (zJ s.2.2.1)), (4, .int (zJ s.2.2.2))] []) (fun s r hf hin33 hout33 => ?_) hl33
    obtain ⟨σ33, u1_33, u3_33, u4_33⟩ := s
    have h : x_X3_readDeck_b33 σ33 u1_33 u3_33 u4_33 = some r := hf
    clear hf
    unfold x_X3_readDeck_b33 at h
    refine (?_ : PT Γ 5 shR 33 σ33 [(0, .ref (ga Γ 0)), (1, .long u1_33), (3, .int (zJ u3_33)), (4, .int (zJ u4_33))] [])
    refine p_iload G 3 rfl dX3_readDeck_33 ?_
    refine p_bipush G (by decide) (by decide) dX3_readDeck_35 ?_
    refine p_icmpgt (tgt := 137) G dX3_readDeck_37 (by decide) h (fun c21 h => ?_) (fun c21 h => ?_)
    · refine p_lv [0, 2] rfl ?_
      have he := hout33 _ (Option.some.inj h).symm
      subst he
      exact hX33_137 _ _ rfl
    · refine p_iload_n G rfl 2 rfl dX3_readDeck_40 ?_
      refine p_ifne (tgt := 137) G dX3_readDeck_41 (by decide) h (fun c20 h => ?_) (fun c20 h => ?_)
      · refine p_lv [0, 2] rfl ?_
        have he := hout33 _ (Option.some.inj h).symm
        subst he
        exact hX33_137 _ _ rfl
      · refine p_aload_n G rfl 0 rfl dX3_readDeck_44 ?_
        refine p_get G dX3_readDeck_45 fl_X3_61 (k := 0) rfl rfl ?_
        refine p_iconst G rfl dX3_readDeck_48 ?_
        refine p_icmpne (tgt := 137) G dX3_readDeck_49 (by decide) h (fun c19 h => ?_) (fun c19 h => ?_)
        · refine p_lv [0, 2] rfl ?_
          have he := hout33 _ (Option.some.inj h).symm
          subst he
          exact hX33_137 _ _ rfl
        · refine p_lload_n G rfl 1 rfl dX3_readDeck_52 ?_
          refine p_aload_n G rfl 0 rfl dX3_readDeck_53 ?_
          refine p_get G dX3_readDeck_54 fl_X3_82 (k := 0) rfl rfl ?_
          obtain ⟨v6, hc, h⟩ := bnd_some h
          refine p_callS0 G dX3_readDeck_57 lk_X3_106 (c_X6_has (gl Γ) hc) (As := [.long u1_33, .int (zJ (σ33 0 5))]) rfl zk_12 rfl (Nat.le_of_ble_eq_true rfl) ⟨rfl, rfl, Nat.le_of_ble_eq_true rfl, Nat.le_of_ble_eq_true rfl⟩ hcs ?_
          refine p_ifne (tgt := 72) G dX3_readDeck_60 (by decide) h (fun c18 h => ?_) (fun c18 h => ?_)
          · refine p_lv [0] rfl ?_
            have he := hout33 _ (Option.some.inj h).symm
            subst he
            exact hX33_72 _ rfl
          · refine p_aload_n G rfl 0 rfl dX3_readDeck_63 ?_
            refine p_get G dX3_readDeck_64 fl_X3_101 (k := 0) rfl rfl ?_
            refine p_bipush G (by decide) (by decide) dX3_readDeck_67 ?_
            refine p_icmplt (tgt := 78) G dX3_readDeck_69 (by decide) h (fun c17 h => ?_) (fun c17 h => ?_)
            · refine p_lload_n G rfl 1 rfl dX3_readDeck_78 ?_
              refine p_aload_n G rfl 0 rfl dX3_readDeck_79 ?_
              refine p_get G dX3_readDeck_80 fl_X3_82 (k := 0) rfl rfl ?_
              obtain ⟨v7, hc, h⟩ := bnd_some h
              refine p_callS0 G dX3_readDeck_83 lk_X3_110 (c_X6_bitOf (gl Γ) hc) (As := [.int (zJ (σ33 0 5))]) rfl zk_12 rfl (Nat.le_of_ble_eq_true rfl) ⟨rfl, rfl, Nat.le_of_ble_eq_true rfl, Nat.le_of_ble_eq_true rfl⟩ hcs ?_
              refine p_lor G dX3_readDeck_86 ?_
              refine p_lstore_n (lv' := fun v8 => [(1, .long v8), (0, .ref (ga Γ 0)), (3, .int (zJ u3_33)), (4, .int (zJ u4_33))]) G rfl dX3_readDeck_87 h (by decide) (fun _ => rfl) (fun v8 h => ?_)
              refine p_aload_n G rfl 1 rfl dX3_readDeck_88 ?_
              refine p_get G dX3_readDeck_89 fl_X3_15 (k := 0) rfl rfl ?_
              refine p_aload_n G rfl 1 rfl dX3_readDeck_92 ?_
              refine p_get G dX3_readDeck_93 fl_X3_101 (k := 0) rfl rfl ?_
              refine p_aload_n G rfl 1 rfl dX3_readDeck_96 ?_
              refine p_get G dX3_readDeck_97 fl_X3_82 (k := 0) rfl rfl ?_
              refine p_iast G dX3_readDeck_100 (k := 2) rfl (zt_c _) rfl h (fun σ9 c10 h => ?_)
              refine p_aload_n G rfl 1 rfl dX3_readDeck_101 ?_
              refine p_dup G rfl dX3_readDeck_102 ?_
              refine p_get G dX3_readDeck_103 fl_X3_101 (k := 0) rfl rfl ?_
              refine p_iconst G rfl dX3_readDeck_106 ?_
              refine p_iadd G dX3_readDeck_107 ?_
              refine p_putI G dX3_readDeck_108 fp_X3_101 (k := 0) rfl rfl rfl rfl h (fun σ11 h => ?_)
              refine p_aload_n G rfl 1 rfl dX3_readDeck_111 ?_
              obtain ⟨σ12, hc, h⟩ := bnd_some h
              refine p_callVi G dX3_readDeck_112 lk_X3_64 (c_X3_advance (gl Γ) hc) (As := []) (ci := 5) rfl rfl rfl rfl (Nat.le_of_ble_eq_true rfl) ⟨rfl, rfl, Nat.le_of_ble_eq_true rfl, Nat.le_of_ble_eq_true rfl⟩ hcs ?_
              refine p_aload_n G rfl 1 rfl dX3_readDeck_115 ?_
              refine p_get G dX3_readDeck_116 fl_X3_61 (k := 0) rfl rfl ?_
              refine p_iconst G rfl dX3_readDeck_119 ?_
              refine p_icmpne (tgt := 131) G dX3_readDeck_120 (by decide) h (fun c16 h => ?_) (fun c16 h => ?_)
              · refine p_iinc (lv' := fun v13 => [(4, .int (zJ v13)), (1, .long v8), (0, .ref (ga Γ 0)), (3, .int (zJ u3_33))]) G dX3_readDeck_131 h 3 rfl (by decide) (fun _ => rfl) (fun v13 h => ?_)
                refine p_goto (tgt := 33) G dX3_readDeck_134 (by decide) ?_
                refine p_lv [2, 1, 3, 0] rfl ?_
                exact hin33 _ (Option.some.inj h).symm
              · refine p_aload_n G rfl 1 rfl dX3_readDeck_123 ?_
                refine p_iconst G rfl dX3_readDeck_124 ?_
                refine p_bipush G (by decide) (by decide) dX3_readDeck_125 ?_
                obtain ⟨v14, hc, h⟩ := bnd_some h
                refine p_callVi G dX3_readDeck_127 lk_X3_114 (c_X3_rangeError (gl Γ) hc) (As := [.int (zJ (0 : Int)), .int (zJ (51 : Int))]) (ci := 5) rfl rfl rfl rfl (Nat.le_of_ble_eq_true rfl) ⟨rfl, rfl, Nat.le_of_ble_eq_true rfl, Nat.le_of_ble_eq_true rfl⟩ hcs ?_
                refine p_istore_nU (lv' := [(3, .int (zJ v14)), (1, .long v8), (0, .ref (ga Γ 0)), (4, .int (zJ u4_33))]) G rfl dX3_readDeck_130 (by decide) rfl ?_
                refine p_iinc (lv' := fun v15 => [(4, .int (zJ v15)), (3, .int (zJ v14)), (1, .long v8), (0, .ref (ga Γ 0))]) G dX3_readDeck_131 h 3 rfl (by decide) (fun _ => rfl) (fun v15 h => ?_)
                refine p_goto (tgt := 33) G dX3_readDeck_134 (by decide) ?_
                refine p_lv [3, 2, 1, 0] rfl ?_
                exact hin33 _ (Option.some.inj h).symm
            · refine p_lv [0] rfl ?_
              have he := hout33 _ (Option.some.inj h).symm
              subst he
              exact hX33_72 _ rfl
  · refine p_iconst G rfl dX3_readDeck_20 ?_
    (cases h; exact p_iret G hR dX3_readDeck_21 rfl rfl)
set_option maxHeartbeats 4000000 in
set_option maxRecDepth 100000 in
theorem c_X3_arrange (l : Launch) {D : va_G} {yy : Nat → ClassId} {tk tv a : Nat → Nat} {σ : Mm} {o : Mm} (h : x_X3_arrange σ = some o) : CT l yX3_arrange cX3_arrange 7 none rm_X3_arrange shRM D yy tk tv a σ [.ref (a 0), .ref (a 3)] o none := by
  refine ct_of (Ar := fun a tk => [.ref (a 0), .ref (a 3)]) (by decide) (Nat.le_of_ble_eq_true rfl) (fun Γ G _ _ hR => ?_)
  have hcs := rt_cs hR
  unfold x_X3_arrange at h
  refine (?_ : PT Γ 7 shRM 0 σ [(0, .ref (ga Γ 0)), (1, .ref (ga Γ 3))] [])
  have j40 : ∀ (σ_40 : Mm) (v2_40 : Int64), x_X3_arrange_j40 σ_40 v2_40 = some o → PT Γ 7 shRM 40 σ_40 [(0, .ref (ga Γ 0)), (1, .ref (ga Γ 3)), (2, .long v2_40)] [] := by
    intro σ_40 v2_40 h
    unfold x_X3_arrange_j40 at h
    refine p_aload_n G rfl 0 rfl dX3_arrange_40 ?_
    refine p_get G dX3_arrange_41 fl_X3_101 (k := 0) rfl rfl ?_
    refine p_istore (lv' := fun v10 => [(4, .int (zJ v10)), (0, .ref (ga Γ 0)), (1, .ref (ga Γ 3)), (2, .long v2_40)]) G dX3_arrange_44 h (by decide) (fun _ => rfl) (fun v10 h => ?_)
    refine p_iconst G rfl dX3_arrange_46 ?_
    refine p_istoreU (lv' := [(5, .int (zJ (0 : Int))), (4, .int (zJ v10)), (0, .ref (ga Γ 0)), (1, .ref (ga Γ 3)), (2, .long v2_40)]) G dX3_arrange_47 (by decide) rfl ?_
    refine p_lv [2, 3, 4, 1, 0] rfl ?_
    obtain ⟨e22, hl49, h⟩ := bnd_some h
    have hX49_98 : ∀ (σ23 : Mm), σ23 = e22 → PT Γ 7 shRM 98 σ23 [(0, .ref (ga Γ 0)), (1, .ref (ga Γ 3))] [] := by
      intro σ23 he
      subst he
      refine p_aload_n G rfl 0 rfl dX3_arrange_98 ?_
      refine p_get G dX3_arrange_99 fl_X3_15 (k := 0) rfl rfl ?_
      refine p_iconst G rfl dX3_arrange_102 ?_
      refine p_aload_n G rfl 1 rfl dX3_arrange_103 ?_
      refine p_get G dX3_arrange_104 fl_X3_120 (k := 3) rfl rfl ?_
      refine p_iconst G rfl dX3_arrange_107 ?_
      refine p_bipush G (by decide) (by decide) dX3_arrange_108 ?_
      refine p_copy G gm_422 gm_424 gm_423 gm_38 (k0 := 2) (k1 := 6) (n := 52) (kd := 0) rfl rfl (zt_c _) (zt_c _) (by decide) (by decide) (by decide) (by decide) rfl (by decide) (by decide) dX3_arrange_110 h (fun σ24 h => ?_)
      (cases h; exact p_vret G hR dX3_arrange_113 rfl rfl)
    refine lup_walk (s := (σ_40, v10, (0 : Int))) (At := fun s : Mm × Int × Int => PT Γ 7 shRM 49 s.1 [(0, .ref (ga Γ 0)), (1, .ref (ga Γ 3)), (2, .long v2_40), (4, .int (zJ s.2.1)), (5, .int (zJ s.2.2))] []) (fun s r hf hin49 hout49 => ?_) hl49
    obtain ⟨σ49, u4_49, u5_49⟩ := s
    have h : x_X3_arrange_b49 v2_40 σ49 u4_49 u5_49 = some r := hf
    clear hf
    unfold x_X3_arrange_b49 at h
    refine (?_ : PT Γ 7 shRM 49 σ49 [(0, .ref (ga Γ 0)), (1, .ref (ga Γ 3)), (2, .long v2_40), (4, .int (zJ u4_49)), (5, .int (zJ u5_49))] [])
    refine p_iload G 4 rfl dX3_arrange_49 ?_
    refine p_bipush G (by decide) (by decide) dX3_arrange_51 ?_
    refine p_icmpge (tgt := 98) G dX3_arrange_53 (by decide) h (fun c20 h => ?_) (fun c20 h => ?_)
    · refine p_lv [0, 1] rfl ?_
      have he := hout49 _ (Option.some.inj h).symm
      subst he
      exact hX49_98 _ rfl
    · refine p_iload G 3 rfl dX3_arrange_56 ?_
      refine p_bipush G (by decide) (by decide) dX3_arrange_58 ?_
      refine p_icmpge (tgt := 98) G dX3_arrange_60 (by decide) h (fun c19 h => ?_) (fun c19 h => ?_)
      · refine p_lv [0, 1] rfl ?_
        have he := hout49 _ (Option.some.inj h).symm
        subst he
        exact hX49_98 _ rfl
      · refine p_aload_n G rfl 1 rfl dX3_arrange_63 ?_
        refine p_iload G 4 rfl dX3_arrange_64 ?_
        obtain ⟨v11, hc, h⟩ := bnd_some h
        refine p_callVr G zl_15 dX3_arrange_66 lk_X3_117 (c_X2_deckAt (gl Γ) hc) (As := [.int (zJ u5_49)]) (ci := 4) rfl zk_15 (zs_x zs_15 _) rfl rfl rfl (Nat.le_of_ble_eq_true rfl) ⟨rfl, rfl, Nat.le_of_ble_eq_true rfl, Nat.le_of_ble_eq_true rfl⟩ hcs ?_
        refine p_istoreU (lv' := [(6, .int (zJ v11)), (0, .ref (ga Γ 0)), (1, .ref (ga Γ 3)), (2, .long v2_40), (4, .int (zJ u4_49)), (5, .int (zJ u5_49))]) G dX3_arrange_69 (by decide) rfl ?_
        refine p_lload_n G rfl 3 rfl dX3_arrange_71 ?_
        refine p_iload G 0 rfl dX3_arrange_72 ?_
        obtain ⟨v12, hc, h⟩ := bnd_some h
        refine p_callS0 G dX3_arrange_74 lk_X3_106 (c_X6_has (gl Γ) hc) (As := [.long v2_40, .int (zJ v11)]) rfl zk_14 rfl (Nat.le_of_ble_eq_true rfl) ⟨rfl, rfl, Nat.le_of_ble_eq_true rfl, Nat.le_of_ble_eq_true rfl⟩ hcs ?_
        refine p_ifne (tgt := 92) G dX3_arrange_77 (by decide) h (fun c18 h => ?_) (fun c18 h => ?_)
        · refine p_iinc (lv' := fun v13 => [(5, .int (zJ v13)), (6, .int (zJ v11)), (0, .ref (ga Γ 0)), (1, .ref (ga Γ 3)), (2, .long v2_40), (4, .int (zJ u4_49))]) G dX3_arrange_92 h 5 rfl (by decide) (fun _ => rfl) (fun v13 h => ?_)
          refine p_goto (tgt := 49) G dX3_arrange_95 (by decide) ?_
          refine p_lv [2, 3, 4, 5, 0] rfl ?_
          exact hin49 _ (Option.some.inj h).symm
        · refine p_aload_n G rfl 1 rfl dX3_arrange_80 ?_
          refine p_get G dX3_arrange_81 fl_X3_15 (k := 0) rfl rfl ?_
          refine p_iload G 4 rfl dX3_arrange_84 ?_
          refine p_iload G 0 rfl dX3_arrange_86 ?_
          refine p_iast G dX3_arrange_88 (k := 2) rfl (zt_c _) rfl h (fun σ14 c15 h => ?_)
          refine p_iinc (lv' := fun v16 => [(4, .int (zJ v16)), (6, .int (zJ v11)), (0, .ref (ga Γ 0)), (1, .ref (ga Γ 3)), (2, .long v2_40), (5, .int (zJ u5_49))]) G dX3_arrange_89 h 4 rfl (by decide) (fun _ => rfl) (fun v16 h => ?_)
          refine p_iinc (lv' := fun v17 => [(5, .int (zJ v17)), (4, .int (zJ v16)), (6, .int (zJ v11)), (0, .ref (ga Γ 0)), (1, .ref (ga Γ 3)), (2, .long v2_40)]) G dX3_arrange_92 h 5 rfl (by decide) (fun _ => rfl) (fun v17 h => ?_)
          refine p_goto (tgt := 49) G dX3_arrange_95 (by decide) ?_
          refine p_lv [3, 4, 5, 1, 0] rfl ?_
          exact hin49 _ (Option.some.inj h).symm
  refine p_lconst G (v := 0) (by decide) dX3_arrange_0 ?_
  refine p_lstore_nU (lv' := [(2, .long (0 : Int64)), (0, .ref (ga Γ 0)), (1, .ref (ga Γ 3))]) G rfl dX3_arrange_1 (by decide) rfl ?_
  refine p_iconst G rfl dX3_arrange_2 ?_
  refine p_istoreU (lv' := [(4, .int (zJ (0 : Int))), (2, .long (0 : Int64)), (0, .ref (ga Γ 0)), (1, .ref (ga Γ 3))]) G dX3_arrange_3 (by decide) rfl ?_
  refine p_lv [2, 3, 1, 0] rfl ?_
  obtain ⟨e8, hl5, h⟩ := bnd_some h
  have hX5_40 : ∀ (v9 : Int64), v9 = e8 → PT Γ 7 shRM 40 σ [(0, .ref (ga Γ 0)), (1, .ref (ga Γ 3)), (2, .long v9)] [] := by
    intro v9 he
    subst he
    exact j40 _ _ h
  refine lup_walk (s := ((0 : Int64), (0 : Int))) (At := fun s : Int64 × Int => PT Γ 7 shRM 5 σ [(0, .ref (ga Γ 0)), (1, .ref (ga Γ 3)), (2, .long s.1), (4, .int (zJ s.2))] []) (fun s r hf hin5 hout5 => ?_) hl5
  obtain ⟨u2_5, u4_5⟩ := s
  have h : x_X3_arrange_b5 σ u2_5 u4_5 = some r := hf
  clear hf
  unfold x_X3_arrange_b5 at h
  refine (?_ : PT Γ 7 shRM 5 σ [(0, .ref (ga Γ 0)), (1, .ref (ga Γ 3)), (2, .long u2_5), (4, .int (zJ u4_5))] [])
  refine p_iload G 3 rfl dX3_arrange_5 ?_
  refine p_aload_n G rfl 0 rfl dX3_arrange_7 ?_
  refine p_get G dX3_arrange_8 fl_X3_101 (k := 0) rfl rfl ?_
  refine p_icmpge (tgt := 40) G dX3_arrange_11 (by decide) h (fun c6 h => ?_) (fun c6 h => ?_)
  · refine p_lv [0, 1, 2] rfl ?_
    have he := hout5 _ (Option.some.inj h).symm
    subst he
    exact hX5_40 _ rfl
  · refine p_iload G 3 rfl dX3_arrange_14 ?_
    refine p_bipush G (by decide) (by decide) dX3_arrange_16 ?_
    refine p_icmpge (tgt := 40) G dX3_arrange_18 (by decide) h (fun c5 h => ?_) (fun c5 h => ?_)
    · refine p_lv [0, 1, 2] rfl ?_
      have he := hout5 _ (Option.some.inj h).symm
      subst he
      exact hX5_40 _ rfl
    · refine p_lload_n G rfl 2 rfl dX3_arrange_21 ?_
      refine p_aload_n G rfl 0 rfl dX3_arrange_22 ?_
      refine p_get G dX3_arrange_23 fl_X3_15 (k := 0) rfl rfl ?_
      refine p_iload G 3 rfl dX3_arrange_26 ?_
      refine p_iald G dX3_arrange_28 (k := 2) rfl (zt_c _) h (fun c1 h => ?_)
      obtain ⟨v2, hc, h⟩ := bnd_some h
      refine p_callS0 G dX3_arrange_29 lk_X3_110 (c_X6_bitOf (gl Γ) hc) (As := [.int (zJ (σ 2 (zix u4_5)))]) rfl zk_14 rfl (Nat.le_of_ble_eq_true rfl) ⟨rfl, rfl, Nat.le_of_ble_eq_true rfl, Nat.le_of_ble_eq_true rfl⟩ hcs ?_
      refine p_lor G dX3_arrange_32 ?_
      refine p_lstore_n (lv' := fun v3 => [(2, .long v3), (0, .ref (ga Γ 0)), (1, .ref (ga Γ 3)), (4, .int (zJ u4_5))]) G rfl dX3_arrange_33 h (by decide) (fun _ => rfl) (fun v3 h => ?_)
      refine p_iinc (lv' := fun v4 => [(4, .int (zJ v4)), (2, .long v3), (0, .ref (ga Γ 0)), (1, .ref (ga Γ 3))]) G dX3_arrange_34 h 3 rfl (by decide) (fun _ => rfl) (fun v4 h => ?_)
      refine p_goto (tgt := 5) G dX3_arrange_37 (by decide) ?_
      refine p_lv [2, 3, 1, 0] rfl ?_
      exact hin5 _ (Option.some.inj h).symm
set_option maxHeartbeats 4000000 in
set_option maxRecDepth 100000 in
theorem c_X3_readDeal (l : Launch) {D : va_G} {yy : Nat → ClassId} {tk tv a : Nat → Nat} {σ : Mm} {o : Mm × Int} (h : x_X3_readDeal σ = some o) : CT l yX3_readDeal cX3_readDeal 3 (some .int) rm_X3_readDeal shRM D yy tk tv a σ [.ref (a 0), .ref (a 3)] o.1 (some (.int (zJ o.2))) := by
  refine ct_of (Ar := fun a tk => [.ref (a 0), .ref (a 3)]) (by decide) (Nat.le_of_ble_eq_true rfl) (fun Γ G _ _ hR => ?_)
  have hcs := rt_cs hR
  unfold x_X3_readDeal at h
  refine (?_ : PT Γ 3 shRM 0 σ [(0, .ref (ga Γ 0)), (1, .ref (ga Γ 3))] [])
  refine p_aload_n G rfl 0 rfl dX3_readDeal_0 ?_
  refine p_iconst G rfl dX3_readDeal_1 ?_
  refine p_putI G dX3_readDeal_2 fp_X3_36 (k := 0) rfl rfl rfl rfl h (fun σ1 h => ?_)
  refine p_aload_n G rfl 0 rfl dX3_readDeal_5 ?_
  refine p_aload_n G rfl 1 rfl dX3_readDeal_6 ?_
  obtain ⟨⟨σ2, v3⟩, hc, h⟩ := bnd_some h
  rw [un2_mk] at h
  refine p_callVi G dX3_readDeal_7 lk_X3_39 (c_X3_readHead (gl Γ) hc) (As := [.ref (ga Γ 3)]) (ci := 5) rfl rfl rfl rfl (Nat.le_of_ble_eq_true rfl) ⟨rfl, rfl, Nat.le_of_ble_eq_true rfl, Nat.le_of_ble_eq_true rfl⟩ hcs ?_
  refine p_istore_nU (lv' := [(2, .int (zJ v3)), (0, .ref (ga Γ 0)), (1, .ref (ga Γ 3))]) G rfl dX3_readDeal_10 (by decide) rfl ?_
  refine p_iload_n G rfl 0 rfl dX3_readDeal_11 ?_
  refine p_ifne (tgt := 20) G dX3_readDeal_12 (by decide) h (fun c23 h => ?_) (fun c23 h => ?_)
  · refine p_iload_n G rfl 0 rfl dX3_readDeal_20 ?_
    refine p_ifne (tgt := 41) G dX3_readDeal_21 (by decide) h (fun c11 h => ?_) (fun c11 h => ?_)
    · refine p_iload_n G rfl 0 rfl dX3_readDeal_41 ?_
      (cases h; exact p_iret G hR dX3_readDeal_42 rfl rfl)
    · refine p_aload_n G rfl 2 rfl dX3_readDeal_24 ?_
      obtain ⟨σ4, hc, h⟩ := bnd_some h
      refine p_callV G zl_15 dX3_readDeal_25 lk_X3_46 (c_X2_begin (gl Γ) hc) (As := []) (ci := 4) rfl zk_15 (zs_x zs_15 _) rfl rfl rfl (Nat.le_of_ble_eq_true rfl) ⟨rfl, rfl, Nat.le_of_ble_eq_true rfl, Nat.le_of_ble_eq_true rfl⟩ hcs ?_
      refine p_nm h (fun σ5 h => ?_)
      refine p_aload_n G rfl 2 rfl dX3_readDeal_28 ?_
      obtain ⟨σ6, hc, h⟩ := bnd_some h
      refine p_callV G zl_15 dX3_readDeal_29 lk_X3_51 (c_X2_shuffle (gl Γ) hc) (As := []) (ci := 4) rfl zk_15 (zs_x zs_15 _) rfl rfl rfl (Nat.le_of_ble_eq_true rfl) ⟨rfl, rfl, Nat.le_of_ble_eq_true rfl, Nat.le_of_ble_eq_true rfl⟩ hcs ?_
      refine p_nm h (fun σ7 h => ?_)
      refine p_aload_n G rfl 1 rfl dX3_readDeal_32 ?_
      refine p_aload_n G rfl 2 rfl dX3_readDeal_33 ?_
      obtain ⟨σ8, hc, h⟩ := bnd_some h
      refine p_callVi G dX3_readDeal_34 lk_X3_54 (c_X3_arrange (gl Γ) hc) (As := [.ref (ga Γ 3)]) (ci := 5) rfl rfl rfl rfl (Nat.le_of_ble_eq_true rfl) ⟨rfl, rfl, Nat.le_of_ble_eq_true rfl, Nat.le_of_ble_eq_true rfl⟩ hcs ?_
      refine p_aload_n G rfl 2 rfl dX3_readDeal_37 ?_
      obtain ⟨σ9, hc, h⟩ := bnd_some h
      refine p_callV G zl_15 dX3_readDeal_38 lk_X3_58 (c_X2_dealOut (gl Γ) hc) (As := []) (ci := 4) rfl zk_15 (zs_x zs_15 _) rfl rfl rfl (Nat.le_of_ble_eq_true rfl) ⟨rfl, rfl, Nat.le_of_ble_eq_true rfl, Nat.le_of_ble_eq_true rfl⟩ hcs ?_
      refine p_nm h (fun σ10 h => ?_)
      refine p_iload_n G rfl 0 rfl dX3_readDeal_41 ?_
      (cases h; exact p_iret G hR dX3_readDeal_42 rfl rfl)
  · refine p_aload_n G rfl 1 rfl dX3_readDeal_15 ?_
    obtain ⟨⟨σ12, v13⟩, hc, h⟩ := bnd_some h
    rw [un2_mk] at h
    refine p_callV G zl_13 dX3_readDeal_16 lk_X3_43 (c_X3_readDeck (gl Γ) hc) (As := []) (ci := 5) rfl zk_13 (zs_x zs_13 _) rfl rfl rfl (Nat.le_of_ble_eq_true rfl) ⟨rfl, rfl, Nat.le_of_ble_eq_true rfl, Nat.le_of_ble_eq_true rfl⟩ hcs ?_
    refine p_nm h (fun σ14 h => ?_)
    refine p_istore_nU (lv' := [(2, .int (zJ v13)), (0, .ref (ga Γ 0)), (1, .ref (ga Γ 3))]) G rfl dX3_readDeal_19 (by decide) rfl ?_
    refine p_iload_n G rfl 0 rfl dX3_readDeal_20 ?_
    refine p_ifne (tgt := 41) G dX3_readDeal_21 (by decide) h (fun c22 h => ?_) (fun c22 h => ?_)
    · refine p_iload_n G rfl 0 rfl dX3_readDeal_41 ?_
      (cases h; exact p_iret G hR dX3_readDeal_42 rfl rfl)
    · refine p_aload_n G rfl 2 rfl dX3_readDeal_24 ?_
      obtain ⟨σ15, hc, h⟩ := bnd_some h
      refine p_callV G zl_15 dX3_readDeal_25 lk_X3_46 (c_X2_begin (gl Γ) hc) (As := []) (ci := 4) rfl zk_15 (zs_x zs_15 _) rfl rfl rfl (Nat.le_of_ble_eq_true rfl) ⟨rfl, rfl, Nat.le_of_ble_eq_true rfl, Nat.le_of_ble_eq_true rfl⟩ hcs ?_
      refine p_nm h (fun σ16 h => ?_)
      refine p_aload_n G rfl 2 rfl dX3_readDeal_28 ?_
      obtain ⟨σ17, hc, h⟩ := bnd_some h
      refine p_callV G zl_15 dX3_readDeal_29 lk_X3_51 (c_X2_shuffle (gl Γ) hc) (As := []) (ci := 4) rfl zk_15 (zs_x zs_15 _) rfl rfl rfl (Nat.le_of_ble_eq_true rfl) ⟨rfl, rfl, Nat.le_of_ble_eq_true rfl, Nat.le_of_ble_eq_true rfl⟩ hcs ?_
      refine p_nm h (fun σ18 h => ?_)
      refine p_aload_n G rfl 1 rfl dX3_readDeal_32 ?_
      refine p_aload_n G rfl 2 rfl dX3_readDeal_33 ?_
      obtain ⟨σ19, hc, h⟩ := bnd_some h
      refine p_callVi G dX3_readDeal_34 lk_X3_54 (c_X3_arrange (gl Γ) hc) (As := [.ref (ga Γ 3)]) (ci := 5) rfl rfl rfl rfl (Nat.le_of_ble_eq_true rfl) ⟨rfl, rfl, Nat.le_of_ble_eq_true rfl, Nat.le_of_ble_eq_true rfl⟩ hcs ?_
      refine p_aload_n G rfl 2 rfl dX3_readDeal_37 ?_
      obtain ⟨σ20, hc, h⟩ := bnd_some h
      refine p_callV G zl_15 dX3_readDeal_38 lk_X3_58 (c_X2_dealOut (gl Γ) hc) (As := []) (ci := 4) rfl zk_15 (zs_x zs_15 _) rfl rfl rfl (Nat.le_of_ble_eq_true rfl) ⟨rfl, rfl, Nat.le_of_ble_eq_true rfl, Nat.le_of_ble_eq_true rfl⟩ hcs ?_
      refine p_nm h (fun σ21 h => ?_)
      refine p_iload_n G rfl 0 rfl dX3_readDeal_41 ?_
      (cases h; exact p_iret G hR dX3_readDeal_42 rfl rfl)
set_option maxHeartbeats 4000000 in
set_option maxRecDepth 100000 in
theorem c_X3_isAtEnd (l : Launch) {D : va_G} {yy : Nat → ClassId} {tk tv a : Nat → Nat} {σ : Mm} {o : Int} (h : x_X3_isAtEnd σ = some o) : CT l yX3_isAtEnd cX3_isAtEnd 1 (some .boolean) rm_X3_isAtEnd shR D yy tk tv a σ [.ref (a 0)] σ (some (.int (zJ o))) := by
  refine ct_of (Ar := fun a tk => [.ref (a 0)]) (by decide) (Nat.le_of_ble_eq_true rfl) (fun Γ G _ _ hR => ?_)
  have hcs := rt_cs hR
  unfold x_X3_isAtEnd at h
  refine (?_ : PT Γ 1 shR 0 σ [(0, .ref (ga Γ 0))] [])
  refine p_aload_n G rfl 0 rfl dX3_isAtEnd_0 ?_
  refine p_get G dX3_isAtEnd_1 fl_X3_61 (k := 0) rfl rfl ?_
  refine p_ifne (tgt := 11) G dX3_isAtEnd_4 (by decide) h (fun c1 h => ?_) (fun c1 h => ?_)
  · refine p_iconst G rfl dX3_isAtEnd_11 ?_
    (cases h; exact p_zret G hR dX3_isAtEnd_12 (by decide) rfl rfl)
  · refine p_iconst G rfl dX3_isAtEnd_7 ?_
    refine p_goto (tgt := 12) G dX3_isAtEnd_8 (by decide) ?_
    (cases h; exact p_zret G hR dX3_isAtEnd_12 (by decide) rfl rfl)
set_option maxHeartbeats 4000000 in
set_option maxRecDepth 100000 in
theorem c_X3_moveTold (l : Launch) {D : va_G} {yy : Nat → ClassId} {tk tv a : Nat → Nat} {σ : Mm} {o : Int} (h : x_X3_moveTold σ = some o) : CT l yX3_moveTold cX3_moveTold 1 (some .int) rm_X3_moveTold shR D yy tk tv a σ [.ref (a 0)] σ (some (.int (zJ o))) := by
  refine ct_of (Ar := fun a tk => [.ref (a 0)]) (by decide) (Nat.le_of_ble_eq_true rfl) (fun Γ G _ _ hR => ?_)
  have hcs := rt_cs hR
  unfold x_X3_moveTold at h
  refine (?_ : PT Γ 1 shR 0 σ [(0, .ref (ga Γ 0))] [])
  refine p_aload_n G rfl 0 rfl dX3_moveTold_0 ?_
  refine p_ldcS G 7 (by decide) rfl rfl dX3_moveTold_1 rfl ?_
  obtain ⟨v1, hc, h⟩ := bnd_some h
  refine p_callVi G dX3_moveTold_3 lk_X3_69 (c_X3_isWord (gl Γ) hc) (As := [.ref (gk Γ 3)]) (ci := 5) rfl rfl rfl rfl (Nat.le_of_ble_eq_true rfl) ⟨rfl, rfl, Nat.le_of_ble_eq_true rfl, Nat.le_of_ble_eq_true rfl⟩ hcs ?_
  refine p_ifeq (tgt := 11) G dX3_moveTold_6 (by decide) h (fun c10 h => ?_) (fun c10 h => ?_)
  · refine p_aload_n G rfl 0 rfl dX3_moveTold_11 ?_
    refine p_ldcS G 8 (by decide) rfl rfl dX3_moveTold_12 rfl ?_
    obtain ⟨v2, hc, h⟩ := bnd_some h
    refine p_callVi G dX3_moveTold_14 lk_X3_69 (c_X3_isWord (gl Γ) hc) (As := [.ref (gk Γ 4)]) (ci := 5) rfl rfl rfl rfl (Nat.le_of_ble_eq_true rfl) ⟨rfl, rfl, Nat.le_of_ble_eq_true rfl, Nat.le_of_ble_eq_true rfl⟩ hcs ?_
    refine p_ifeq (tgt := 22) G dX3_moveTold_17 (by decide) h (fun c9 h => ?_) (fun c9 h => ?_)
    · refine p_aload_n G rfl 0 rfl dX3_moveTold_22 ?_
      refine p_ldcS G 9 (by decide) rfl rfl dX3_moveTold_23 rfl ?_
      obtain ⟨v3, hc, h⟩ := bnd_some h
      refine p_callVi G dX3_moveTold_25 lk_X3_69 (c_X3_isWord (gl Γ) hc) (As := [.ref (gk Γ 5)]) (ci := 5) rfl rfl rfl rfl (Nat.le_of_ble_eq_true rfl) ⟨rfl, rfl, Nat.le_of_ble_eq_true rfl, Nat.le_of_ble_eq_true rfl⟩ hcs ?_
      refine p_ifeq (tgt := 33) G dX3_moveTold_28 (by decide) h (fun c8 h => ?_) (fun c8 h => ?_)
      · refine p_aload_n G rfl 0 rfl dX3_moveTold_33 ?_
        refine p_ldcS G 10 (by decide) rfl rfl dX3_moveTold_34 rfl ?_
        obtain ⟨v4, hc, h⟩ := bnd_some h
        refine p_callVi G dX3_moveTold_36 lk_X3_69 (c_X3_isWord (gl Γ) hc) (As := [.ref (gk Γ 6)]) (ci := 5) rfl rfl rfl rfl (Nat.le_of_ble_eq_true rfl) ⟨rfl, rfl, Nat.le_of_ble_eq_true rfl, Nat.le_of_ble_eq_true rfl⟩ hcs ?_
        refine p_ifeq (tgt := 44) G dX3_moveTold_39 (by decide) h (fun c7 h => ?_) (fun c7 h => ?_)
        · refine p_aload_n G rfl 0 rfl dX3_moveTold_44 ?_
          refine p_ldcS G 11 (by decide) rfl rfl dX3_moveTold_45 rfl ?_
          obtain ⟨v5, hc, h⟩ := bnd_some h
          refine p_callVi G dX3_moveTold_47 lk_X3_69 (c_X3_isWord (gl Γ) hc) (As := [.ref (gk Γ 7)]) (ci := 5) rfl rfl rfl rfl (Nat.le_of_ble_eq_true rfl) ⟨rfl, rfl, Nat.le_of_ble_eq_true rfl, Nat.le_of_ble_eq_true rfl⟩ hcs ?_
          refine p_ifeq (tgt := 57) G dX3_moveTold_50 (by decide) h (fun c6 h => ?_) (fun c6 h => ?_)
          · refine p_iconst G rfl dX3_moveTold_57 ?_
            (cases h; exact p_iret G hR dX3_moveTold_58 rfl rfl)
          · refine p_iconst G rfl dX3_moveTold_53 ?_
            refine p_goto (tgt := 58) G dX3_moveTold_54 (by decide) ?_
            (cases h; exact p_iret G hR dX3_moveTold_58 rfl rfl)
        · refine p_iconst G rfl dX3_moveTold_42 ?_
          (cases h; exact p_iret G hR dX3_moveTold_43 rfl rfl)
      · refine p_iconst G rfl dX3_moveTold_31 ?_
        (cases h; exact p_iret G hR dX3_moveTold_32 rfl rfl)
    · refine p_iconst G rfl dX3_moveTold_20 ?_
      (cases h; exact p_iret G hR dX3_moveTold_21 rfl rfl)
  · refine p_iconst G rfl dX3_moveTold_9 ?_
    (cases h; exact p_iret G hR dX3_moveTold_10 rfl rfl)
set_option maxHeartbeats 4000000 in
set_option maxRecDepth 100000 in
theorem c_X3_readHeldCard (l : Launch) {D : va_G} {yy : Nat → ClassId} {tk tv a : Nat → Nat} {σ : Mm} {o : Mm × Int} (h : x_X3_readHeldCard σ = some o) : CT l yX3_readHeldCard cX3_readHeldCard 3 (some .int) rm_X3_readHeldCard shRM D yy tk tv a σ [.ref (a 0), .ref (a 3)] o.1 (some (.int (zJ o.2))) := by
  refine ct_of (Ar := fun a tk => [.ref (a 0), .ref (a 3)]) (by decide) (Nat.le_of_ble_eq_true rfl) (fun Γ G _ _ hR => ?_)
  have hcs := rt_cs hR
  unfold x_X3_readHeldCard at h
  refine (?_ : PT Γ 3 shRM 0 σ [(0, .ref (ga Γ 0)), (1, .ref (ga Γ 3))] [])
  refine p_aload_n G rfl 0 rfl dX3_readHeldCard_0 ?_
  refine p_iconst G rfl dX3_readHeldCard_1 ?_
  refine p_bipush G (by decide) (by decide) dX3_readHeldCard_2 ?_
  obtain ⟨⟨σ1, v2⟩, hc, h⟩ := bnd_some h
  rw [un2_mk] at h
  refine p_callV G zl_13 dX3_readHeldCard_4 lk_X3_78 (c_X3_readNumber (gl Γ) hc) (As := [.int (zJ (0 : Int)), .int (zJ (51 : Int))]) (ci := 5) rfl zk_13 (zs_x zs_13 _) rfl rfl rfl (Nat.le_of_ble_eq_true rfl) ⟨rfl, rfl, Nat.le_of_ble_eq_true rfl, Nat.le_of_ble_eq_true rfl⟩ hcs ?_
  refine p_nm h (fun σ3 h => ?_)
  refine p_istore_nU (lv' := [(2, .int (zJ v2)), (0, .ref (ga Γ 0)), (1, .ref (ga Γ 3))]) G rfl dX3_readHeldCard_7 (by decide) rfl ?_
  refine p_iload_n G rfl 0 rfl dX3_readHeldCard_8 ?_
  refine p_ifne (tgt := 36) G dX3_readHeldCard_9 (by decide) h (fun c8 h => ?_) (fun c8 h => ?_)
  · refine p_iload_n G rfl 0 rfl dX3_readHeldCard_36 ?_
    (cases h; exact p_iret G hR dX3_readHeldCard_37 rfl rfl)
  · refine p_aload_n G rfl 2 rfl dX3_readHeldCard_12 ?_
    refine p_aload_n G rfl 2 rfl dX3_readHeldCard_13 ?_
    refine p_get G dX3_readHeldCard_14 fl_X3_148 (k := 3) rfl rfl ?_
    obtain ⟨v4, hc, h⟩ := bnd_some h
    refine p_callVr G zl_15 dX3_readHeldCard_17 lk_X3_151 (c_X2_handOf (gl Γ) hc) (As := [.int (zJ (σ3 3 5))]) (ci := 4) rfl zk_15 (zs_x zs_15 _) rfl rfl rfl (Nat.le_of_ble_eq_true rfl) ⟨rfl, rfl, Nat.le_of_ble_eq_true rfl, Nat.le_of_ble_eq_true rfl⟩ hcs ?_
    refine p_aload_n G rfl 1 rfl dX3_readHeldCard_20 ?_
    refine p_get G dX3_readHeldCard_21 fl_X3_82 (k := 0) rfl rfl ?_
    obtain ⟨v5, hc, h⟩ := bnd_some h
    refine p_callS0 G dX3_readHeldCard_24 lk_X3_106 (c_X6_has (gl Γ) hc) (As := [.long v4, .int (zJ (σ3 0 5))]) rfl zk_14 rfl (Nat.le_of_ble_eq_true rfl) ⟨rfl, rfl, Nat.le_of_ble_eq_true rfl, Nat.le_of_ble_eq_true rfl⟩ hcs ?_
    refine p_ifne (tgt := 36) G dX3_readHeldCard_27 (by decide) h (fun c7 h => ?_) (fun c7 h => ?_)
    · refine p_iload_n G rfl 0 rfl dX3_readHeldCard_36 ?_
      (cases h; exact p_iret G hR dX3_readHeldCard_37 rfl rfl)
    · refine p_aload_n G rfl 1 rfl dX3_readHeldCard_30 ?_
      refine p_iconst G rfl dX3_readHeldCard_31 ?_
      obtain ⟨v6, hc, h⟩ := bnd_some h
      refine p_callVr G zl_13 dX3_readHeldCard_32 lk_X3_73 (c_X3_errorAs (gl Γ) hc) (As := [.int (zJ (3 : Int))]) (ci := 5) rfl zk_13 (zs_x zs_13 _) rfl rfl rfl (Nat.le_of_ble_eq_true rfl) ⟨rfl, rfl, Nat.le_of_ble_eq_true rfl, Nat.le_of_ble_eq_true rfl⟩ hcs ?_
      refine p_istore_nU (lv' := [(2, .int (zJ v6)), (0, .ref (ga Γ 0)), (1, .ref (ga Γ 3))]) G rfl dX3_readHeldCard_35 (by decide) rfl ?_
      refine p_iload_n G rfl 0 rfl dX3_readHeldCard_36 ?_
      (cases h; exact p_iret G hR dX3_readHeldCard_37 rfl rfl)
set_option maxHeartbeats 4000000 in
set_option maxRecDepth 100000 in
theorem c_X5_addOne (l : Launch) {D : va_G} {yy : Nat → ClassId} {tk tv a : Nat → Nat} {σ : Mm} {p1 : Int64} {o : Mm × Int} (h : x_X5_addOne σ p1 = some o) : CT l yX5_addOne cX5_addOne 5 (some .int) rm_X5_addOne shD D yy tk tv a σ [.ref (a 0), .long p1] o.1 (some (.int (zJ o.2))) := by
  refine ct_of (Ar := fun a tk => [.ref (a 0), .long p1]) (by decide) (Nat.le_of_ble_eq_true rfl) (fun Γ G _ _ hR => ?_)
  have hcs := rt_cs hR
  unfold x_X5_addOne at h
  refine (?_ : PT Γ 5 shD 0 σ [(0, .ref (ga Γ 0)), (1, .long p1)] [])
  refine p_iconst G rfl dX5_addOne_0 ?_
  refine p_istore_nU (lv' := [(3, .int (zJ (0 : Int))), (0, .ref (ga Γ 0)), (1, .long p1)]) G rfl dX5_addOne_1 (by decide) rfl ?_
  refine p_lv [1, 2, 0] rfl ?_
  obtain ⟨e15, hl2, h⟩ := bnd_some h
  have hX2_51 : ∀ (v16 : Int) (v17 : Int), (.inl (v16, v17)) = e15 → PT Γ 5 shD 51 σ [(0, .ref (ga Γ 0)), (3, .int (zJ v16)), (4, .int (zJ v17))] [] := by
    intro v16 v17 he
    subst he
    rw [zel_l] at h
    rw [un2_mk] at h
    refine p_aload_n G rfl 0 rfl dX5_addOne_51 ?_
    refine p_get G dX5_addOne_52 fl_X5_12 (k := 0) rfl rfl ?_
    refine p_iload G 2 rfl dX5_addOne_55 ?_
    refine p_iload_n G rfl 1 rfl dX5_addOne_57 ?_
    obtain ⟨σ18, hc, h⟩ := bnd_some h
    refine p_callV G zl_16 dX5_addOne_58 lk_X5_68 (c_X1_widen (gl Γ) hc) (As := [.int (zJ v17), .int (zJ v16)]) (ci := 3) rfl zk_16 (zs_x zs_16 _) rfl rfl rfl (Nat.le_of_ble_eq_true rfl) ⟨rfl, rfl, Nat.le_of_ble_eq_true rfl, Nat.le_of_ble_eq_true rfl⟩ hcs ?_
    refine p_nm h (fun σ19 h => ?_)
    refine p_iload_n G rfl 1 rfl dX5_addOne_61 ?_
    (cases h; exact p_iret G hR dX5_addOne_62 rfl rfl)
  have hX2_75 : ∀ (_ : Unit), (.inr ()) = e15 → PT Γ 5 shD 75 σ [] [] := by
    intro _ he
    subst he
    rw [zel_r] at h
    refine p_iconst G rfl dX5_addOne_75 ?_
    (cases h; exact p_iret G hR dX5_addOne_76 rfl rfl)
  refine lup_walk (s := (0 : Int)) (At := fun s : Int => PT Γ 5 shD 2 σ [(0, .ref (ga Γ 0)), (1, .long p1), (3, .int (zJ s))] []) (fun u3_2 r hf hin2 hout2 => ?_) hl2
  have h : x_X5_addOne_b2 σ p1 u3_2 = some r := hf
  clear hf
  unfold x_X5_addOne_b2 at h
  refine (?_ : PT Γ 5 shD 2 σ [(0, .ref (ga Γ 0)), (1, .long p1), (3, .int (zJ u3_2))] [])
  refine p_iload_n G rfl 2 rfl dX5_addOne_2 ?_
  refine p_bipush G (by decide) (by decide) dX5_addOne_3 ?_
  refine p_icmpge (tgt := 75) G dX5_addOne_5 (by decide) h (fun c13 h => ?_) (fun c13 h => ?_)
  · refine p_lv [] rfl ?_
    have he := hout2 _ (Option.some.inj h).symm
    subst he
    exact hX2_75 () rfl
  · refine p_iconst G rfl dX5_addOne_8 ?_
    refine p_istoreU (lv' := [(4, .int (zJ (0 : Int))), (0, .ref (ga Γ 0)), (1, .long p1), (3, .int (zJ u3_2))]) G dX5_addOne_9 (by decide) rfl ?_
    refine p_lv [1, 2, 3, 0] rfl ?_
    obtain ⟨e10, hl11, h⟩ := bnd_some h
    have hX11_51 : ∀ (v11 : Int), (.inl v11) = e10 → PT Γ 5 shD 51 σ [(0, .ref (ga Γ 0)), (3, .int (zJ u3_2)), (4, .int (zJ v11))] [] := by
      intro v11 he
      subst he
      rw [zel_l] at h
      have he := hout2 _ (Option.some.inj h).symm
      subst he
      exact hX2_51 _ _ rfl
    have hX11_69 : ∀ (_ : Unit), (.inr ()) = e10 → PT Γ 5 shD 69 σ [(0, .ref (ga Γ 0)), (1, .long p1), (3, .int (zJ u3_2))] [] := by
      intro _ he
      subst he
      rw [zel_r] at h
      refine p_iinc (lv' := fun v12 => [(3, .int (zJ v12)), (0, .ref (ga Γ 0)), (1, .long p1)]) G dX5_addOne_69 h 2 rfl (by decide) (fun _ => rfl) (fun v12 h => ?_)
      refine p_goto (tgt := 2) G dX5_addOne_72 (by decide) ?_
      refine p_lv [1, 2, 0] rfl ?_
      exact hin2 _ (Option.some.inj h).symm
    refine lup_walk (s := (0 : Int)) (At := fun s : Int => PT Γ 5 shD 11 σ [(0, .ref (ga Γ 0)), (1, .long p1), (3, .int (zJ u3_2)), (4, .int (zJ s))] []) (fun u4_11 r hf hin11 hout11 => ?_) hl11
    have h : x_X5_addOne_b11 σ p1 u3_2 u4_11 = some r := hf
    clear hf
    unfold x_X5_addOne_b11 at h
    refine (?_ : PT Γ 5 shD 11 σ [(0, .ref (ga Γ 0)), (1, .long p1), (3, .int (zJ u3_2)), (4, .int (zJ u4_11))] [])
    refine p_iload G 3 rfl dX5_addOne_11 ?_
    refine p_aload_n G rfl 0 rfl dX5_addOne_13 ?_
    refine p_get G dX5_addOne_14 fl_X5_12 (k := 0) rfl rfl ?_
    refine p_get G dX5_addOne_17 fl_X5_55 (k := 1) rfl rfl ?_
    refine p_icmpge (tgt := 69) G dX5_addOne_20 (by decide) h (fun c8 h => ?_) (fun c8 h => ?_)
    · refine p_lv [0, 1, 2] rfl ?_
      have he := hout11 _ (Option.some.inj h).symm
      subst he
      exact hX11_69 () rfl
    · refine p_lload_n G rfl 1 rfl dX5_addOne_23 ?_
      refine p_iload_n G rfl 2 rfl dX5_addOne_24 ?_
      obtain ⟨v1, hc, h⟩ := bnd_some h
      refine p_callS0 G dX5_addOne_25 lk_X5_58 (c_X6_has (gl Γ) hc) (As := [.long p1, .int (zJ u3_2)]) rfl zk_17 rfl (Nat.le_of_ble_eq_true rfl) ⟨rfl, rfl, Nat.le_of_ble_eq_true rfl, Nat.le_of_ble_eq_true rfl⟩ hcs ?_
      refine p_ifeq (tgt := 69) G dX5_addOne_28 (by decide) h (fun c7 h => ?_) (fun c7 h => ?_)
      · refine p_lv [0, 1, 2] rfl ?_
        have he := hout11 _ (Option.some.inj h).symm
        subst he
        exact hX11_69 () rfl
      · refine p_aload_n G rfl 0 rfl dX5_addOne_31 ?_
        refine p_get G dX5_addOne_32 fl_X5_12 (k := 0) rfl rfl ?_
        refine p_iload G 3 rfl dX5_addOne_35 ?_
        obtain ⟨v2, hc, h⟩ := bnd_some h
        refine p_callVr G zl_16 dX5_addOne_37 lk_X5_62 (c_X1_foundAt (gl Γ) hc) (As := [.int (zJ u4_11)]) (ci := 3) rfl zk_16 (zs_x zs_16 _) rfl rfl rfl (Nat.le_of_ble_eq_true rfl) ⟨rfl, rfl, Nat.le_of_ble_eq_true rfl, Nat.le_of_ble_eq_true rfl⟩ hcs ?_
        refine p_iload_n G rfl 2 rfl dX5_addOne_40 ?_
        obtain ⟨v3, hc, h⟩ := bnd_some h
        refine p_callS0 G dX5_addOne_41 lk_X5_43 (c_X6_bitOf (gl Γ) hc) (As := [.int (zJ u3_2)]) rfl zk_17 rfl (Nat.le_of_ble_eq_true rfl) ⟨rfl, rfl, Nat.le_of_ble_eq_true rfl, Nat.le_of_ble_eq_true rfl⟩ hcs ?_
        refine p_lor G dX5_addOne_44 ?_
        obtain ⟨v4, hc, h⟩ := bnd_some h
        refine p_callS0 G dX5_addOne_45 lk_X5_65 (c_X6_kindOf (gl Γ) hc) (As := [.long (v2 ||| v3)]) rfl zk_17 rfl (Nat.le_of_ble_eq_true rfl) ⟨rfl, rfl, Nat.le_of_ble_eq_true rfl, Nat.le_of_ble_eq_true rfl⟩ hcs ?_
        refine p_ifeq (tgt := 63) G dX5_addOne_48 (by decide) h (fun c6 h => ?_) (fun c6 h => ?_)
        · refine p_iinc (lv' := fun v5 => [(4, .int (zJ v5)), (0, .ref (ga Γ 0)), (1, .long p1), (3, .int (zJ u3_2))]) G dX5_addOne_63 h 3 rfl (by decide) (fun _ => rfl) (fun v5 h => ?_)
          refine p_goto (tgt := 11) G dX5_addOne_66 (by decide) ?_
          refine p_lv [1, 2, 3, 0] rfl ?_
          exact hin11 _ (Option.some.inj h).symm
        · refine p_lv [0, 2, 3] rfl ?_
          have he := hout11 _ (Option.some.inj h).symm
          subst he
          exact hX11_51 _ rfl
set_option maxHeartbeats 4000000 in
set_option maxRecDepth 100000 in
theorem c_X5_settle (l : Launch) {D : va_G} {yy : Nat → ClassId} {tk tv a : Nat → Nat} {σ : Mm} {p1 : Int64} {p3 : Int64} {o : Mm} (h : x_X5_settle σ p1 p3 = some o) : CT l yX5_settle cX5_settle 9 none rm_X5_settle shD D yy tk tv a σ [.ref (a 0), .long p1, .long p3] o none := by
  refine ct_of (Ar := fun a tk => [.ref (a 0), .long p1, .long p3]) (by decide) (Nat.le_of_ble_eq_true rfl) (fun Γ G _ _ hR => ?_)
  have hcs := rt_cs hR
  unfold x_X5_settle at h
  refine (?_ : PT Γ 9 shD 0 σ [(0, .ref (ga Γ 0)), (1, .long p1), (3, .long p3)] [])
  refine p_aload_n G rfl 0 rfl dX5_settle_0 ?_
  refine p_get G dX5_settle_1 fl_X5_12 (k := 0) rfl rfl ?_
  refine p_lload_n G rfl 1 rfl dX5_settle_4 ?_
  obtain ⟨σ1, hc, h⟩ := bnd_some h
  refine p_callV G zl_16 dX5_settle_5 lk_X5_21 (c_X1_lay (gl Γ) hc) (As := [.long p1]) (ci := 3) rfl zk_16 (zs_x zs_16 _) rfl rfl rfl (Nat.le_of_ble_eq_true rfl) ⟨rfl, rfl, Nat.le_of_ble_eq_true rfl, Nat.le_of_ble_eq_true rfl⟩ hcs ?_
  refine p_nm h (fun σ2 h => ?_)
  refine p_aload_n G rfl 0 rfl dX5_settle_8 ?_
  refine p_get G dX5_settle_9 fl_X5_18 (k := 0) rfl rfl ?_
  refine p_lload_n G rfl 2 rfl dX5_settle_12 ?_
  obtain ⟨σ3, hc, h⟩ := bnd_some h
  refine p_callV G zl_18 dX5_settle_13 lk_X5_21 (c_X1_lay (gl Γ) hc) (As := [.long p3]) (ci := 3) rfl zk_18 (zs_x zs_18 _) rfl rfl rfl (Nat.le_of_ble_eq_true rfl) ⟨rfl, rfl, Nat.le_of_ble_eq_true rfl, Nat.le_of_ble_eq_true rfl⟩ hcs ?_
  refine p_nm h (fun σ4 h => ?_)
  refine p_aload_n G rfl 0 rfl dX5_settle_16 ?_
  refine p_aload_n G rfl 0 rfl dX5_settle_17 ?_
  refine p_get G dX5_settle_18 fl_X5_12 (k := 0) rfl rfl ?_
  refine p_get G dX5_settle_21 fl_X5_25 (k := 1) rfl rfl ?_
  refine p_putI G dX5_settle_24 fp_X5_29 (k := 0) rfl rfl rfl rfl h (fun σ5 h => ?_)
  refine p_aload_n G rfl 0 rfl dX5_settle_27 ?_
  refine p_iconst G rfl dX5_settle_28 ?_
  refine p_putI G dX5_settle_29 fp_X5_32 (k := 0) rfl rfl rfl rfl h (fun σ6 h => ?_)
  refine p_aload_n G rfl 0 rfl dX5_settle_32 ?_
  refine p_get G dX5_settle_33 fl_X5_18 (k := 0) rfl rfl ?_
  refine p_get G dX5_settle_36 fl_X5_35 (k := 8) rfl rfl ?_
  refine p_lstore (lv' := fun v7 => [(5, .long v7), (0, .ref (ga Γ 0)), (1, .long p1), (3, .long p3)]) G dX5_settle_39 h (by decide) (fun _ => rfl) (fun v7 h => ?_)
  refine p_iconst G rfl dX5_settle_41 ?_
  refine p_istoreU (lv' := [(7, .int (zJ (0 : Int))), (5, .long v7), (0, .ref (ga Γ 0)), (1, .long p1), (3, .long p3)]) G dX5_settle_42 (by decide) rfl ?_
  refine p_lv [2, 1, 0] rfl ?_
  obtain ⟨e18, hl44, h⟩ := bnd_some h
  have hX44_72 : ∀ (σ19 : Mm) (v20 : Int64), (.inl (σ19, v20)) = e18 → PT Γ 9 shD 72 σ19 [(0, .ref (ga Γ 0)), (5, .long v20)] [] := by
    intro σ19 v20 he
    subst he
    rw [zel_l] at h
    rw [un2_mk] at h
    refine p_goto (tgt := 105) G dX5_settle_72 (by decide) ?_
    refine p_aload_n G rfl 0 rfl dX5_settle_105 ?_
    refine p_lload G 1 rfl dX5_settle_106 ?_
    obtain ⟨v21, hc, h⟩ := bnd_some h
    refine p_callS0 G dX5_settle_108 lk_X5_49 (c_X6_pointsOf (gl Γ) hc) (As := [.long v20]) rfl zk_17 rfl (Nat.le_of_ble_eq_true rfl) ⟨rfl, rfl, Nat.le_of_ble_eq_true rfl, Nat.le_of_ble_eq_true rfl⟩ hcs ?_
    refine p_putI G dX5_settle_111 fp_X5_52 (k := 0) rfl rfl rfl rfl h (fun σ22 h => ?_)
    (cases h; exact p_vret G hR dX5_settle_114 rfl rfl)
  have hX44_105 : ∀ (σ23 : Mm) (v24 : Int64), (.inr (σ23, v24)) = e18 → PT Γ 9 shD 105 σ23 [(0, .ref (ga Γ 0)), (5, .long v24)] [] := by
    intro σ23 v24 he
    subst he
    rw [zel_r] at h
    rw [un2_mk] at h
    refine p_aload_n G rfl 0 rfl dX5_settle_105 ?_
    refine p_lload G 1 rfl dX5_settle_106 ?_
    obtain ⟨v25, hc, h⟩ := bnd_some h
    refine p_callS0 G dX5_settle_108 lk_X5_49 (c_X6_pointsOf (gl Γ) hc) (As := [.long v24]) rfl zk_17 rfl (Nat.le_of_ble_eq_true rfl) ⟨rfl, rfl, Nat.le_of_ble_eq_true rfl, Nat.le_of_ble_eq_true rfl⟩ hcs ?_
    refine p_putI G dX5_settle_111 fp_X5_52 (k := 0) rfl rfl rfl rfl h (fun σ26 h => ?_)
    (cases h; exact p_vret G hR dX5_settle_114 rfl rfl)
  refine lup_walk (s := (σ6, v7, (0 : Int))) (At := fun s : Mm × Int64 × Int => PT Γ 9 shD 44 s.1 [(0, .ref (ga Γ 0)), (5, .long s.2.1), (7, .int (zJ s.2.2))] []) (fun s r hf hin44 hout44 => ?_) hl44
  obtain ⟨σ44, u5_44, u7_44⟩ := s
  have h : x_X5_settle_b44 σ44 u5_44 u7_44 = some r := hf
  clear hf
  unfold x_X5_settle_b44 at h
  refine (?_ : PT Γ 9 shD 44 σ44 [(0, .ref (ga Γ 0)), (5, .long u5_44), (7, .int (zJ u7_44))] [])
  refine p_iload G 2 rfl dX5_settle_44 ?_
  refine p_bipush G (by decide) (by decide) dX5_settle_46 ?_
  refine p_icmpge (tgt := 105) G dX5_settle_48 (by decide) h (fun c16 h => ?_) (fun c16 h => ?_)
  · refine p_lv [0, 1] rfl ?_
    have he := hout44 _ (Option.some.inj h).symm
    subst he
    exact hX44_105 _ _ rfl
  · refine p_aload_n G rfl 0 rfl dX5_settle_51 ?_
    refine p_get G dX5_settle_52 fl_X5_29 (k := 0) rfl rfl ?_
    refine p_ifle (tgt := 105) G dX5_settle_55 (by decide) h (fun c15 h => ?_) (fun c15 h => ?_)
    · refine p_lv [0, 1] rfl ?_
      have he := hout44 _ (Option.some.inj h).symm
      subst he
      exact hX44_105 _ _ rfl
    · refine p_aload_n G rfl 0 rfl dX5_settle_58 ?_
      refine p_lload G 1 rfl dX5_settle_59 ?_
      obtain ⟨⟨σ8, v9⟩, hc, h⟩ := bnd_some h
      rw [un2_mk] at h
      refine p_callVi G dX5_settle_61 lk_X5_39 (c_X5_addOne (gl Γ) hc) (As := [.long u5_44]) (ci := 7) rfl rfl rfl rfl (Nat.le_of_ble_eq_true rfl) ⟨rfl, rfl, Nat.le_of_ble_eq_true rfl, Nat.le_of_ble_eq_true rfl⟩ hcs ?_
      refine p_istoreU (lv' := [(8, .int (zJ v9)), (0, .ref (ga Γ 0)), (5, .long u5_44), (7, .int (zJ u7_44))]) G dX5_settle_64 (by decide) rfl ?_
      refine p_iload G 0 rfl dX5_settle_66 ?_
      refine p_iconst G rfl dX5_settle_68 ?_
      refine p_icmpne (tgt := 75) G dX5_settle_69 (by decide) h (fun c14 h => ?_) (fun c14 h => ?_)
      · refine p_lload G 2 rfl dX5_settle_75 ?_
        refine p_iload G 0 rfl dX5_settle_77 ?_
        obtain ⟨v10, hc, h⟩ := bnd_some h
        refine p_callS0 G dX5_settle_79 lk_X5_43 (c_X6_bitOf (gl Γ) hc) (As := [.int (zJ v9)]) rfl zk_17 rfl (Nat.le_of_ble_eq_true rfl) ⟨rfl, rfl, Nat.le_of_ble_eq_true rfl, Nat.le_of_ble_eq_true rfl⟩ hcs ?_
        refine p_ldc2 G gm_910 dX5_settle_82 ?_
        refine p_lxor G dX5_settle_85 ?_
        refine p_land G dX5_settle_86 ?_
        refine p_lstore (lv' := fun v11 => [(5, .long v11), (8, .int (zJ v9)), (0, .ref (ga Γ 0)), (7, .int (zJ u7_44))]) G dX5_settle_87 h (by decide) (fun _ => rfl) (fun v11 h => ?_)
        refine p_aload_n G rfl 2 rfl dX5_settle_89 ?_
        refine p_dup G rfl dX5_settle_90 ?_
        refine p_get G dX5_settle_91 fl_X5_32 (k := 0) rfl rfl ?_
        refine p_iconst G rfl dX5_settle_94 ?_
        refine p_iadd G dX5_settle_95 ?_
        refine p_putI G dX5_settle_96 fp_X5_32 (k := 0) rfl rfl rfl rfl h (fun σ12 h => ?_)
        refine p_iinc (lv' := fun v13 => [(7, .int (zJ v13)), (5, .long v11), (8, .int (zJ v9)), (0, .ref (ga Γ 0))]) G dX5_settle_99 h 3 rfl (by decide) (fun _ => rfl) (fun v13 h => ?_)
        refine p_goto (tgt := 44) G dX5_settle_102 (by decide) ?_
        refine p_lv [3, 1, 0] rfl ?_
        exact hin44 _ (Option.some.inj h).symm
      · refine p_lv [1, 2] rfl ?_
        have he := hout44 _ (Option.some.inj h).symm
        subst he
        exact hX44_72 _ _ rfl
set_option maxHeartbeats 4000000 in
set_option maxRecDepth 100000 in
theorem c_X5_gain (l : Launch) {D : va_G} {yy : Nat → ClassId} {tk tv a : Nat → Nat} {σ : Mm} {o : Int} (h : x_X5_gain σ = some o) : CT l yX5_gain cX5_gain 1 (some .int) rm_X5_gain shD D yy tk tv a σ [.ref (a 0)] σ (some (.int (zJ o))) := by
  refine ct_of (Ar := fun a tk => [.ref (a 0)]) (by decide) (Nat.le_of_ble_eq_true rfl) (fun Γ G _ _ hR => ?_)
  have hcs := rt_cs hR
  unfold x_X5_gain at h
  refine (?_ : PT Γ 1 shD 0 σ [(0, .ref (ga Γ 0))] [])
  refine p_aload_n G rfl 0 rfl dX5_gain_0 ?_
  refine p_get G dX5_gain_1 fl_X5_29 (k := 0) rfl rfl ?_
  refine p_ifne (tgt := 15) G dX5_gain_4 (by decide) h (fun c2 h => ?_) (fun c2 h => ?_)
  · refine p_aload_n G rfl 0 rfl dX5_gain_15 ?_
    refine p_get G dX5_gain_16 fl_X5_29 (k := 0) rfl rfl ?_
    refine p_aload_n G rfl 0 rfl dX5_gain_19 ?_
    refine p_get G dX5_gain_20 fl_X5_52 (k := 0) rfl rfl ?_
    refine p_icmpge (tgt := 38) G dX5_gain_23 (by decide) h (fun c1 h => ?_) (fun c1 h => ?_)
    · refine p_aload_n G rfl 0 rfl dX5_gain_38 ?_
      refine p_get G dX5_gain_39 fl_X5_52 (k := 0) rfl rfl ?_
      refine p_aload_n G rfl 0 rfl dX5_gain_42 ?_
      refine p_get G dX5_gain_43 fl_X5_29 (k := 0) rfl rfl ?_
      refine p_isub G dX5_gain_46 ?_
      refine p_bipush G (by decide) (by decide) dX5_gain_47 ?_
      refine p_isub G dX5_gain_49 ?_
      (cases h; exact p_iret G hR dX5_gain_50 rfl rfl)
    · refine p_aload_n G rfl 0 rfl dX5_gain_26 ?_
      refine p_get G dX5_gain_27 fl_X5_52 (k := 0) rfl rfl ?_
      refine p_aload_n G rfl 0 rfl dX5_gain_30 ?_
      refine p_get G dX5_gain_31 fl_X5_29 (k := 0) rfl rfl ?_
      refine p_isub G dX5_gain_34 ?_
      refine p_goto (tgt := 50) G dX5_gain_35 (by decide) ?_
      (cases h; exact p_iret G hR dX5_gain_50 rfl rfl)
  · refine p_aload_n G rfl 0 rfl dX5_gain_7 ?_
    refine p_get G dX5_gain_8 fl_X5_52 (k := 0) rfl rfl ?_
    refine p_bipush G (by decide) (by decide) dX5_gain_11 ?_
    refine p_iadd G dX5_gain_13 ?_
    (cases h; exact p_iret G hR dX5_gain_14 rfl rfl)
set_option maxHeartbeats 4000000 in
set_option maxRecDepth 100000 in
theorem c_X3_play (l : Launch) {D : va_G} {yy : Nat → ClassId} {tk tv a : Nat → Nat} {σ : Mm} {p1 : Int} {p2 : Int} {o : Mm × Int} (h : x_X3_play σ p1 p2 = some o) : CT l yX3_play cX3_play 5 (some .boolean) rm_X3_play shMD D yy tk tv a σ [.ref (a 0), .int (zJ p1), .int (zJ p2), .ref (a 5)] o.1 (some (.int (zJ o.2))) := by
  refine ct_of (Ar := fun a tk => [.ref (a 0), .int (zJ p1), .int (zJ p2), .ref (a 5)]) (by decide) (Nat.le_of_ble_eq_true rfl) (fun Γ G _ _ hR => ?_)
  have hcs := rt_cs hR
  unfold x_X3_play at h
  refine (?_ : PT Γ 5 shMD 0 σ [(0, .ref (ga Γ 0)), (1, .int (zJ p1)), (2, .int (zJ p2)), (3, .ref (ga Γ 5))] [])
  refine p_iload_n G rfl 1 rfl dX3_play_0 ?_
  refine zite h (fun c0_1 h => ?_) (fun c0_1 h => ?_)
  · refine p_tin (tgt := 28) (off := 27) G dX3_play_1 c0_1 (by decide) (by decide) rfl (by decide) ?_
    refine p_aload_n G rfl 0 rfl dX3_play_28 ?_
    refine p_iload_n G rfl 2 rfl dX3_play_29 ?_
    obtain ⟨v1, hc, h⟩ := bnd_some h
    refine p_callVr G zl_19 dX3_play_30 lk_X3_154 (c_X2_reasonAgainstDrop (gl Γ) hc) (As := [.int (zJ p2)]) (ci := 4) rfl zk_19 (zs_x zs_19 _) rfl rfl rfl (Nat.le_of_ble_eq_true rfl) ⟨rfl, rfl, Nat.le_of_ble_eq_true rfl, Nat.le_of_ble_eq_true rfl⟩ hcs ?_
    refine p_istoreU (lv' := [(4, .int (zJ v1)), (0, .ref (ga Γ 0)), (1, .int (zJ p1)), (2, .int (zJ p2)), (3, .ref (ga Γ 5))]) G dX3_play_33 (by decide) rfl ?_
    refine p_iload G 0 rfl dX3_play_35 ?_
    refine p_ifne (tgt := 133) G dX3_play_37 (by decide) h (fun c6 h => ?_) (fun c6 h => ?_)
    · refine p_iload G 0 rfl dX3_play_133 ?_
      refine p_ifne (tgt := 142) G dX3_play_135 (by decide) h (fun c2 h => ?_) (fun c2 h => ?_)
      · refine p_iconst G rfl dX3_play_142 ?_
        (cases h; exact p_zret G hR dX3_play_143 (by decide) rfl rfl)
      · refine p_iconst G rfl dX3_play_138 ?_
        refine p_goto (tgt := 143) G dX3_play_139 (by decide) ?_
        (cases h; exact p_zret G hR dX3_play_143 (by decide) rfl rfl)
    · refine p_aload_n G rfl 1 rfl dX3_play_40 ?_
      refine p_iload_n G rfl 3 rfl dX3_play_41 ?_
      obtain ⟨σ3, hc, h⟩ := bnd_some h
      refine p_callV G zl_19 dX3_play_42 lk_X3_157 (c_X2_endTurn (gl Γ) hc) (As := [.int (zJ p2)]) (ci := 4) rfl zk_19 (zs_x zs_19 _) rfl rfl rfl (Nat.le_of_ble_eq_true rfl) ⟨rfl, rfl, Nat.le_of_ble_eq_true rfl, Nat.le_of_ble_eq_true rfl⟩ hcs ?_
      refine p_nm h (fun σ4 h => ?_)
      refine p_goto (tgt := 133) G dX3_play_45 (by decide) ?_
      refine p_iload G 0 rfl dX3_play_133 ?_
      refine p_ifne (tgt := 142) G dX3_play_135 (by decide) h (fun c5 h => ?_) (fun c5 h => ?_)
      · refine p_iconst G rfl dX3_play_142 ?_
        (cases h; exact p_zret G hR dX3_play_143 (by decide) rfl rfl)
      · refine p_iconst G rfl dX3_play_138 ?_
        refine p_goto (tgt := 143) G dX3_play_139 (by decide) ?_
        (cases h; exact p_zret G hR dX3_play_143 (by decide) rfl rfl)
  · refine zite h (fun c1_1 h => ?_) (fun c1_1 h => ?_)
    · refine p_tin (tgt := 48) (off := 47) G dX3_play_1 c1_1 (by decide) (by decide) rfl (by decide) ?_
      refine p_aload_n G rfl 3 rfl dX3_play_48 ?_
      refine p_aload_n G rfl 0 rfl dX3_play_49 ?_
      refine p_iload_n G rfl 2 rfl dX3_play_50 ?_
      obtain ⟨v7, hc, h⟩ := bnd_some h
      refine p_callVr G zl_19 dX3_play_51 lk_X3_160 (c_X2_handWithout (gl Γ) hc) (As := [.int (zJ p2)]) (ci := 4) rfl zk_19 (zs_x zs_19 _) rfl rfl rfl (Nat.le_of_ble_eq_true rfl) ⟨rfl, rfl, Nat.le_of_ble_eq_true rfl, Nat.le_of_ble_eq_true rfl⟩ hcs ?_
      refine p_aload_n G rfl 0 rfl dX3_play_54 ?_
      obtain ⟨v8, hc, h⟩ := bnd_some h
      refine p_callVr G zl_19 dX3_play_55 lk_X3_163 (c_X2_otherHand (gl Γ) hc) (As := []) (ci := 4) rfl zk_19 (zs_x zs_19 _) rfl rfl rfl (Nat.le_of_ble_eq_true rfl) ⟨rfl, rfl, Nat.le_of_ble_eq_true rfl, Nat.le_of_ble_eq_true rfl⟩ hcs ?_
      obtain ⟨σ9, hc, h⟩ := bnd_some h
      refine p_callV G zl_20 dX3_play_58 lk_X3_167 (c_X5_settle (gl Γ) hc) (As := [.long v7, .long v8]) (ci := 7) rfl zk_20 (zs_x zs_20 _) rfl rfl rfl (Nat.le_of_ble_eq_true rfl) ⟨rfl, rfl, Nat.le_of_ble_eq_true rfl, Nat.le_of_ble_eq_true rfl⟩ hcs ?_
      refine p_nm h (fun σ10 h => ?_)
      refine p_aload_n G rfl 0 rfl dX3_play_61 ?_
      refine p_iload_n G rfl 2 rfl dX3_play_62 ?_
      refine p_aload_n G rfl 3 rfl dX3_play_63 ?_
      refine p_get G dX3_play_64 fl_X3_173 (k := 5) rfl rfl ?_
      obtain ⟨v11, hc, h⟩ := bnd_some h
      refine p_callVr G zl_19 dX3_play_67 lk_X3_176 (c_X2_reasonAgainstKnock (gl Γ) hc) (As := [.int (zJ p2), .int (zJ (σ10 5 2))]) (ci := 4) rfl zk_19 (zs_x zs_19 _) rfl rfl rfl (Nat.le_of_ble_eq_true rfl) ⟨rfl, rfl, Nat.le_of_ble_eq_true rfl, Nat.le_of_ble_eq_true rfl⟩ hcs ?_
      refine p_istoreU (lv' := [(4, .int (zJ v11)), (0, .ref (ga Γ 0)), (1, .int (zJ p1)), (2, .int (zJ p2)), (3, .ref (ga Γ 5))]) G dX3_play_70 (by decide) rfl ?_
      refine p_iload G 0 rfl dX3_play_72 ?_
      refine p_ifne (tgt := 133) G dX3_play_74 (by decide) h (fun c17 h => ?_) (fun c17 h => ?_)
      · refine p_iload G 0 rfl dX3_play_133 ?_
        refine p_ifne (tgt := 142) G dX3_play_135 (by decide) h (fun c12 h => ?_) (fun c12 h => ?_)
        · refine p_iconst G rfl dX3_play_142 ?_
          (cases h; exact p_zret G hR dX3_play_143 (by decide) rfl rfl)
        · refine p_iconst G rfl dX3_play_138 ?_
          refine p_goto (tgt := 143) G dX3_play_139 (by decide) ?_
          (cases h; exact p_zret G hR dX3_play_143 (by decide) rfl rfl)
      · refine p_aload_n G rfl 1 rfl dX3_play_77 ?_
        refine p_iload_n G rfl 3 rfl dX3_play_78 ?_
        refine p_aload_n G rfl 4 rfl dX3_play_79 ?_
        obtain ⟨v13, hc, h⟩ := bnd_some h
        refine p_callVr G zl_20 dX3_play_80 lk_X3_179 (c_X5_gain (gl Γ) hc) (As := []) (ci := 7) rfl zk_20 (zs_x zs_20 _) rfl rfl rfl (Nat.le_of_ble_eq_true rfl) ⟨rfl, rfl, Nat.le_of_ble_eq_true rfl, Nat.le_of_ble_eq_true rfl⟩ hcs ?_
        obtain ⟨σ14, hc, h⟩ := bnd_some h
        refine p_callV G zl_19 dX3_play_83 lk_X3_182 (c_X2_endRound (gl Γ) hc) (As := [.int (zJ p2), .int (zJ v13)]) (ci := 4) rfl zk_19 (zs_x zs_19 _) rfl rfl rfl (Nat.le_of_ble_eq_true rfl) ⟨rfl, rfl, Nat.le_of_ble_eq_true rfl, Nat.le_of_ble_eq_true rfl⟩ hcs ?_
        refine p_nm h (fun σ15 h => ?_)
        refine p_goto (tgt := 133) G dX3_play_86 (by decide) ?_
        refine p_iload G 0 rfl dX3_play_133 ?_
        refine p_ifne (tgt := 142) G dX3_play_135 (by decide) h (fun c16 h => ?_) (fun c16 h => ?_)
        · refine p_iconst G rfl dX3_play_142 ?_
          (cases h; exact p_zret G hR dX3_play_143 (by decide) rfl rfl)
        · refine p_iconst G rfl dX3_play_138 ?_
          refine p_goto (tgt := 143) G dX3_play_139 (by decide) ?_
          (cases h; exact p_zret G hR dX3_play_143 (by decide) rfl rfl)
    · refine zite h (fun c2_1 h => ?_) (fun c2_1 h => ?_)
      · refine p_tin (tgt := 89) (off := 88) G dX3_play_1 c2_1 (by decide) (by decide) rfl (by decide) ?_
        refine p_aload_n G rfl 0 rfl dX3_play_89 ?_
        obtain ⟨v18, hc, h⟩ := bnd_some h
        refine p_callVr G zl_19 dX3_play_90 lk_X3_186 (c_X2_reasonAgainstDeal (gl Γ) hc) (As := []) (ci := 4) rfl zk_19 (zs_x zs_19 _) rfl rfl rfl (Nat.le_of_ble_eq_true rfl) ⟨rfl, rfl, Nat.le_of_ble_eq_true rfl, Nat.le_of_ble_eq_true rfl⟩ hcs ?_
        refine p_istoreU (lv' := [(4, .int (zJ v18)), (0, .ref (ga Γ 0)), (1, .int (zJ p1)), (2, .int (zJ p2)), (3, .ref (ga Γ 5))]) G dX3_play_93 (by decide) rfl ?_
        refine p_iload G 0 rfl dX3_play_95 ?_
        refine p_ifne (tgt := 133) G dX3_play_97 (by decide) h (fun c23 h => ?_) (fun c23 h => ?_)
        · refine p_iload G 0 rfl dX3_play_133 ?_
          refine p_ifne (tgt := 142) G dX3_play_135 (by decide) h (fun c19 h => ?_) (fun c19 h => ?_)
          · refine p_iconst G rfl dX3_play_142 ?_
            (cases h; exact p_zret G hR dX3_play_143 (by decide) rfl rfl)
          · refine p_iconst G rfl dX3_play_138 ?_
            refine p_goto (tgt := 143) G dX3_play_139 (by decide) ?_
            (cases h; exact p_zret G hR dX3_play_143 (by decide) rfl rfl)
        · refine p_aload_n G rfl 1 rfl dX3_play_100 ?_
          obtain ⟨σ20, hc, h⟩ := bnd_some h
          refine p_callV G zl_19 dX3_play_101 lk_X3_189 (c_X2_beginNextRound (gl Γ) hc) (As := []) (ci := 4) rfl zk_19 (zs_x zs_19 _) rfl rfl rfl (Nat.le_of_ble_eq_true rfl) ⟨rfl, rfl, Nat.le_of_ble_eq_true rfl, Nat.le_of_ble_eq_true rfl⟩ hcs ?_
          refine p_nm h (fun σ21 h => ?_)
          refine p_goto (tgt := 133) G dX3_play_104 (by decide) ?_
          refine p_iload G 0 rfl dX3_play_133 ?_
          refine p_ifne (tgt := 142) G dX3_play_135 (by decide) h (fun c22 h => ?_) (fun c22 h => ?_)
          · refine p_iconst G rfl dX3_play_142 ?_
            (cases h; exact p_zret G hR dX3_play_143 (by decide) rfl rfl)
          · refine p_iconst G rfl dX3_play_138 ?_
            refine p_goto (tgt := 143) G dX3_play_139 (by decide) ?_
            (cases h; exact p_zret G hR dX3_play_143 (by decide) rfl rfl)
      · refine p_tout (tgt := 107) G dX3_play_1 (by omega) (by decide) ?_
        refine p_aload_n G rfl 0 rfl dX3_play_107 ?_
        obtain ⟨v24, hc, h⟩ := bnd_some h
        refine p_callVr G zl_19 dX3_play_108 lk_X3_192 (c_X2_reasonAgainstDraw (gl Γ) hc) (As := []) (ci := 4) rfl zk_19 (zs_x zs_19 _) rfl rfl rfl (Nat.le_of_ble_eq_true rfl) ⟨rfl, rfl, Nat.le_of_ble_eq_true rfl, Nat.le_of_ble_eq_true rfl⟩ hcs ?_
        refine p_istoreU (lv' := [(4, .int (zJ v24)), (0, .ref (ga Γ 0)), (1, .int (zJ p1)), (2, .int (zJ p2)), (3, .ref (ga Γ 5))]) G dX3_play_111 (by decide) rfl ?_
        refine p_iload G 0 rfl dX3_play_113 ?_
        refine p_ifne (tgt := 133) G dX3_play_115 (by decide) h (fun c35 h => ?_) (fun c35 h => ?_)
        · refine p_iload G 0 rfl dX3_play_133 ?_
          refine p_ifne (tgt := 142) G dX3_play_135 (by decide) h (fun c25 h => ?_) (fun c25 h => ?_)
          · refine p_iconst G rfl dX3_play_142 ?_
            (cases h; exact p_zret G hR dX3_play_143 (by decide) rfl rfl)
          · refine p_iconst G rfl dX3_play_138 ?_
            refine p_goto (tgt := 143) G dX3_play_139 (by decide) ?_
            (cases h; exact p_zret G hR dX3_play_143 (by decide) rfl rfl)
        · refine p_aload_n G rfl 1 rfl dX3_play_118 ?_
          refine p_iload_n G rfl 2 rfl dX3_play_119 ?_
          refine p_iconst G rfl dX3_play_120 ?_
          refine p_icmpne (tgt := 128) G dX3_play_121 (by decide) h (fun c34 h => ?_) (fun c34 h => ?_)
          · refine p_iconst G rfl dX3_play_128 ?_
            obtain ⟨⟨σ26, v27⟩, hc, h⟩ := bnd_some h
            rw [un2_mk] at h
            refine p_callV G zl_19 dX3_play_129 lk_X3_195 (c_X2_takeCard (gl Γ) hc) (As := [.int (zJ (0 : Int))]) (ci := 4) rfl zk_19 (zs_x zs_19 _) rfl rfl rfl (Nat.le_of_ble_eq_true rfl) ⟨rfl, rfl, Nat.le_of_ble_eq_true rfl, Nat.le_of_ble_eq_true rfl⟩ hcs ?_
            refine p_nm h (fun σ28 h => ?_)
            refine p_pop G rfl dX3_play_132 ?_
            refine p_iload G 0 rfl dX3_play_133 ?_
            refine p_ifne (tgt := 142) G dX3_play_135 (by decide) h (fun c29 h => ?_) (fun c29 h => ?_)
            · refine p_iconst G rfl dX3_play_142 ?_
              (cases h; exact p_zret G hR dX3_play_143 (by decide) rfl rfl)
            · refine p_iconst G rfl dX3_play_138 ?_
              refine p_goto (tgt := 143) G dX3_play_139 (by decide) ?_
              (cases h; exact p_zret G hR dX3_play_143 (by decide) rfl rfl)
          · refine p_iconst G rfl dX3_play_124 ?_
            refine p_goto (tgt := 129) G dX3_play_125 (by decide) ?_
            obtain ⟨⟨σ30, v31⟩, hc, h⟩ := bnd_some h
            rw [un2_mk] at h
            refine p_callV G zl_19 dX3_play_129 lk_X3_195 (c_X2_takeCard (gl Γ) hc) (As := [.int (zJ (1 : Int))]) (ci := 4) rfl zk_19 (zs_x zs_19 _) rfl rfl rfl (Nat.le_of_ble_eq_true rfl) ⟨rfl, rfl, Nat.le_of_ble_eq_true rfl, Nat.le_of_ble_eq_true rfl⟩ hcs ?_
            refine p_nm h (fun σ32 h => ?_)
            refine p_pop G rfl dX3_play_132 ?_
            refine p_iload G 0 rfl dX3_play_133 ?_
            refine p_ifne (tgt := 142) G dX3_play_135 (by decide) h (fun c33 h => ?_) (fun c33 h => ?_)
            · refine p_iconst G rfl dX3_play_142 ?_
              (cases h; exact p_zret G hR dX3_play_143 (by decide) rfl rfl)
            · refine p_iconst G rfl dX3_play_138 ?_
              refine p_goto (tgt := 143) G dX3_play_139 (by decide) ?_
              (cases h; exact p_zret G hR dX3_play_143 (by decide) rfl rfl)
set_option maxHeartbeats 4000000 in
set_option maxRecDepth 100000 in
theorem c_X3_readMove (l : Launch) {D : va_G} {yy : Nat → ClassId} {tk tv a : Nat → Nat} {σ : Mm} {o : Mm × Int} (h : x_X3_readMove σ = some o) : CT l yX3_readMove cX3_readMove 6 (some .int) rm_X3_readMove shRMD D yy tk tv a σ [.ref (a 0), .ref (a 3), .ref (a 8)] o.1 (some (.int (zJ o.2))) := by
  refine ct_of (Ar := fun a tk => [.ref (a 0), .ref (a 3), .ref (a 8)]) (by decide) (Nat.le_of_ble_eq_true rfl) (fun Γ G _ _ hR => ?_)
  have hcs := rt_cs hR
  unfold x_X3_readMove at h
  refine (?_ : PT Γ 6 shRMD 0 σ [(0, .ref (ga Γ 0)), (1, .ref (ga Γ 3)), (2, .ref (ga Γ 8))] [])
  have j55 : ∀ (σ_55 : Mm) (v3_55 : Int) (v4_55 : Int) (v5_55 : Int), x_X3_readMove_j55 σ_55 v3_55 v4_55 v5_55 = some o → PT Γ 6 shRMD 55 σ_55 [(0, .ref (ga Γ 0)), (1, .ref (ga Γ 3)), (2, .ref (ga Γ 8)), (3, .int (zJ v3_55)), (4, .int (zJ v4_55)), (5, .int (zJ v5_55))] [] := by
    intro σ_55 v3_55 v4_55 v5_55 h
    unfold x_X3_readMove_j55 at h
    refine p_iload G 5 rfl dX3_readMove_55 ?_
    refine p_ifeq (tgt := 63) G dX3_readMove_57 (by decide) h (fun c13 h => ?_) (fun c13 h => ?_)
    · refine p_aload_n G rfl 1 rfl dX3_readMove_63 ?_
      refine p_iload_n G rfl 3 rfl dX3_readMove_64 ?_
      refine p_iload G 4 rfl dX3_readMove_65 ?_
      refine p_aload_n G rfl 2 rfl dX3_readMove_67 ?_
      obtain ⟨⟨σ6, v7⟩, hc, h⟩ := bnd_some h
      rw [un2_mk] at h
      refine p_callS G zl_23 dX3_readMove_68 lk_X3_134 (c_X3_play (gl Γ) hc) (As := [.ref (ga Γ 3), .int (zJ v3_55), .int (zJ v4_55), .ref (ga Γ 8)]) rfl zk_23 (zs_x zs_23 _) rfl (Nat.le_of_ble_eq_true rfl) ⟨rfl, rfl, Nat.le_of_ble_eq_true rfl, Nat.le_of_ble_eq_true rfl⟩ hcs ?_
      refine p_nm h (fun σ8 h => ?_)
      refine p_ifne (tgt := 80) G dX3_readMove_71 (by decide) h (fun c12 h => ?_) (fun c12 h => ?_)
      · refine p_aload_n G rfl 0 rfl dX3_readMove_80 ?_
        obtain ⟨σ9, hc, h⟩ := bnd_some h
        refine p_callV G zl_21 dX3_readMove_81 lk_X3_64 (c_X3_advance (gl Γ) hc) (As := []) (ci := 5) rfl zk_21 (zs_x zs_21 _) rfl rfl rfl (Nat.le_of_ble_eq_true rfl) ⟨rfl, rfl, Nat.le_of_ble_eq_true rfl, Nat.le_of_ble_eq_true rfl⟩ hcs ?_
        refine p_nm h (fun σ10 h => ?_)
        refine p_iconst G rfl dX3_readMove_84 ?_
        (cases h; exact p_iret G hR dX3_readMove_85 rfl rfl)
      · refine p_aload_n G rfl 0 rfl dX3_readMove_74 ?_
        refine p_iconst G rfl dX3_readMove_75 ?_
        obtain ⟨v11, hc, h⟩ := bnd_some h
        refine p_callVr G zl_21 dX3_readMove_76 lk_X3_73 (c_X3_errorAs (gl Γ) hc) (As := [.int (zJ (4 : Int))]) (ci := 5) rfl zk_21 (zs_x zs_21 _) rfl rfl rfl (Nat.le_of_ble_eq_true rfl) ⟨rfl, rfl, Nat.le_of_ble_eq_true rfl, Nat.le_of_ble_eq_true rfl⟩ hcs ?_
        (cases h; exact p_iret G hR dX3_readMove_79 rfl rfl)
    · refine p_iload G 5 rfl dX3_readMove_60 ?_
      (cases h; exact p_iret G hR dX3_readMove_62 rfl rfl)
  have j44 : ∀ (σ_44 : Mm) (v3_44 : Int) (v4_44 : Int) (v5_44 : Int), x_X3_readMove_j44 σ_44 v3_44 v4_44 v5_44 = some o → PT Γ 6 shRMD 44 σ_44 [(0, .ref (ga Γ 0)), (1, .ref (ga Γ 3)), (2, .ref (ga Γ 8)), (3, .int (zJ v3_44)), (4, .int (zJ v4_44)), (5, .int (zJ v5_44))] [] := by
    intro σ_44 v3_44 v4_44 v5_44 h
    unfold x_X3_readMove_j44 at h
    refine p_iload G 5 rfl dX3_readMove_44 ?_
    refine p_ifne (tgt := 55) G dX3_readMove_46 (by decide) h (fun c17 h => ?_) (fun c17 h => ?_)
    · exact j55 _ _ _ _ h
    · refine p_aload_n G rfl 0 rfl dX3_readMove_49 ?_
      obtain ⟨⟨σ14, v15⟩, hc, h⟩ := bnd_some h
      rw [un2_mk] at h
      refine p_callV G zl_21 dX3_readMove_50 lk_X3_98 (c_X3_readSemicolon (gl Γ) hc) (As := []) (ci := 5) rfl zk_21 (zs_x zs_21 _) rfl rfl rfl (Nat.le_of_ble_eq_true rfl) ⟨rfl, rfl, Nat.le_of_ble_eq_true rfl, Nat.le_of_ble_eq_true rfl⟩ hcs ?_
      refine p_nm h (fun σ16 h => ?_)
      refine p_istoreU (lv' := [(5, .int (zJ v15)), (0, .ref (ga Γ 0)), (1, .ref (ga Γ 3)), (2, .ref (ga Γ 8)), (3, .int (zJ v3_44)), (4, .int (zJ v4_44))]) G dX3_readMove_53 (by decide) rfl ?_
      refine p_lv [1, 2, 3, 4, 5, 0] rfl ?_
      exact j55 _ _ _ _ h
  have j31 : ∀ (σ_31 : Mm) (v3_31 : Int), x_X3_readMove_j31 σ_31 v3_31 = some o → PT Γ 6 shRMD 31 σ_31 [(0, .ref (ga Γ 0)), (1, .ref (ga Γ 3)), (2, .ref (ga Γ 8)), (3, .int (zJ v3_31))] [] := by
    intro σ_31 v3_31 h
    unfold x_X3_readMove_j31 at h
    refine p_aload_n G rfl 0 rfl dX3_readMove_31 ?_
    refine p_aload_n G rfl 1 rfl dX3_readMove_32 ?_
    obtain ⟨⟨σ2, v3⟩, hc, h⟩ := bnd_some h
    rw [un2_mk] at h
    refine p_callV G zl_22 dX3_readMove_33 lk_X3_131 (c_X3_readHeldCard (gl Γ) hc) (As := [.ref (ga Γ 3)]) (ci := 5) rfl zk_22 (zs_x zs_22 _) rfl rfl rfl (Nat.le_of_ble_eq_true rfl) ⟨rfl, rfl, Nat.le_of_ble_eq_true rfl, Nat.le_of_ble_eq_true rfl⟩ hcs ?_
    refine p_nm h (fun σ4 h => ?_)
    refine p_istoreU (lv' := [(5, .int (zJ v3)), (0, .ref (ga Γ 0)), (1, .ref (ga Γ 3)), (2, .ref (ga Γ 8)), (3, .int (zJ v3_31))]) G dX3_readMove_36 (by decide) rfl ?_
    refine p_aload_n G rfl 1 rfl dX3_readMove_38 ?_
    refine p_get G dX3_readMove_39 fl_X3_82 (k := 0) rfl rfl ?_
    refine p_istore (lv' := fun v5 => [(4, .int (zJ v5)), (5, .int (zJ v3)), (0, .ref (ga Γ 0)), (1, .ref (ga Γ 3)), (2, .ref (ga Γ 8)), (3, .int (zJ v3_31))]) G dX3_readMove_42 h (by decide) (fun _ => rfl) (fun v5 h => ?_)
    refine p_lv [2, 3, 4, 5, 0, 1] rfl ?_
    exact j44 _ _ _ _ h
  refine p_aload_n G rfl 0 rfl dX3_readMove_0 ?_
  obtain ⟨v1, hc, h⟩ := bnd_some h
  refine p_callVr G zl_21 dX3_readMove_1 lk_X3_128 (c_X3_moveTold (gl Γ) hc) (As := []) (ci := 5) rfl zk_21 (zs_x zs_21 _) rfl rfl rfl (Nat.le_of_ble_eq_true rfl) ⟨rfl, rfl, Nat.le_of_ble_eq_true rfl, Nat.le_of_ble_eq_true rfl⟩ hcs ?_
  refine p_istore_nU (lv' := [(3, .int (zJ v1)), (0, .ref (ga Γ 0)), (1, .ref (ga Γ 3)), (2, .ref (ga Γ 8))]) G rfl dX3_readMove_4 (by decide) rfl ?_
  refine p_iload_n G rfl 0 rfl dX3_readMove_5 ?_
  refine p_ifne (tgt := 15) G dX3_readMove_6 (by decide) h (fun c21 h => ?_) (fun c21 h => ?_)
  · refine p_iconst G rfl dX3_readMove_15 ?_
    refine p_istoreU (lv' := [(4, .int (zJ (-1 : Int))), (3, .int (zJ v1)), (0, .ref (ga Γ 0)), (1, .ref (ga Γ 3)), (2, .ref (ga Γ 8))]) G dX3_readMove_16 (by decide) rfl ?_
    refine p_iconst G rfl dX3_readMove_18 ?_
    refine p_istoreU (lv' := [(5, .int (zJ (0 : Int))), (4, .int (zJ (-1 : Int))), (3, .int (zJ v1)), (0, .ref (ga Γ 0)), (1, .ref (ga Γ 3)), (2, .ref (ga Γ 8))]) G dX3_readMove_19 (by decide) rfl ?_
    refine p_iload_n G rfl 2 rfl dX3_readMove_21 ?_
    refine p_iconst G rfl dX3_readMove_22 ?_
    refine p_icmpeq (tgt := 31) G dX3_readMove_23 (by decide) h (fun c19 h => ?_) (fun c19 h => ?_)
    · refine p_lv [3, 4, 5, 2] rfl ?_
      exact j31 _ _ h
    · refine p_iload_n G rfl 2 rfl dX3_readMove_26 ?_
      refine p_iconst G rfl dX3_readMove_27 ?_
      refine p_icmpne (tgt := 44) G dX3_readMove_28 (by decide) h (fun c18 h => ?_) (fun c18 h => ?_)
      · refine p_lv [3, 4, 5, 2, 1, 0] rfl ?_
        exact j44 _ _ _ _ h
      · refine p_lv [3, 4, 5, 2] rfl ?_
        exact j31 _ _ h
  · refine p_aload_n G rfl 1 rfl dX3_readMove_9 ?_
    refine p_iconst G rfl dX3_readMove_10 ?_
    obtain ⟨v20, hc, h⟩ := bnd_some h
    refine p_callVr G zl_21 dX3_readMove_11 lk_X3_73 (c_X3_errorAs (gl Γ) hc) (As := [.int (zJ (1 : Int))]) (ci := 5) rfl zk_21 (zs_x zs_21 _) rfl rfl rfl (Nat.le_of_ble_eq_true rfl) ⟨rfl, rfl, Nat.le_of_ble_eq_true rfl, Nat.le_of_ble_eq_true rfl⟩ hcs ?_
    (cases h; exact p_iret G hR dX3_readMove_14 rfl rfl)
set_option maxHeartbeats 4000000 in
set_option maxRecDepth 100000 in
theorem c_X4_init (l : Launch) {D : va_G} {yy : Nat → ClassId} {tk tv a : Nat → Nat} {σ : Mm} {o : Mm} (h : x_X4_init σ = some o) : CTN l yX4_init cX4_init 1 none rm_X4_init shPc shP D yy tk tv a σ [.ref (a 0)] o none 1 64 := by
  refine ctn_of (Ar := fun a tk => [.ref (a 0)]) (by decide) (Nat.le_of_ble_eq_true rfl) (fun h => by cases h) (fun Γ G _ hM hR => ?_)
  have hcs := mk_cs G hM (Nat.le_of_ble_eq_true rfl) (Nat.le_of_ble_eq_true rfl)
  unfold x_X4_init at h
  refine (?_ : PT Γ 1 shPc 0 σ [(0, .ref (ga Γ 0))] [])
  refine p_aload_n G rfl 0 rfl dX4_init_0 ?_
  refine p_objInit G gm_275 gm_58 gm_59 dX4_init_1 (Nat.le_of_ble_eq_true rfl) (Nat.le_of_ble_eq_true rfl) (Nat.le_of_ble_eq_true rfl) ?_
  refine p_aload_n G rfl 0 rfl dX4_init_4 ?_
  refine p_bipush G (by decide) (by decide) dX4_init_5 ?_
  refine p_newaPut (lv' := fun a => [(0, .ref (a 0))]) (st' := fun a => []) (k := 0) (K := 1) (j := 0) (c1 := 0) (kd := 2) (N := 64) G hR hM gm_188 dX4_init_7 dX4_init_9 ff_X4_11 rfl rfl rfl (by decide +kernel) (by decide +kernel) (by decide +kernel) (fun _ => rfl) (fun _ _ h => h) rfl (by decide) (by decide) (by decide) (by decide) (Nat.le_of_ble_eq_true rfl) (Nat.le_of_ble_eq_true rfl) h (fun a e => by have q0 := e 0 _ rfl rfl; exact ⟨by simp only [q0], by rfl⟩) (fun Γ G hR hM σ1 h => ?_)
  refine (?_ : PT Γ 1 shPc 12 σ1 [(0, .ref (ga Γ 0))] [])
  have hcs := mk_cs G hM (Nat.le_of_ble_eq_true rfl) (Nat.le_of_ble_eq_true rfl)
  refine zift h (fun hf h => ?_)
  refine p_conv (s9 := shP) G [(0, 0)] hR hM zk_24 hf (fun Γ9 G hR hM hga => ?_)
  rw [← hga]
  clear hga hcs
  revert hM hR G
  generalize Γ9 = Γ
  intro G hR hM
  have hcs := mk_cs G hM (Nat.le_of_ble_eq_true rfl) (Nat.le_of_ble_eq_true rfl)
  (cases h; exact p_vretN G hM (Nat.le_of_ble_eq_true rfl) (Nat.le_of_ble_eq_true rfl) hR dX4_init_12 rfl rfl)
set_option maxHeartbeats 4000000 in
set_option maxRecDepth 100000 in
theorem c_X5_init (l : Launch) {D : va_G} {yy : Nat → ClassId} {tk tv a : Nat → Nat} {σ : Mm} {o : Mm} (h : x_X5_init σ = some o) : CTN l yX5_init cX5_init 1 none rm_X5_init shDc shD D yy tk tv a σ [.ref (a 0)] o none 14 556 := by
  refine ctn_of (Ar := fun a tk => [.ref (a 0)]) (by decide) (Nat.le_of_ble_eq_true rfl) (fun h => by cases h) (fun Γ G _ hM hR => ?_)
  have hcs := mk_cs G hM (Nat.le_of_ble_eq_true rfl) (Nat.le_of_ble_eq_true rfl)
  unfold x_X5_init at h
  refine (?_ : PT Γ 1 shDc 0 σ [(0, .ref (ga Γ 0))] [])
  refine p_aload_n G rfl 0 rfl dX5_init_0 ?_
  refine p_objInit G gm_249 gm_58 gm_59 dX5_init_1 (Nat.le_of_ble_eq_true rfl) (Nat.le_of_ble_eq_true rfl) (Nat.le_of_ble_eq_true rfl) ?_
  refine p_aload_n G rfl 0 rfl dX5_init_4 ?_
  obtain ⟨σ2, hc, h⟩ := bnd_some h
  refine p_newObjPut (lv' := fun a => [(0, .ref (a 0))]) (st' := fun a => []) (s0 := shLc) (s9 := shL) (k := 0) (K := 1) (j := 0) G hR hM zl_29 nw_X5_9 rfl (by decide +kernel) li_X5_11 (fun a => c_X1_init (gl Γ) hc) dX5_init_5 dX5_init_8 dX5_init_9 dX5_init_12 ⟨rfl, rfl, Nat.le_of_ble_eq_true rfl, Nat.le_of_ble_eq_true rfl⟩ (Nat.le_of_ble_eq_true rfl) (Nat.le_of_ble_eq_true rfl) ff_X5_12 rfl rfl rfl rfl zk_29 (by decide +kernel) (by decide +kernel) (Nat.le_of_ble_eq_true rfl) h (fun a e => by have q0 := e 0 _ rfl rfl; exact ⟨by simp only [q0], by rfl⟩) (fun Γ G hR hM σ1 h => ?_)
  refine (?_ : PT Γ 1 shDc 15 σ1 [(0, .ref (ga Γ 0))] [])
  have hcs := mk_cs G hM (Nat.le_of_ble_eq_true rfl) (Nat.le_of_ble_eq_true rfl)
  refine p_aload_n G rfl 0 rfl dX5_init_15 ?_
  obtain ⟨σ4, hc, h⟩ := bnd_some h
  refine p_newObjPut (lv' := fun a => [(0, .ref (a 0))]) (st' := fun a => []) (s0 := shLc) (s9 := shL) (k := 0) (K := 8) (j := 1) G hR hM zl_30 nw_X5_9 rfl (by decide +kernel) li_X5_11 (fun a => c_X1_init (gl Γ) hc) dX5_init_16 dX5_init_19 dX5_init_20 dX5_init_23 ⟨rfl, rfl, Nat.le_of_ble_eq_true rfl, Nat.le_of_ble_eq_true rfl⟩ (Nat.le_of_ble_eq_true rfl) (Nat.le_of_ble_eq_true rfl) ff_X5_18 rfl rfl rfl rfl zk_30 (by decide +kernel) (by decide +kernel) (Nat.le_of_ble_eq_true rfl) h (fun a e => by have q0 := e 0 _ rfl rfl; exact ⟨by simp only [q0], by rfl⟩) (fun Γ G hR hM σ3 h => ?_)
  refine (?_ : PT Γ 1 shDc 26 σ3 [(0, .ref (ga Γ 0))] [])
  have hcs := mk_cs G hM (Nat.le_of_ble_eq_true rfl) (Nat.le_of_ble_eq_true rfl)
  refine zift h (fun hf h => ?_)
  refine p_conv (s9 := shD) G [(0, 0), (0, 1)] hR hM zk_31 hf (fun Γ9 G hR hM hga => ?_)
  rw [← hga]
  clear hga hcs
  revert hM hR G
  generalize Γ9 = Γ
  intro G hR hM
  have hcs := mk_cs G hM (Nat.le_of_ble_eq_true rfl) (Nat.le_of_ble_eq_true rfl)
  (cases h; exact p_vretN G hM (Nat.le_of_ble_eq_true rfl) (Nat.le_of_ble_eq_true rfl) hR dX5_init_26 rfl rfl)
set_option maxHeartbeats 4000000 in
set_option maxRecDepth 100000 in
theorem c_X6_init (l : Launch) {D : va_G} {yy : Nat → ClassId} {tk tv a : Nat → Nat} {σ : Mm} {o : Mm} (h : x_X6_init σ = some o) : CTN l yX6_init cX6_init 1 none rm_X6_init shXc shX D yy tk tv a σ [.ref (a 0)] o none 40 1730 := by
  refine ctn_of (Ar := fun a tk => [.ref (a 0)]) (by decide) (Nat.le_of_ble_eq_true rfl) (fun h => by cases h) (fun Γ G _ hM hR => ?_)
  have hcs := mk_cs G hM (Nat.le_of_ble_eq_true rfl) (Nat.le_of_ble_eq_true rfl)
  unfold x_X6_init at h
  refine (?_ : PT Γ 1 shXc 0 σ [(0, .ref (ga Γ 0))] [])
  refine p_aload_n G rfl 0 rfl dX6_init_0 ?_
  refine p_objInit G gm_57 gm_58 gm_59 dX6_init_1 (Nat.le_of_ble_eq_true rfl) (Nat.le_of_ble_eq_true rfl) (Nat.le_of_ble_eq_true rfl) ?_
  refine p_aload_n G rfl 0 rfl dX6_init_4 ?_
  obtain ⟨σ2, hc, h⟩ := bnd_some h
  refine p_newObjPut (lv' := fun a => [(0, .ref (a 0))]) (st' := fun a => []) (s0 := shMc) (s9 := shM) (k := 0) (K := 1) (j := 0) G hR hM zl_32 nw_X6_9 rfl (by decide +kernel) li_X6_11 (fun a => c_X2_init (gl Γ) hc) dX6_init_5 dX6_init_8 dX6_init_9 dX6_init_12 ⟨rfl, rfl, Nat.le_of_ble_eq_true rfl, Nat.le_of_ble_eq_true rfl⟩ (Nat.le_of_ble_eq_true rfl) (Nat.le_of_ble_eq_true rfl) ff_X6_12 rfl rfl rfl rfl zk_32 (by decide +kernel) (by decide +kernel) (Nat.le_of_ble_eq_true rfl) h (fun a e => by have q0 := e 0 _ rfl rfl; exact ⟨by simp only [q0], by rfl⟩) (fun Γ G hR hM σ1 h => ?_)
  refine (?_ : PT Γ 1 shXc 15 σ1 [(0, .ref (ga Γ 0))] [])
  have hcs := mk_cs G hM (Nat.le_of_ble_eq_true rfl) (Nat.le_of_ble_eq_true rfl)
  refine p_aload_n G rfl 0 rfl dX6_init_15 ?_
  obtain ⟨σ4, hc, h⟩ := bnd_some h
  refine p_newObjPut (lv' := fun a => [(0, .ref (a 0))]) (st' := fun a => []) (s0 := shMc) (s9 := shM) (k := 0) (K := 6) (j := 1) G hR hM zl_33 nw_X6_9 rfl (by decide +kernel) li_X6_11 (fun a => c_X2_init (gl Γ) hc) dX6_init_16 dX6_init_19 dX6_init_20 dX6_init_23 ⟨rfl, rfl, Nat.le_of_ble_eq_true rfl, Nat.le_of_ble_eq_true rfl⟩ (Nat.le_of_ble_eq_true rfl) (Nat.le_of_ble_eq_true rfl) ff_X6_16 rfl rfl rfl rfl zk_33 (by decide +kernel) (by decide +kernel) (Nat.le_of_ble_eq_true rfl) h (fun a e => by have q0 := e 0 _ rfl rfl; exact ⟨by simp only [q0], by rfl⟩) (fun Γ G hR hM σ3 h => ?_)
  refine (?_ : PT Γ 1 shXc 26 σ3 [(0, .ref (ga Γ 0))] [])
  have hcs := mk_cs G hM (Nat.le_of_ble_eq_true rfl) (Nat.le_of_ble_eq_true rfl)
  refine p_aload_n G rfl 0 rfl dX6_init_26 ?_
  obtain ⟨σ6, hc, h⟩ := bnd_some h
  refine p_newObjPut (lv' := fun a => [(0, .ref (a 0))]) (st' := fun a => []) (s0 := shHc) (s9 := shH) (k := 0) (K := 11) (j := 2) G hR hM zl_34 nw_X6_19 rfl (by decide +kernel) li_X6_21 (fun a => c_X0_init (gl Γ) hc) dX6_init_27 dX6_init_30 dX6_init_31 dX6_init_34 ⟨rfl, rfl, Nat.le_of_ble_eq_true rfl, Nat.le_of_ble_eq_true rfl⟩ (Nat.le_of_ble_eq_true rfl) (Nat.le_of_ble_eq_true rfl) ff_X6_22 rfl rfl rfl rfl zk_34 (by decide +kernel) (by decide +kernel) (Nat.le_of_ble_eq_true rfl) h (fun a e => by have q0 := e 0 _ rfl rfl; exact ⟨by simp only [q0], by rfl⟩) (fun Γ G hR hM σ5 h => ?_)
  refine (?_ : PT Γ 1 shXc 37 σ5 [(0, .ref (ga Γ 0))] [])
  have hcs := mk_cs G hM (Nat.le_of_ble_eq_true rfl) (Nat.le_of_ble_eq_true rfl)
  refine p_aload_n G rfl 0 rfl dX6_init_37 ?_
  refine p_iconst G rfl dX6_init_38 ?_
  refine p_newqPut (lv' := fun a => [(0, .ref (a 0))]) (st' := fun a => []) (s9 := shQ2) (k := 0) (K := 63) (j := 3) (N := 2) G hR hM zl_35 gm_60 dX6_init_39 dX6_init_42 ff_X6_26 rfl rfl rfl rfl zk_35 (by decide +kernel) (by decide +kernel) rfl (by decide +kernel) (fun i _ => by rw [zt_l]; omega) (by decide) (Nat.le_of_ble_eq_true rfl) (Nat.le_of_ble_eq_true rfl) h (fun a e => by have q0 := e 0 _ rfl rfl; exact ⟨by simp only [q0], by rfl⟩) (fun Γ G hR hM σ7 h => ?_)
  refine (?_ : PT Γ 1 shXc 45 σ7 [(0, .ref (ga Γ 0))] [])
  have hcs := mk_cs G hM (Nat.le_of_ble_eq_true rfl) (Nat.le_of_ble_eq_true rfl)
  refine p_aload_n G rfl 0 rfl dX6_init_45 ?_
  obtain ⟨σ9, hc, h⟩ := bnd_some h
  refine p_newObjPut (lv' := fun a => [(0, .ref (a 0))]) (st' := fun a => []) (s0 := shRc) (s9 := shR) (k := 0) (K := 74) (j := 4) G hR hM zl_36 nw_X6_30 rfl (by decide +kernel) li_X6_32 (fun a => c_X3_init (gl Γ) hc) dX6_init_46 dX6_init_49 dX6_init_50 dX6_init_53 ⟨rfl, rfl, Nat.le_of_ble_eq_true rfl, Nat.le_of_ble_eq_true rfl⟩ (Nat.le_of_ble_eq_true rfl) (Nat.le_of_ble_eq_true rfl) ff_X6_33 rfl rfl rfl rfl zk_36 (by decide +kernel) (by decide +kernel) (Nat.le_of_ble_eq_true rfl) h (fun a e => by have q0 := e 0 _ rfl rfl; exact ⟨by simp only [q0], by rfl⟩) (fun Γ G hR hM σ8 h => ?_)
  refine (?_ : PT Γ 1 shXc 56 σ8 [(0, .ref (ga Γ 0))] [])
  have hcs := mk_cs G hM (Nat.le_of_ble_eq_true rfl) (Nat.le_of_ble_eq_true rfl)
  refine p_aload_n G rfl 0 rfl dX6_init_56 ?_
  obtain ⟨σ11, hc, h⟩ := bnd_some h
  refine p_newObjPut (lv' := fun a => [(0, .ref (a 0))]) (st' := fun a => []) (s0 := shLc) (s9 := shL) (k := 0) (K := 77) (j := 5) G hR hM zl_37 nw_X6_37 rfl (by decide +kernel) li_X6_39 (fun a => c_X1_init (gl Γ) hc) dX6_init_57 dX6_init_60 dX6_init_61 dX6_init_64 ⟨rfl, rfl, Nat.le_of_ble_eq_true rfl, Nat.le_of_ble_eq_true rfl⟩ (Nat.le_of_ble_eq_true rfl) (Nat.le_of_ble_eq_true rfl) ff_X6_40 rfl rfl rfl rfl zk_37 (by decide +kernel) (by decide +kernel) (Nat.le_of_ble_eq_true rfl) h (fun a e => by have q0 := e 0 _ rfl rfl; exact ⟨by simp only [q0], by rfl⟩) (fun Γ G hR hM σ10 h => ?_)
  refine (?_ : PT Γ 1 shXc 67 σ10 [(0, .ref (ga Γ 0))] [])
  have hcs := mk_cs G hM (Nat.le_of_ble_eq_true rfl) (Nat.le_of_ble_eq_true rfl)
  refine p_aload_n G rfl 0 rfl dX6_init_67 ?_
  obtain ⟨σ13, hc, h⟩ := bnd_some h
  refine p_newObjPut (lv' := fun a => [(0, .ref (a 0))]) (st' := fun a => []) (s0 := shDc) (s9 := shD) (k := 0) (K := 84) (j := 6) G hR hM zl_38 nw_X6_44 rfl (by decide +kernel) li_X6_46 (fun a => c_X5_init (gl Γ) hc) dX6_init_68 dX6_init_71 dX6_init_72 dX6_init_75 ⟨rfl, rfl, Nat.le_of_ble_eq_true rfl, Nat.le_of_ble_eq_true rfl⟩ (Nat.le_of_ble_eq_true rfl) (Nat.le_of_ble_eq_true rfl) ff_X6_47 rfl rfl rfl rfl zk_38 (by decide +kernel) (by decide +kernel) (Nat.le_of_ble_eq_true rfl) h (fun a e => by have q0 := e 0 _ rfl rfl; exact ⟨by simp only [q0], by rfl⟩) (fun Γ G hR hM σ12 h => ?_)
  refine (?_ : PT Γ 1 shXc 78 σ12 [(0, .ref (ga Γ 0))] [])
  have hcs := mk_cs G hM (Nat.le_of_ble_eq_true rfl) (Nat.le_of_ble_eq_true rfl)
  refine p_aload_n G rfl 0 rfl dX6_init_78 ?_
  obtain ⟨σ15, hc, h⟩ := bnd_some h
  refine p_newObjPut (lv' := fun a => [(0, .ref (a 0))]) (st' := fun a => []) (s0 := shPc) (s9 := shP) (k := 0) (K := 99) (j := 7) G hR hM zl_39 nw_X6_51 rfl (by decide +kernel) li_X6_53 (fun a => c_X4_init (gl Γ) hc) dX6_init_79 dX6_init_82 dX6_init_83 dX6_init_86 ⟨rfl, rfl, Nat.le_of_ble_eq_true rfl, Nat.le_of_ble_eq_true rfl⟩ (Nat.le_of_ble_eq_true rfl) (Nat.le_of_ble_eq_true rfl) ff_X6_54 rfl rfl rfl rfl zk_39 (by decide +kernel) (by decide +kernel) (Nat.le_of_ble_eq_true rfl) h (fun a e => by have q0 := e 0 _ rfl rfl; exact ⟨by simp only [q0], by rfl⟩) (fun Γ G hR hM σ14 h => ?_)
  refine (?_ : PT Γ 1 shXc 89 σ14 [(0, .ref (ga Γ 0))] [])
  have hcs := mk_cs G hM (Nat.le_of_ble_eq_true rfl) (Nat.le_of_ble_eq_true rfl)
  refine p_aload_n G rfl 0 rfl dX6_init_89 ?_
  refine zift h (fun hf h => ?_)
  refine p_conv (s9 := shX) G [(0, 0), (0, 1), (0, 2), (0, 3), (0, 4), (0, 5), (0, 6), (0, 7)] hR hM zk_40 hf (fun Γ9 G hR hM hga => ?_)
  rw [← hga]
  clear hga hcs
  revert hM hR G
  generalize Γ9 = Γ
  intro G hR hM
  have hcs := mk_cs G hM (Nat.le_of_ble_eq_true rfl) (Nat.le_of_ble_eq_true rfl)
  refine p_get G dX6_init_90 fl_X6_33 (k := 0) rfl rfl ?_
  refine p_ldcS G 0 (by decide) rfl rfl dX6_init_93 rfl ?_
  obtain ⟨σ16, hc, h⟩ := bnd_some h
  refine p_callV G zl_41 dX6_init_95 lk_X6_60 (c_X3_write (gl Γ) hc) (As := [.ref (gk Γ 0)]) (ci := 5) rfl zk_41 (zs_x zs_41 _) rfl rfl rfl (Nat.le_of_ble_eq_true rfl) ⟨rfl, rfl, Nat.le_of_ble_eq_true rfl, Nat.le_of_ble_eq_true rfl⟩ hcs ?_
  refine p_nm h (fun σ17 h => ?_)
  refine p_aload_n G rfl 0 rfl dX6_init_98 ?_
  refine p_get G dX6_init_99 fl_X6_33 (k := 0) rfl rfl ?_
  refine p_aload_n G rfl 0 rfl dX6_init_102 ?_
  refine p_get G dX6_init_103 fl_X6_12 (k := 0) rfl rfl ?_
  obtain ⟨⟨σ18, v19⟩, hc, h⟩ := bnd_some h
  rw [un2_mk] at h
  refine p_callV G zl_42 dX6_init_106 lk_X6_64 (c_X3_readDeal (gl Γ) hc) (As := [.ref (ga Γ 1)]) (ci := 5) rfl zk_42 (zs_x zs_42 _) rfl rfl rfl (Nat.le_of_ble_eq_true rfl) ⟨rfl, rfl, Nat.le_of_ble_eq_true rfl, Nat.le_of_ble_eq_true rfl⟩ hcs ?_
  refine p_nm h (fun σ20 h => ?_)
  refine p_pop G rfl dX6_init_109 ?_
  refine p_aload_n G rfl 0 rfl dX6_init_110 ?_
  refine p_get G dX6_init_111 fl_X6_33 (k := 0) rfl rfl ?_
  refine p_iconst G rfl dX6_init_114 ?_
  obtain ⟨σ21, hc, h⟩ := bnd_some h
  refine p_callV G zl_41 dX6_init_115 lk_X6_68 (c_X3_shorten (gl Γ) hc) (As := [.int (zJ (0 : Int))]) (ci := 5) rfl zk_41 (zs_x zs_41 _) rfl rfl rfl (Nat.le_of_ble_eq_true rfl) ⟨rfl, rfl, Nat.le_of_ble_eq_true rfl, Nat.le_of_ble_eq_true rfl⟩ hcs ?_
  refine p_nm h (fun σ22 h => ?_)
  (cases h; exact p_vretN G hM (Nat.le_of_ble_eq_true rfl) (Nat.le_of_ble_eq_true rfl) hR dX6_init_118 rfl rfl)
set_option maxHeartbeats 4000000 in
set_option maxRecDepth 100000 in
theorem c_X6_load (l : Launch) {D : va_G} {yy : Nat → ClassId} {tk tv a : Nat → Nat} {σ : Mm} {o : Mm × Int} (h : x_X6_load σ = some o) : CTN l yX6_load cX6_load 3 (some .int) rm_X6_load shX shX D yy tk tv a σ [.ref (a 0)] o.1 (some (.int (zJ o.2))) 5 125 := by
  refine ctn_of (Ar := fun a tk => [.ref (a 0)]) (by decide) (Nat.le_of_ble_eq_true rfl) (fun h => by cases h) (fun Γ G _ hM hR => ?_)
  have hcs := mk_cs G hM (Nat.le_of_ble_eq_true rfl) (Nat.le_of_ble_eq_true rfl)
  unfold x_X6_load at h
  refine (?_ : PT Γ 3 shX 0 σ [(0, .ref (ga Γ 0))] [])
  refine p_aload_n G rfl 0 rfl dX6_load_0 ?_
  refine p_get G dX6_load_1 fl_X6_33 (k := 0) rfl rfl ?_
  refine p_aload_n G rfl 0 rfl dX6_load_4 ?_
  refine p_get G dX6_load_5 fl_X6_16 (k := 0) rfl rfl ?_
  obtain ⟨⟨σ1, v2⟩, hc, h⟩ := bnd_some h
  rw [un2_mk] at h
  refine p_callV G zl_43 dX6_load_8 lk_X6_64 (c_X3_readDeal (gl Γ) hc) (As := [.ref (ga Γ 6)]) (ci := 5) rfl zk_43 (zs_x zs_43 _) rfl rfl rfl (Nat.le_of_ble_eq_true rfl) ⟨rfl, rfl, Nat.le_of_ble_eq_true rfl, Nat.le_of_ble_eq_true rfl⟩ hcs ?_
  refine p_nm h (fun σ3 h => ?_)
  refine p_istore_nU (lv' := [(1, .int (zJ v2)), (0, .ref (ga Γ 0))]) G rfl dX6_load_11 (by decide) rfl ?_
  refine p_iconst G rfl dX6_load_12 ?_
  refine p_istore_nU (lv' := [(2, .int (zJ (0 : Int))), (1, .int (zJ v2)), (0, .ref (ga Γ 0))]) G rfl dX6_load_13 (by decide) rfl ?_
  refine p_lv [2, 1, 0] rfl ?_
  obtain ⟨e13, hl14, h⟩ := bnd_some h
  have hX14_57 : ∀ (σ14 : Mm) (v15 : Int), (σ14, v15) = e13 → PT Γ 3 shX 57 σ14 [(0, .ref (ga Γ 0)), (1, .int (zJ v15))] [] := by
    intro σ14 v15 he
    subst he
    rw [un2_mk] at h
    refine p_aload_n G rfl 0 rfl dX6_load_57 ?_
    refine p_get G dX6_load_58 fl_X6_33 (k := 0) rfl rfl ?_
    refine p_iconst G rfl dX6_load_61 ?_
    obtain ⟨σ16, hc, h⟩ := bnd_some h
    refine p_callV G zl_41 dX6_load_62 lk_X6_68 (c_X3_shorten (gl Γ) hc) (As := [.int (zJ (0 : Int))]) (ci := 5) rfl zk_41 (zs_x zs_41 _) rfl rfl rfl (Nat.le_of_ble_eq_true rfl) ⟨rfl, rfl, Nat.le_of_ble_eq_true rfl, Nat.le_of_ble_eq_true rfl⟩ hcs ?_
    refine p_nm h (fun σ17 h => ?_)
    refine p_iload_n G rfl 1 rfl dX6_load_65 ?_
    refine p_ifeq (tgt := 74) G dX6_load_66 (by decide) h (fun c22 h => ?_) (fun c22 h => ?_)
    · refine p_aload_n G rfl 0 rfl dX6_load_74 ?_
      refine p_get G dX6_load_75 fl_X6_22 (k := 0) rfl rfl ?_
      refine p_aload_n G rfl 0 rfl dX6_load_78 ?_
      refine p_get G dX6_load_79 fl_X6_12 (k := 0) rfl rfl ?_
      obtain ⟨σ18, hc, h⟩ := bnd_some h
      refine p_callVN (lv' := fun a => [(0, .ref (a 0)), (1, .int (zJ v15))]) (st' := fun a => []) G hR hM zl_45 dX6_load_82 lk_X6_80 (c_X0_push (gl Γ) hc) (As := [.ref (ga Γ 1)]) (ci := 2) rfl zk_45 (by decide +kernel) (by decide +kernel) (zs_x zs_45 _) rfl rfl rfl (Nat.le_of_ble_eq_true rfl) ⟨rfl, rfl, Nat.le_of_ble_eq_true rfl, Nat.le_of_ble_eq_true rfl⟩ (Nat.le_of_ble_eq_true rfl) (Nat.le_of_ble_eq_true rfl) h (fun a e => by have q0 := e 0 _ rfl rfl; exact ⟨by simp only [q0], by rfl⟩) (fun Γ G hR hM σ19 h => ?_)
      refine (?_ : PT Γ 3 shX 85 σ19 [(0, .ref (ga Γ 0)), (1, .int (zJ v15))] [])
      have hcs := mk_cs G hM (Nat.le_of_ble_eq_true rfl) (Nat.le_of_ble_eq_true rfl)
      refine p_aload_n G rfl 0 rfl dX6_load_85 ?_
      refine p_get G dX6_load_86 fl_X6_12 (k := 0) rfl rfl ?_
      refine p_aload_n G rfl 0 rfl dX6_load_89 ?_
      refine p_get G dX6_load_90 fl_X6_16 (k := 0) rfl rfl ?_
      obtain ⟨σ20, hc, h⟩ := bnd_some h
      refine p_callV G zl_46 dX6_load_93 lk_X6_84 (c_X2_copyFrom (gl Γ) hc) (As := [.ref (ga Γ 6)]) (ci := 4) rfl zk_46 (zs_x zs_46 _) rfl rfl rfl (Nat.le_of_ble_eq_true rfl) ⟨rfl, rfl, Nat.le_of_ble_eq_true rfl, Nat.le_of_ble_eq_true rfl⟩ hcs ?_
      refine p_nm h (fun σ21 h => ?_)
      refine p_aload_n G rfl 0 rfl dX6_load_96 ?_
      refine p_get G dX6_load_97 fl_X6_12 (k := 0) rfl rfl ?_
      refine p_get G dX6_load_100 fl_X6_87 (k := 1) rfl rfl ?_
      (cases h; exact p_iretN G hM (Nat.le_of_ble_eq_true rfl) (Nat.le_of_ble_eq_true rfl) hR dX6_load_103 rfl rfl)
    · refine p_bipush G (by decide) (by decide) dX6_load_69 ?_
      refine p_iload_n G rfl 1 rfl dX6_load_71 ?_
      refine p_isub G dX6_load_72 ?_
      (cases h; exact p_iretN G hM (Nat.le_of_ble_eq_true rfl) (Nat.le_of_ble_eq_true rfl) hR dX6_load_73 rfl rfl)
  refine lup_walk (s := (σ3, v2, (0 : Int))) (At := fun s : Mm × Int × Int => PT Γ 3 shX 14 s.1 [(0, .ref (ga Γ 0)), (1, .int (zJ s.2.1)), (2, .int (zJ s.2.2))] []) (fun s r hf hin14 hout14 => ?_) hl14
  obtain ⟨σ14, u1_14, u2_14⟩ := s
  have h : x_X6_load_b14 σ14 u1_14 u2_14 = some r := hf
  clear hf
  unfold x_X6_load_b14 at h
  refine (?_ : PT Γ 3 shX 14 σ14 [(0, .ref (ga Γ 0)), (1, .int (zJ u1_14)), (2, .int (zJ u2_14))] [])
  refine p_iload_n G rfl 2 rfl dX6_load_14 ?_
  refine p_sipush G (by decide) (by decide) dX6_load_15 ?_
  refine p_icmpge (tgt := 57) G dX6_load_18 (by decide) h (fun c11 h => ?_) (fun c11 h => ?_)
  · refine p_lv [0, 1] rfl ?_
    have he := hout14 _ (Option.some.inj h).symm
    subst he
    exact hX14_57 _ _ rfl
  · refine p_iload_n G rfl 1 rfl dX6_load_21 ?_
    refine p_ifne (tgt := 57) G dX6_load_22 (by decide) h (fun c10 h => ?_) (fun c10 h => ?_)
    · refine p_lv [0, 1] rfl ?_
      have he := hout14 _ (Option.some.inj h).symm
      subst he
      exact hX14_57 _ _ rfl
    · refine p_aload_n G rfl 0 rfl dX6_load_25 ?_
      refine p_get G dX6_load_26 fl_X6_33 (k := 0) rfl rfl ?_
      obtain ⟨v4, hc, h⟩ := bnd_some h
      refine p_callVr G zl_41 dX6_load_29 lk_X6_72 (c_X3_isAtEnd (gl Γ) hc) (As := []) (ci := 5) rfl zk_41 (zs_x zs_41 _) rfl rfl rfl (Nat.le_of_ble_eq_true rfl) ⟨rfl, rfl, Nat.le_of_ble_eq_true rfl, Nat.le_of_ble_eq_true rfl⟩ hcs ?_
      refine p_ifne (tgt := 57) G dX6_load_32 (by decide) h (fun c9 h => ?_) (fun c9 h => ?_)
      · refine p_lv [0, 1] rfl ?_
        have he := hout14 _ (Option.some.inj h).symm
        subst he
        exact hX14_57 _ _ rfl
      · refine p_aload_n G rfl 0 rfl dX6_load_35 ?_
        refine p_get G dX6_load_36 fl_X6_33 (k := 0) rfl rfl ?_
        refine p_aload_n G rfl 0 rfl dX6_load_39 ?_
        refine p_get G dX6_load_40 fl_X6_16 (k := 0) rfl rfl ?_
        refine p_aload_n G rfl 0 rfl dX6_load_43 ?_
        refine p_get G dX6_load_44 fl_X6_47 (k := 0) rfl rfl ?_
        obtain ⟨⟨σ5, v6⟩, hc, h⟩ := bnd_some h
        rw [un2_mk] at h
        refine p_callV G zl_44 dX6_load_47 lk_X6_76 (c_X3_readMove (gl Γ) hc) (As := [.ref (ga Γ 6), .ref (ga Γ 84)]) (ci := 5) rfl zk_44 (zs_x zs_44 _) rfl rfl rfl (Nat.le_of_ble_eq_true rfl) ⟨rfl, rfl, Nat.le_of_ble_eq_true rfl, Nat.le_of_ble_eq_true rfl⟩ hcs ?_
        refine p_nm h (fun σ7 h => ?_)
        refine p_istore_nU (lv' := [(1, .int (zJ v6)), (0, .ref (ga Γ 0)), (2, .int (zJ u2_14))]) G rfl dX6_load_50 (by decide) rfl ?_
        refine p_iinc (lv' := fun v8 => [(2, .int (zJ v8)), (1, .int (zJ v6)), (0, .ref (ga Γ 0))]) G dX6_load_51 h 2 rfl (by decide) (fun _ => rfl) (fun v8 h => ?_)
        refine p_goto (tgt := 14) G dX6_load_54 (by decide) ?_
        refine p_lv [2, 1, 0] rfl ?_
        exact hin14 _ (Option.some.inj h).symm
set_option maxHeartbeats 4000000 in
set_option maxRecDepth 100000 in
theorem c_X6_draw (l : Launch) {D : va_G} {yy : Nat → ClassId} {tk tv a : Nat → Nat} {σ : Mm} {p1 : Int} {o : Mm × Int} (h : x_X6_draw σ p1 = some o) : CTN l yX6_draw cX6_draw 3 (some .int) rm_X6_draw shX shX D yy tk tv a σ [.ref (a 0), .int (zJ p1)] o.1 (some (.int (zJ o.2))) 5 125 := by
  refine ctn_of (Ar := fun a tk => [.ref (a 0), .int (zJ p1)]) (by decide) (Nat.le_of_ble_eq_true rfl) (fun h => by cases h) (fun Γ G _ hM hR => ?_)
  have hcs := mk_cs G hM (Nat.le_of_ble_eq_true rfl) (Nat.le_of_ble_eq_true rfl)
  unfold x_X6_draw at h
  refine (?_ : PT Γ 3 shX 0 σ [(0, .ref (ga Γ 0)), (1, .int (zJ p1))] [])
  refine p_aload_n G rfl 0 rfl dX6_draw_0 ?_
  refine p_get G dX6_draw_1 fl_X6_12 (k := 0) rfl rfl ?_
  obtain ⟨v1, hc, h⟩ := bnd_some h
  refine p_callVr G zl_47 dX6_draw_4 lk_X6_91 (c_X2_reasonAgainstDraw (gl Γ) hc) (As := []) (ci := 4) rfl zk_47 (zs_x zs_47 _) rfl rfl rfl (Nat.le_of_ble_eq_true rfl) ⟨rfl, rfl, Nat.le_of_ble_eq_true rfl, Nat.le_of_ble_eq_true rfl⟩ hcs ?_
  refine p_istore_nU (lv' := [(2, .int (zJ v1)), (0, .ref (ga Γ 0)), (1, .int (zJ p1))]) G rfl dX6_draw_7 (by decide) rfl ?_
  refine p_iload_n G rfl 0 rfl dX6_draw_8 ?_
  refine p_ifeq (tgt := 17) G dX6_draw_9 (by decide) h (fun c7 h => ?_) (fun c7 h => ?_)
  · refine p_aload_n G rfl 1 rfl dX6_draw_17 ?_
    refine p_get G dX6_draw_18 fl_X6_22 (k := 0) rfl rfl ?_
    refine p_aload_n G rfl 1 rfl dX6_draw_21 ?_
    refine p_get G dX6_draw_22 fl_X6_12 (k := 0) rfl rfl ?_
    obtain ⟨σ2, hc, h⟩ := bnd_some h
    refine p_callVN (lv' := fun a => [(2, .int (zJ v1)), (0, .ref (a 0)), (1, .int (zJ p1))]) (st' := fun a => []) G hR hM zl_45 dX6_draw_25 lk_X6_80 (c_X0_push (gl Γ) hc) (As := [.ref (ga Γ 1)]) (ci := 2) rfl zk_45 (by decide +kernel) (by decide +kernel) (zs_x zs_45 _) rfl rfl rfl (Nat.le_of_ble_eq_true rfl) ⟨rfl, rfl, Nat.le_of_ble_eq_true rfl, Nat.le_of_ble_eq_true rfl⟩ (Nat.le_of_ble_eq_true rfl) (Nat.le_of_ble_eq_true rfl) h (fun a e => by have q0 := e 0 _ rfl rfl; exact ⟨by simp only [q0], by rfl⟩) (fun Γ G hR hM σ3 h => ?_)
    refine (?_ : PT Γ 3 shX 28 σ3 [(2, .int (zJ v1)), (0, .ref (ga Γ 0)), (1, .int (zJ p1))] [])
    have hcs := mk_cs G hM (Nat.le_of_ble_eq_true rfl) (Nat.le_of_ble_eq_true rfl)
    refine p_aload_n G rfl 1 rfl dX6_draw_28 ?_
    refine p_get G dX6_draw_29 fl_X6_12 (k := 0) rfl rfl ?_
    refine p_iload_n G rfl 2 rfl dX6_draw_32 ?_
    obtain ⟨⟨σ4, v5⟩, hc, h⟩ := bnd_some h
    rw [un2_mk] at h
    refine p_callV G zl_47 dX6_draw_33 lk_X6_95 (c_X2_takeCard (gl Γ) hc) (As := [.int (zJ p1)]) (ci := 4) rfl zk_47 (zs_x zs_47 _) rfl rfl rfl (Nat.le_of_ble_eq_true rfl) ⟨rfl, rfl, Nat.le_of_ble_eq_true rfl, Nat.le_of_ble_eq_true rfl⟩ hcs ?_
    refine p_nm h (fun σ6 h => ?_)
    (cases h; exact p_iretN G hM (Nat.le_of_ble_eq_true rfl) (Nat.le_of_ble_eq_true rfl) hR dX6_draw_36 rfl rfl)
  · refine p_bipush G (by decide) (by decide) dX6_draw_12 ?_
    refine p_iload_n G rfl 0 rfl dX6_draw_14 ?_
    refine p_isub G dX6_draw_15 ?_
    (cases h; exact p_iretN G hM (Nat.le_of_ble_eq_true rfl) (Nat.le_of_ble_eq_true rfl) hR dX6_draw_16 rfl rfl)
set_option maxHeartbeats 4000000 in
set_option maxRecDepth 100000 in
theorem c_X6_requireHeld (l : Launch) {D : va_G} {yy : Nat → ClassId} {tk tv a : Nat → Nat} {σ : Mm} {p1 : Int} {p2 : Int} {o : Unit} (h : x_X6_requireHeld σ p1 p2 = some (.inl o)) : CT l yX6_requireHeld cX6_requireHeld 3 none rm_X6_requireHeld shX D yy tk tv a σ [.ref (a 0), .int (zJ p1), .int (zJ p2)] σ none := by
  refine ct_of (Ar := fun a tk => [.ref (a 0), .int (zJ p1), .int (zJ p2)]) (by decide) (Nat.le_of_ble_eq_true rfl) (fun Γ G _ _ hR => ?_)
  have hcs := rt_cs hR
  unfold x_X6_requireHeld at h
  refine (?_ : PT Γ 3 shX 0 σ [(0, .ref (ga Γ 0)), (1, .int (zJ p1)), (2, .int (zJ p2))] [])
  refine p_aload_n G rfl 0 rfl dX6_requireHeld_0 ?_
  refine p_get G dX6_requireHeld_1 fl_X6_12 (k := 0) rfl rfl ?_
  refine p_iload_n G rfl 1 rfl dX6_requireHeld_4 ?_
  obtain ⟨v1, hc, h⟩ := bnd_some h
  refine p_callVr G zl_47 dX6_requireHeld_5 lk_X6_219 (c_X2_handOf (gl Γ) hc) (As := [.int (zJ p1)]) (ci := 4) rfl zk_47 (zs_x zs_47 _) rfl rfl rfl (Nat.le_of_ble_eq_true rfl) ⟨rfl, rfl, Nat.le_of_ble_eq_true rfl, Nat.le_of_ble_eq_true rfl⟩ hcs ?_
  refine p_iload_n G rfl 2 rfl dX6_requireHeld_8 ?_
  obtain ⟨v2, hc, h⟩ := bnd_some h
  refine p_callS0 G dX6_requireHeld_9 lk_X6_271 (c_X6_has (gl Γ) hc) (As := [.long v1, .int (zJ p2)]) rfl zk_48 rfl (Nat.le_of_ble_eq_true rfl) ⟨rfl, rfl, Nat.le_of_ble_eq_true rfl, Nat.le_of_ble_eq_true rfl⟩ hcs ?_
  refine p_ifne (tgt := 26) G dX6_requireHeld_12 (by decide) h (fun c3 h => ?_) (fun c3 h => ?_)
  · have h := inlO_inl h
    (cases h; exact p_vret G hR dX6_requireHeld_26 rfl rfl)
  · cases h
set_option maxHeartbeats 4000000 in
set_option maxRecDepth 100000 in
theorem c_X6_drop (l : Launch) {D : va_G} {yy : Nat → ClassId} {tk tv a : Nat → Nat} {σ : Mm} {p1 : Int} {o : Mm × Int} (h : x_X6_drop σ p1 = some (.inl o)) : CTN l yX6_drop cX6_drop 3 (some .int) rm_X6_drop shX shX D yy tk tv a σ [.ref (a 0), .int (zJ p1)] o.1 (some (.int (zJ o.2))) 5 125 := by
  refine ctn_of (Ar := fun a tk => [.ref (a 0), .int (zJ p1)]) (by decide) (Nat.le_of_ble_eq_true rfl) (fun h => by cases h) (fun Γ G _ hM hR => ?_)
  have hcs := mk_cs G hM (Nat.le_of_ble_eq_true rfl) (Nat.le_of_ble_eq_true rfl)
  unfold x_X6_drop at h
  refine (?_ : PT Γ 3 shX 0 σ [(0, .ref (ga Γ 0)), (1, .int (zJ p1))] [])
  refine p_aload_n G rfl 0 rfl dX6_drop_0 ?_
  refine p_aload_n G rfl 0 rfl dX6_drop_1 ?_
  refine p_get G dX6_drop_2 fl_X6_12 (k := 0) rfl rfl ?_
  refine p_get G dX6_drop_5 fl_X6_99 (k := 1) rfl rfl ?_
  refine p_iload_n G rfl 1 rfl dX6_drop_8 ?_
  obtain ⟨o_, hc, h⟩ := bthr h
  refine p_callVi G dX6_drop_9 lk_X6_102 (c_X6_requireHeld (gl Γ) hc) (As := [.int (zJ (σ 1 5)), .int (zJ p1)]) (ci := 8) rfl rfl rfl rfl (Nat.le_of_ble_eq_true rfl) ⟨rfl, rfl, Nat.le_of_ble_eq_true rfl, Nat.le_of_ble_eq_true rfl⟩ hcs ?_
  have h := inlO_inl h
  refine p_aload_n G rfl 0 rfl dX6_drop_12 ?_
  refine p_get G dX6_drop_13 fl_X6_12 (k := 0) rfl rfl ?_
  refine p_iload_n G rfl 1 rfl dX6_drop_16 ?_
  obtain ⟨v1, hc, h⟩ := bnd_some h
  refine p_callVr G zl_47 dX6_drop_17 lk_X6_106 (c_X2_reasonAgainstDrop (gl Γ) hc) (As := [.int (zJ p1)]) (ci := 4) rfl zk_47 (zs_x zs_47 _) rfl rfl rfl (Nat.le_of_ble_eq_true rfl) ⟨rfl, rfl, Nat.le_of_ble_eq_true rfl, Nat.le_of_ble_eq_true rfl⟩ hcs ?_
  refine p_istore_nU (lv' := [(2, .int (zJ v1)), (0, .ref (ga Γ 0)), (1, .int (zJ p1))]) G rfl dX6_drop_20 (by decide) rfl ?_
  refine p_iload_n G rfl 0 rfl dX6_drop_21 ?_
  refine p_ifeq (tgt := 30) G dX6_drop_22 (by decide) h (fun c7 h => ?_) (fun c7 h => ?_)
  · refine p_aload_n G rfl 1 rfl dX6_drop_30 ?_
    refine p_get G dX6_drop_31 fl_X6_22 (k := 0) rfl rfl ?_
    refine p_aload_n G rfl 1 rfl dX6_drop_34 ?_
    refine p_get G dX6_drop_35 fl_X6_12 (k := 0) rfl rfl ?_
    obtain ⟨σ2, hc, h⟩ := bnd_some h
    refine p_callVN (lv' := fun a => [(2, .int (zJ v1)), (0, .ref (a 0)), (1, .int (zJ p1))]) (st' := fun a => []) G hR hM zl_45 dX6_drop_38 lk_X6_80 (c_X0_push (gl Γ) hc) (As := [.ref (ga Γ 1)]) (ci := 2) rfl zk_45 (by decide +kernel) (by decide +kernel) (zs_x zs_45 _) rfl rfl rfl (Nat.le_of_ble_eq_true rfl) ⟨rfl, rfl, Nat.le_of_ble_eq_true rfl, Nat.le_of_ble_eq_true rfl⟩ (Nat.le_of_ble_eq_true rfl) (Nat.le_of_ble_eq_true rfl) h (fun a e => by have q0 := e 0 _ rfl rfl; exact ⟨by simp only [q0], by rfl⟩) (fun Γ G hR hM σ3 h => ?_)
    refine (?_ : PT Γ 3 shX 41 σ3 [(2, .int (zJ v1)), (0, .ref (ga Γ 0)), (1, .int (zJ p1))] [])
    have hcs := mk_cs G hM (Nat.le_of_ble_eq_true rfl) (Nat.le_of_ble_eq_true rfl)
    refine p_aload_n G rfl 1 rfl dX6_drop_41 ?_
    refine p_get G dX6_drop_42 fl_X6_12 (k := 0) rfl rfl ?_
    refine p_iload_n G rfl 2 rfl dX6_drop_45 ?_
    obtain ⟨σ4, hc, h⟩ := bnd_some h
    refine p_callV G zl_47 dX6_drop_46 lk_X6_110 (c_X2_endTurn (gl Γ) hc) (As := [.int (zJ p1)]) (ci := 4) rfl zk_47 (zs_x zs_47 _) rfl rfl rfl (Nat.le_of_ble_eq_true rfl) ⟨rfl, rfl, Nat.le_of_ble_eq_true rfl, Nat.le_of_ble_eq_true rfl⟩ hcs ?_
    refine p_nm h (fun σ5 h => ?_)
    refine p_aload_n G rfl 1 rfl dX6_drop_49 ?_
    refine p_get G dX6_drop_50 fl_X6_12 (k := 0) rfl rfl ?_
    obtain ⟨v6, hc, h⟩ := bnd_some h
    refine p_callVr G zl_47 dX6_drop_53 lk_X6_113 (c_X2_stockCount (gl Γ) hc) (As := []) (ci := 4) rfl zk_47 (zs_x zs_47 _) rfl rfl rfl (Nat.le_of_ble_eq_true rfl) ⟨rfl, rfl, Nat.le_of_ble_eq_true rfl, Nat.le_of_ble_eq_true rfl⟩ hcs ?_
    (cases h; exact p_iretN G hM (Nat.le_of_ble_eq_true rfl) (Nat.le_of_ble_eq_true rfl) hR dX6_drop_56 rfl rfl)
  · refine p_bipush G (by decide) (by decide) dX6_drop_25 ?_
    refine p_iload_n G rfl 0 rfl dX6_drop_27 ?_
    refine p_isub G dX6_drop_28 ?_
    (cases h; exact p_iretN G hM (Nat.le_of_ble_eq_true rfl) (Nat.le_of_ble_eq_true rfl) hR dX6_drop_29 rfl rfl)
set_option maxHeartbeats 4000000 in
set_option maxRecDepth 100000 in
theorem c_X6_knock (l : Launch) {D : va_G} {yy : Nat → ClassId} {tk tv a : Nat → Nat} {σ : Mm} {p1 : Int} {o : Mm × Int} (h : x_X6_knock σ p1 = some (.inl o)) : CTN l yX6_knock cX6_knock 3 (some .int) rm_X6_knock shX shX D yy tk tv a σ [.ref (a 0), .int (zJ p1)] o.1 (some (.int (zJ o.2))) 5 125 := by
  refine ctn_of (Ar := fun a tk => [.ref (a 0), .int (zJ p1)]) (by decide) (Nat.le_of_ble_eq_true rfl) (fun h => by cases h) (fun Γ G _ hM hR => ?_)
  have hcs := mk_cs G hM (Nat.le_of_ble_eq_true rfl) (Nat.le_of_ble_eq_true rfl)
  unfold x_X6_knock at h
  refine (?_ : PT Γ 3 shX 0 σ [(0, .ref (ga Γ 0)), (1, .int (zJ p1))] [])
  refine p_aload_n G rfl 0 rfl dX6_knock_0 ?_
  refine p_aload_n G rfl 0 rfl dX6_knock_1 ?_
  refine p_get G dX6_knock_2 fl_X6_12 (k := 0) rfl rfl ?_
  refine p_get G dX6_knock_5 fl_X6_99 (k := 1) rfl rfl ?_
  refine p_iload_n G rfl 1 rfl dX6_knock_8 ?_
  obtain ⟨o_, hc, h⟩ := bthr h
  refine p_callVi G dX6_knock_9 lk_X6_102 (c_X6_requireHeld (gl Γ) hc) (As := [.int (zJ (σ 1 5)), .int (zJ p1)]) (ci := 8) rfl rfl rfl rfl (Nat.le_of_ble_eq_true rfl) ⟨rfl, rfl, Nat.le_of_ble_eq_true rfl, Nat.le_of_ble_eq_true rfl⟩ hcs ?_
  have h := inlO_inl h
  refine p_aload_n G rfl 0 rfl dX6_knock_12 ?_
  refine p_get G dX6_knock_13 fl_X6_47 (k := 0) rfl rfl ?_
  refine p_aload_n G rfl 0 rfl dX6_knock_16 ?_
  refine p_get G dX6_knock_17 fl_X6_12 (k := 0) rfl rfl ?_
  refine p_iload_n G rfl 1 rfl dX6_knock_20 ?_
  obtain ⟨v1, hc, h⟩ := bnd_some h
  refine p_callVr G zl_47 dX6_knock_21 lk_X6_116 (c_X2_handWithout (gl Γ) hc) (As := [.int (zJ p1)]) (ci := 4) rfl zk_47 (zs_x zs_47 _) rfl rfl rfl (Nat.le_of_ble_eq_true rfl) ⟨rfl, rfl, Nat.le_of_ble_eq_true rfl, Nat.le_of_ble_eq_true rfl⟩ hcs ?_
  refine p_aload_n G rfl 0 rfl dX6_knock_24 ?_
  refine p_get G dX6_knock_25 fl_X6_12 (k := 0) rfl rfl ?_
  obtain ⟨v2, hc, h⟩ := bnd_some h
  refine p_callVr G zl_47 dX6_knock_28 lk_X6_120 (c_X2_otherHand (gl Γ) hc) (As := []) (ci := 4) rfl zk_47 (zs_x zs_47 _) rfl rfl rfl (Nat.le_of_ble_eq_true rfl) ⟨rfl, rfl, Nat.le_of_ble_eq_true rfl, Nat.le_of_ble_eq_true rfl⟩ hcs ?_
  obtain ⟨σ3, hc, h⟩ := bnd_some h
  refine p_callV G zl_49 dX6_knock_31 lk_X6_124 (c_X5_settle (gl Γ) hc) (As := [.long v1, .long v2]) (ci := 7) rfl zk_49 (zs_x zs_49 _) rfl rfl rfl (Nat.le_of_ble_eq_true rfl) ⟨rfl, rfl, Nat.le_of_ble_eq_true rfl, Nat.le_of_ble_eq_true rfl⟩ hcs ?_
  refine p_nm h (fun σ4 h => ?_)
  refine p_aload_n G rfl 0 rfl dX6_knock_34 ?_
  refine p_get G dX6_knock_35 fl_X6_12 (k := 0) rfl rfl ?_
  refine p_iload_n G rfl 1 rfl dX6_knock_38 ?_
  refine p_aload_n G rfl 0 rfl dX6_knock_39 ?_
  refine p_get G dX6_knock_40 fl_X6_47 (k := 0) rfl rfl ?_
  refine p_get G dX6_knock_43 fl_X6_128 (k := 84) rfl rfl ?_
  obtain ⟨v5, hc, h⟩ := bnd_some h
  refine p_callVr G zl_47 dX6_knock_46 lk_X6_131 (c_X2_reasonAgainstKnock (gl Γ) hc) (As := [.int (zJ p1), .int (zJ (σ4 84 2))]) (ci := 4) rfl zk_47 (zs_x zs_47 _) rfl rfl rfl (Nat.le_of_ble_eq_true rfl) ⟨rfl, rfl, Nat.le_of_ble_eq_true rfl, Nat.le_of_ble_eq_true rfl⟩ hcs ?_
  refine p_istore_nU (lv' := [(2, .int (zJ v5)), (0, .ref (ga Γ 0)), (1, .int (zJ p1))]) G rfl dX6_knock_49 (by decide) rfl ?_
  refine p_iload_n G rfl 0 rfl dX6_knock_50 ?_
  refine p_ifeq (tgt := 60) G dX6_knock_51 (by decide) h (fun c12 h => ?_) (fun c12 h => ?_)
  · refine p_aload_n G rfl 1 rfl dX6_knock_60 ?_
    refine p_get G dX6_knock_61 fl_X6_22 (k := 0) rfl rfl ?_
    refine p_aload_n G rfl 1 rfl dX6_knock_64 ?_
    refine p_get G dX6_knock_65 fl_X6_12 (k := 0) rfl rfl ?_
    obtain ⟨σ6, hc, h⟩ := bnd_some h
    refine p_callVN (lv' := fun a => [(2, .int (zJ v5)), (0, .ref (a 0)), (1, .int (zJ p1))]) (st' := fun a => []) G hR hM zl_45 dX6_knock_68 lk_X6_80 (c_X0_push (gl Γ) hc) (As := [.ref (ga Γ 1)]) (ci := 2) rfl zk_45 (by decide +kernel) (by decide +kernel) (zs_x zs_45 _) rfl rfl rfl (Nat.le_of_ble_eq_true rfl) ⟨rfl, rfl, Nat.le_of_ble_eq_true rfl, Nat.le_of_ble_eq_true rfl⟩ (Nat.le_of_ble_eq_true rfl) (Nat.le_of_ble_eq_true rfl) h (fun a e => by have q0 := e 0 _ rfl rfl; exact ⟨by simp only [q0], by rfl⟩) (fun Γ G hR hM σ7 h => ?_)
    refine (?_ : PT Γ 3 shX 71 σ7 [(2, .int (zJ v5)), (0, .ref (ga Γ 0)), (1, .int (zJ p1))] [])
    have hcs := mk_cs G hM (Nat.le_of_ble_eq_true rfl) (Nat.le_of_ble_eq_true rfl)
    refine p_aload_n G rfl 1 rfl dX6_knock_71 ?_
    refine p_get G dX6_knock_72 fl_X6_12 (k := 0) rfl rfl ?_
    refine p_iload_n G rfl 2 rfl dX6_knock_75 ?_
    refine p_aload_n G rfl 1 rfl dX6_knock_76 ?_
    refine p_get G dX6_knock_77 fl_X6_47 (k := 0) rfl rfl ?_
    obtain ⟨v8, hc, h⟩ := bnd_some h
    refine p_callVr G zl_49 dX6_knock_80 lk_X6_135 (c_X5_gain (gl Γ) hc) (As := []) (ci := 7) rfl zk_49 (zs_x zs_49 _) rfl rfl rfl (Nat.le_of_ble_eq_true rfl) ⟨rfl, rfl, Nat.le_of_ble_eq_true rfl, Nat.le_of_ble_eq_true rfl⟩ hcs ?_
    obtain ⟨σ9, hc, h⟩ := bnd_some h
    refine p_callV G zl_47 dX6_knock_83 lk_X6_138 (c_X2_endRound (gl Γ) hc) (As := [.int (zJ p1), .int (zJ v8)]) (ci := 4) rfl zk_47 (zs_x zs_47 _) rfl rfl rfl (Nat.le_of_ble_eq_true rfl) ⟨rfl, rfl, Nat.le_of_ble_eq_true rfl, Nat.le_of_ble_eq_true rfl⟩ hcs ?_
    refine p_nm h (fun σ10 h => ?_)
    refine p_aload_n G rfl 1 rfl dX6_knock_86 ?_
    refine p_get G dX6_knock_87 fl_X6_47 (k := 0) rfl rfl ?_
    obtain ⟨v11, hc, h⟩ := bnd_some h
    refine p_callVr G zl_49 dX6_knock_90 lk_X6_135 (c_X5_gain (gl Γ) hc) (As := []) (ci := 7) rfl zk_49 (zs_x zs_49 _) rfl rfl rfl (Nat.le_of_ble_eq_true rfl) ⟨rfl, rfl, Nat.le_of_ble_eq_true rfl, Nat.le_of_ble_eq_true rfl⟩ hcs ?_
    (cases h; exact p_iretN G hM (Nat.le_of_ble_eq_true rfl) (Nat.le_of_ble_eq_true rfl) hR dX6_knock_93 rfl rfl)
  · refine p_sipush G (by decide) (by decide) dX6_knock_54 ?_
    refine p_iload_n G rfl 0 rfl dX6_knock_57 ?_
    refine p_isub G dX6_knock_58 ?_
    (cases h; exact p_iretN G hM (Nat.le_of_ble_eq_true rfl) (Nat.le_of_ble_eq_true rfl) hR dX6_knock_59 rfl rfl)
set_option maxHeartbeats 4000000 in
set_option maxRecDepth 100000 in
theorem c_X6_deal (l : Launch) {D : va_G} {yy : Nat → ClassId} {tk tv a : Nat → Nat} {σ : Mm} {o : Mm × Int} (h : x_X6_deal σ = some o) : CTN l yX6_deal cX6_deal 2 (some .int) rm_X6_deal shX shX D yy tk tv a σ [.ref (a 0)] o.1 (some (.int (zJ o.2))) 5 125 := by
  refine ctn_of (Ar := fun a tk => [.ref (a 0)]) (by decide) (Nat.le_of_ble_eq_true rfl) (fun h => by cases h) (fun Γ G _ hM hR => ?_)
  have hcs := mk_cs G hM (Nat.le_of_ble_eq_true rfl) (Nat.le_of_ble_eq_true rfl)
  unfold x_X6_deal at h
  refine (?_ : PT Γ 2 shX 0 σ [(0, .ref (ga Γ 0))] [])
  refine p_aload_n G rfl 0 rfl dX6_deal_0 ?_
  refine p_get G dX6_deal_1 fl_X6_12 (k := 0) rfl rfl ?_
  obtain ⟨v1, hc, h⟩ := bnd_some h
  refine p_callVr G zl_47 dX6_deal_4 lk_X6_141 (c_X2_reasonAgainstDeal (gl Γ) hc) (As := []) (ci := 4) rfl zk_47 (zs_x zs_47 _) rfl rfl rfl (Nat.le_of_ble_eq_true rfl) ⟨rfl, rfl, Nat.le_of_ble_eq_true rfl, Nat.le_of_ble_eq_true rfl⟩ hcs ?_
  refine p_istore_nU (lv' := [(1, .int (zJ v1)), (0, .ref (ga Γ 0))]) G rfl dX6_deal_7 (by decide) rfl ?_
  refine p_iload_n G rfl 0 rfl dX6_deal_8 ?_
  refine p_ifeq (tgt := 15) G dX6_deal_9 (by decide) h (fun c6 h => ?_) (fun c6 h => ?_)
  · refine p_aload_n G rfl 1 rfl dX6_deal_15 ?_
    refine p_get G dX6_deal_16 fl_X6_22 (k := 0) rfl rfl ?_
    refine p_aload_n G rfl 1 rfl dX6_deal_19 ?_
    refine p_get G dX6_deal_20 fl_X6_12 (k := 0) rfl rfl ?_
    obtain ⟨σ2, hc, h⟩ := bnd_some h
    refine p_callVN (lv' := fun a => [(1, .int (zJ v1)), (0, .ref (a 0))]) (st' := fun a => []) G hR hM zl_45 dX6_deal_23 lk_X6_80 (c_X0_push (gl Γ) hc) (As := [.ref (ga Γ 1)]) (ci := 2) rfl zk_45 (by decide +kernel) (by decide +kernel) (zs_x zs_45 _) rfl rfl rfl (Nat.le_of_ble_eq_true rfl) ⟨rfl, rfl, Nat.le_of_ble_eq_true rfl, Nat.le_of_ble_eq_true rfl⟩ (Nat.le_of_ble_eq_true rfl) (Nat.le_of_ble_eq_true rfl) h (fun a e => by have q0 := e 0 _ rfl rfl; exact ⟨by simp only [q0], by rfl⟩) (fun Γ G hR hM σ3 h => ?_)
    refine (?_ : PT Γ 2 shX 26 σ3 [(1, .int (zJ v1)), (0, .ref (ga Γ 0))] [])
    have hcs := mk_cs G hM (Nat.le_of_ble_eq_true rfl) (Nat.le_of_ble_eq_true rfl)
    refine p_aload_n G rfl 1 rfl dX6_deal_26 ?_
    refine p_get G dX6_deal_27 fl_X6_12 (k := 0) rfl rfl ?_
    obtain ⟨σ4, hc, h⟩ := bnd_some h
    refine p_callV G zl_47 dX6_deal_30 lk_X6_144 (c_X2_beginNextRound (gl Γ) hc) (As := []) (ci := 4) rfl zk_47 (zs_x zs_47 _) rfl rfl rfl (Nat.le_of_ble_eq_true rfl) ⟨rfl, rfl, Nat.le_of_ble_eq_true rfl, Nat.le_of_ble_eq_true rfl⟩ hcs ?_
    refine p_nm h (fun σ5 h => ?_)
    refine p_aload_n G rfl 1 rfl dX6_deal_33 ?_
    refine p_get G dX6_deal_34 fl_X6_12 (k := 0) rfl rfl ?_
    refine p_get G dX6_deal_37 fl_X6_147 (k := 1) rfl rfl ?_
    (cases h; exact p_iretN G hM (Nat.le_of_ble_eq_true rfl) (Nat.le_of_ble_eq_true rfl) hR dX6_deal_40 rfl rfl)
  · refine p_iload_n G rfl 0 rfl dX6_deal_12 ?_
    refine p_ineg G dX6_deal_13 ?_
    (cases h; exact p_iretN G hM (Nat.le_of_ble_eq_true rfl) (Nat.le_of_ble_eq_true rfl) hR dX6_deal_14 rfl rfl)
set_option maxHeartbeats 4000000 in
set_option maxRecDepth 100000 in
theorem c_X6_isWithin (l : Launch) {D : va_G} {yy : Nat → ClassId} {tk tv a : Nat → Nat} {σ : Mm} {p0 : Int} {p1 : Int} {p2 : Int} {o : Int} (h : x_X6_isWithin p0 p1 p2 = some o) : CT l yX6_isWithin cX6_isWithin 3 (some .boolean) rm_X6_isWithin shN D yy tk tv a σ [.int (zJ p0), .int (zJ p1), .int (zJ p2)] σ (some (.int (zJ o))) := by
  refine ct_of (Ar := fun a tk => [.int (zJ p0), .int (zJ p1), .int (zJ p2)]) (by decide) (Nat.le_of_ble_eq_true rfl) (fun Γ G _ _ hR => ?_)
  have hcs := rt_cs hR
  unfold x_X6_isWithin at h
  refine (?_ : PT Γ 3 shN 0 σ [(0, .int (zJ p0)), (1, .int (zJ p1)), (2, .int (zJ p2))] [])
  refine p_iload_n G rfl 0 rfl dX6_isWithin_0 ?_
  refine p_iload_n G rfl 1 rfl dX6_isWithin_1 ?_
  refine p_icmplt (tgt := 14) G dX6_isWithin_2 (by decide) h (fun c2 h => ?_) (fun c2 h => ?_)
  · refine p_iconst G rfl dX6_isWithin_14 ?_
    (cases h; exact p_zret G hR dX6_isWithin_15 (by decide) rfl rfl)
  · refine p_iload_n G rfl 0 rfl dX6_isWithin_5 ?_
    refine p_iload_n G rfl 2 rfl dX6_isWithin_6 ?_
    refine p_icmpgt (tgt := 14) G dX6_isWithin_7 (by decide) h (fun c1 h => ?_) (fun c1 h => ?_)
    · refine p_iconst G rfl dX6_isWithin_14 ?_
      (cases h; exact p_zret G hR dX6_isWithin_15 (by decide) rfl rfl)
    · refine p_iconst G rfl dX6_isWithin_10 ?_
      refine p_goto (tgt := 15) G dX6_isWithin_11 (by decide) ?_
      (cases h; exact p_zret G hR dX6_isWithin_15 (by decide) rfl rfl)
set_option maxHeartbeats 4000000 in
set_option maxRecDepth 100000 in
theorem c_X6_require (l : Launch) {D : va_G} {yy : Nat → ClassId} {tk tv a : Nat → Nat} {σ : Mm} {p0 : Int} {o : Unit} (h : x_X6_require p0 = some (.inl o)) : CT l yX6_require cX6_require 1 none rm_X6_require shN D yy tk tv a σ [.int (zJ p0)] σ none := by
  refine ct_of (Ar := fun a tk => [.int (zJ p0)]) (by decide) (Nat.le_of_ble_eq_true rfl) (fun Γ G _ _ hR => ?_)
  have hcs := rt_cs hR
  unfold x_X6_require at h
  refine (?_ : PT Γ 1 shN 0 σ [(0, .int (zJ p0))] [])
  refine p_iload_n G rfl 0 rfl dX6_require_0 ?_
  refine p_ifne (tgt := 15) G dX6_require_1 (by decide) h (fun c1 h => ?_) (fun c1 h => ?_)
  · have h := inlO_inl h
    (cases h; exact p_vret G hR dX6_require_15 rfl rfl)
  · cases h
set_option maxHeartbeats 4000000 in
set_option maxRecDepth 100000 in
theorem c_X6_set (l : Launch) {D : va_G} {yy : Nat → ClassId} {tk tv a : Nat → Nat} {σ : Mm} {p1 : Int} {p2 : Int} {o : Mm × Int} (h : x_X6_set σ p1 p2 = some (.inl o)) : CTN l yX6_set cX6_set 4 (some .int) rm_X6_set shX shX D yy tk tv a σ [.ref (a 0), .int (zJ p1), .int (zJ p2)] o.1 (some (.int (zJ o.2))) 5 125 := by
  refine ctn_of (Ar := fun a tk => [.ref (a 0), .int (zJ p1), .int (zJ p2)]) (by decide) (Nat.le_of_ble_eq_true rfl) (fun h => by cases h) (fun Γ G _ hM hR => ?_)
  have hcs := mk_cs G hM (Nat.le_of_ble_eq_true rfl) (Nat.le_of_ble_eq_true rfl)
  unfold x_X6_set at h
  refine (?_ : PT Γ 4 shX 0 σ [(0, .ref (ga Γ 0)), (1, .int (zJ p1)), (2, .int (zJ p2))] [])
  refine p_iload_n G rfl 1 rfl dX6_set_0 ?_
  refine p_ifeq (tgt := 16) G dX6_set_1 (by decide) h (fun c25 h => ?_) (fun c25 h => ?_)
  · refine p_iload_n G rfl 2 rfl dX6_set_16 ?_
    refine p_iconst G rfl dX6_set_17 ?_
    refine p_bipush G (by decide) (by decide) dX6_set_18 ?_
    obtain ⟨v1, hc, h⟩ := bnd_some h
    refine p_callS0 G dX6_set_20 lk_X6_150 (c_X6_isWithin (gl Γ) hc) (As := [.int (zJ p2), .int (zJ (0 : Int)), .int (zJ (20 : Int))]) rfl zk_48 rfl (Nat.le_of_ble_eq_true rfl) ⟨rfl, rfl, Nat.le_of_ble_eq_true rfl, Nat.le_of_ble_eq_true rfl⟩ hcs ?_
    obtain ⟨o_, hc, h⟩ := bthr h
    refine p_callS0 G dX6_set_23 lk_X6_154 (c_X6_require (gl Γ) hc) (As := [.int (zJ v1)]) rfl zk_48 rfl (Nat.le_of_ble_eq_true rfl) ⟨rfl, rfl, Nat.le_of_ble_eq_true rfl, Nat.le_of_ble_eq_true rfl⟩ hcs ?_
    have h := inlO_inl h
    refine p_aload_n G rfl 0 rfl dX6_set_26 ?_
    refine p_get G dX6_set_27 fl_X6_22 (k := 0) rfl rfl ?_
    refine p_aload_n G rfl 0 rfl dX6_set_30 ?_
    refine p_get G dX6_set_31 fl_X6_12 (k := 0) rfl rfl ?_
    obtain ⟨σ2, hc, h⟩ := bnd_some h
    refine p_callVN (lv' := fun a => [(0, .ref (a 0)), (1, .int (zJ p1)), (2, .int (zJ p2))]) (st' := fun a => []) G hR hM zl_45 dX6_set_34 lk_X6_80 (c_X0_push (gl Γ) hc) (As := [.ref (ga Γ 1)]) (ci := 2) rfl zk_45 (by decide +kernel) (by decide +kernel) (zs_x zs_45 _) rfl rfl rfl (Nat.le_of_ble_eq_true rfl) ⟨rfl, rfl, Nat.le_of_ble_eq_true rfl, Nat.le_of_ble_eq_true rfl⟩ (Nat.le_of_ble_eq_true rfl) (Nat.le_of_ble_eq_true rfl) h (fun a e => by have q0 := e 0 _ rfl rfl; exact ⟨by simp only [q0], by rfl⟩) (fun Γ G hR hM σ3 h => ?_)
    refine (?_ : PT Γ 4 shX 37 σ3 [(0, .ref (ga Γ 0)), (1, .int (zJ p1)), (2, .int (zJ p2))] [])
    have hcs := mk_cs G hM (Nat.le_of_ble_eq_true rfl) (Nat.le_of_ble_eq_true rfl)
    refine p_iload_n G rfl 1 rfl dX6_set_37 ?_
    refine p_ifeq (tgt := 51) G dX6_set_38 (by decide) h (fun c12 h => ?_) (fun c12 h => ?_)
    · refine p_aload_n G rfl 0 rfl dX6_set_51 ?_
      refine p_get G dX6_set_52 fl_X6_12 (k := 0) rfl rfl ?_
      refine p_get G dX6_set_55 fl_X6_161 (k := 1) rfl rfl ?_
      refine p_istore_n (lv' := fun v4 => [(3, .int (zJ v4)), (0, .ref (ga Γ 0)), (1, .int (zJ p1)), (2, .int (zJ p2))]) G rfl dX6_set_58 h (by decide) (fun _ => rfl) (fun v4 h => ?_)
      refine p_iload_n G rfl 2 rfl dX6_set_59 ?_
      refine p_ifeq (tgt := 74) G dX6_set_60 (by decide) h (fun c7 h => ?_) (fun c7 h => ?_)
      · refine p_aload_n G rfl 1 rfl dX6_set_74 ?_
        refine p_get G dX6_set_75 fl_X6_12 (k := 0) rfl rfl ?_
        refine p_iload_n G rfl 3 rfl dX6_set_78 ?_
        refine p_putI G dX6_set_79 fp_X6_161 (k := 1) rfl rfl rfl rfl h (fun σ5 h => ?_)
        refine p_iload_n G rfl 0 rfl dX6_set_82 ?_
        (cases h; exact p_iretN G hM (Nat.le_of_ble_eq_true rfl) (Nat.le_of_ble_eq_true rfl) hR dX6_set_83 rfl rfl)
      · refine p_aload_n G rfl 1 rfl dX6_set_63 ?_
        refine p_get G dX6_set_64 fl_X6_12 (k := 0) rfl rfl ?_
        refine p_iload_n G rfl 3 rfl dX6_set_67 ?_
        refine p_putI G dX6_set_68 fp_X6_158 (k := 1) rfl rfl rfl rfl h (fun σ6 h => ?_)
        refine p_goto (tgt := 82) G dX6_set_71 (by decide) ?_
        refine p_iload_n G rfl 0 rfl dX6_set_82 ?_
        (cases h; exact p_iretN G hM (Nat.le_of_ble_eq_true rfl) (Nat.le_of_ble_eq_true rfl) hR dX6_set_83 rfl rfl)
    · refine p_aload_n G rfl 0 rfl dX6_set_41 ?_
      refine p_get G dX6_set_42 fl_X6_12 (k := 0) rfl rfl ?_
      refine p_get G dX6_set_45 fl_X6_158 (k := 1) rfl rfl ?_
      refine p_goto (tgt := 58) G dX6_set_48 (by decide) ?_
      refine p_istore_n (lv' := fun v8 => [(3, .int (zJ v8)), (0, .ref (ga Γ 0)), (1, .int (zJ p1)), (2, .int (zJ p2))]) G rfl dX6_set_58 h (by decide) (fun _ => rfl) (fun v8 h => ?_)
      refine p_iload_n G rfl 2 rfl dX6_set_59 ?_
      refine p_ifeq (tgt := 74) G dX6_set_60 (by decide) h (fun c11 h => ?_) (fun c11 h => ?_)
      · refine p_aload_n G rfl 1 rfl dX6_set_74 ?_
        refine p_get G dX6_set_75 fl_X6_12 (k := 0) rfl rfl ?_
        refine p_iload_n G rfl 3 rfl dX6_set_78 ?_
        refine p_putI G dX6_set_79 fp_X6_161 (k := 1) rfl rfl rfl rfl h (fun σ9 h => ?_)
        refine p_iload_n G rfl 0 rfl dX6_set_82 ?_
        (cases h; exact p_iretN G hM (Nat.le_of_ble_eq_true rfl) (Nat.le_of_ble_eq_true rfl) hR dX6_set_83 rfl rfl)
      · refine p_aload_n G rfl 1 rfl dX6_set_63 ?_
        refine p_get G dX6_set_64 fl_X6_12 (k := 0) rfl rfl ?_
        refine p_iload_n G rfl 3 rfl dX6_set_67 ?_
        refine p_putI G dX6_set_68 fp_X6_158 (k := 1) rfl rfl rfl rfl h (fun σ10 h => ?_)
        refine p_goto (tgt := 82) G dX6_set_71 (by decide) ?_
        refine p_iload_n G rfl 0 rfl dX6_set_82 ?_
        (cases h; exact p_iretN G hM (Nat.le_of_ble_eq_true rfl) (Nat.le_of_ble_eq_true rfl) hR dX6_set_83 rfl rfl)
  · refine p_iload_n G rfl 2 rfl dX6_set_4 ?_
    refine p_bipush G (by decide) (by decide) dX6_set_5 ?_
    refine p_sipush G (by decide) (by decide) dX6_set_7 ?_
    obtain ⟨v13, hc, h⟩ := bnd_some h
    refine p_callS0 G dX6_set_10 lk_X6_150 (c_X6_isWithin (gl Γ) hc) (As := [.int (zJ p2), .int (zJ (20 : Int)), .int (zJ (500 : Int))]) rfl zk_48 rfl (Nat.le_of_ble_eq_true rfl) ⟨rfl, rfl, Nat.le_of_ble_eq_true rfl, Nat.le_of_ble_eq_true rfl⟩ hcs ?_
    refine p_goto (tgt := 23) G dX6_set_13 (by decide) ?_
    obtain ⟨o_, hc, h⟩ := bthr h
    refine p_callS0 G dX6_set_23 lk_X6_154 (c_X6_require (gl Γ) hc) (As := [.int (zJ v13)]) rfl zk_48 rfl (Nat.le_of_ble_eq_true rfl) ⟨rfl, rfl, Nat.le_of_ble_eq_true rfl, Nat.le_of_ble_eq_true rfl⟩ hcs ?_
    have h := inlO_inl h
    refine p_aload_n G rfl 0 rfl dX6_set_26 ?_
    refine p_get G dX6_set_27 fl_X6_22 (k := 0) rfl rfl ?_
    refine p_aload_n G rfl 0 rfl dX6_set_30 ?_
    refine p_get G dX6_set_31 fl_X6_12 (k := 0) rfl rfl ?_
    obtain ⟨σ14, hc, h⟩ := bnd_some h
    refine p_callVN (lv' := fun a => [(0, .ref (a 0)), (1, .int (zJ p1)), (2, .int (zJ p2))]) (st' := fun a => []) G hR hM zl_45 dX6_set_34 lk_X6_80 (c_X0_push (gl Γ) hc) (As := [.ref (ga Γ 1)]) (ci := 2) rfl zk_45 (by decide +kernel) (by decide +kernel) (zs_x zs_45 _) rfl rfl rfl (Nat.le_of_ble_eq_true rfl) ⟨rfl, rfl, Nat.le_of_ble_eq_true rfl, Nat.le_of_ble_eq_true rfl⟩ (Nat.le_of_ble_eq_true rfl) (Nat.le_of_ble_eq_true rfl) h (fun a e => by have q0 := e 0 _ rfl rfl; exact ⟨by simp only [q0], by rfl⟩) (fun Γ G hR hM σ15 h => ?_)
    refine (?_ : PT Γ 4 shX 37 σ15 [(0, .ref (ga Γ 0)), (1, .int (zJ p1)), (2, .int (zJ p2))] [])
    have hcs := mk_cs G hM (Nat.le_of_ble_eq_true rfl) (Nat.le_of_ble_eq_true rfl)
    refine p_iload_n G rfl 1 rfl dX6_set_37 ?_
    refine p_ifeq (tgt := 51) G dX6_set_38 (by decide) h (fun c24 h => ?_) (fun c24 h => ?_)
    · refine p_aload_n G rfl 0 rfl dX6_set_51 ?_
      refine p_get G dX6_set_52 fl_X6_12 (k := 0) rfl rfl ?_
      refine p_get G dX6_set_55 fl_X6_161 (k := 1) rfl rfl ?_
      refine p_istore_n (lv' := fun v16 => [(3, .int (zJ v16)), (0, .ref (ga Γ 0)), (1, .int (zJ p1)), (2, .int (zJ p2))]) G rfl dX6_set_58 h (by decide) (fun _ => rfl) (fun v16 h => ?_)
      refine p_iload_n G rfl 2 rfl dX6_set_59 ?_
      refine p_ifeq (tgt := 74) G dX6_set_60 (by decide) h (fun c19 h => ?_) (fun c19 h => ?_)
      · refine p_aload_n G rfl 1 rfl dX6_set_74 ?_
        refine p_get G dX6_set_75 fl_X6_12 (k := 0) rfl rfl ?_
        refine p_iload_n G rfl 3 rfl dX6_set_78 ?_
        refine p_putI G dX6_set_79 fp_X6_161 (k := 1) rfl rfl rfl rfl h (fun σ17 h => ?_)
        refine p_iload_n G rfl 0 rfl dX6_set_82 ?_
        (cases h; exact p_iretN G hM (Nat.le_of_ble_eq_true rfl) (Nat.le_of_ble_eq_true rfl) hR dX6_set_83 rfl rfl)
      · refine p_aload_n G rfl 1 rfl dX6_set_63 ?_
        refine p_get G dX6_set_64 fl_X6_12 (k := 0) rfl rfl ?_
        refine p_iload_n G rfl 3 rfl dX6_set_67 ?_
        refine p_putI G dX6_set_68 fp_X6_158 (k := 1) rfl rfl rfl rfl h (fun σ18 h => ?_)
        refine p_goto (tgt := 82) G dX6_set_71 (by decide) ?_
        refine p_iload_n G rfl 0 rfl dX6_set_82 ?_
        (cases h; exact p_iretN G hM (Nat.le_of_ble_eq_true rfl) (Nat.le_of_ble_eq_true rfl) hR dX6_set_83 rfl rfl)
    · refine p_aload_n G rfl 0 rfl dX6_set_41 ?_
      refine p_get G dX6_set_42 fl_X6_12 (k := 0) rfl rfl ?_
      refine p_get G dX6_set_45 fl_X6_158 (k := 1) rfl rfl ?_
      refine p_goto (tgt := 58) G dX6_set_48 (by decide) ?_
      refine p_istore_n (lv' := fun v20 => [(3, .int (zJ v20)), (0, .ref (ga Γ 0)), (1, .int (zJ p1)), (2, .int (zJ p2))]) G rfl dX6_set_58 h (by decide) (fun _ => rfl) (fun v20 h => ?_)
      refine p_iload_n G rfl 2 rfl dX6_set_59 ?_
      refine p_ifeq (tgt := 74) G dX6_set_60 (by decide) h (fun c23 h => ?_) (fun c23 h => ?_)
      · refine p_aload_n G rfl 1 rfl dX6_set_74 ?_
        refine p_get G dX6_set_75 fl_X6_12 (k := 0) rfl rfl ?_
        refine p_iload_n G rfl 3 rfl dX6_set_78 ?_
        refine p_putI G dX6_set_79 fp_X6_161 (k := 1) rfl rfl rfl rfl h (fun σ21 h => ?_)
        refine p_iload_n G rfl 0 rfl dX6_set_82 ?_
        (cases h; exact p_iretN G hM (Nat.le_of_ble_eq_true rfl) (Nat.le_of_ble_eq_true rfl) hR dX6_set_83 rfl rfl)
      · refine p_aload_n G rfl 1 rfl dX6_set_63 ?_
        refine p_get G dX6_set_64 fl_X6_12 (k := 0) rfl rfl ?_
        refine p_iload_n G rfl 3 rfl dX6_set_67 ?_
        refine p_putI G dX6_set_68 fp_X6_158 (k := 1) rfl rfl rfl rfl h (fun σ22 h => ?_)
        refine p_goto (tgt := 82) G dX6_set_71 (by decide) ?_
        refine p_iload_n G rfl 0 rfl dX6_set_82 ?_
        (cases h; exact p_iretN G hM (Nat.le_of_ble_eq_true rfl) (Nat.le_of_ble_eq_true rfl) hR dX6_set_83 rfl rfl)
set_option maxHeartbeats 4000000 in
set_option maxRecDepth 100000 in
theorem c_X6_undo (l : Launch) {D : va_G} {yy : Nat → ClassId} {tk tv a : Nat → Nat} {σ : Mm} {o : Mm × Int} (h : x_X6_undo σ = some o) : CT l yX6_undo cX6_undo 1 (some .int) rm_X6_undo shX D yy tk tv a σ [.ref (a 0)] o.1 (some (.int (zJ o.2))) := by
  refine ct_of (Ar := fun a tk => [.ref (a 0)]) (by decide) (Nat.le_of_ble_eq_true rfl) (fun Γ G _ _ hR => ?_)
  have hcs := rt_cs hR
  unfold x_X6_undo at h
  refine (?_ : PT Γ 1 shX 0 σ [(0, .ref (ga Γ 0))] [])
  refine p_aload_n G rfl 0 rfl dX6_undo_0 ?_
  refine p_get G dX6_undo_1 fl_X6_22 (k := 0) rfl rfl ?_
  refine p_aload_n G rfl 0 rfl dX6_undo_4 ?_
  refine p_get G dX6_undo_5 fl_X6_12 (k := 0) rfl rfl ?_
  obtain ⟨⟨σ1, v2⟩, hc, h⟩ := bnd_some h
  rw [un2_mk] at h
  refine p_callV G zl_45 dX6_undo_8 lk_X6_164 (c_X0_pop (gl Γ) hc) (As := [.ref (ga Γ 1)]) (ci := 2) rfl zk_45 (zs_x zs_45 _) rfl rfl rfl (Nat.le_of_ble_eq_true rfl) ⟨rfl, rfl, Nat.le_of_ble_eq_true rfl, Nat.le_of_ble_eq_true rfl⟩ hcs ?_
  refine p_nm h (fun σ3 h => ?_)
  refine p_ifeq (tgt := 24) G dX6_undo_11 (by decide) h (fun c4 h => ?_) (fun c4 h => ?_)
  · refine p_iconst G rfl dX6_undo_24 ?_
    (cases h; exact p_iret G hR dX6_undo_25 rfl rfl)
  · refine p_aload_n G rfl 0 rfl dX6_undo_14 ?_
    refine p_get G dX6_undo_15 fl_X6_22 (k := 0) rfl rfl ?_
    refine p_get G dX6_undo_18 fl_X6_168 (k := 11) rfl rfl ?_
    refine p_goto (tgt := 25) G dX6_undo_21 (by decide) ?_
    (cases h; exact p_iret G hR dX6_undo_25 rfl rfl)
set_option maxHeartbeats 4000000 in
set_option maxRecDepth 100000 in
theorem c_X6_append (l : Launch) {D : va_G} {yy : Nat → ClassId} {tk tv a : Nat → Nat} {σ : Mm} {p1 : Int} {p2 : Int} {p3 : Int} {p4 : Int} {p5 : Int} {o : Mm × Int} (h : x_X6_append σ p1 p2 p3 p4 p5 = some o) : CT l yX6_append cX6_append 6 (some .int) rm_X6_append shX D yy tk tv a σ [.ref (a 0), .int (zJ p1), .int (zJ p2), .int (zJ p3), .int (zJ p4), .int (zJ p5)] o.1 (some (.int (zJ o.2))) := by
  refine ct_of (Ar := fun a tk => [.ref (a 0), .int (zJ p1), .int (zJ p2), .int (zJ p3), .int (zJ p4), .int (zJ p5)]) (by decide) (Nat.le_of_ble_eq_true rfl) (fun Γ G _ _ hR => ?_)
  have hcs := rt_cs hR
  unfold x_X6_append at h
  refine (?_ : PT Γ 6 shX 0 σ [(0, .ref (ga Γ 0)), (1, .int (zJ p1)), (2, .int (zJ p2)), (3, .int (zJ p3)), (4, .int (zJ p4)), (5, .int (zJ p5))] [])
  refine p_aload_n G rfl 0 rfl dX6_append_0 ?_
  refine p_get G dX6_append_1 fl_X6_33 (k := 0) rfl rfl ?_
  refine p_get G dX6_append_4 fl_X6_180 (k := 74) rfl rfl ?_
  refine p_bipush G (by decide) (by decide) dX6_append_7 ?_
  refine p_iadd G dX6_append_9 ?_
  refine p_sipush G (by decide) (by decide) dX6_append_10 ?_
  refine p_icmple (tgt := 19) G dX6_append_13 (by decide) h (fun c11 h => ?_) (fun c11 h => ?_)
  · refine p_aload_n G rfl 0 rfl dX6_append_19 ?_
    refine p_get G dX6_append_20 fl_X6_33 (k := 0) rfl rfl ?_
    refine p_iload_n G rfl 1 rfl dX6_append_23 ?_
    obtain ⟨σ1, hc, h⟩ := bnd_some h
    refine p_callV G zl_41 dX6_append_24 lk_X6_183 (c_X3_writeFour (gl Γ) hc) (As := [.int (zJ p1)]) (ci := 5) rfl zk_41 (zs_x zs_41 _) rfl rfl rfl (Nat.le_of_ble_eq_true rfl) ⟨rfl, rfl, Nat.le_of_ble_eq_true rfl, Nat.le_of_ble_eq_true rfl⟩ hcs ?_
    refine p_nm h (fun σ2 h => ?_)
    refine p_aload_n G rfl 0 rfl dX6_append_27 ?_
    refine p_get G dX6_append_28 fl_X6_33 (k := 0) rfl rfl ?_
    refine p_iload_n G rfl 2 rfl dX6_append_31 ?_
    obtain ⟨σ3, hc, h⟩ := bnd_some h
    refine p_callV G zl_41 dX6_append_32 lk_X6_183 (c_X3_writeFour (gl Γ) hc) (As := [.int (zJ p2)]) (ci := 5) rfl zk_41 (zs_x zs_41 _) rfl rfl rfl (Nat.le_of_ble_eq_true rfl) ⟨rfl, rfl, Nat.le_of_ble_eq_true rfl, Nat.le_of_ble_eq_true rfl⟩ hcs ?_
    refine p_nm h (fun σ4 h => ?_)
    refine p_aload_n G rfl 0 rfl dX6_append_35 ?_
    refine p_get G dX6_append_36 fl_X6_33 (k := 0) rfl rfl ?_
    refine p_iload_n G rfl 3 rfl dX6_append_39 ?_
    obtain ⟨σ5, hc, h⟩ := bnd_some h
    refine p_callV G zl_41 dX6_append_40 lk_X6_183 (c_X3_writeFour (gl Γ) hc) (As := [.int (zJ p3)]) (ci := 5) rfl zk_41 (zs_x zs_41 _) rfl rfl rfl (Nat.le_of_ble_eq_true rfl) ⟨rfl, rfl, Nat.le_of_ble_eq_true rfl, Nat.le_of_ble_eq_true rfl⟩ hcs ?_
    refine p_nm h (fun σ6 h => ?_)
    refine p_aload_n G rfl 0 rfl dX6_append_43 ?_
    refine p_get G dX6_append_44 fl_X6_33 (k := 0) rfl rfl ?_
    refine p_iload G 4 rfl dX6_append_47 ?_
    obtain ⟨σ7, hc, h⟩ := bnd_some h
    refine p_callV G zl_41 dX6_append_49 lk_X6_183 (c_X3_writeFour (gl Γ) hc) (As := [.int (zJ p4)]) (ci := 5) rfl zk_41 (zs_x zs_41 _) rfl rfl rfl (Nat.le_of_ble_eq_true rfl) ⟨rfl, rfl, Nat.le_of_ble_eq_true rfl, Nat.le_of_ble_eq_true rfl⟩ hcs ?_
    refine p_nm h (fun σ8 h => ?_)
    refine p_aload_n G rfl 0 rfl dX6_append_52 ?_
    refine p_get G dX6_append_53 fl_X6_33 (k := 0) rfl rfl ?_
    refine p_iload G 5 rfl dX6_append_56 ?_
    obtain ⟨σ9, hc, h⟩ := bnd_some h
    refine p_callV G zl_41 dX6_append_58 lk_X6_183 (c_X3_writeFour (gl Γ) hc) (As := [.int (zJ p5)]) (ci := 5) rfl zk_41 (zs_x zs_41 _) rfl rfl rfl (Nat.le_of_ble_eq_true rfl) ⟨rfl, rfl, Nat.le_of_ble_eq_true rfl, Nat.le_of_ble_eq_true rfl⟩ hcs ?_
    refine p_nm h (fun σ10 h => ?_)
    refine p_aload_n G rfl 0 rfl dX6_append_61 ?_
    refine p_get G dX6_append_62 fl_X6_33 (k := 0) rfl rfl ?_
    refine p_get G dX6_append_65 fl_X6_180 (k := 74) rfl rfl ?_
    (cases h; exact p_iret G hR dX6_append_68 rfl rfl)
  · refine p_bipush G (by decide) (by decide) dX6_append_16 ?_
    (cases h; exact p_iret G hR dX6_append_18 rfl rfl)
set_option maxHeartbeats 4000000 in
set_option maxRecDepth 100000 in
theorem c_X6_match (l : Launch) {D : va_G} {yy : Nat → ClassId} {tk tv a : Nat → Nat} {σ : Mm} {p1 : Int} {o : Int} (h : x_X6_match σ p1 = some (.inl o)) : CT l yX6_match cX6_match 2 (some .int) rm_X6_match shX D yy tk tv a σ [.ref (a 0), .int (zJ p1)] σ (some (.int (zJ o))) := by
  refine ct_of (Ar := fun a tk => [.ref (a 0), .int (zJ p1)]) (by decide) (Nat.le_of_ble_eq_true rfl) (fun Γ G _ _ hR => ?_)
  have hcs := rt_cs hR
  unfold x_X6_match at h
  refine (?_ : PT Γ 2 shX 0 σ [(0, .ref (ga Γ 0)), (1, .int (zJ p1))] [])
  refine p_iload_n G rfl 1 rfl dX6_match_0 ?_
  refine p_iconst G rfl dX6_match_1 ?_
  refine p_bipush G (by decide) (by decide) dX6_match_2 ?_
  obtain ⟨v1, hc, h⟩ := bnd_some h
  refine p_callS0 G dX6_match_4 lk_X6_150 (c_X6_isWithin (gl Γ) hc) (As := [.int (zJ p1), .int (zJ (0 : Int)), .int (zJ (16 : Int))]) rfl zk_48 rfl (Nat.le_of_ble_eq_true rfl) ⟨rfl, rfl, Nat.le_of_ble_eq_true rfl, Nat.le_of_ble_eq_true rfl⟩ hcs ?_
  obtain ⟨o_, hc, h⟩ := bthr h
  refine p_callS0 G dX6_match_7 lk_X6_154 (c_X6_require (gl Γ) hc) (As := [.int (zJ v1)]) rfl zk_48 rfl (Nat.le_of_ble_eq_true rfl) ⟨rfl, rfl, Nat.le_of_ble_eq_true rfl, Nat.le_of_ble_eq_true rfl⟩ hcs ?_
  have h := inlO_inl h
  refine p_iload_n G rfl 1 rfl dX6_match_10 ?_
  refine zite h (fun c0_11 h => ?_) (fun c0_11 h => ?_)
  · refine p_tin (tgt := 88) (off := 77) G dX6_match_11 c0_11 (by decide) (by decide) rfl (by decide) ?_
    refine p_aload_n G rfl 0 rfl dX6_match_88 ?_
    refine p_get G dX6_match_89 fl_X6_12 (k := 0) rfl rfl ?_
    refine p_get G dX6_match_92 fl_X6_87 (k := 1) rfl rfl ?_
    (cases h; exact p_iret G hR dX6_match_95 rfl rfl)
  · refine zite h (fun c1_11 h => ?_) (fun c1_11 h => ?_)
    · refine p_tin (tgt := 96) (off := 85) G dX6_match_11 c1_11 (by decide) (by decide) rfl (by decide) ?_
      refine p_aload_n G rfl 0 rfl dX6_match_96 ?_
      refine p_get G dX6_match_97 fl_X6_12 (k := 0) rfl rfl ?_
      refine p_get G dX6_match_100 fl_X6_161 (k := 1) rfl rfl ?_
      (cases h; exact p_iret G hR dX6_match_103 rfl rfl)
    · refine zite h (fun c2_11 h => ?_) (fun c2_11 h => ?_)
      · refine p_tin (tgt := 104) (off := 93) G dX6_match_11 c2_11 (by decide) (by decide) rfl (by decide) ?_
        refine p_aload_n G rfl 0 rfl dX6_match_104 ?_
        refine p_get G dX6_match_105 fl_X6_12 (k := 0) rfl rfl ?_
        refine p_get G dX6_match_108 fl_X6_158 (k := 1) rfl rfl ?_
        (cases h; exact p_iret G hR dX6_match_111 rfl rfl)
      · refine zite h (fun c3_11 h => ?_) (fun c3_11 h => ?_)
        · refine p_tin (tgt := 112) (off := 101) G dX6_match_11 c3_11 (by decide) (by decide) rfl (by decide) ?_
          refine p_aload_n G rfl 0 rfl dX6_match_112 ?_
          refine p_get G dX6_match_113 fl_X6_12 (k := 0) rfl rfl ?_
          refine p_get G dX6_match_116 fl_X6_147 (k := 1) rfl rfl ?_
          (cases h; exact p_iret G hR dX6_match_119 rfl rfl)
        · refine zite h (fun c4_11 h => ?_) (fun c4_11 h => ?_)
          · refine p_tin (tgt := 120) (off := 109) G dX6_match_11 c4_11 (by decide) (by decide) rfl (by decide) ?_
            refine p_aload_n G rfl 0 rfl dX6_match_120 ?_
            refine p_get G dX6_match_121 fl_X6_12 (k := 0) rfl rfl ?_
            refine p_get G dX6_match_124 fl_X6_99 (k := 1) rfl rfl ?_
            (cases h; exact p_iret G hR dX6_match_127 rfl rfl)
          · refine zite h (fun c5_11 h => ?_) (fun c5_11 h => ?_)
            · refine p_tin (tgt := 128) (off := 117) G dX6_match_11 c5_11 (by decide) (by decide) rfl (by decide) ?_
              refine p_aload_n G rfl 0 rfl dX6_match_128 ?_
              refine p_get G dX6_match_129 fl_X6_12 (k := 0) rfl rfl ?_
              refine p_get G dX6_match_132 fl_X6_186 (k := 1) rfl rfl ?_
              refine p_ifeq (tgt := 142) G dX6_match_135 (by decide) h (fun c2 h => ?_) (fun c2 h => ?_)
              · refine p_iconst G rfl dX6_match_142 ?_
                (cases h; exact p_iret G hR dX6_match_143 rfl rfl)
              · refine p_iconst G rfl dX6_match_138 ?_
                refine p_goto (tgt := 143) G dX6_match_139 (by decide) ?_
                (cases h; exact p_iret G hR dX6_match_143 rfl rfl)
            · refine zite h (fun c6_11 h => ?_) (fun c6_11 h => ?_)
              · refine p_tin (tgt := 144) (off := 133) G dX6_match_11 c6_11 (by decide) (by decide) rfl (by decide) ?_
                refine p_aload_n G rfl 0 rfl dX6_match_144 ?_
                refine p_get G dX6_match_145 fl_X6_12 (k := 0) rfl rfl ?_
                refine p_get G dX6_match_148 fl_X6_190 (k := 1) rfl rfl ?_
                refine p_ifeq (tgt := 158) G dX6_match_151 (by decide) h (fun c3 h => ?_) (fun c3 h => ?_)
                · refine p_iconst G rfl dX6_match_158 ?_
                  (cases h; exact p_iret G hR dX6_match_159 rfl rfl)
                · refine p_iconst G rfl dX6_match_154 ?_
                  refine p_goto (tgt := 159) G dX6_match_155 (by decide) ?_
                  (cases h; exact p_iret G hR dX6_match_159 rfl rfl)
              · refine zite h (fun c7_11 h => ?_) (fun c7_11 h => ?_)
                · refine p_tin (tgt := 160) (off := 149) G dX6_match_11 c7_11 (by decide) (by decide) rfl (by decide) ?_
                  refine p_aload_n G rfl 0 rfl dX6_match_160 ?_
                  refine p_get G dX6_match_161 fl_X6_12 (k := 0) rfl rfl ?_
                  obtain ⟨v4, hc, h⟩ := bnd_some h
                  refine p_callVr G zl_47 dX6_match_164 lk_X6_193 (c_X2_isMatchOver (gl Γ) hc) (As := []) (ci := 4) rfl zk_47 (zs_x zs_47 _) rfl rfl rfl (Nat.le_of_ble_eq_true rfl) ⟨rfl, rfl, Nat.le_of_ble_eq_true rfl, Nat.le_of_ble_eq_true rfl⟩ hcs ?_
                  refine p_ifeq (tgt := 174) G dX6_match_167 (by decide) h (fun c5 h => ?_) (fun c5 h => ?_)
                  · refine p_iconst G rfl dX6_match_174 ?_
                    (cases h; exact p_iret G hR dX6_match_175 rfl rfl)
                  · refine p_iconst G rfl dX6_match_170 ?_
                    refine p_goto (tgt := 175) G dX6_match_171 (by decide) ?_
                    (cases h; exact p_iret G hR dX6_match_175 rfl rfl)
                · refine zite h (fun c8_11 h => ?_) (fun c8_11 h => ?_)
                  · refine p_tin (tgt := 176) (off := 165) G dX6_match_11 c8_11 (by decide) (by decide) rfl (by decide) ?_
                    refine p_aload_n G rfl 0 rfl dX6_match_176 ?_
                    refine p_get G dX6_match_177 fl_X6_12 (k := 0) rfl rfl ?_
                    obtain ⟨v6, hc, h⟩ := bnd_some h
                    refine p_callVr G zl_47 dX6_match_180 lk_X6_113 (c_X2_stockCount (gl Γ) hc) (As := []) (ci := 4) rfl zk_47 (zs_x zs_47 _) rfl rfl rfl (Nat.le_of_ble_eq_true rfl) ⟨rfl, rfl, Nat.le_of_ble_eq_true rfl, Nat.le_of_ble_eq_true rfl⟩ hcs ?_
                    (cases h; exact p_iret G hR dX6_match_183 rfl rfl)
                  · refine zite h (fun c9_11 h => ?_) (fun c9_11 h => ?_)
                    · refine p_tin (tgt := 184) (off := 173) G dX6_match_11 c9_11 (by decide) (by decide) rfl (by decide) ?_
                      refine p_aload_n G rfl 0 rfl dX6_match_184 ?_
                      refine p_get G dX6_match_185 fl_X6_12 (k := 0) rfl rfl ?_
                      refine p_get G dX6_match_188 fl_X6_196 (k := 1) rfl rfl ?_
                      (cases h; exact p_iret G hR dX6_match_191 rfl rfl)
                    · refine zite h (fun c10_11 h => ?_) (fun c10_11 h => ?_)
                      · refine p_tin (tgt := 192) (off := 181) G dX6_match_11 c10_11 (by decide) (by decide) rfl (by decide) ?_
                        refine p_aload_n G rfl 0 rfl dX6_match_192 ?_
                        refine p_get G dX6_match_193 fl_X6_12 (k := 0) rfl rfl ?_
                        obtain ⟨v7, hc, h⟩ := bnd_some h
                        refine p_callVr G zl_47 dX6_match_196 lk_X6_199 (c_X2_topOfPile (gl Γ) hc) (As := []) (ci := 4) rfl zk_47 (zs_x zs_47 _) rfl rfl rfl (Nat.le_of_ble_eq_true rfl) ⟨rfl, rfl, Nat.le_of_ble_eq_true rfl, Nat.le_of_ble_eq_true rfl⟩ hcs ?_
                        (cases h; exact p_iret G hR dX6_match_199 rfl rfl)
                      · refine zite h (fun c11_11 h => ?_) (fun c11_11 h => ?_)
                        · refine p_tin (tgt := 200) (off := 189) G dX6_match_11 c11_11 (by decide) (by decide) rfl (by decide) ?_
                          refine p_aload_n G rfl 0 rfl dX6_match_200 ?_
                          refine p_get G dX6_match_201 fl_X6_12 (k := 0) rfl rfl ?_
                          refine p_iconst G rfl dX6_match_204 ?_
                          obtain ⟨v8, hc, h⟩ := bnd_some h
                          refine p_callVr G zl_47 dX6_match_205 lk_X6_202 (c_X2_score (gl Γ) hc) (As := [.int (zJ (0 : Int))]) (ci := 4) rfl zk_47 (zs_x zs_47 _) rfl rfl rfl (Nat.le_of_ble_eq_true rfl) ⟨rfl, rfl, Nat.le_of_ble_eq_true rfl, Nat.le_of_ble_eq_true rfl⟩ hcs ?_
                          (cases h; exact p_iret G hR dX6_match_208 rfl rfl)
                        · refine zite h (fun c12_11 h => ?_) (fun c12_11 h => ?_)
                          · refine p_tin (tgt := 209) (off := 198) G dX6_match_11 c12_11 (by decide) (by decide) rfl (by decide) ?_
                            refine p_aload_n G rfl 0 rfl dX6_match_209 ?_
                            refine p_get G dX6_match_210 fl_X6_12 (k := 0) rfl rfl ?_
                            refine p_iconst G rfl dX6_match_213 ?_
                            obtain ⟨v9, hc, h⟩ := bnd_some h
                            refine p_callVr G zl_47 dX6_match_214 lk_X6_202 (c_X2_score (gl Γ) hc) (As := [.int (zJ (1 : Int))]) (ci := 4) rfl zk_47 (zs_x zs_47 _) rfl rfl rfl (Nat.le_of_ble_eq_true rfl) ⟨rfl, rfl, Nat.le_of_ble_eq_true rfl, Nat.le_of_ble_eq_true rfl⟩ hcs ?_
                            (cases h; exact p_iret G hR dX6_match_217 rfl rfl)
                          · refine zite h (fun c13_11 h => ?_) (fun c13_11 h => ?_)
                            · refine p_tin (tgt := 218) (off := 207) G dX6_match_11 c13_11 (by decide) (by decide) rfl (by decide) ?_
                              refine p_aload_n G rfl 0 rfl dX6_match_218 ?_
                              refine p_get G dX6_match_219 fl_X6_12 (k := 0) rfl rfl ?_
                              refine p_get G dX6_match_222 fl_X6_205 (k := 1) rfl rfl ?_
                              (cases h; exact p_iret G hR dX6_match_225 rfl rfl)
                            · refine zite h (fun c14_11 h => ?_) (fun c14_11 h => ?_)
                              · refine p_tin (tgt := 226) (off := 215) G dX6_match_11 c14_11 (by decide) (by decide) rfl (by decide) ?_
                                refine p_aload_n G rfl 0 rfl dX6_match_226 ?_
                                refine p_get G dX6_match_227 fl_X6_12 (k := 0) rfl rfl ?_
                                refine p_get G dX6_match_230 fl_X6_208 (k := 1) rfl rfl ?_
                                (cases h; exact p_iret G hR dX6_match_233 rfl rfl)
                              · refine zite h (fun c15_11 h => ?_) (fun c15_11 h => ?_)
                                · refine p_tin (tgt := 234) (off := 223) G dX6_match_11 c15_11 (by decide) (by decide) rfl (by decide) ?_
                                  refine p_aload_n G rfl 0 rfl dX6_match_234 ?_
                                  refine p_get G dX6_match_235 fl_X6_22 (k := 0) rfl rfl ?_
                                  refine p_get G dX6_match_238 fl_X6_168 (k := 11) rfl rfl ?_
                                  (cases h; exact p_iret G hR dX6_match_241 rfl rfl)
                                · refine p_tout (tgt := 242) G dX6_match_11 (by omega) (by decide) ?_
                                  refine p_aload_n G rfl 0 rfl dX6_match_242 ?_
                                  refine p_get G dX6_match_243 fl_X6_33 (k := 0) rfl rfl ?_
                                  refine p_get G dX6_match_246 fl_X6_180 (k := 74) rfl rfl ?_
                                  (cases h; exact p_iret G hR dX6_match_249 rfl rfl)
set_option maxHeartbeats 4000000 in
set_option maxRecDepth 100000 in
theorem c_X6_isPlayer (l : Launch) {D : va_G} {yy : Nat → ClassId} {tk tv a : Nat → Nat} {σ : Mm} {p0 : Int} {o : Int} (h : x_X6_isPlayer p0 = some o) : CT l yX6_isPlayer cX6_isPlayer 1 (some .boolean) rm_X6_isPlayer shN D yy tk tv a σ [.int (zJ p0)] σ (some (.int (zJ o))) := by
  refine ct_of (Ar := fun a tk => [.int (zJ p0)]) (by decide) (Nat.le_of_ble_eq_true rfl) (fun Γ G _ _ hR => ?_)
  have hcs := rt_cs hR
  unfold x_X6_isPlayer at h
  refine (?_ : PT Γ 1 shN 0 σ [(0, .int (zJ p0))] [])
  refine p_iload_n G rfl 0 rfl dX6_isPlayer_0 ?_
  refine p_iflt (tgt := 13) G dX6_isPlayer_1 (by decide) h (fun c2 h => ?_) (fun c2 h => ?_)
  · refine p_iconst G rfl dX6_isPlayer_13 ?_
    (cases h; exact p_zret G hR dX6_isPlayer_14 (by decide) rfl rfl)
  · refine p_iload_n G rfl 0 rfl dX6_isPlayer_4 ?_
    refine p_iconst G rfl dX6_isPlayer_5 ?_
    refine p_icmpge (tgt := 13) G dX6_isPlayer_6 (by decide) h (fun c1 h => ?_) (fun c1 h => ?_)
    · refine p_iconst G rfl dX6_isPlayer_13 ?_
      (cases h; exact p_zret G hR dX6_isPlayer_14 (by decide) rfl rfl)
    · refine p_iconst G rfl dX6_isPlayer_9 ?_
      refine p_goto (tgt := 14) G dX6_isPlayer_10 (by decide) ?_
      (cases h; exact p_zret G hR dX6_isPlayer_14 (by decide) rfl rfl)
set_option maxHeartbeats 4000000 in
set_option maxRecDepth 100000 in
theorem c_X6_player (l : Launch) {D : va_G} {yy : Nat → ClassId} {tk tv a : Nat → Nat} {σ : Mm} {p1 : Int} {p2 : Int} {o : Mm × Int} (h : x_X6_player σ p1 p2 = some (.inl o)) : CT l yX6_player cX6_player 5 (some .int) rm_X6_player shX D yy tk tv a σ [.ref (a 0), .int (zJ p1), .int (zJ p2)] o.1 (some (.int (zJ o.2))) := by
  refine ct_of (Ar := fun a tk => [.ref (a 0), .int (zJ p1), .int (zJ p2)]) (by decide) (Nat.le_of_ble_eq_true rfl) (fun Γ G _ _ hR => ?_)
  have hcs := rt_cs hR
  unfold x_X6_player at h
  refine (?_ : PT Γ 5 shX 0 σ [(0, .ref (ga Γ 0)), (1, .int (zJ p1)), (2, .int (zJ p2))] [])
  have j22 : ∀ (v1_22 : Int) (v2_22 : Int) (w0_22 : Int), x_X6_player_j22 σ v1_22 v2_22 w0_22 = some (.inl o) → PT Γ 5 shX 22 σ [(0, .ref (ga Γ 0)), (1, .int (zJ v1_22)), (2, .int (zJ v2_22))] [.int (zJ w0_22)] := by
    intro v1_22 v2_22 w0_22 h
    unfold x_X6_player_j22 at h
    obtain ⟨o_, hc, h⟩ := bthr h
    refine p_callS0 G dX6_player_22 lk_X6_154 (c_X6_require (gl Γ) hc) (As := [.int (zJ w0_22)]) rfl zk_48 rfl (Nat.le_of_ble_eq_true rfl) ⟨rfl, rfl, Nat.le_of_ble_eq_true rfl, Nat.le_of_ble_eq_true rfl⟩ hcs ?_
    have h := inlO_inl h
    refine p_aload_n G rfl 0 rfl dX6_player_25 ?_
    refine p_get G dX6_player_26 fl_X6_12 (k := 0) rfl rfl ?_
    refine p_iload_n G rfl 1 rfl dX6_player_29 ?_
    obtain ⟨v2, hc, h⟩ := bnd_some h
    refine p_callVr G zl_47 dX6_player_30 lk_X6_219 (c_X2_handOf (gl Γ) hc) (As := [.int (zJ v1_22)]) (ci := 4) rfl zk_47 (zs_x zs_47 _) rfl rfl rfl (Nat.le_of_ble_eq_true rfl) ⟨rfl, rfl, Nat.le_of_ble_eq_true rfl, Nat.le_of_ble_eq_true rfl⟩ hcs ?_
    refine p_lstore_nU (lv' := [(3, .long v2), (0, .ref (ga Γ 0)), (1, .int (zJ v1_22)), (2, .int (zJ v2_22))]) G rfl dX6_player_33 (by decide) rfl ?_
    refine p_aload_n G rfl 1 rfl dX6_player_34 ?_
    refine p_get G dX6_player_35 fl_X6_40 (k := 0) rfl rfl ?_
    refine p_lload_n G rfl 0 rfl dX6_player_38 ?_
    obtain ⟨σ3, hc, h⟩ := bnd_some h
    refine p_callV G zl_54 dX6_player_39 lk_X6_222 (c_X1_lay (gl Γ) hc) (As := [.long v2]) (ci := 3) rfl zk_54 (zs_x zs_54 _) rfl rfl rfl (Nat.le_of_ble_eq_true rfl) ⟨rfl, rfl, Nat.le_of_ble_eq_true rfl, Nat.le_of_ble_eq_true rfl⟩ hcs ?_
    refine p_nm h (fun σ4 h => ?_)
    refine p_iload_n G rfl 3 rfl dX6_player_42 ?_
    refine zite h (fun c0_43 h => ?_) (fun c0_43 h => ?_)
    · refine p_tin (tgt := 84) (off := 41) G dX6_player_43 c0_43 (by decide) (by decide) rfl (by decide) ?_
      refine p_lload_n G rfl 0 rfl dX6_player_84 ?_
      obtain ⟨v5, hc, h⟩ := bnd_some h
      refine p_callS0 G dX6_player_85 lk_X6_226 (c_J_Long_bitCount (gl Γ) hc) (As := [.long v2]) rfl zk_48 rfl (Nat.le_of_ble_eq_true rfl) ⟨rfl, rfl, Nat.le_of_ble_eq_true rfl, Nat.le_of_ble_eq_true rfl⟩ hcs ?_
      (cases h; exact p_iret G hR dX6_player_88 rfl rfl)
    · refine zite h (fun c1_43 h => ?_) (fun c1_43 h => ?_)
      · refine p_tin (tgt := 89) (off := 46) G dX6_player_43 c1_43 (by decide) (by decide) rfl (by decide) ?_
        refine p_aload_n G rfl 1 rfl dX6_player_89 ?_
        refine p_get G dX6_player_90 fl_X6_40 (k := 0) rfl rfl ?_
        refine p_get G dX6_player_93 fl_X6_232 (k := 77) rfl rfl ?_
        (cases h; exact p_iret G hR dX6_player_96 rfl rfl)
      · refine zite h (fun c2_43 h => ?_) (fun c2_43 h => ?_)
        · refine p_tin (tgt := 97) (off := 54) G dX6_player_43 c2_43 (by decide) (by decide) rfl (by decide) ?_
          refine p_aload_n G rfl 1 rfl dX6_player_97 ?_
          refine p_get G dX6_player_98 fl_X6_40 (k := 0) rfl rfl ?_
          refine p_get G dX6_player_101 fl_X6_235 (k := 77) rfl rfl ?_
          (cases h; exact p_iret G hR dX6_player_104 rfl rfl)
        · refine zite h (fun c3_43 h => ?_) (fun c3_43 h => ?_)
          · refine p_tin (tgt := 105) (off := 62) G dX6_player_43 c3_43 (by decide) (by decide) rfl (by decide) ?_
            refine p_aload_n G rfl 1 rfl dX6_player_105 ?_
            refine p_get G dX6_player_106 fl_X6_40 (k := 0) rfl rfl ?_
            refine p_get G dX6_player_109 fl_X6_238 (k := 77) rfl rfl ?_
            obtain ⟨v6, hc, h⟩ := bnd_some h
            refine p_callS0 G dX6_player_112 lk_X6_226 (c_J_Long_bitCount (gl Γ) hc) (As := [.long (zL (σ4 77 9))]) rfl zk_48 rfl (Nat.le_of_ble_eq_true rfl) ⟨rfl, rfl, Nat.le_of_ble_eq_true rfl, Nat.le_of_ble_eq_true rfl⟩ hcs ?_
            (cases h; exact p_iret G hR dX6_player_115 rfl rfl)
          · refine zite h (fun c4_43 h => ?_) (fun c4_43 h => ?_)
            · refine p_tin (tgt := 116) (off := 73) G dX6_player_43 c4_43 (by decide) (by decide) rfl (by decide) ?_
              refine p_aload_n G rfl 1 rfl dX6_player_116 ?_
              refine p_get G dX6_player_117 fl_X6_40 (k := 0) rfl rfl ?_
              refine p_iconst G rfl dX6_player_120 ?_
              obtain ⟨v7, hc, h⟩ := bnd_some h
              refine p_callVr G zl_54 dX6_player_121 lk_X6_241 (c_X1_countKind (gl Γ) hc) (As := [.int (zJ (1 : Int))]) (ci := 3) rfl zk_54 (zs_x zs_54 _) rfl rfl rfl (Nat.le_of_ble_eq_true rfl) ⟨rfl, rfl, Nat.le_of_ble_eq_true rfl, Nat.le_of_ble_eq_true rfl⟩ hcs ?_
              (cases h; exact p_iret G hR dX6_player_124 rfl rfl)
            · refine zite h (fun c5_43 h => ?_) (fun c5_43 h => ?_)
              · refine p_tin (tgt := 125) (off := 82) G dX6_player_43 c5_43 (by decide) (by decide) rfl (by decide) ?_
                refine p_aload_n G rfl 1 rfl dX6_player_125 ?_
                refine p_get G dX6_player_126 fl_X6_40 (k := 0) rfl rfl ?_
                refine p_iconst G rfl dX6_player_129 ?_
                obtain ⟨v8, hc, h⟩ := bnd_some h
                refine p_callVr G zl_54 dX6_player_130 lk_X6_241 (c_X1_countKind (gl Γ) hc) (As := [.int (zJ (2 : Int))]) (ci := 3) rfl zk_54 (zs_x zs_54 _) rfl rfl rfl (Nat.le_of_ble_eq_true rfl) ⟨rfl, rfl, Nat.le_of_ble_eq_true rfl, Nat.le_of_ble_eq_true rfl⟩ hcs ?_
                (cases h; exact p_iret G hR dX6_player_133 rfl rfl)
              · refine zite h (fun c6_43 h => ?_) (fun c6_43 h => ?_)
                · refine p_tin (tgt := 134) (off := 91) G dX6_player_43 c6_43 (by decide) (by decide) rfl (by decide) ?_
                  refine p_lload_n G rfl 0 rfl dX6_player_134 ?_
                  obtain ⟨v9, hc, h⟩ := bnd_some h
                  refine p_callS0 G dX6_player_135 lk_X6_244 (c_X6_pointsOf (gl Γ) hc) (As := [.long v2]) rfl zk_48 rfl (Nat.le_of_ble_eq_true rfl) ⟨rfl, rfl, Nat.le_of_ble_eq_true rfl, Nat.le_of_ble_eq_true rfl⟩ hcs ?_
                  (cases h; exact p_iret G hR dX6_player_138 rfl rfl)
                · refine p_tout (tgt := 139) G dX6_player_43 (by omega) (by decide) ?_
                  refine p_aload_n G rfl 1 rfl dX6_player_139 ?_
                  refine p_get G dX6_player_140 fl_X6_40 (k := 0) rfl rfl ?_
                  obtain ⟨v10, hc, h⟩ := bnd_some h
                  refine p_callVr G zl_54 dX6_player_143 lk_X6_247 (c_X1_countWrapped (gl Γ) hc) (As := []) (ci := 3) rfl zk_54 (zs_x zs_54 _) rfl rfl rfl (Nat.le_of_ble_eq_true rfl) ⟨rfl, rfl, Nat.le_of_ble_eq_true rfl, Nat.le_of_ble_eq_true rfl⟩ hcs ?_
                  (cases h; exact p_iret G hR dX6_player_146 rfl rfl)
  have j21 : ∀ (v1_21 : Int) (v2_21 : Int), x_X6_player_j21 σ v1_21 v2_21 = some (.inl o) → PT Γ 5 shX 21 σ [(0, .ref (ga Γ 0)), (1, .int (zJ v1_21)), (2, .int (zJ v2_21))] [] := by
    intro v1_21 v2_21 h
    unfold x_X6_player_j21 at h
    refine p_iconst G rfl dX6_player_21 ?_
    exact j22 _ _ _ h
  refine p_iload_n G rfl 1 rfl dX6_player_0 ?_
  obtain ⟨v1, hc, h⟩ := bnd_some h
  refine p_callS0 G dX6_player_1 lk_X6_215 (c_X6_isPlayer (gl Γ) hc) (As := [.int (zJ p1)]) rfl zk_48 rfl (Nat.le_of_ble_eq_true rfl) ⟨rfl, rfl, Nat.le_of_ble_eq_true rfl, Nat.le_of_ble_eq_true rfl⟩ hcs ?_
  refine p_ifeq (tgt := 21) G dX6_player_4 (by decide) h (fun c13 h => ?_) (fun c13 h => ?_)
  · exact j21 _ _ h
  · refine p_iload_n G rfl 2 rfl dX6_player_7 ?_
    refine p_iconst G rfl dX6_player_8 ?_
    refine p_bipush G (by decide) (by decide) dX6_player_9 ?_
    obtain ⟨v11, hc, h⟩ := bnd_some h
    refine p_callS0 G dX6_player_11 lk_X6_150 (c_X6_isWithin (gl Γ) hc) (As := [.int (zJ p2), .int (zJ (0 : Int)), .int (zJ (7 : Int))]) rfl zk_48 rfl (Nat.le_of_ble_eq_true rfl) ⟨rfl, rfl, Nat.le_of_ble_eq_true rfl, Nat.le_of_ble_eq_true rfl⟩ hcs ?_
    refine p_ifeq (tgt := 21) G dX6_player_14 (by decide) h (fun c12 h => ?_) (fun c12 h => ?_)
    · exact j21 _ _ h
    · refine p_iconst G rfl dX6_player_17 ?_
      refine p_goto (tgt := 22) G dX6_player_18 (by decide) ?_
      exact j22 _ _ _ h
set_option maxHeartbeats 4000000 in
set_option maxRecDepth 100000 in
theorem c_X6_card (l : Launch) {D : va_G} {yy : Nat → ClassId} {tk tv a : Nat → Nat} {σ : Mm} {p1 : Int} {p2 : Int} {o : Int} (h : x_X6_card σ p1 p2 = some (.inl o)) : CT l yX6_card cX6_card 6 (some .int) rm_X6_card shX D yy tk tv a σ [.ref (a 0), .int (zJ p1), .int (zJ p2)] σ (some (.int (zJ o))) := by
  refine ct_of (Ar := fun a tk => [.ref (a 0), .int (zJ p1), .int (zJ p2)]) (by decide) (Nat.le_of_ble_eq_true rfl) (fun Γ G _ _ hR => ?_)
  have hcs := rt_cs hR
  unfold x_X6_card at h
  refine (?_ : PT Γ 6 shX 0 σ [(0, .ref (ga Γ 0)), (1, .int (zJ p1)), (2, .int (zJ p2))] [])
  refine p_iload_n G rfl 1 rfl dX6_card_0 ?_
  obtain ⟨v1, hc, h⟩ := bnd_some h
  refine p_callS0 G dX6_card_1 lk_X6_215 (c_X6_isPlayer (gl Γ) hc) (As := [.int (zJ p1)]) rfl zk_48 rfl (Nat.le_of_ble_eq_true rfl) ⟨rfl, rfl, Nat.le_of_ble_eq_true rfl, Nat.le_of_ble_eq_true rfl⟩ hcs ?_
  obtain ⟨o_, hc, h⟩ := bthr h
  refine p_callS0 G dX6_card_4 lk_X6_154 (c_X6_require (gl Γ) hc) (As := [.int (zJ v1)]) rfl zk_48 rfl (Nat.le_of_ble_eq_true rfl) ⟨rfl, rfl, Nat.le_of_ble_eq_true rfl, Nat.le_of_ble_eq_true rfl⟩ hcs ?_
  have h := inlO_inl h
  refine p_aload_n G rfl 0 rfl dX6_card_7 ?_
  refine p_get G dX6_card_8 fl_X6_12 (k := 0) rfl rfl ?_
  refine p_iload_n G rfl 1 rfl dX6_card_11 ?_
  obtain ⟨v2, hc, h⟩ := bnd_some h
  refine p_callVr G zl_47 dX6_card_12 lk_X6_219 (c_X2_handOf (gl Γ) hc) (As := [.int (zJ p1)]) (ci := 4) rfl zk_47 (zs_x zs_47 _) rfl rfl rfl (Nat.le_of_ble_eq_true rfl) ⟨rfl, rfl, Nat.le_of_ble_eq_true rfl, Nat.le_of_ble_eq_true rfl⟩ hcs ?_
  refine p_lstore_nU (lv' := [(3, .long v2), (0, .ref (ga Γ 0)), (1, .int (zJ p1)), (2, .int (zJ p2))]) G rfl dX6_card_15 (by decide) rfl ?_
  refine p_iload_n G rfl 3 rfl dX6_card_16 ?_
  refine p_iflt (tgt := 28) G dX6_card_17 (by decide) h (fun c13 h => ?_) (fun c13 h => ?_)
  · refine p_iconst G rfl dX6_card_28 ?_
    (cases h; exact p_iret G hR dX6_card_29 rfl rfl)
  · refine p_iload_n G rfl 3 rfl dX6_card_20 ?_
    refine p_lload_n G rfl 0 rfl dX6_card_21 ?_
    obtain ⟨v3, hc, h⟩ := bnd_some h
    refine p_callS0 G dX6_card_22 lk_X6_226 (c_J_Long_bitCount (gl Γ) hc) (As := [.long v2]) rfl zk_48 rfl (Nat.le_of_ble_eq_true rfl) ⟨rfl, rfl, Nat.le_of_ble_eq_true rfl, Nat.le_of_ble_eq_true rfl⟩ hcs ?_
    refine p_icmplt (tgt := 30) G dX6_card_25 (by decide) h (fun c12 h => ?_) (fun c12 h => ?_)
    · refine p_iconst G rfl dX6_card_30 ?_
      refine p_istoreU (lv' := [(5, .int (zJ (0 : Int))), (3, .long v2), (0, .ref (ga Γ 0)), (1, .int (zJ p1)), (2, .int (zJ p2))]) G dX6_card_31 (by decide) rfl ?_
      refine p_lv [4, 1, 0] rfl ?_
      obtain ⟨e9, hl33, h⟩ := bnd_some h
      have hX33_58 : ∀ (v10 : Int64), v10 = e9 → PT Γ 6 shX 58 σ [(3, .long v10)] [] := by
        intro v10 he
        subst he
        refine p_lload_n G rfl 0 rfl dX6_card_58 ?_
        obtain ⟨v11, hc, h⟩ := bnd_some h
        refine p_callS0 G dX6_card_59 lk_X6_250 (c_X6_lowestOf (gl Γ) hc) (As := [.long v10]) rfl zk_48 rfl (Nat.le_of_ble_eq_true rfl) ⟨rfl, rfl, Nat.le_of_ble_eq_true rfl, Nat.le_of_ble_eq_true rfl⟩ hcs ?_
        (cases h; exact p_iret G hR dX6_card_62 rfl rfl)
      refine lup_walk (s := (v2, (0 : Int))) (At := fun s : Int64 × Int => PT Γ 6 shX 33 σ [(2, .int (zJ p2)), (3, .long s.1), (5, .int (zJ s.2))] []) (fun s r hf hin33 hout33 => ?_) hl33
      obtain ⟨u3_33, u5_33⟩ := s
      have h : x_X6_card_b33 σ p2 u3_33 u5_33 = some r := hf
      clear hf
      unfold x_X6_card_b33 at h
      refine (?_ : PT Γ 6 shX 33 σ [(2, .int (zJ p2)), (3, .long u3_33), (5, .int (zJ u5_33))] [])
      refine p_iload G 2 rfl dX6_card_33 ?_
      refine p_iload_n G rfl 0 rfl dX6_card_35 ?_
      refine p_icmpge (tgt := 58) G dX6_card_36 (by decide) h (fun c7 h => ?_) (fun c7 h => ?_)
      · refine p_lv [1] rfl ?_
        have he := hout33 _ (Option.some.inj h).symm
        subst he
        exact hX33_58 _ rfl
      · refine p_iload G 2 rfl dX6_card_39 ?_
        refine p_bipush G (by decide) (by decide) dX6_card_41 ?_
        refine p_icmpge (tgt := 58) G dX6_card_43 (by decide) h (fun c6 h => ?_) (fun c6 h => ?_)
        · refine p_lv [1] rfl ?_
          have he := hout33 _ (Option.some.inj h).symm
          subst he
          exact hX33_58 _ rfl
        · refine p_lload_n G rfl 1 rfl dX6_card_46 ?_
          refine p_lload_n G rfl 1 rfl dX6_card_47 ?_
          refine p_lconst G (v := 1) (by decide) dX6_card_48 ?_
          refine p_lsub G dX6_card_49 ?_
          refine p_land G dX6_card_50 ?_
          refine p_lstore_n (lv' := fun v4 => [(3, .long v4), (2, .int (zJ p2)), (5, .int (zJ u5_33))]) G rfl dX6_card_51 h (by decide) (fun _ => rfl) (fun v4 h => ?_)
          refine p_iinc (lv' := fun v5 => [(5, .int (zJ v5)), (3, .long v4), (2, .int (zJ p2))]) G dX6_card_52 h 2 rfl (by decide) (fun _ => rfl) (fun v5 h => ?_)
          refine p_goto (tgt := 33) G dX6_card_55 (by decide) ?_
          refine p_lv [2, 1, 0] rfl ?_
          exact hin33 _ (Option.some.inj h).symm
    · refine p_iconst G rfl dX6_card_28 ?_
      (cases h; exact p_iret G hR dX6_card_29 rfl rfl)
set_option maxHeartbeats 4000000 in
set_option maxRecDepth 100000 in
theorem c_X6_where (l : Launch) {D : va_G} {yy : Nat → ClassId} {tk tv a : Nat → Nat} {σ : Mm} {p1 : Int} {o : Int} (h : x_X6_where σ p1 = some (.inl o)) : CT l yX6_where cX6_where 2 (some .int) rm_X6_where shX D yy tk tv a σ [.ref (a 0), .int (zJ p1)] σ (some (.int (zJ o))) := by
  refine ct_of (Ar := fun a tk => [.ref (a 0), .int (zJ p1)]) (by decide) (Nat.le_of_ble_eq_true rfl) (fun Γ G _ _ hR => ?_)
  have hcs := rt_cs hR
  unfold x_X6_where at h
  refine (?_ : PT Γ 2 shX 0 σ [(0, .ref (ga Γ 0)), (1, .int (zJ p1))] [])
  refine p_iload_n G rfl 1 rfl dX6_where_0 ?_
  refine p_iconst G rfl dX6_where_1 ?_
  refine p_bipush G (by decide) (by decide) dX6_where_2 ?_
  obtain ⟨v1, hc, h⟩ := bnd_some h
  refine p_callS0 G dX6_where_4 lk_X6_150 (c_X6_isWithin (gl Γ) hc) (As := [.int (zJ p1), .int (zJ (0 : Int)), .int (zJ (51 : Int))]) rfl zk_48 rfl (Nat.le_of_ble_eq_true rfl) ⟨rfl, rfl, Nat.le_of_ble_eq_true rfl, Nat.le_of_ble_eq_true rfl⟩ hcs ?_
  obtain ⟨o_, hc, h⟩ := bthr h
  refine p_callS0 G dX6_where_7 lk_X6_154 (c_X6_require (gl Γ) hc) (As := [.int (zJ v1)]) rfl zk_48 rfl (Nat.le_of_ble_eq_true rfl) ⟨rfl, rfl, Nat.le_of_ble_eq_true rfl, Nat.le_of_ble_eq_true rfl⟩ hcs ?_
  have h := inlO_inl h
  refine p_aload_n G rfl 0 rfl dX6_where_10 ?_
  refine p_get G dX6_where_11 fl_X6_12 (k := 0) rfl rfl ?_
  refine p_iload_n G rfl 1 rfl dX6_where_14 ?_
  obtain ⟨v2, hc, h⟩ := bnd_some h
  refine p_callVr G zl_47 dX6_where_15 lk_X6_253 (c_X2_placeOf (gl Γ) hc) (As := [.int (zJ p1)]) (ci := 4) rfl zk_47 (zs_x zs_47 _) rfl rfl rfl (Nat.le_of_ble_eq_true rfl) ⟨rfl, rfl, Nat.le_of_ble_eq_true rfl, Nat.le_of_ble_eq_true rfl⟩ hcs ?_
  (cases h; exact p_iret G hR dX6_where_18 rfl rfl)
set_option maxHeartbeats 4000000 in
set_option maxRecDepth 100000 in
theorem c_X6_meldOf (l : Launch) {D : va_G} {yy : Nat → ClassId} {tk tv a : Nat → Nat} {σ : Mm} {p1 : Int} {p2 : Int} {o : Mm × Int} (h : x_X6_meldOf σ p1 p2 = some (.inl o)) : CT l yX6_meldOf cX6_meldOf 3 (some .int) rm_X6_meldOf shX D yy tk tv a σ [.ref (a 0), .int (zJ p1), .int (zJ p2)] o.1 (some (.int (zJ o.2))) := by
  refine ct_of (Ar := fun a tk => [.ref (a 0), .int (zJ p1), .int (zJ p2)]) (by decide) (Nat.le_of_ble_eq_true rfl) (fun Γ G _ _ hR => ?_)
  have hcs := rt_cs hR
  unfold x_X6_meldOf at h
  refine (?_ : PT Γ 3 shX 0 σ [(0, .ref (ga Γ 0)), (1, .int (zJ p1)), (2, .int (zJ p2))] [])
  refine p_iload_n G rfl 1 rfl dX6_meldOf_0 ?_
  obtain ⟨v1, hc, h⟩ := bnd_some h
  refine p_callS0 G dX6_meldOf_1 lk_X6_215 (c_X6_isPlayer (gl Γ) hc) (As := [.int (zJ p1)]) rfl zk_48 rfl (Nat.le_of_ble_eq_true rfl) ⟨rfl, rfl, Nat.le_of_ble_eq_true rfl, Nat.le_of_ble_eq_true rfl⟩ hcs ?_
  obtain ⟨o_, hc, h⟩ := bthr h
  refine p_callS0 G dX6_meldOf_4 lk_X6_154 (c_X6_require (gl Γ) hc) (As := [.int (zJ v1)]) rfl zk_48 rfl (Nat.le_of_ble_eq_true rfl) ⟨rfl, rfl, Nat.le_of_ble_eq_true rfl, Nat.le_of_ble_eq_true rfl⟩ hcs ?_
  refine p_aload_n G rfl 0 rfl dX6_meldOf_7 ?_
  refine p_iload_n G rfl 1 rfl dX6_meldOf_8 ?_
  refine p_iload_n G rfl 2 rfl dX6_meldOf_9 ?_
  obtain ⟨o_, hc, h⟩ := bthr h
  refine p_callVi G dX6_meldOf_10 lk_X6_102 (c_X6_requireHeld (gl Γ) hc) (As := [.int (zJ p1), .int (zJ p2)]) (ci := 8) rfl rfl rfl rfl (Nat.le_of_ble_eq_true rfl) ⟨rfl, rfl, Nat.le_of_ble_eq_true rfl, Nat.le_of_ble_eq_true rfl⟩ hcs ?_
  have h := inlO_inl h
  refine p_aload_n G rfl 0 rfl dX6_meldOf_13 ?_
  refine p_get G dX6_meldOf_14 fl_X6_40 (k := 0) rfl rfl ?_
  refine p_aload_n G rfl 0 rfl dX6_meldOf_17 ?_
  refine p_get G dX6_meldOf_18 fl_X6_12 (k := 0) rfl rfl ?_
  refine p_iload_n G rfl 1 rfl dX6_meldOf_21 ?_
  obtain ⟨v2, hc, h⟩ := bnd_some h
  refine p_callVr G zl_47 dX6_meldOf_22 lk_X6_219 (c_X2_handOf (gl Γ) hc) (As := [.int (zJ p1)]) (ci := 4) rfl zk_47 (zs_x zs_47 _) rfl rfl rfl (Nat.le_of_ble_eq_true rfl) ⟨rfl, rfl, Nat.le_of_ble_eq_true rfl, Nat.le_of_ble_eq_true rfl⟩ hcs ?_
  obtain ⟨σ3, hc, h⟩ := bnd_some h
  refine p_callV G zl_54 dX6_meldOf_25 lk_X6_222 (c_X1_lay (gl Γ) hc) (As := [.long v2]) (ci := 3) rfl zk_54 (zs_x zs_54 _) rfl rfl rfl (Nat.le_of_ble_eq_true rfl) ⟨rfl, rfl, Nat.le_of_ble_eq_true rfl, Nat.le_of_ble_eq_true rfl⟩ hcs ?_
  refine p_nm h (fun σ4 h => ?_)
  refine p_aload_n G rfl 0 rfl dX6_meldOf_28 ?_
  refine p_get G dX6_meldOf_29 fl_X6_40 (k := 0) rfl rfl ?_
  refine p_iload_n G rfl 2 rfl dX6_meldOf_32 ?_
  obtain ⟨v5, hc, h⟩ := bnd_some h
  refine p_callVr G zl_54 dX6_meldOf_33 lk_X6_256 (c_X1_indexOf (gl Γ) hc) (As := [.int (zJ p2)]) (ci := 3) rfl zk_54 (zs_x zs_54 _) rfl rfl rfl (Nat.le_of_ble_eq_true rfl) ⟨rfl, rfl, Nat.le_of_ble_eq_true rfl, Nat.le_of_ble_eq_true rfl⟩ hcs ?_
  (cases h; exact p_iret G hR dX6_meldOf_36 rfl rfl)
set_option maxHeartbeats 4000000 in
set_option maxRecDepth 100000 in
theorem c_X6_meld (l : Launch) {D : va_G} {yy : Nat → ClassId} {tk tv a : Nat → Nat} {σ : Mm} {p1 : Int} {p2 : Int} {p3 : Int} {o : Mm × Int} (h : x_X6_meld σ p1 p2 p3 = some (.inl o)) : CT l yX6_meld cX6_meld 7 (some .int) rm_X6_meld shX D yy tk tv a σ [.ref (a 0), .int (zJ p1), .int (zJ p2), .int (zJ p3)] o.1 (some (.int (zJ o.2))) := by
  refine ct_of (Ar := fun a tk => [.ref (a 0), .int (zJ p1), .int (zJ p2), .int (zJ p3)]) (by decide) (Nat.le_of_ble_eq_true rfl) (fun Γ G _ _ hR => ?_)
  have hcs := rt_cs hR
  unfold x_X6_meld at h
  refine (?_ : PT Γ 7 shX 0 σ [(0, .ref (ga Γ 0)), (1, .int (zJ p1)), (2, .int (zJ p2)), (3, .int (zJ p3))] [])
  have j80 : ∀ (σ_80 : Mm) (v3_80 : Int) (v4_80 : Int64) (w0_80 : Int), x_X6_meld_j80 σ_80 v3_80 v4_80 w0_80 = some o → PT Γ 7 shX 80 σ_80 [(3, .int (zJ v3_80)), (4, .long v4_80)] [.int (zJ w0_80)] := by
    intro σ_80 v3_80 v4_80 w0_80 h
    unfold x_X6_meld_j80 at h
    refine p_istoreU (lv' := [(6, .int (zJ w0_80)), (3, .int (zJ v3_80)), (4, .long v4_80)]) G dX6_meld_80 (by decide) rfl ?_
    refine p_iload_n G rfl 1 rfl dX6_meld_82 ?_
    refine zite h (fun c0_83 h => ?_) (fun c0_83 h => ?_)
    · refine p_tin (tgt := 108) (off := 25) G dX6_meld_83 c0_83 (by decide) (by decide) rfl (by decide) ?_
      refine p_lload G 2 rfl dX6_meld_108 ?_
      obtain ⟨v7, hc, h⟩ := bnd_some h
      refine p_callS0 G dX6_meld_110 lk_X6_226 (c_J_Long_bitCount (gl Γ) hc) (As := [.long v4_80]) rfl zk_48 rfl (Nat.le_of_ble_eq_true rfl) ⟨rfl, rfl, Nat.le_of_ble_eq_true rfl, Nat.le_of_ble_eq_true rfl⟩ hcs ?_
      (cases h; exact p_iret G hR dX6_meld_113 rfl rfl)
    · refine zite h (fun c1_83 h => ?_) (fun c1_83 h => ?_)
      · refine p_tin (tgt := 114) (off := 31) G dX6_meld_83 c1_83 (by decide) (by decide) rfl (by decide) ?_
        refine p_iload G 0 rfl dX6_meld_114 ?_
        refine p_ifeq (tgt := 123) G dX6_meld_116 (by decide) h (fun c8 h => ?_) (fun c8 h => ?_)
        · refine p_iconst G rfl dX6_meld_123 ?_
          (cases h; exact p_iret G hR dX6_meld_124 rfl rfl)
        · refine p_iconst G rfl dX6_meld_119 ?_
          refine p_goto (tgt := 124) G dX6_meld_120 (by decide) ?_
          (cases h; exact p_iret G hR dX6_meld_124 rfl rfl)
      · refine zite h (fun c2_83 h => ?_) (fun c2_83 h => ?_)
        · refine p_tin (tgt := 125) (off := 42) G dX6_meld_83 c2_83 (by decide) (by decide) rfl (by decide) ?_
          refine p_iload G 0 rfl dX6_meld_125 ?_
          refine p_ifeq (tgt := 138) G dX6_meld_127 (by decide) h (fun c11 h => ?_) (fun c11 h => ?_)
          · refine p_lload G 2 rfl dX6_meld_138 ?_
            obtain ⟨v9, hc, h⟩ := bnd_some h
            refine p_callS0 G dX6_meld_140 lk_X6_250 (c_X6_lowestOf (gl Γ) hc) (As := [.long v4_80]) rfl zk_48 rfl (Nat.le_of_ble_eq_true rfl) ⟨rfl, rfl, Nat.le_of_ble_eq_true rfl, Nat.le_of_ble_eq_true rfl⟩ hcs ?_
            refine p_bipush G (by decide) (by decide) dX6_meld_143 ?_
            refine p_iremK G dX6_meld_145 (by decide) ?_
            (cases h; exact p_iret G hR dX6_meld_146 rfl rfl)
          · refine p_lload G 2 rfl dX6_meld_130 ?_
            obtain ⟨v10, hc, h⟩ := bnd_some h
            refine p_callS0 G dX6_meld_132 lk_X6_265 (c_X6_firstOf (gl Γ) hc) (As := [.long v4_80]) rfl zk_48 rfl (Nat.le_of_ble_eq_true rfl) ⟨rfl, rfl, Nat.le_of_ble_eq_true rfl, Nat.le_of_ble_eq_true rfl⟩ hcs ?_
            refine p_goto (tgt := 146) G dX6_meld_135 (by decide) ?_
            (cases h; exact p_iret G hR dX6_meld_146 rfl rfl)
        · refine p_tout (tgt := 147) G dX6_meld_83 (by omega) (by decide) ?_
          refine p_lload G 2 rfl dX6_meld_147 ?_
          obtain ⟨v12, hc, h⟩ := bnd_some h
          refine p_callS0 G dX6_meld_149 lk_X6_244 (c_X6_pointsOf (gl Γ) hc) (As := [.long v4_80]) rfl zk_48 rfl (Nat.le_of_ble_eq_true rfl) ⟨rfl, rfl, Nat.le_of_ble_eq_true rfl, Nat.le_of_ble_eq_true rfl⟩ hcs ?_
          (cases h; exact p_iret G hR dX6_meld_152 rfl rfl)
  have j21 : ∀ (v1_21 : Int) (v2_21 : Int) (v3_21 : Int) (w0_21 : Int), x_X6_meld_j21 σ v1_21 v2_21 v3_21 w0_21 = some (.inl o) → PT Γ 7 shX 21 σ [(0, .ref (ga Γ 0)), (1, .int (zJ v1_21)), (2, .int (zJ v2_21)), (3, .int (zJ v3_21))] [.int (zJ w0_21)] := by
    intro v1_21 v2_21 v3_21 w0_21 h
    unfold x_X6_meld_j21 at h
    obtain ⟨o_, hc, h⟩ := bthr h
    refine p_callS0 G dX6_meld_21 lk_X6_154 (c_X6_require (gl Γ) hc) (As := [.int (zJ w0_21)]) rfl zk_48 rfl (Nat.le_of_ble_eq_true rfl) ⟨rfl, rfl, Nat.le_of_ble_eq_true rfl, Nat.le_of_ble_eq_true rfl⟩ hcs ?_
    have h := inlO_inl h
    refine p_aload_n G rfl 0 rfl dX6_meld_24 ?_
    refine p_get G dX6_meld_25 fl_X6_40 (k := 0) rfl rfl ?_
    refine p_aload_n G rfl 0 rfl dX6_meld_28 ?_
    refine p_get G dX6_meld_29 fl_X6_12 (k := 0) rfl rfl ?_
    refine p_iload_n G rfl 1 rfl dX6_meld_32 ?_
    obtain ⟨v2, hc, h⟩ := bnd_some h
    refine p_callVr G zl_47 dX6_meld_33 lk_X6_219 (c_X2_handOf (gl Γ) hc) (As := [.int (zJ v1_21)]) (ci := 4) rfl zk_47 (zs_x zs_47 _) rfl rfl rfl (Nat.le_of_ble_eq_true rfl) ⟨rfl, rfl, Nat.le_of_ble_eq_true rfl, Nat.le_of_ble_eq_true rfl⟩ hcs ?_
    obtain ⟨σ3, hc, h⟩ := bnd_some h
    refine p_callV G zl_54 dX6_meld_36 lk_X6_222 (c_X1_lay (gl Γ) hc) (As := [.long v2]) (ci := 3) rfl zk_54 (zs_x zs_54 _) rfl rfl rfl (Nat.le_of_ble_eq_true rfl) ⟨rfl, rfl, Nat.le_of_ble_eq_true rfl, Nat.le_of_ble_eq_true rfl⟩ hcs ?_
    refine p_nm h (fun σ4 h => ?_)
    refine p_iload_n G rfl 2 rfl dX6_meld_39 ?_
    refine p_iflt (tgt := 54) G dX6_meld_40 (by decide) h (fun c15 h => ?_) (fun c15 h => ?_)
    · refine p_iconst G rfl dX6_meld_54 ?_
      (cases h; exact p_iret G hR dX6_meld_55 rfl rfl)
    · refine p_iload_n G rfl 2 rfl dX6_meld_43 ?_
      refine p_aload_n G rfl 0 rfl dX6_meld_44 ?_
      refine p_get G dX6_meld_45 fl_X6_40 (k := 0) rfl rfl ?_
      refine p_get G dX6_meld_48 fl_X6_235 (k := 77) rfl rfl ?_
      refine p_icmplt (tgt := 56) G dX6_meld_51 (by decide) h (fun c14 h => ?_) (fun c14 h => ?_)
      · refine p_aload_n G rfl 0 rfl dX6_meld_56 ?_
        refine p_get G dX6_meld_57 fl_X6_40 (k := 0) rfl rfl ?_
        refine p_iload_n G rfl 2 rfl dX6_meld_60 ?_
        obtain ⟨v5, hc, h⟩ := bnd_some h
        refine p_callVr G zl_54 dX6_meld_61 lk_X6_259 (c_X1_foundAt (gl Γ) hc) (As := [.int (zJ v2_21)]) (ci := 3) rfl zk_54 (zs_x zs_54 _) rfl rfl rfl (Nat.le_of_ble_eq_true rfl) ⟨rfl, rfl, Nat.le_of_ble_eq_true rfl, Nat.le_of_ble_eq_true rfl⟩ hcs ?_
        refine p_lstoreU (lv' := [(4, .long v5), (0, .ref (ga Γ 0)), (1, .int (zJ v1_21)), (2, .int (zJ v2_21)), (3, .int (zJ v3_21))]) G dX6_meld_64 (by decide) rfl ?_
        refine p_lload G 0 rfl dX6_meld_66 ?_
        obtain ⟨v6, hc, h⟩ := bnd_some h
        refine p_callS0 G dX6_meld_68 lk_X6_262 (c_X6_kindOf (gl Γ) hc) (As := [.long v5]) rfl zk_48 rfl (Nat.le_of_ble_eq_true rfl) ⟨rfl, rfl, Nat.le_of_ble_eq_true rfl, Nat.le_of_ble_eq_true rfl⟩ hcs ?_
        refine p_iconst G rfl dX6_meld_71 ?_
        refine p_icmpne (tgt := 79) G dX6_meld_72 (by decide) h (fun c13 h => ?_) (fun c13 h => ?_)
        · refine p_iconst G rfl dX6_meld_79 ?_
          refine p_lv [4, 0] rfl ?_
          exact j80 _ _ _ _ h
        · refine p_iconst G rfl dX6_meld_75 ?_
          refine p_goto (tgt := 80) G dX6_meld_76 (by decide) ?_
          refine p_lv [4, 0] rfl ?_
          exact j80 _ _ _ _ h
      · refine p_iconst G rfl dX6_meld_54 ?_
        (cases h; exact p_iret G hR dX6_meld_55 rfl rfl)
  have j20 : ∀ (v1_20 : Int) (v2_20 : Int) (v3_20 : Int), x_X6_meld_j20 σ v1_20 v2_20 v3_20 = some (.inl o) → PT Γ 7 shX 20 σ [(0, .ref (ga Γ 0)), (1, .int (zJ v1_20)), (2, .int (zJ v2_20)), (3, .int (zJ v3_20))] [] := by
    intro v1_20 v2_20 v3_20 h
    unfold x_X6_meld_j20 at h
    refine p_iconst G rfl dX6_meld_20 ?_
    exact j21 _ _ _ _ h
  refine p_iload_n G rfl 1 rfl dX6_meld_0 ?_
  obtain ⟨v1, hc, h⟩ := bnd_some h
  refine p_callS0 G dX6_meld_1 lk_X6_215 (c_X6_isPlayer (gl Γ) hc) (As := [.int (zJ p1)]) rfl zk_48 rfl (Nat.le_of_ble_eq_true rfl) ⟨rfl, rfl, Nat.le_of_ble_eq_true rfl, Nat.le_of_ble_eq_true rfl⟩ hcs ?_
  refine p_ifeq (tgt := 20) G dX6_meld_4 (by decide) h (fun c18 h => ?_) (fun c18 h => ?_)
  · exact j20 _ _ _ h
  · refine p_iload_n G rfl 3 rfl dX6_meld_7 ?_
    refine p_iconst G rfl dX6_meld_8 ?_
    refine p_iconst G rfl dX6_meld_9 ?_
    obtain ⟨v16, hc, h⟩ := bnd_some h
    refine p_callS0 G dX6_meld_10 lk_X6_150 (c_X6_isWithin (gl Γ) hc) (As := [.int (zJ p3), .int (zJ (0 : Int)), .int (zJ (3 : Int))]) rfl zk_48 rfl (Nat.le_of_ble_eq_true rfl) ⟨rfl, rfl, Nat.le_of_ble_eq_true rfl, Nat.le_of_ble_eq_true rfl⟩ hcs ?_
    refine p_ifeq (tgt := 20) G dX6_meld_13 (by decide) h (fun c17 h => ?_) (fun c17 h => ?_)
    · exact j20 _ _ _ h
    · refine p_iconst G rfl dX6_meld_16 ?_
      refine p_goto (tgt := 21) G dX6_meld_17 (by decide) ?_
      exact j21 _ _ _ _ h
set_option maxHeartbeats 4000000 in
set_option maxRecDepth 100000 in
theorem c_X6_restWithout (l : Launch) {D : va_G} {yy : Nat → ClassId} {tk tv a : Nat → Nat} {σ : Mm} {p1 : Int} {o : Mm × Int} (h : x_X6_restWithout σ p1 = some (.inl o)) : CT l yX6_restWithout cX6_restWithout 2 (some .int) rm_X6_restWithout shX D yy tk tv a σ [.ref (a 0), .int (zJ p1)] o.1 (some (.int (zJ o.2))) := by
  refine ct_of (Ar := fun a tk => [.ref (a 0), .int (zJ p1)]) (by decide) (Nat.le_of_ble_eq_true rfl) (fun Γ G _ _ hR => ?_)
  have hcs := rt_cs hR
  unfold x_X6_restWithout at h
  refine (?_ : PT Γ 2 shX 0 σ [(0, .ref (ga Γ 0)), (1, .int (zJ p1))] [])
  refine p_aload_n G rfl 0 rfl dX6_restWithout_0 ?_
  refine p_aload_n G rfl 0 rfl dX6_restWithout_1 ?_
  refine p_get G dX6_restWithout_2 fl_X6_12 (k := 0) rfl rfl ?_
  refine p_get G dX6_restWithout_5 fl_X6_99 (k := 1) rfl rfl ?_
  refine p_iload_n G rfl 1 rfl dX6_restWithout_8 ?_
  obtain ⟨o_, hc, h⟩ := bthr h
  refine p_callVi G dX6_restWithout_9 lk_X6_102 (c_X6_requireHeld (gl Γ) hc) (As := [.int (zJ (σ 1 5)), .int (zJ p1)]) (ci := 8) rfl rfl rfl rfl (Nat.le_of_ble_eq_true rfl) ⟨rfl, rfl, Nat.le_of_ble_eq_true rfl, Nat.le_of_ble_eq_true rfl⟩ hcs ?_
  have h := inlO_inl h
  refine p_aload_n G rfl 0 rfl dX6_restWithout_12 ?_
  refine p_get G dX6_restWithout_13 fl_X6_40 (k := 0) rfl rfl ?_
  refine p_aload_n G rfl 0 rfl dX6_restWithout_16 ?_
  refine p_get G dX6_restWithout_17 fl_X6_12 (k := 0) rfl rfl ?_
  refine p_iload_n G rfl 1 rfl dX6_restWithout_20 ?_
  obtain ⟨v1, hc, h⟩ := bnd_some h
  refine p_callVr G zl_47 dX6_restWithout_21 lk_X6_116 (c_X2_handWithout (gl Γ) hc) (As := [.int (zJ p1)]) (ci := 4) rfl zk_47 (zs_x zs_47 _) rfl rfl rfl (Nat.le_of_ble_eq_true rfl) ⟨rfl, rfl, Nat.le_of_ble_eq_true rfl, Nat.le_of_ble_eq_true rfl⟩ hcs ?_
  obtain ⟨σ2, hc, h⟩ := bnd_some h
  refine p_callV G zl_54 dX6_restWithout_24 lk_X6_222 (c_X1_lay (gl Γ) hc) (As := [.long v1]) (ci := 3) rfl zk_54 (zs_x zs_54 _) rfl rfl rfl (Nat.le_of_ble_eq_true rfl) ⟨rfl, rfl, Nat.le_of_ble_eq_true rfl, Nat.le_of_ble_eq_true rfl⟩ hcs ?_
  refine p_nm h (fun σ3 h => ?_)
  refine p_aload_n G rfl 0 rfl dX6_restWithout_27 ?_
  refine p_get G dX6_restWithout_28 fl_X6_40 (k := 0) rfl rfl ?_
  refine p_get G dX6_restWithout_31 fl_X6_232 (k := 77) rfl rfl ?_
  (cases h; exact p_iret G hR dX6_restWithout_34 rfl rfl)
set_option maxHeartbeats 4000000 in
set_option maxRecDepth 100000 in
theorem c_X6_bestDrop (l : Launch) {D : va_G} {yy : Nat → ClassId} {tk tv a : Nat → Nat} {σ : Mm} {o : Mm × Int} (h : x_X6_bestDrop σ = some o) : CT l yX6_bestDrop cX6_bestDrop 5 (some .int) rm_X6_bestDrop shX D yy tk tv a σ [.ref (a 0)] o.1 (some (.int (zJ o.2))) := by
  refine ct_of (Ar := fun a tk => [.ref (a 0)]) (by decide) (Nat.le_of_ble_eq_true rfl) (fun Γ G _ _ hR => ?_)
  have hcs := rt_cs hR
  unfold x_X6_bestDrop at h
  refine (?_ : PT Γ 5 shX 0 σ [(0, .ref (ga Γ 0))] [])
  refine p_aload_n G rfl 0 rfl dX6_bestDrop_0 ?_
  refine p_get G dX6_bestDrop_1 fl_X6_12 (k := 0) rfl rfl ?_
  obtain ⟨v1, hc, h⟩ := bnd_some h
  refine p_callVr G zl_47 dX6_bestDrop_4 lk_X6_268 (c_X2_isDropDue (gl Γ) hc) (As := []) (ci := 4) rfl zk_47 (zs_x zs_47 _) rfl rfl rfl (Nat.le_of_ble_eq_true rfl) ⟨rfl, rfl, Nat.le_of_ble_eq_true rfl, Nat.le_of_ble_eq_true rfl⟩ hcs ?_
  refine p_ifne (tgt := 12) G dX6_bestDrop_7 (by decide) h (fun c35 h => ?_) (fun c35 h => ?_)
  · refine p_iconst G rfl dX6_bestDrop_12 ?_
    refine p_istore_nU (lv' := [(1, .int (zJ (-1 : Int))), (0, .ref (ga Γ 0))]) G rfl dX6_bestDrop_13 (by decide) rfl ?_
    refine p_iconst G rfl dX6_bestDrop_14 ?_
    refine p_istore_nU (lv' := [(2, .int (zJ (0 : Int))), (1, .int (zJ (-1 : Int))), (0, .ref (ga Γ 0))]) G rfl dX6_bestDrop_15 (by decide) rfl ?_
    refine p_iconst G rfl dX6_bestDrop_16 ?_
    refine p_istore_nU (lv' := [(3, .int (zJ (0 : Int))), (2, .int (zJ (0 : Int))), (1, .int (zJ (-1 : Int))), (0, .ref (ga Γ 0))]) G rfl dX6_bestDrop_17 (by decide) rfl ?_
    refine p_lv [3, 2, 1, 0] rfl ?_
    obtain ⟨e32, hl18, h⟩ := bnd_some h
    have hX18_140 : ∀ (σ33 : Mm) (v34 : Int), (σ33, v34) = e32 → PT Γ 5 shX 140 σ33 [(1, .int (zJ v34))] [] := by
      intro σ33 v34 he
      subst he
      rw [un2_mk] at h
      refine p_iload_n G rfl 0 rfl dX6_bestDrop_140 ?_
      (cases h; exact p_iret G hR dX6_bestDrop_141 rfl rfl)
    refine lup_walk (s := (σ, (-1 : Int), (0 : Int), (0 : Int))) (At := fun s : Mm × Int × Int × Int => PT Γ 5 shX 18 s.1 [(0, .ref (ga Γ 0)), (1, .int (zJ s.2.1)), (2, .int (zJ s.2.2.1)), (3, .int (zJ s.2.2.2))] []) (fun s r hf hin18 hout18 => ?_) hl18
    obtain ⟨σ18, u1_18, u2_18, u3_18⟩ := s
    have h : x_X6_bestDrop_b18 σ18 u1_18 u2_18 u3_18 = some r := hf
    clear hf
    have j107 : ∀ (σ_107 : Mm) (v1_107 : Int) (v2_107 : Int) (v3_107 : Int), x_X6_bestDrop_j107_18 σ_107 v1_107 v2_107 v3_107 = some r → PT Γ 5 shX 107 σ_107 [(0, .ref (ga Γ 0)), (1, .int (zJ v1_107)), (2, .int (zJ v2_107)), (3, .int (zJ v3_107))] [] := by
      intro σ_107 v1_107 v2_107 v3_107 h
      unfold x_X6_bestDrop_j107_18 at h
      refine p_iconst G rfl dX6_bestDrop_107 ?_
      refine p_goto (tgt := 112) G dX6_bestDrop_108 (by decide) ?_
      refine p_istoreU (lv' := [(4, .int (zJ (1 : Int))), (0, .ref (ga Γ 0)), (1, .int (zJ v1_107)), (2, .int (zJ v2_107)), (3, .int (zJ v3_107))]) G dX6_bestDrop_112 (by decide) rfl ?_
      refine p_iload_n G rfl 2 rfl dX6_bestDrop_114 ?_
      refine p_iconst G rfl dX6_bestDrop_115 ?_
      refine p_icmpeq (tgt := 124) G dX6_bestDrop_116 (by decide) h (fun c14 h => ?_) (fun c14 h => ?_)
      · refine p_iload_n G rfl 4 rfl dX6_bestDrop_124 ?_
        refine p_istore_nU (lv' := [(1, .int (zJ v3_107)), (4, .int (zJ (1 : Int))), (0, .ref (ga Γ 0)), (2, .int (zJ v2_107)), (3, .int (zJ v3_107))]) G rfl dX6_bestDrop_125 (by decide) rfl ?_
        refine p_aload_n G rfl 2 rfl dX6_bestDrop_126 ?_
        refine p_get G dX6_bestDrop_127 fl_X6_40 (k := 0) rfl rfl ?_
        refine p_get G dX6_bestDrop_130 fl_X6_232 (k := 77) rfl rfl ?_
        refine p_istore_n (lv' := fun v8 => [(2, .int (zJ v8)), (1, .int (zJ v3_107)), (4, .int (zJ (1 : Int))), (0, .ref (ga Γ 0)), (3, .int (zJ v3_107))]) G rfl dX6_bestDrop_133 h (by decide) (fun _ => rfl) (fun v8 h => ?_)
        refine p_iinc (lv' := fun v9 => [(3, .int (zJ v9)), (2, .int (zJ v8)), (1, .int (zJ v3_107)), (4, .int (zJ (1 : Int))), (0, .ref (ga Γ 0))]) G dX6_bestDrop_134 h 4 rfl (by decide) (fun _ => rfl) (fun v9 h => ?_)
        refine p_goto (tgt := 18) G dX6_bestDrop_137 (by decide) ?_
        refine p_lv [4, 2, 1, 0] rfl ?_
        exact hin18 _ (Option.some.inj h).symm
      · refine p_iload G 0 rfl dX6_bestDrop_119 ?_
        refine p_ifeq (tgt := 134) G dX6_bestDrop_121 (by decide) h (fun c13 h => ?_) (fun c13 h => ?_)
        · refine p_iinc (lv' := fun v10 => [(3, .int (zJ v10)), (4, .int (zJ (1 : Int))), (0, .ref (ga Γ 0)), (1, .int (zJ v1_107)), (2, .int (zJ v2_107))]) G dX6_bestDrop_134 h 4 rfl (by decide) (fun _ => rfl) (fun v10 h => ?_)
          refine p_goto (tgt := 18) G dX6_bestDrop_137 (by decide) ?_
          refine p_lv [2, 3, 4, 0] rfl ?_
          exact hin18 _ (Option.some.inj h).symm
        · refine p_iload_n G rfl 4 rfl dX6_bestDrop_124 ?_
          refine p_istore_nU (lv' := [(1, .int (zJ v3_107)), (4, .int (zJ (1 : Int))), (0, .ref (ga Γ 0)), (2, .int (zJ v2_107)), (3, .int (zJ v3_107))]) G rfl dX6_bestDrop_125 (by decide) rfl ?_
          refine p_aload_n G rfl 2 rfl dX6_bestDrop_126 ?_
          refine p_get G dX6_bestDrop_127 fl_X6_40 (k := 0) rfl rfl ?_
          refine p_get G dX6_bestDrop_130 fl_X6_232 (k := 77) rfl rfl ?_
          refine p_istore_n (lv' := fun v11 => [(2, .int (zJ v11)), (1, .int (zJ v3_107)), (4, .int (zJ (1 : Int))), (0, .ref (ga Γ 0)), (3, .int (zJ v3_107))]) G rfl dX6_bestDrop_133 h (by decide) (fun _ => rfl) (fun v11 h => ?_)
          refine p_iinc (lv' := fun v12 => [(3, .int (zJ v12)), (2, .int (zJ v11)), (1, .int (zJ v3_107)), (4, .int (zJ (1 : Int))), (0, .ref (ga Γ 0))]) G dX6_bestDrop_134 h 4 rfl (by decide) (fun _ => rfl) (fun v12 h => ?_)
          refine p_goto (tgt := 18) G dX6_bestDrop_137 (by decide) ?_
          refine p_lv [4, 2, 1, 0] rfl ?_
          exact hin18 _ (Option.some.inj h).symm
    have j111 : ∀ (σ_111 : Mm) (v1_111 : Int) (v2_111 : Int) (v3_111 : Int), x_X6_bestDrop_j111_18 σ_111 v1_111 v2_111 v3_111 = some r → PT Γ 5 shX 111 σ_111 [(0, .ref (ga Γ 0)), (1, .int (zJ v1_111)), (2, .int (zJ v2_111)), (3, .int (zJ v3_111))] [] := by
      intro σ_111 v1_111 v2_111 v3_111 h
      unfold x_X6_bestDrop_j111_18 at h
      refine p_iconst G rfl dX6_bestDrop_111 ?_
      refine p_istoreU (lv' := [(4, .int (zJ (0 : Int))), (0, .ref (ga Γ 0)), (1, .int (zJ v1_111)), (2, .int (zJ v2_111)), (3, .int (zJ v3_111))]) G dX6_bestDrop_112 (by decide) rfl ?_
      refine p_iload_n G rfl 2 rfl dX6_bestDrop_114 ?_
      refine p_iconst G rfl dX6_bestDrop_115 ?_
      refine p_icmpeq (tgt := 124) G dX6_bestDrop_116 (by decide) h (fun c21 h => ?_) (fun c21 h => ?_)
      · refine p_iload_n G rfl 4 rfl dX6_bestDrop_124 ?_
        refine p_istore_nU (lv' := [(1, .int (zJ v3_111)), (4, .int (zJ (0 : Int))), (0, .ref (ga Γ 0)), (2, .int (zJ v2_111)), (3, .int (zJ v3_111))]) G rfl dX6_bestDrop_125 (by decide) rfl ?_
        refine p_aload_n G rfl 2 rfl dX6_bestDrop_126 ?_
        refine p_get G dX6_bestDrop_127 fl_X6_40 (k := 0) rfl rfl ?_
        refine p_get G dX6_bestDrop_130 fl_X6_232 (k := 77) rfl rfl ?_
        refine p_istore_n (lv' := fun v15 => [(2, .int (zJ v15)), (1, .int (zJ v3_111)), (4, .int (zJ (0 : Int))), (0, .ref (ga Γ 0)), (3, .int (zJ v3_111))]) G rfl dX6_bestDrop_133 h (by decide) (fun _ => rfl) (fun v15 h => ?_)
        refine p_iinc (lv' := fun v16 => [(3, .int (zJ v16)), (2, .int (zJ v15)), (1, .int (zJ v3_111)), (4, .int (zJ (0 : Int))), (0, .ref (ga Γ 0))]) G dX6_bestDrop_134 h 4 rfl (by decide) (fun _ => rfl) (fun v16 h => ?_)
        refine p_goto (tgt := 18) G dX6_bestDrop_137 (by decide) ?_
        refine p_lv [4, 2, 1, 0] rfl ?_
        exact hin18 _ (Option.some.inj h).symm
      · refine p_iload G 0 rfl dX6_bestDrop_119 ?_
        refine p_ifeq (tgt := 134) G dX6_bestDrop_121 (by decide) h (fun c20 h => ?_) (fun c20 h => ?_)
        · refine p_iinc (lv' := fun v17 => [(3, .int (zJ v17)), (4, .int (zJ (0 : Int))), (0, .ref (ga Γ 0)), (1, .int (zJ v1_111)), (2, .int (zJ v2_111))]) G dX6_bestDrop_134 h 4 rfl (by decide) (fun _ => rfl) (fun v17 h => ?_)
          refine p_goto (tgt := 18) G dX6_bestDrop_137 (by decide) ?_
          refine p_lv [2, 3, 4, 0] rfl ?_
          exact hin18 _ (Option.some.inj h).symm
        · refine p_iload_n G rfl 4 rfl dX6_bestDrop_124 ?_
          refine p_istore_nU (lv' := [(1, .int (zJ v3_111)), (4, .int (zJ (0 : Int))), (0, .ref (ga Γ 0)), (2, .int (zJ v2_111)), (3, .int (zJ v3_111))]) G rfl dX6_bestDrop_125 (by decide) rfl ?_
          refine p_aload_n G rfl 2 rfl dX6_bestDrop_126 ?_
          refine p_get G dX6_bestDrop_127 fl_X6_40 (k := 0) rfl rfl ?_
          refine p_get G dX6_bestDrop_130 fl_X6_232 (k := 77) rfl rfl ?_
          refine p_istore_n (lv' := fun v18 => [(2, .int (zJ v18)), (1, .int (zJ v3_111)), (4, .int (zJ (0 : Int))), (0, .ref (ga Γ 0)), (3, .int (zJ v3_111))]) G rfl dX6_bestDrop_133 h (by decide) (fun _ => rfl) (fun v18 h => ?_)
          refine p_iinc (lv' := fun v19 => [(3, .int (zJ v19)), (2, .int (zJ v18)), (1, .int (zJ v3_111)), (4, .int (zJ (0 : Int))), (0, .ref (ga Γ 0))]) G dX6_bestDrop_134 h 4 rfl (by decide) (fun _ => rfl) (fun v19 h => ?_)
          refine p_goto (tgt := 18) G dX6_bestDrop_137 (by decide) ?_
          refine p_lv [4, 2, 1, 0] rfl ?_
          exact hin18 _ (Option.some.inj h).symm
    unfold x_X6_bestDrop_b18 at h
    refine (?_ : PT Γ 5 shX 18 σ18 [(0, .ref (ga Γ 0)), (1, .int (zJ u1_18)), (2, .int (zJ u2_18)), (3, .int (zJ u3_18))] [])
    refine p_iload_n G rfl 3 rfl dX6_bestDrop_18 ?_
    refine p_bipush G (by decide) (by decide) dX6_bestDrop_19 ?_
    refine p_icmpge (tgt := 140) G dX6_bestDrop_21 (by decide) h (fun c30 h => ?_) (fun c30 h => ?_)
    · refine p_lv [1] rfl ?_
      have he := hout18 _ (Option.some.inj h).symm
      subst he
      exact hX18_140 _ _ rfl
    · refine p_aload_n G rfl 0 rfl dX6_bestDrop_24 ?_
      refine p_get G dX6_bestDrop_25 fl_X6_12 (k := 0) rfl rfl ?_
      refine p_aload_n G rfl 0 rfl dX6_bestDrop_28 ?_
      refine p_get G dX6_bestDrop_29 fl_X6_12 (k := 0) rfl rfl ?_
      refine p_get G dX6_bestDrop_32 fl_X6_99 (k := 1) rfl rfl ?_
      obtain ⟨v2, hc, h⟩ := bnd_some h
      refine p_callVr G zl_47 dX6_bestDrop_35 lk_X6_219 (c_X2_handOf (gl Γ) hc) (As := [.int (zJ (σ18 1 5))]) (ci := 4) rfl zk_47 (zs_x zs_47 _) rfl rfl rfl (Nat.le_of_ble_eq_true rfl) ⟨rfl, rfl, Nat.le_of_ble_eq_true rfl, Nat.le_of_ble_eq_true rfl⟩ hcs ?_
      refine p_iload_n G rfl 3 rfl dX6_bestDrop_38 ?_
      obtain ⟨v3, hc, h⟩ := bnd_some h
      refine p_callS0 G dX6_bestDrop_39 lk_X6_271 (c_X6_has (gl Γ) hc) (As := [.long v2, .int (zJ u3_18)]) rfl zk_48 rfl (Nat.le_of_ble_eq_true rfl) ⟨rfl, rfl, Nat.le_of_ble_eq_true rfl, Nat.le_of_ble_eq_true rfl⟩ hcs ?_
      refine p_ifeq (tgt := 134) G dX6_bestDrop_42 (by decide) h (fun c29 h => ?_) (fun c29 h => ?_)
      · refine p_iinc (lv' := fun v4 => [(3, .int (zJ v4)), (0, .ref (ga Γ 0)), (1, .int (zJ u1_18)), (2, .int (zJ u2_18))]) G dX6_bestDrop_134 h 3 rfl (by decide) (fun _ => rfl) (fun v4 h => ?_)
        refine p_goto (tgt := 18) G dX6_bestDrop_137 (by decide) ?_
        refine p_lv [1, 2, 3, 0] rfl ?_
        exact hin18 _ (Option.some.inj h).symm
      · refine p_iload_n G rfl 3 rfl dX6_bestDrop_45 ?_
        refine p_aload_n G rfl 0 rfl dX6_bestDrop_46 ?_
        refine p_get G dX6_bestDrop_47 fl_X6_12 (k := 0) rfl rfl ?_
        refine p_get G dX6_bestDrop_50 fl_X6_275 (k := 1) rfl rfl ?_
        refine p_icmpne (tgt := 59) G dX6_bestDrop_53 (by decide) h (fun c28 h => ?_) (fun c28 h => ?_)
        · refine p_aload_n G rfl 0 rfl dX6_bestDrop_59 ?_
          refine p_get G dX6_bestDrop_60 fl_X6_40 (k := 0) rfl rfl ?_
          refine p_aload_n G rfl 0 rfl dX6_bestDrop_63 ?_
          refine p_get G dX6_bestDrop_64 fl_X6_12 (k := 0) rfl rfl ?_
          refine p_iload_n G rfl 3 rfl dX6_bestDrop_67 ?_
          obtain ⟨v5, hc, h⟩ := bnd_some h
          refine p_callVr G zl_47 dX6_bestDrop_68 lk_X6_116 (c_X2_handWithout (gl Γ) hc) (As := [.int (zJ u3_18)]) (ci := 4) rfl zk_47 (zs_x zs_47 _) rfl rfl rfl (Nat.le_of_ble_eq_true rfl) ⟨rfl, rfl, Nat.le_of_ble_eq_true rfl, Nat.le_of_ble_eq_true rfl⟩ hcs ?_
          obtain ⟨σ6, hc, h⟩ := bnd_some h
          refine p_callV G zl_54 dX6_bestDrop_71 lk_X6_222 (c_X1_lay (gl Γ) hc) (As := [.long v5]) (ci := 3) rfl zk_54 (zs_x zs_54 _) rfl rfl rfl (Nat.le_of_ble_eq_true rfl) ⟨rfl, rfl, Nat.le_of_ble_eq_true rfl, Nat.le_of_ble_eq_true rfl⟩ hcs ?_
          refine p_nm h (fun σ7 h => ?_)
          refine p_aload_n G rfl 0 rfl dX6_bestDrop_74 ?_
          refine p_get G dX6_bestDrop_75 fl_X6_40 (k := 0) rfl rfl ?_
          refine p_get G dX6_bestDrop_78 fl_X6_232 (k := 77) rfl rfl ?_
          refine p_iload_n G rfl 2 rfl dX6_bestDrop_81 ?_
          refine p_icmplt (tgt := 107) G dX6_bestDrop_82 (by decide) h (fun c26 h => ?_) (fun c26 h => ?_)
          · exact j107 _ _ _ _ h
          · refine p_aload_n G rfl 0 rfl dX6_bestDrop_85 ?_
            refine p_get G dX6_bestDrop_86 fl_X6_40 (k := 0) rfl rfl ?_
            refine p_get G dX6_bestDrop_89 fl_X6_232 (k := 77) rfl rfl ?_
            refine p_iload_n G rfl 2 rfl dX6_bestDrop_92 ?_
            refine p_icmpne (tgt := 111) G dX6_bestDrop_93 (by decide) h (fun c25 h => ?_) (fun c25 h => ?_)
            · exact j111 _ _ _ _ h
            · refine p_iload_n G rfl 3 rfl dX6_bestDrop_96 ?_
              obtain ⟨v22, hc, h⟩ := bnd_some h
              refine p_callS0 G dX6_bestDrop_97 lk_X6_278 (c_X6_pointsFor (gl Γ) hc) (As := [.int (zJ u3_18)]) rfl zk_48 rfl (Nat.le_of_ble_eq_true rfl) ⟨rfl, rfl, Nat.le_of_ble_eq_true rfl, Nat.le_of_ble_eq_true rfl⟩ hcs ?_
              refine p_iload_n G rfl 1 rfl dX6_bestDrop_100 ?_
              obtain ⟨v23, hc, h⟩ := bnd_some h
              refine p_callS0 G dX6_bestDrop_101 lk_X6_278 (c_X6_pointsFor (gl Γ) hc) (As := [.int (zJ u1_18)]) rfl zk_48 rfl (Nat.le_of_ble_eq_true rfl) ⟨rfl, rfl, Nat.le_of_ble_eq_true rfl, Nat.le_of_ble_eq_true rfl⟩ hcs ?_
              refine p_icmple (tgt := 111) G dX6_bestDrop_104 (by decide) h (fun c24 h => ?_) (fun c24 h => ?_)
              · exact j111 _ _ _ _ h
              · exact j107 _ _ _ _ h
        · refine p_goto (tgt := 134) G dX6_bestDrop_56 (by decide) ?_
          refine p_iinc (lv' := fun v27 => [(3, .int (zJ v27)), (0, .ref (ga Γ 0)), (1, .int (zJ u1_18)), (2, .int (zJ u2_18))]) G dX6_bestDrop_134 h 3 rfl (by decide) (fun _ => rfl) (fun v27 h => ?_)
          refine p_goto (tgt := 18) G dX6_bestDrop_137 (by decide) ?_
          refine p_lv [1, 2, 3, 0] rfl ?_
          exact hin18 _ (Option.some.inj h).symm
  · refine p_iconst G rfl dX6_bestDrop_10 ?_
    (cases h; exact p_iret G hR dX6_bestDrop_11 rfl rfl)
set_option maxHeartbeats 4000000 in
set_option maxRecDepth 100000 in
theorem c_X6_needed (l : Launch) {D : va_G} {yy : Nat → ClassId} {tk tv a : Nat → Nat} {σ : Mm} {o : Mm × Int} (h : x_X6_needed σ = some o) : CT l yX6_needed cX6_needed 1 (some .int) rm_X6_needed shX D yy tk tv a σ [.ref (a 0)] o.1 (some (.int (zJ o.2))) := by
  refine ct_of (Ar := fun a tk => [.ref (a 0)]) (by decide) (Nat.le_of_ble_eq_true rfl) (fun Γ G _ _ hR => ?_)
  have hcs := rt_cs hR
  unfold x_X6_needed at h
  refine (?_ : PT Γ 1 shX 0 σ [(0, .ref (ga Γ 0))] [])
  refine p_aload_n G rfl 0 rfl dX6_needed_0 ?_
  refine p_get G dX6_needed_1 fl_X6_12 (k := 0) rfl rfl ?_
  obtain ⟨v1, hc, h⟩ := bnd_some h
  refine p_callVr G zl_47 dX6_needed_4 lk_X6_268 (c_X2_isDropDue (gl Γ) hc) (As := []) (ci := 4) rfl zk_47 (zs_x zs_47 _) rfl rfl rfl (Nat.le_of_ble_eq_true rfl) ⟨rfl, rfl, Nat.le_of_ble_eq_true rfl, Nat.le_of_ble_eq_true rfl⟩ hcs ?_
  refine p_ifeq (tgt := 41) G dX6_needed_7 (by decide) h (fun c6 h => ?_) (fun c6 h => ?_)
  · refine p_iconst G rfl dX6_needed_41 ?_
    (cases h; exact p_iret G hR dX6_needed_42 rfl rfl)
  · refine p_aload_n G rfl 0 rfl dX6_needed_10 ?_
    refine p_get G dX6_needed_11 fl_X6_40 (k := 0) rfl rfl ?_
    refine p_aload_n G rfl 0 rfl dX6_needed_14 ?_
    refine p_get G dX6_needed_15 fl_X6_12 (k := 0) rfl rfl ?_
    refine p_aload_n G rfl 0 rfl dX6_needed_18 ?_
    refine p_get G dX6_needed_19 fl_X6_12 (k := 0) rfl rfl ?_
    refine p_get G dX6_needed_22 fl_X6_99 (k := 1) rfl rfl ?_
    obtain ⟨v2, hc, h⟩ := bnd_some h
    refine p_callVr G zl_47 dX6_needed_25 lk_X6_219 (c_X2_handOf (gl Γ) hc) (As := [.int (zJ (σ 1 5))]) (ci := 4) rfl zk_47 (zs_x zs_47 _) rfl rfl rfl (Nat.le_of_ble_eq_true rfl) ⟨rfl, rfl, Nat.le_of_ble_eq_true rfl, Nat.le_of_ble_eq_true rfl⟩ hcs ?_
    refine p_aload_n G rfl 0 rfl dX6_needed_28 ?_
    refine p_get G dX6_needed_29 fl_X6_12 (k := 0) rfl rfl ?_
    refine p_get G dX6_needed_32 fl_X6_275 (k := 1) rfl rfl ?_
    obtain ⟨⟨σ3, v4⟩, hc, h⟩ := bnd_some h
    rw [un2_mk] at h
    refine p_callV G zl_54 dX6_needed_35 lk_X6_284 (c_X1_restBehindDrop (gl Γ) hc) (As := [.long v2, .int (zJ (σ 1 7))]) (ci := 3) rfl zk_54 (zs_x zs_54 _) rfl rfl rfl (Nat.le_of_ble_eq_true rfl) ⟨rfl, rfl, Nat.le_of_ble_eq_true rfl, Nat.le_of_ble_eq_true rfl⟩ hcs ?_
    refine p_nm h (fun σ5 h => ?_)
    refine p_goto (tgt := 42) G dX6_needed_38 (by decide) ?_
    (cases h; exact p_iret G hR dX6_needed_42 rfl rfl)
set_option maxHeartbeats 4000000 in
set_option maxRecDepth 100000 in
theorem c_X6_kind (l : Launch) {D : va_G} {yy : Nat → ClassId} {tk tv a : Nat → Nat} {σ : Mm} {p1 : Int64} {o : Int} (h : x_X6_kind σ p1 = some (.inl o)) : CT l yX6_kind cX6_kind 3 (some .int) rm_X6_kind shX D yy tk tv a σ [.ref (a 0), .long p1] σ (some (.int (zJ o))) := by
  refine ct_of (Ar := fun a tk => [.ref (a 0), .long p1]) (by decide) (Nat.le_of_ble_eq_true rfl) (fun Γ G _ _ hR => ?_)
  have hcs := rt_cs hR
  unfold x_X6_kind at h
  refine (?_ : PT Γ 3 shX 0 σ [(0, .ref (ga Γ 0)), (1, .long p1)] [])
  refine p_lload_n G rfl 1 rfl dX6_kind_0 ?_
  refine p_lconst G (v := 0) (by decide) dX6_kind_1 ?_
  refine p_lcmp G dX6_kind_2 ?_
  refine p_iflt (tgt := 18) G dX6_kind_3 (by decide) h (fun c5 h => ?_) (fun c5 h => ?_)
  · refine p_iconst G rfl dX6_kind_18 ?_
    obtain ⟨o_, hc, h⟩ := bthr h
    refine p_callS0 G dX6_kind_19 lk_X6_154 (c_X6_require (gl Γ) hc) (As := [.int (zJ (0 : Int))]) rfl zk_48 rfl (Nat.le_of_ble_eq_true rfl) ⟨rfl, rfl, Nat.le_of_ble_eq_true rfl, Nat.le_of_ble_eq_true rfl⟩ hcs ?_
    have h := inlO_inl h
    refine p_lload_n G rfl 1 rfl dX6_kind_22 ?_
    obtain ⟨v1, hc, h⟩ := bnd_some h
    refine p_callS0 G dX6_kind_23 lk_X6_262 (c_X6_kindOf (gl Γ) hc) (As := [.long p1]) rfl zk_48 rfl (Nat.le_of_ble_eq_true rfl) ⟨rfl, rfl, Nat.le_of_ble_eq_true rfl, Nat.le_of_ble_eq_true rfl⟩ hcs ?_
    (cases h; exact p_iret G hR dX6_kind_26 rfl rfl)
  · refine p_lload_n G rfl 1 rfl dX6_kind_6 ?_
    refine p_ldc2 G gm_1148 dX6_kind_7 ?_
    refine p_lcmp G dX6_kind_10 ?_
    refine p_ifgt (tgt := 18) G dX6_kind_11 (by decide) h (fun c4 h => ?_) (fun c4 h => ?_)
    · refine p_iconst G rfl dX6_kind_18 ?_
      obtain ⟨o_, hc, h⟩ := bthr h
      refine p_callS0 G dX6_kind_19 lk_X6_154 (c_X6_require (gl Γ) hc) (As := [.int (zJ (0 : Int))]) rfl zk_48 rfl (Nat.le_of_ble_eq_true rfl) ⟨rfl, rfl, Nat.le_of_ble_eq_true rfl, Nat.le_of_ble_eq_true rfl⟩ hcs ?_
      have h := inlO_inl h
      refine p_lload_n G rfl 1 rfl dX6_kind_22 ?_
      obtain ⟨v2, hc, h⟩ := bnd_some h
      refine p_callS0 G dX6_kind_23 lk_X6_262 (c_X6_kindOf (gl Γ) hc) (As := [.long p1]) rfl zk_48 rfl (Nat.le_of_ble_eq_true rfl) ⟨rfl, rfl, Nat.le_of_ble_eq_true rfl, Nat.le_of_ble_eq_true rfl⟩ hcs ?_
      (cases h; exact p_iret G hR dX6_kind_26 rfl rfl)
    · refine p_iconst G rfl dX6_kind_14 ?_
      refine p_goto (tgt := 19) G dX6_kind_15 (by decide) ?_
      obtain ⟨o_, hc, h⟩ := bthr h
      refine p_callS0 G dX6_kind_19 lk_X6_154 (c_X6_require (gl Γ) hc) (As := [.int (zJ (1 : Int))]) rfl zk_48 rfl (Nat.le_of_ble_eq_true rfl) ⟨rfl, rfl, Nat.le_of_ble_eq_true rfl, Nat.le_of_ble_eq_true rfl⟩ hcs ?_
      have h := inlO_inl h
      refine p_lload_n G rfl 1 rfl dX6_kind_22 ?_
      obtain ⟨v3, hc, h⟩ := bnd_some h
      refine p_callS0 G dX6_kind_23 lk_X6_262 (c_X6_kindOf (gl Γ) hc) (As := [.long p1]) rfl zk_48 rfl (Nat.le_of_ble_eq_true rfl) ⟨rfl, rfl, Nat.le_of_ble_eq_true rfl, Nat.le_of_ble_eq_true rfl⟩ hcs ?_
      (cases h; exact p_iret G hR dX6_kind_26 rfl rfl)
set_option maxHeartbeats 4000000 in
set_option maxRecDepth 100000 in
theorem c_X6_gap (l : Launch) {D : va_G} {yy : Nat → ClassId} {tk tv a : Nat → Nat} {σ : Mm} {o : Mm × Int} (h : x_X6_gap σ = some o) : CT l yX6_gap cX6_gap 4 (some .int) rm_X6_gap shX D yy tk tv a σ [.ref (a 0)] o.1 (some (.int (zJ o.2))) := by
  refine ct_of (Ar := fun a tk => [.ref (a 0)]) (by decide) (Nat.le_of_ble_eq_true rfl) (fun Γ G _ _ hR => ?_)
  have hcs := rt_cs hR
  unfold x_X6_gap at h
  refine (?_ : PT Γ 4 shX 0 σ [(0, .ref (ga Γ 0))] [])
  refine p_aload_n G rfl 0 rfl dX6_gap_0 ?_
  refine p_get G dX6_gap_1 fl_X6_12 (k := 0) rfl rfl ?_
  refine p_iconst G rfl dX6_gap_4 ?_
  obtain ⟨v1, hc, h⟩ := bnd_some h
  refine p_callVr G zl_47 dX6_gap_5 lk_X6_219 (c_X2_handOf (gl Γ) hc) (As := [.int (zJ (0 : Int))]) (ci := 4) rfl zk_47 (zs_x zs_47 _) rfl rfl rfl (Nat.le_of_ble_eq_true rfl) ⟨rfl, rfl, Nat.le_of_ble_eq_true rfl, Nat.le_of_ble_eq_true rfl⟩ hcs ?_
  obtain ⟨v2, hc, h⟩ := bnd_some h
  refine p_callS0 G dX6_gap_8 lk_X6_226 (c_J_Long_bitCount (gl Γ) hc) (As := [.long v1]) rfl zk_48 rfl (Nat.le_of_ble_eq_true rfl) ⟨rfl, rfl, Nat.le_of_ble_eq_true rfl, Nat.le_of_ble_eq_true rfl⟩ hcs ?_
  refine p_aload_n G rfl 0 rfl dX6_gap_11 ?_
  refine p_get G dX6_gap_12 fl_X6_12 (k := 0) rfl rfl ?_
  refine p_iconst G rfl dX6_gap_15 ?_
  obtain ⟨v3, hc, h⟩ := bnd_some h
  refine p_callVr G zl_47 dX6_gap_16 lk_X6_219 (c_X2_handOf (gl Γ) hc) (As := [.int (zJ (1 : Int))]) (ci := 4) rfl zk_47 (zs_x zs_47 _) rfl rfl rfl (Nat.le_of_ble_eq_true rfl) ⟨rfl, rfl, Nat.le_of_ble_eq_true rfl, Nat.le_of_ble_eq_true rfl⟩ hcs ?_
  obtain ⟨v4, hc, h⟩ := bnd_some h
  refine p_callS0 G dX6_gap_19 lk_X6_226 (c_J_Long_bitCount (gl Γ) hc) (As := [.long v3]) rfl zk_48 rfl (Nat.le_of_ble_eq_true rfl) ⟨rfl, rfl, Nat.le_of_ble_eq_true rfl, Nat.le_of_ble_eq_true rfl⟩ hcs ?_
  refine p_iadd G dX6_gap_22 ?_
  refine p_istore_n (lv' := fun v5 => [(1, .int (zJ v5)), (0, .ref (ga Γ 0))]) G rfl dX6_gap_23 h (by decide) (fun _ => rfl) (fun v5 h => ?_)
  refine p_bipush G (by decide) (by decide) dX6_gap_24 ?_
  refine p_iload_n G rfl 0 rfl dX6_gap_26 ?_
  refine p_isub G dX6_gap_27 ?_
  refine p_aload_n G rfl 1 rfl dX6_gap_28 ?_
  refine p_get G dX6_gap_29 fl_X6_12 (k := 0) rfl rfl ?_
  obtain ⟨v6, hc, h⟩ := bnd_some h
  refine p_callVr G zl_47 dX6_gap_32 lk_X6_113 (c_X2_stockCount (gl Γ) hc) (As := []) (ci := 4) rfl zk_47 (zs_x zs_47 _) rfl rfl rfl (Nat.le_of_ble_eq_true rfl) ⟨rfl, rfl, Nat.le_of_ble_eq_true rfl, Nat.le_of_ble_eq_true rfl⟩ hcs ?_
  refine p_isub G dX6_gap_35 ?_
  refine p_aload_n G rfl 1 rfl dX6_gap_36 ?_
  refine p_get G dX6_gap_37 fl_X6_12 (k := 0) rfl rfl ?_
  refine p_get G dX6_gap_40 fl_X6_196 (k := 1) rfl rfl ?_
  refine p_isub G dX6_gap_43 ?_
  refine p_zabs G gm_1106 gm_926 gm_41 gm_927 (by decide) (by decide) hcs dX6_gap_44 ?_
  refine p_istore_n (lv' := fun v7 => [(2, .int (zJ v7)), (1, .int (zJ v5)), (0, .ref (ga Γ 0))]) G rfl dX6_gap_47 h (by decide) (fun _ => rfl) (fun v7 h => ?_)
  refine p_iconst G rfl dX6_gap_48 ?_
  refine p_istore_nU (lv' := [(3, .int (zJ (0 : Int))), (2, .int (zJ v7)), (1, .int (zJ v5)), (0, .ref (ga Γ 0))]) G rfl dX6_gap_49 (by decide) rfl ?_
  refine p_lv [3, 1, 0] rfl ?_
  obtain ⟨e20, hl50, h⟩ := bnd_some h
  have hX50_120 : ∀ (σ21 : Mm) (v22 : Int), (σ21, v22) = e20 → PT Γ 4 shX 120 σ21 [(2, .int (zJ v22))] [] := by
    intro σ21 v22 he
    subst he
    rw [un2_mk] at h
    refine p_iload_n G rfl 0 rfl dX6_gap_120 ?_
    (cases h; exact p_iret G hR dX6_gap_121 rfl rfl)
  refine lup_walk (s := (σ, v7, (0 : Int))) (At := fun s : Mm × Int × Int => PT Γ 4 shX 50 s.1 [(0, .ref (ga Γ 0)), (2, .int (zJ s.2.1)), (3, .int (zJ s.2.2))] []) (fun s r hf hin50 hout50 => ?_) hl50
  obtain ⟨σ50, u2_50, u3_50⟩ := s
  have h : x_X6_gap_b50 σ50 u2_50 u3_50 = some r := hf
  clear hf
  unfold x_X6_gap_b50 at h
  refine (?_ : PT Γ 4 shX 50 σ50 [(0, .ref (ga Γ 0)), (2, .int (zJ u2_50)), (3, .int (zJ u3_50))] [])
  refine p_iload_n G rfl 2 rfl dX6_gap_50 ?_
  refine p_iconst G rfl dX6_gap_51 ?_
  refine p_icmpge (tgt := 120) G dX6_gap_52 (by decide) h (fun c18 h => ?_) (fun c18 h => ?_)
  · refine p_lv [1] rfl ?_
    have he := hout50 _ (Option.some.inj h).symm
    subst he
    exact hX50_120 _ _ rfl
  · refine p_aload_n G rfl 0 rfl dX6_gap_55 ?_
    refine p_get G dX6_gap_56 fl_X6_40 (k := 0) rfl rfl ?_
    refine p_aload_n G rfl 0 rfl dX6_gap_59 ?_
    refine p_get G dX6_gap_60 fl_X6_12 (k := 0) rfl rfl ?_
    refine p_iload_n G rfl 2 rfl dX6_gap_63 ?_
    obtain ⟨v8, hc, h⟩ := bnd_some h
    refine p_callVr G zl_47 dX6_gap_64 lk_X6_219 (c_X2_handOf (gl Γ) hc) (As := [.int (zJ u3_50)]) (ci := 4) rfl zk_47 (zs_x zs_47 _) rfl rfl rfl (Nat.le_of_ble_eq_true rfl) ⟨rfl, rfl, Nat.le_of_ble_eq_true rfl, Nat.le_of_ble_eq_true rfl⟩ hcs ?_
    obtain ⟨σ9, hc, h⟩ := bnd_some h
    refine p_callV G zl_54 dX6_gap_67 lk_X6_222 (c_X1_lay (gl Γ) hc) (As := [.long v8]) (ci := 3) rfl zk_54 (zs_x zs_54 _) rfl rfl rfl (Nat.le_of_ble_eq_true rfl) ⟨rfl, rfl, Nat.le_of_ble_eq_true rfl, Nat.le_of_ble_eq_true rfl⟩ hcs ?_
    refine p_nm h (fun σ10 h => ?_)
    refine p_iload_n G rfl 1 rfl dX6_gap_70 ?_
    refine p_aload_n G rfl 0 rfl dX6_gap_71 ?_
    refine p_get G dX6_gap_72 fl_X6_40 (k := 0) rfl rfl ?_
    obtain ⟨v11, hc, h⟩ := bnd_some h
    refine p_callVr G zl_54 dX6_gap_75 lk_X6_301 (c_X1_foundPoints (gl Γ) hc) (As := []) (ci := 3) rfl zk_54 (zs_x zs_54 _) rfl rfl rfl (Nat.le_of_ble_eq_true rfl) ⟨rfl, rfl, Nat.le_of_ble_eq_true rfl, Nat.le_of_ble_eq_true rfl⟩ hcs ?_
    refine p_aload_n G rfl 0 rfl dX6_gap_78 ?_
    refine p_get G dX6_gap_79 fl_X6_40 (k := 0) rfl rfl ?_
    refine p_get G dX6_gap_82 fl_X6_232 (k := 77) rfl rfl ?_
    refine p_iadd G dX6_gap_85 ?_
    refine p_aload_n G rfl 0 rfl dX6_gap_86 ?_
    refine p_get G dX6_gap_87 fl_X6_12 (k := 0) rfl rfl ?_
    refine p_iload_n G rfl 2 rfl dX6_gap_90 ?_
    obtain ⟨v12, hc, h⟩ := bnd_some h
    refine p_callVr G zl_47 dX6_gap_91 lk_X6_219 (c_X2_handOf (gl Γ) hc) (As := [.int (zJ u3_50)]) (ci := 4) rfl zk_47 (zs_x zs_47 _) rfl rfl rfl (Nat.le_of_ble_eq_true rfl) ⟨rfl, rfl, Nat.le_of_ble_eq_true rfl, Nat.le_of_ble_eq_true rfl⟩ hcs ?_
    obtain ⟨v13, hc, h⟩ := bnd_some h
    refine p_callS0 G dX6_gap_94 lk_X6_244 (c_X6_pointsOf (gl Γ) hc) (As := [.long v12]) rfl zk_48 rfl (Nat.le_of_ble_eq_true rfl) ⟨rfl, rfl, Nat.le_of_ble_eq_true rfl, Nat.le_of_ble_eq_true rfl⟩ hcs ?_
    refine p_isub G dX6_gap_97 ?_
    refine p_zabs G gm_1106 gm_926 gm_41 gm_927 (by decide) (by decide) hcs dX6_gap_98 ?_
    refine p_iadd G dX6_gap_101 ?_
    refine p_istore_n (lv' := fun v14 => [(2, .int (zJ v14)), (0, .ref (ga Γ 0)), (3, .int (zJ u3_50))]) G rfl dX6_gap_102 h (by decide) (fun _ => rfl) (fun v14 h => ?_)
    refine p_iload_n G rfl 0 rfl dX6_gap_103 ?_
    refine p_aload_n G rfl 1 rfl dX6_gap_104 ?_
    refine p_get G dX6_gap_105 fl_X6_40 (k := 0) rfl rfl ?_
    refine p_iconst G rfl dX6_gap_108 ?_
    obtain ⟨v15, hc, h⟩ := bnd_some h
    refine p_callVr G zl_54 dX6_gap_109 lk_X6_241 (c_X1_countKind (gl Γ) hc) (As := [.int (zJ (0 : Int))]) (ci := 3) rfl zk_54 (zs_x zs_54 _) rfl rfl rfl (Nat.le_of_ble_eq_true rfl) ⟨rfl, rfl, Nat.le_of_ble_eq_true rfl, Nat.le_of_ble_eq_true rfl⟩ hcs ?_
    refine p_iadd G dX6_gap_112 ?_
    refine p_istore_n (lv' := fun v16 => [(2, .int (zJ v16)), (0, .ref (ga Γ 0)), (3, .int (zJ u3_50))]) G rfl dX6_gap_113 h (by decide) (fun _ => rfl) (fun v16 h => ?_)
    refine p_iinc (lv' := fun v17 => [(3, .int (zJ v17)), (2, .int (zJ v16)), (0, .ref (ga Γ 0))]) G dX6_gap_114 h 2 rfl (by decide) (fun _ => rfl) (fun v17 h => ?_)
    refine p_goto (tgt := 50) G dX6_gap_117 (by decide) ?_
    refine p_lv [2, 1, 0] rfl ?_
    exact hin50 _ (Option.some.inj h).symm
set_option maxHeartbeats 4000000 in
set_option maxRecDepth 100000 in
theorem c_J_Math_floorMod (l : Launch) {D : va_G} {yy : Nat → ClassId} {tk tv a : Nat → Nat} {σ : Mm} {p0 : Int} {p1 : Int} {o : Int} (h : x_J_Math_floorMod p0 p1 = some o) : CT l yJ_Math_floorMod cJ_Math_floorMod 3 (some .int) rm_J_Math_floorMod shN D yy tk tv a σ [.int (zJ p0), .int (zJ p1)] σ (some (.int (zJ o))) := by
  refine ct_ofF (Ar := fun a tk => [.int (zJ p0), .int (zJ p1)]) (by decide +kernel) (Nat.le_of_ble_eq_true rfl) (fun Γ G _ _ hR => ?_)
  have hcs := rt_cs hR
  unfold x_J_Math_floorMod at h
  refine (?_ : PT Γ 3 shN 0 σ [(0, .int (zJ p0)), (1, .int (zJ p1))] [])
  refine p_iload_n G rfl 0 rfl dJ_Math_floorMod_0 ?_
  refine p_iload_n G rfl 1 rfl dJ_Math_floorMod_1 ?_
  refine p_irem G dJ_Math_floorMod_2 h (fun h => ?_)
  refine p_istore_n (lv' := fun v1 => [(2, .int (zJ v1)), (0, .int (zJ p0)), (1, .int (zJ p1))]) G rfl dJ_Math_floorMod_3 h (by decide) (fun _ => rfl) (fun v1 h => ?_)
  refine p_iload_n G rfl 1 rfl dJ_Math_floorMod_4 ?_
  refine p_iload_n G rfl 2 rfl dJ_Math_floorMod_5 ?_
  refine p_ixor G dJ_Math_floorMod_6 ?_
  refine p_ifge (tgt := 18) G dJ_Math_floorMod_7 (by decide) h (fun c3 h => ?_) (fun c3 h => ?_)
  · refine p_iload_n G rfl 0 rfl dJ_Math_floorMod_18 ?_
    (cases h; exact p_iret G hR dJ_Math_floorMod_19 rfl rfl)
  · refine p_iload_n G rfl 0 rfl dJ_Math_floorMod_10 ?_
    refine p_ifeq (tgt := 18) G dJ_Math_floorMod_11 (by decide) h (fun c2 h => ?_) (fun c2 h => ?_)
    · refine p_iload_n G rfl 0 rfl dJ_Math_floorMod_18 ?_
      (cases h; exact p_iret G hR dJ_Math_floorMod_19 rfl rfl)
    · refine p_iload_n G rfl 0 rfl dJ_Math_floorMod_14 ?_
      refine p_iload_n G rfl 2 rfl dJ_Math_floorMod_15 ?_
      refine p_iadd G dJ_Math_floorMod_16 ?_
      (cases h; exact p_iret G hR dJ_Math_floorMod_17 rfl rfl)
