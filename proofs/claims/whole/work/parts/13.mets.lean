set_option maxHeartbeats 4000000 in
set_option maxRecDepth 100000 in
theorem c_X2_copyFrom (l : Launch) {D : va_G} {yy : Nat → ClassId} {tk tv a : Nat → Nat} {σ : Mm} {o : Mm} (h : x_X2_copyFrom σ = some o) : CT l yX2_copyFrom cX2_copyFrom 2 none rm_X2_copyFrom shMM D yy tk tv a σ [.ref (a 0), .ref (a 5)] o none := by
  refine ct_of (Ar := fun a tk => [.ref (a 0), .ref (a 5)]) (by decide) (Nat.le_of_ble_eq_true rfl) (fun Γ G _ _ hR => ?_)
  have hcs := rt_cs hR
  unfold x_X2_copyFrom at h
  refine (?_ : PT Γ 2 shMM 0 σ [(0, .ref (ga Γ 0)), (1, .ref (ga Γ 5))] [])
  refine p_aload_n G rfl 0 rfl dX2_copyFrom_0 ?_
  refine p_aload_n G rfl 1 rfl dX2_copyFrom_1 ?_
  refine p_get G dX2_copyFrom_2 fl_X2_25 (k := 5) rfl rfl ?_
  refine p_putI G dX2_copyFrom_5 fp_X2_25 (k := 0) rfl rfl rfl rfl h (fun σ1 h => ?_)
  refine p_aload_n G rfl 0 rfl dX2_copyFrom_8 ?_
  refine p_aload_n G rfl 1 rfl dX2_copyFrom_9 ?_
  refine p_get G dX2_copyFrom_10 fl_X2_29 (k := 5) rfl rfl ?_
  refine p_putI G dX2_copyFrom_13 fp_X2_29 (k := 0) rfl rfl rfl rfl h (fun σ2 h => ?_)
  refine p_aload_n G rfl 0 rfl dX2_copyFrom_16 ?_
  refine p_aload_n G rfl 1 rfl dX2_copyFrom_17 ?_
  refine p_get G dX2_copyFrom_18 fl_X2_32 (k := 5) rfl rfl ?_
  refine p_putI G dX2_copyFrom_21 fp_X2_32 (k := 0) rfl rfl rfl rfl h (fun σ3 h => ?_)
  refine p_aload_n G rfl 0 rfl dX2_copyFrom_24 ?_
  refine p_aload_n G rfl 1 rfl dX2_copyFrom_25 ?_
  refine p_get G dX2_copyFrom_26 fl_X2_35 (k := 5) rfl rfl ?_
  refine p_putL G dX2_copyFrom_29 fp_X2_35 (k := 0) rfl rfl rfl rfl h (fun σ4 h => ?_)
  refine p_aload_n G rfl 0 rfl dX2_copyFrom_32 ?_
  refine p_aload_n G rfl 1 rfl dX2_copyFrom_33 ?_
  refine p_get G dX2_copyFrom_34 fl_X2_39 (k := 5) rfl rfl ?_
  refine p_putI G dX2_copyFrom_37 fp_X2_39 (k := 0) rfl rfl rfl rfl h (fun σ5 h => ?_)
  refine p_aload_n G rfl 0 rfl dX2_copyFrom_40 ?_
  refine p_aload_n G rfl 1 rfl dX2_copyFrom_41 ?_
  refine p_get G dX2_copyFrom_42 fl_X2_42 (k := 5) rfl rfl ?_
  refine p_putI G dX2_copyFrom_45 fp_X2_42 (k := 0) rfl rfl rfl rfl h (fun σ6 h => ?_)
  refine p_aload_n G rfl 0 rfl dX2_copyFrom_48 ?_
  refine p_aload_n G rfl 1 rfl dX2_copyFrom_49 ?_
  refine p_get G dX2_copyFrom_50 fl_X2_45 (k := 5) rfl rfl ?_
  refine zift h (fun hb h => ?_)
  refine p_putZ G dX2_copyFrom_53 fp_X2_45 (k := 0) rfl rfl rfl rfl (zb_01 hb) h (fun σ7 h => ?_)
  refine p_aload_n G rfl 0 rfl dX2_copyFrom_56 ?_
  refine p_aload_n G rfl 1 rfl dX2_copyFrom_57 ?_
  refine p_get G dX2_copyFrom_58 fl_X2_49 (k := 5) rfl rfl ?_
  refine p_putI G dX2_copyFrom_61 fp_X2_49 (k := 0) rfl rfl rfl rfl h (fun σ8 h => ?_)
  refine p_aload_n G rfl 0 rfl dX2_copyFrom_64 ?_
  refine p_aload_n G rfl 1 rfl dX2_copyFrom_65 ?_
  refine p_get G dX2_copyFrom_66 fl_X2_52 (k := 5) rfl rfl ?_
  refine zift h (fun hb h => ?_)
  refine p_putZ G dX2_copyFrom_69 fp_X2_52 (k := 0) rfl rfl rfl rfl (zb_01 hb) h (fun σ9 h => ?_)
  refine p_aload_n G rfl 0 rfl dX2_copyFrom_72 ?_
  refine p_aload_n G rfl 1 rfl dX2_copyFrom_73 ?_
  refine p_get G dX2_copyFrom_74 fl_X2_55 (k := 5) rfl rfl ?_
  refine p_putI G dX2_copyFrom_77 fp_X2_55 (k := 0) rfl rfl rfl rfl h (fun σ10 h => ?_)
  refine p_aload_n G rfl 0 rfl dX2_copyFrom_80 ?_
  refine p_aload_n G rfl 1 rfl dX2_copyFrom_81 ?_
  refine p_get G dX2_copyFrom_82 fl_X2_58 (k := 5) rfl rfl ?_
  refine p_putI G dX2_copyFrom_85 fp_X2_58 (k := 0) rfl rfl rfl rfl h (fun σ11 h => ?_)
  refine p_aload_n G rfl 0 rfl dX2_copyFrom_88 ?_
  refine p_aload_n G rfl 1 rfl dX2_copyFrom_89 ?_
  refine p_get G dX2_copyFrom_90 fl_X2_61 (k := 5) rfl rfl ?_
  refine p_putI G dX2_copyFrom_93 fp_X2_61 (k := 0) rfl rfl rfl rfl h (fun σ12 h => ?_)
  refine p_aload_n G rfl 0 rfl dX2_copyFrom_96 ?_
  refine p_aload_n G rfl 1 rfl dX2_copyFrom_97 ?_
  refine p_get G dX2_copyFrom_98 fl_X2_64 (k := 5) rfl rfl ?_
  refine p_putI G dX2_copyFrom_101 fp_X2_64 (k := 0) rfl rfl rfl rfl h (fun σ13 h => ?_)
  refine p_aload_n G rfl 1 rfl dX2_copyFrom_104 ?_
  refine p_get G dX2_copyFrom_105 fl_X2_9 (k := 5) rfl rfl ?_
  refine p_iconst G rfl dX2_copyFrom_108 ?_
  refine p_aload_n G rfl 0 rfl dX2_copyFrom_109 ?_
  refine p_get G dX2_copyFrom_110 fl_X2_9 (k := 0) rfl rfl ?_
  refine p_iconst G rfl dX2_copyFrom_113 ?_
  refine p_iconst G rfl dX2_copyFrom_114 ?_
  refine p_copy G gm_722 gm_489 gm_488 gm_100 (k0 := 6) (k1 := 1) (n := 2) (kd := 0) rfl rfl (zt_c _) (zt_c _) (by decide) (by decide) (by decide) (by decide) rfl (by decide) (by decide) dX2_copyFrom_115 h (fun σ14 h => ?_)
  refine p_aload_n G rfl 1 rfl dX2_copyFrom_118 ?_
  refine p_get G dX2_copyFrom_119 fl_X2_15 (k := 5) rfl rfl ?_
  refine p_iconst G rfl dX2_copyFrom_122 ?_
  refine p_aload_n G rfl 0 rfl dX2_copyFrom_123 ?_
  refine p_get G dX2_copyFrom_124 fl_X2_15 (k := 0) rfl rfl ?_
  refine p_iconst G rfl dX2_copyFrom_127 ?_
  refine p_iconst G rfl dX2_copyFrom_128 ?_
  refine p_copy G gm_722 gm_489 gm_488 gm_100 (k0 := 7) (k1 := 2) (n := 2) (kd := 1) rfl rfl (zt_c _) (zt_c _) (by decide) (by decide) (by decide) (by decide) rfl (by decide) (by decide) dX2_copyFrom_129 h (fun σ15 h => ?_)
  refine p_aload_n G rfl 1 rfl dX2_copyFrom_132 ?_
  refine p_get G dX2_copyFrom_133 fl_X2_19 (k := 5) rfl rfl ?_
  refine p_iconst G rfl dX2_copyFrom_136 ?_
  refine p_aload_n G rfl 0 rfl dX2_copyFrom_137 ?_
  refine p_get G dX2_copyFrom_138 fl_X2_19 (k := 0) rfl rfl ?_
  refine p_iconst G rfl dX2_copyFrom_141 ?_
  refine p_bipush G (by decide) (by decide) dX2_copyFrom_142 ?_
  refine p_copy G gm_722 gm_489 gm_488 gm_100 (k0 := 8) (k1 := 3) (n := 52) (kd := 0) rfl rfl (zt_c _) (zt_c _) (by decide) (by decide) (by decide) (by decide) rfl (by decide) (by decide) dX2_copyFrom_144 h (fun σ16 h => ?_)
  refine p_aload_n G rfl 1 rfl dX2_copyFrom_147 ?_
  refine p_get G dX2_copyFrom_148 fl_X2_22 (k := 5) rfl rfl ?_
  refine p_iconst G rfl dX2_copyFrom_151 ?_
  refine p_aload_n G rfl 0 rfl dX2_copyFrom_152 ?_
  refine p_get G dX2_copyFrom_153 fl_X2_22 (k := 0) rfl rfl ?_
  refine p_iconst G rfl dX2_copyFrom_156 ?_
  refine p_bipush G (by decide) (by decide) dX2_copyFrom_157 ?_
  refine p_copy G gm_722 gm_489 gm_488 gm_100 (k0 := 9) (k1 := 4) (n := 52) (kd := 0) rfl rfl (zt_c _) (zt_c _) (by decide) (by decide) (by decide) (by decide) rfl (by decide) (by decide) dX2_copyFrom_159 h (fun σ17 h => ?_)
  (cases h; exact p_vret G hR dX2_copyFrom_162 rfl rfl)
set_option maxHeartbeats 4000000 in
set_option maxRecDepth 100000 in
theorem c_X0_forget (l : Launch) {D : va_G} {yy : Nat → ClassId} {tk tv a : Nat → Nat} {σ : Mm} {o : Mm} (h : x_X0_forget σ = some o) : CT l yX0_forget cX0_forget 1 none rm_X0_forget shH D yy tk tv a σ [.ref (a 0)] o none := by
  refine ct_of (Ar := fun a tk => [.ref (a 0)]) (by decide) (Nat.le_of_ble_eq_true rfl) (fun Γ G _ _ hR => ?_)
  have hcs := rt_cs hR
  unfold x_X0_forget at h
  refine (?_ : PT Γ 1 shH 0 σ [(0, .ref (ga Γ 0))] [])
  refine p_aload_n G rfl 0 rfl dX0_forget_0 ?_
  refine p_iconst G rfl dX0_forget_1 ?_
  refine p_putI G dX0_forget_2 fp_X0_24 (k := 0) rfl rfl rfl rfl h (fun σ1 h => ?_)
  (cases h; exact p_vret G hR dX0_forget_5 rfl rfl)
set_option maxHeartbeats 4000000 in
set_option maxRecDepth 100000 in
theorem c_J_Long_bitCount (l : Launch) {D : va_G} {yy : Nat → ClassId} {tk tv a : Nat → Nat} {σ : Mm} {p0 : Int64} {o : Int} (h : x_J_Long_bitCount p0 = some o) : CT l yJ_Long_bitCount cJ_Long_bitCount 2 (some .int) rm_J_Long_bitCount shN D yy tk tv a σ [.long p0] σ (some (.int (zJ o))) := by
  refine ct_of (Ar := fun a tk => [.long p0]) (by decide) (Nat.le_of_ble_eq_true rfl) (fun Γ G _ _ hR => ?_)
  have hcs := rt_cs hR
  unfold x_J_Long_bitCount at h
  refine (?_ : PT Γ 2 shN 0 σ [(0, .long p0)] [])
  refine p_lload_n G rfl 0 rfl dJ_Long_bitCount_0 ?_
  refine p_lload_n G rfl 0 rfl dJ_Long_bitCount_1 ?_
  refine p_iconst G rfl dJ_Long_bitCount_2 ?_
  refine p_lushr G dJ_Long_bitCount_3 ?_
  refine p_ldc2 G gm_603 dJ_Long_bitCount_4 ?_
  refine p_land G dJ_Long_bitCount_7 ?_
  refine p_lsub G dJ_Long_bitCount_8 ?_
  refine p_lstore_n (lv' := fun v1 => [(0, .long v1)]) G rfl dJ_Long_bitCount_9 h (by decide) (fun _ => rfl) (fun v1 h => ?_)
  refine p_lload_n G rfl 0 rfl dJ_Long_bitCount_10 ?_
  refine p_ldc2 G gm_604 dJ_Long_bitCount_11 ?_
  refine p_land G dJ_Long_bitCount_14 ?_
  refine p_lload_n G rfl 0 rfl dJ_Long_bitCount_15 ?_
  refine p_iconst G rfl dJ_Long_bitCount_16 ?_
  refine p_lushr G dJ_Long_bitCount_17 ?_
  refine p_ldc2 G gm_604 dJ_Long_bitCount_18 ?_
  refine p_land G dJ_Long_bitCount_21 ?_
  refine p_ladd G dJ_Long_bitCount_22 ?_
  refine p_lstore_n (lv' := fun v2 => [(0, .long v2)]) G rfl dJ_Long_bitCount_23 h (by decide) (fun _ => rfl) (fun v2 h => ?_)
  refine p_lload_n G rfl 0 rfl dJ_Long_bitCount_24 ?_
  refine p_lload_n G rfl 0 rfl dJ_Long_bitCount_25 ?_
  refine p_iconst G rfl dJ_Long_bitCount_26 ?_
  refine p_lushr G dJ_Long_bitCount_27 ?_
  refine p_ladd G dJ_Long_bitCount_28 ?_
  refine p_ldc2 G gm_605 dJ_Long_bitCount_29 ?_
  refine p_land G dJ_Long_bitCount_32 ?_
  refine p_lstore_n (lv' := fun v3 => [(0, .long v3)]) G rfl dJ_Long_bitCount_33 h (by decide) (fun _ => rfl) (fun v3 h => ?_)
  refine p_lload_n G rfl 0 rfl dJ_Long_bitCount_34 ?_
  refine p_lload_n G rfl 0 rfl dJ_Long_bitCount_35 ?_
  refine p_bipush G (by decide) (by decide) dJ_Long_bitCount_36 ?_
  refine p_lushr G dJ_Long_bitCount_38 ?_
  refine p_ladd G dJ_Long_bitCount_39 ?_
  refine p_lstore_n (lv' := fun v4 => [(0, .long v4)]) G rfl dJ_Long_bitCount_40 h (by decide) (fun _ => rfl) (fun v4 h => ?_)
  refine p_lload_n G rfl 0 rfl dJ_Long_bitCount_41 ?_
  refine p_lload_n G rfl 0 rfl dJ_Long_bitCount_42 ?_
  refine p_bipush G (by decide) (by decide) dJ_Long_bitCount_43 ?_
  refine p_lushr G dJ_Long_bitCount_45 ?_
  refine p_ladd G dJ_Long_bitCount_46 ?_
  refine p_lstore_n (lv' := fun v5 => [(0, .long v5)]) G rfl dJ_Long_bitCount_47 h (by decide) (fun _ => rfl) (fun v5 h => ?_)
  refine p_lload_n G rfl 0 rfl dJ_Long_bitCount_48 ?_
  refine p_lload_n G rfl 0 rfl dJ_Long_bitCount_49 ?_
  refine p_bipush G (by decide) (by decide) dJ_Long_bitCount_50 ?_
  refine p_lushr G dJ_Long_bitCount_52 ?_
  refine p_ladd G dJ_Long_bitCount_53 ?_
  refine p_lstore_n (lv' := fun v6 => [(0, .long v6)]) G rfl dJ_Long_bitCount_54 h (by decide) (fun _ => rfl) (fun v6 h => ?_)
  refine p_lload_n G rfl 0 rfl dJ_Long_bitCount_55 ?_
  refine p_l2i G dJ_Long_bitCount_56 ?_
  refine p_bipush G (by decide) (by decide) dJ_Long_bitCount_57 ?_
  refine p_iand G dJ_Long_bitCount_59 ?_
  (cases h; exact p_iret G hR dJ_Long_bitCount_60 rfl rfl)
set_option maxHeartbeats 4000000 in
set_option maxRecDepth 100000 in
theorem c_X1_addMeld (l : Launch) {D : va_G} {yy : Nat → ClassId} {tk tv a : Nat → Nat} {σ : Mm} {p1 : Int64} {p3 : Int} {o : Mm} (h : x_X1_addMeld σ p1 p3 = some o) : CT l yX1_addMeld cX1_addMeld 4 none rm_X1_addMeld shL D yy tk tv a σ [.ref (a 0), .long p1, .int (zJ p3)] o none := by
  refine ct_of (Ar := fun a tk => [.ref (a 0), .long p1, .int (zJ p3)]) (by decide) (Nat.le_of_ble_eq_true rfl) (fun Γ G _ _ hR => ?_)
  have hcs := rt_cs hR
  unfold x_X1_addMeld at h
  refine (?_ : PT Γ 4 shL 0 σ [(0, .ref (ga Γ 0)), (1, .long p1), (3, .int (zJ p3))] [])
  refine p_aload_n G rfl 0 rfl dX1_addMeld_0 ?_
  refine p_get G dX1_addMeld_1 fl_X1_35 (k := 0) rfl rfl ?_
  refine p_bipush G (by decide) (by decide) dX1_addMeld_4 ?_
  refine p_icmpge (tgt := 39) G dX1_addMeld_6 (by decide) h (fun c6 h => ?_) (fun c6 h => ?_)
  · (cases h; exact p_vret G hR dX1_addMeld_39 rfl rfl)
  · refine p_aload_n G rfl 0 rfl dX1_addMeld_9 ?_
    refine p_get G dX1_addMeld_10 fl_X1_11 (k := 0) rfl rfl ?_
    refine p_aload_n G rfl 0 rfl dX1_addMeld_13 ?_
    refine p_get G dX1_addMeld_14 fl_X1_35 (k := 0) rfl rfl ?_
    refine p_lload_n G rfl 1 rfl dX1_addMeld_17 ?_
    refine p_last G dX1_addMeld_18 (k := 1) rfl (zt_c _) rfl h (fun σ1 c2 h => ?_)
    refine p_aload_n G rfl 0 rfl dX1_addMeld_19 ?_
    refine p_get G dX1_addMeld_20 fl_X1_15 (k := 0) rfl rfl ?_
    refine p_aload_n G rfl 0 rfl dX1_addMeld_23 ?_
    refine p_get G dX1_addMeld_24 fl_X1_35 (k := 0) rfl rfl ?_
    refine p_iload_n G rfl 2 rfl dX1_addMeld_27 ?_
    refine p_iast G dX1_addMeld_28 (k := 2) rfl (zt_c _) rfl h (fun σ3 c4 h => ?_)
    refine p_aload_n G rfl 0 rfl dX1_addMeld_29 ?_
    refine p_dup G rfl dX1_addMeld_30 ?_
    refine p_get G dX1_addMeld_31 fl_X1_35 (k := 0) rfl rfl ?_
    refine p_iconst G rfl dX1_addMeld_34 ?_
    refine p_iadd G dX1_addMeld_35 ?_
    refine p_putI G dX1_addMeld_36 fp_X1_35 (k := 0) rfl rfl rfl rfl h (fun σ5 h => ?_)
    (cases h; exact p_vret G hR dX1_addMeld_39 rfl rfl)
set_option maxHeartbeats 4000000 in
set_option maxRecDepth 100000 in
theorem c_X1_collectSets (l : Launch) {D : va_G} {yy : Nat → ClassId} {tk tv a : Nat → Nat} {σ : Mm} {p1 : Int64} {o : Mm} (h : x_X1_collectSets σ p1 = some o) : CT l yX1_collectSets cX1_collectSets 5 none rm_X1_collectSets shL D yy tk tv a σ [.ref (a 0), .long p1] o none := by
  refine ct_of (Ar := fun a tk => [.ref (a 0), .long p1]) (by decide) (Nat.le_of_ble_eq_true rfl) (fun Γ G _ _ hR => ?_)
  have hcs := rt_cs hR
  unfold x_X1_collectSets at h
  refine (?_ : PT Γ 5 shL 0 σ [(0, .ref (ga Γ 0)), (1, .long p1)] [])
  refine p_lload_n G rfl 1 rfl dX1_collectSets_0 ?_
  obtain ⟨v1, hc, h⟩ := bnd_some h
  refine p_callS0 G dX1_collectSets_1 lk_X1_97 (c_J_Long_bitCount (gl Γ) hc) (As := [.long p1]) rfl zk_2 rfl (Nat.le_of_ble_eq_true rfl) ⟨rfl, rfl, Nat.le_of_ble_eq_true rfl, Nat.le_of_ble_eq_true rfl⟩ hcs ?_
  refine p_istore_nU (lv' := [(3, .int (zJ v1)), (0, .ref (ga Γ 0)), (1, .long p1)]) G rfl dX1_collectSets_4 (by decide) rfl ?_
  refine p_iload_n G rfl 0 rfl dX1_collectSets_5 ?_
  refine p_iconst G rfl dX1_collectSets_6 ?_
  refine p_icmpge (tgt := 11) G dX1_collectSets_7 (by decide) h (fun c10 h => ?_) (fun c10 h => ?_)
  · refine p_aload_n G rfl 1 rfl dX1_collectSets_11 ?_
    refine p_lload_n G rfl 2 rfl dX1_collectSets_12 ?_
    refine p_iconst G rfl dX1_collectSets_13 ?_
    obtain ⟨σ2, hc, h⟩ := bnd_some h
    refine p_callVi G dX1_collectSets_14 lk_X1_102 (c_X1_addMeld (gl Γ) hc) (As := [.long p1, .int (zJ (1 : Int))]) (ci := 1) rfl rfl rfl rfl (Nat.le_of_ble_eq_true rfl) ⟨rfl, rfl, Nat.le_of_ble_eq_true rfl, Nat.le_of_ble_eq_true rfl⟩ hcs ?_
    refine p_iconst G rfl dX1_collectSets_17 ?_
    refine p_istoreU (lv' := [(4, .int (zJ (0 : Int))), (3, .int (zJ v1)), (0, .ref (ga Γ 0)), (1, .long p1)]) G dX1_collectSets_18 (by decide) rfl ?_
    refine p_lv [2, 3, 1, 0] rfl ?_
    obtain ⟨e8, hl20, h⟩ := bnd_some h
    have hX20_57 : ∀ (σ9 : Mm), σ9 = e8 → PT Γ 5 shL 57 σ9 [] [] := by
      intro σ9 he
      subst he
      (cases h; exact p_vret G hR dX1_collectSets_57 rfl rfl)
    refine lup_walk (s := (σ2, (0 : Int))) (At := fun s : Mm × Int => PT Γ 5 shL 20 s.1 [(0, .ref (ga Γ 0)), (1, .long p1), (3, .int (zJ v1)), (4, .int (zJ s.2))] []) (fun s r hf hin20 hout20 => ?_) hl20
    obtain ⟨σ20, u4_20⟩ := s
    have h : x_X1_collectSets_b20 p1 v1 σ20 u4_20 = some r := hf
    clear hf
    unfold x_X1_collectSets_b20 at h
    refine (?_ : PT Γ 5 shL 20 σ20 [(0, .ref (ga Γ 0)), (1, .long p1), (3, .int (zJ v1)), (4, .int (zJ u4_20))] [])
    refine p_iload G 3 rfl dX1_collectSets_20 ?_
    refine p_iconst G rfl dX1_collectSets_22 ?_
    refine p_icmpge (tgt := 57) G dX1_collectSets_23 (by decide) h (fun c6 h => ?_) (fun c6 h => ?_)
    · refine p_lv [] rfl ?_
      have he := hout20 _ (Option.some.inj h).symm
      subst he
      exact hX20_57 _ rfl
    · refine p_iload_n G rfl 2 rfl dX1_collectSets_26 ?_
      refine p_iconst G rfl dX1_collectSets_27 ?_
      refine p_icmpne (tgt := 57) G dX1_collectSets_28 (by decide) h (fun c5 h => ?_) (fun c5 h => ?_)
      · refine p_lv [] rfl ?_
        have he := hout20 _ (Option.some.inj h).symm
        subst he
        exact hX20_57 _ rfl
      · refine p_aload_n G rfl 0 rfl dX1_collectSets_31 ?_
        refine p_lload_n G rfl 1 rfl dX1_collectSets_32 ?_
        refine p_ldc2 G gm_610 dX1_collectSets_33 ?_
        refine p_iload G 3 rfl dX1_collectSets_36 ?_
        refine p_bipush G (by decide) (by decide) dX1_collectSets_38 ?_
        refine p_imul G dX1_collectSets_40 ?_
        refine p_lshl G dX1_collectSets_41 ?_
        refine p_ldc2 G gm_611 dX1_collectSets_42 ?_
        refine p_lxor G dX1_collectSets_45 ?_
        refine p_land G dX1_collectSets_46 ?_
        refine p_iconst G rfl dX1_collectSets_47 ?_
        obtain ⟨σ3, hc, h⟩ := bnd_some h
        refine p_callVi G dX1_collectSets_48 lk_X1_102 (c_X1_addMeld (gl Γ) hc) (As := [.long (p1 &&& ((zlshl (8191 : Int64) (u4_20 * (13 : Int))) ^^^ (-1 : Int64))), .int (zJ (1 : Int))]) (ci := 1) rfl rfl rfl rfl (Nat.le_of_ble_eq_true rfl) ⟨rfl, rfl, Nat.le_of_ble_eq_true rfl, Nat.le_of_ble_eq_true rfl⟩ hcs ?_
        refine p_iinc (lv' := fun v4 => [(4, .int (zJ v4)), (0, .ref (ga Γ 0)), (1, .long p1), (3, .int (zJ v1))]) G dX1_collectSets_51 h 3 rfl (by decide) (fun _ => rfl) (fun v4 h => ?_)
        refine p_goto (tgt := 20) G dX1_collectSets_54 (by decide) ?_
        refine p_lv [1, 2, 3, 0] rfl ?_
        exact hin20 _ (Option.some.inj h).symm
  · (cases h; exact p_vret G hR dX1_collectSets_10 rfl rfl)
set_option maxHeartbeats 4000000 in
set_option maxRecDepth 100000 in
theorem c_X1_collectRuns (l : Launch) {D : va_G} {yy : Nat → ClassId} {tk tv a : Nat → Nat} {σ : Mm} {p1 : Int64} {p3 : Int} {o : Mm} (h : x_X1_collectRuns σ p1 p3 = some o) : CT l yX1_collectRuns cX1_collectRuns 11 none rm_X1_collectRuns shL D yy tk tv a σ [.ref (a 0), .long p1, .int (zJ p3)] o none := by
  refine ct_of (Ar := fun a tk => [.ref (a 0), .long p1, .int (zJ p3)]) (by decide) (Nat.le_of_ble_eq_true rfl) (fun Γ G _ _ hR => ?_)
  have hcs := rt_cs hR
  unfold x_X1_collectRuns at h
  refine (?_ : PT Γ 11 shL 0 σ [(0, .ref (ga Γ 0)), (1, .long p1), (3, .int (zJ p3))] [])
  refine p_lload_n G rfl 1 rfl dX1_collectRuns_0 ?_
  obtain ⟨v1, hc, h⟩ := bnd_some h
  refine p_callS0 G dX1_collectRuns_1 lk_X1_97 (c_J_Long_bitCount (gl Γ) hc) (As := [.long p1]) rfl zk_2 rfl (Nat.le_of_ble_eq_true rfl) ⟨rfl, rfl, Nat.le_of_ble_eq_true rfl, Nat.le_of_ble_eq_true rfl⟩ hcs ?_
  refine p_iconst G rfl dX1_collectRuns_4 ?_
  refine p_icmpge (tgt := 9) G dX1_collectRuns_5 (by decide) h (fun c21 h => ?_) (fun c21 h => ?_)
  · refine p_iconst G rfl dX1_collectRuns_9 ?_
    refine p_istoreU (lv' := [(4, .int (zJ (0 : Int))), (0, .ref (ga Γ 0)), (1, .long p1), (3, .int (zJ p3))]) G dX1_collectRuns_10 (by decide) rfl ?_
    refine p_lv [1, 2, 3, 0] rfl ?_
    obtain ⟨e19, hl12, h⟩ := bnd_some h
    have hX12_106 : ∀ (σ20 : Mm), σ20 = e19 → PT Γ 11 shL 106 σ20 [] [] := by
      intro σ20 he
      subst he
      (cases h; exact p_vret G hR dX1_collectRuns_106 rfl rfl)
    refine lup_walk (s := (σ, (0 : Int))) (At := fun s : Mm × Int => PT Γ 11 shL 12 s.1 [(0, .ref (ga Γ 0)), (1, .long p1), (3, .int (zJ p3)), (4, .int (zJ s.2))] []) (fun s r hf hin12 hout12 => ?_) hl12
    obtain ⟨σ12, u4_12⟩ := s
    have h : x_X1_collectRuns_b12 p1 p3 σ12 u4_12 = some r := hf
    clear hf
    have j34 : ∀ (σ_34 : Mm) (v4_34 : Int) (v5_34 : Int64) (w0_34 : Int), x_X1_collectRuns_j34_12 p1 p3 σ_34 v4_34 v5_34 w0_34 = some r → PT Γ 11 shL 34 σ_34 [(0, .ref (ga Γ 0)), (1, .long p1), (3, .int (zJ p3)), (4, .int (zJ v4_34)), (5, .long v5_34)] [.int (zJ w0_34)] := by
      intro σ_34 v4_34 v5_34 w0_34 h
      unfold x_X1_collectRuns_j34_12 at h
      refine p_istoreU (lv' := [(7, .int (zJ w0_34)), (0, .ref (ga Γ 0)), (1, .long p1), (3, .int (zJ p3)), (4, .int (zJ v4_34)), (5, .long v5_34)]) G dX1_collectRuns_34 (by decide) rfl ?_
      refine p_iconst G rfl dX1_collectRuns_36 ?_
      refine p_istoreU (lv' := [(8, .int (zJ (1 : Int))), (7, .int (zJ w0_34)), (0, .ref (ga Γ 0)), (1, .long p1), (3, .int (zJ p3)), (4, .int (zJ v4_34)), (5, .long v5_34)]) G dX1_collectRuns_37 (by decide) rfl ?_
      refine p_lv [2, 3, 4, 5, 6, 1, 0] rfl ?_
      obtain ⟨e11, hl39, h⟩ := bnd_some h
      have hX39_69 : ∀ (σ12 : Mm), (.inl σ12) = e11 → PT Γ 11 shL 69 σ12 [(0, .ref (ga Γ 0)), (1, .long p1), (3, .int (zJ p3)), (4, .int (zJ v4_34))] [] := by
        intro σ12 he
        subst he
        rw [zel_l] at h
        refine p_goto (tgt := 100) G dX1_collectRuns_69 (by decide) ?_
        refine p_iinc (lv' := fun v13 => [(4, .int (zJ v13)), (0, .ref (ga Γ 0)), (1, .long p1), (3, .int (zJ p3))]) G dX1_collectRuns_100 h 3 rfl (by decide) (fun _ => rfl) (fun v13 h => ?_)
        refine p_goto (tgt := 12) G dX1_collectRuns_103 (by decide) ?_
        refine p_lv [1, 2, 3, 0] rfl ?_
        exact hin12 _ (Option.some.inj h).symm
      have hX39_100 : ∀ (σ14 : Mm), (.inr σ14) = e11 → PT Γ 11 shL 100 σ14 [(0, .ref (ga Γ 0)), (1, .long p1), (3, .int (zJ p3)), (4, .int (zJ v4_34))] [] := by
        intro σ14 he
        subst he
        rw [zel_r] at h
        refine p_iinc (lv' := fun v15 => [(4, .int (zJ v15)), (0, .ref (ga Γ 0)), (1, .long p1), (3, .int (zJ p3))]) G dX1_collectRuns_100 h 3 rfl (by decide) (fun _ => rfl) (fun v15 h => ?_)
        refine p_goto (tgt := 12) G dX1_collectRuns_103 (by decide) ?_
        refine p_lv [1, 2, 3, 0] rfl ?_
        exact hin12 _ (Option.some.inj h).symm
      refine lup_walk (s := (σ_34, v5_34, (1 : Int))) (At := fun s : Mm × Int64 × Int => PT Γ 11 shL 39 s.1 [(0, .ref (ga Γ 0)), (1, .long p1), (3, .int (zJ p3)), (4, .int (zJ v4_34)), (5, .long s.2.1), (7, .int (zJ w0_34)), (8, .int (zJ s.2.2))] []) (fun s r hf hin39 hout39 => ?_) hl39
      obtain ⟨σ39, u5_39, u8_39⟩ := s
      have h : x_X1_collectRuns_b39 p1 p3 v4_34 w0_34 σ39 u5_39 u8_39 = some r := hf
      clear hf
      unfold x_X1_collectRuns_b39 at h
      refine (?_ : PT Γ 11 shL 39 σ39 [(0, .ref (ga Γ 0)), (1, .long p1), (3, .int (zJ p3)), (4, .int (zJ v4_34)), (5, .long u5_39), (7, .int (zJ w0_34)), (8, .int (zJ u8_39))] [])
      refine p_iload G 6 rfl dX1_collectRuns_39 ?_
      refine p_iload G 5 rfl dX1_collectRuns_41 ?_
      refine p_icmpgt (tgt := 100) G dX1_collectRuns_43 (by decide) h (fun c9 h => ?_) (fun c9 h => ?_)
      · refine p_lv [0, 1, 2, 3] rfl ?_
        have he := hout39 _ (Option.some.inj h).symm
        subst he
        exact hX39_100 _ rfl
      · refine p_lconst G (v := 1) (by decide) dX1_collectRuns_46 ?_
        refine p_iload G 3 rfl dX1_collectRuns_47 ?_
        refine p_iload G 6 rfl dX1_collectRuns_49 ?_
        refine p_iadd G dX1_collectRuns_51 ?_
        refine p_iconst G rfl dX1_collectRuns_52 ?_
        refine p_isub G dX1_collectRuns_53 ?_
        refine p_bipush G (by decide) (by decide) dX1_collectRuns_54 ?_
        refine p_iremK G dX1_collectRuns_56 (by decide) ?_
        refine p_lshl G dX1_collectRuns_57 ?_
        refine p_lstore (lv' := fun v2 => [(9, .long v2), (0, .ref (ga Γ 0)), (1, .long p1), (3, .int (zJ p3)), (4, .int (zJ v4_34)), (5, .long u5_39), (7, .int (zJ w0_34)), (8, .int (zJ u8_39))]) G dX1_collectRuns_58 h (by decide) (fun _ => rfl) (fun v2 h => ?_)
        refine p_lload_n G rfl 2 rfl dX1_collectRuns_60 ?_
        refine p_lload G 0 rfl dX1_collectRuns_61 ?_
        refine p_land G dX1_collectRuns_63 ?_
        refine p_lconst G (v := 0) (by decide) dX1_collectRuns_64 ?_
        refine p_lcmp G dX1_collectRuns_65 ?_
        refine p_ifne (tgt := 72) G dX1_collectRuns_66 (by decide) h (fun c8 h => ?_) (fun c8 h => ?_)
        · refine p_lload G 5 rfl dX1_collectRuns_72 ?_
          refine p_lload G 0 rfl dX1_collectRuns_74 ?_
          refine p_lor G dX1_collectRuns_76 ?_
          refine p_lstore (lv' := fun v3 => [(5, .long v3), (9, .long v2), (0, .ref (ga Γ 0)), (1, .long p1), (3, .int (zJ p3)), (4, .int (zJ v4_34)), (7, .int (zJ w0_34)), (8, .int (zJ u8_39))]) G dX1_collectRuns_77 h (by decide) (fun _ => rfl) (fun v3 h => ?_)
          refine p_iload G 7 rfl dX1_collectRuns_79 ?_
          refine p_iconst G rfl dX1_collectRuns_81 ?_
          refine p_icmplt (tgt := 94) G dX1_collectRuns_82 (by decide) h (fun c7 h => ?_) (fun c7 h => ?_)
          · refine p_iinc (lv' := fun v4 => [(8, .int (zJ v4)), (5, .long v3), (9, .long v2), (0, .ref (ga Γ 0)), (1, .long p1), (3, .int (zJ p3)), (4, .int (zJ v4_34)), (7, .int (zJ w0_34))]) G dX1_collectRuns_94 h 7 rfl (by decide) (fun _ => rfl) (fun v4 h => ?_)
            refine p_goto (tgt := 39) G dX1_collectRuns_97 (by decide) ?_
            refine p_lv [3, 4, 5, 6, 1, 7, 0] rfl ?_
            exact hin39 _ (Option.some.inj h).symm
          · refine p_aload_n G rfl 2 rfl dX1_collectRuns_85 ?_
            refine p_lload G 0 rfl dX1_collectRuns_86 ?_
            refine p_iload_n G rfl 4 rfl dX1_collectRuns_88 ?_
            refine p_lshl G dX1_collectRuns_89 ?_
            refine p_iconst G rfl dX1_collectRuns_90 ?_
            obtain ⟨σ5, hc, h⟩ := bnd_some h
            refine p_callVi G dX1_collectRuns_91 lk_X1_102 (c_X1_addMeld (gl Γ) hc) (As := [.long (zlshl v3 p3), .int (zJ (2 : Int))]) (ci := 1) rfl rfl rfl rfl (Nat.le_of_ble_eq_true rfl) ⟨rfl, rfl, Nat.le_of_ble_eq_true rfl, Nat.le_of_ble_eq_true rfl⟩ hcs ?_
            refine p_iinc (lv' := fun v6 => [(8, .int (zJ v6)), (5, .long v3), (9, .long v2), (0, .ref (ga Γ 0)), (1, .long p1), (3, .int (zJ p3)), (4, .int (zJ v4_34)), (7, .int (zJ w0_34))]) G dX1_collectRuns_94 h 7 rfl (by decide) (fun _ => rfl) (fun v6 h => ?_)
            refine p_goto (tgt := 39) G dX1_collectRuns_97 (by decide) ?_
            refine p_lv [3, 4, 5, 6, 1, 7, 0] rfl ?_
            exact hin39 _ (Option.some.inj h).symm
        · refine p_lv [1, 2, 3, 4] rfl ?_
          have he := hout39 _ (Option.some.inj h).symm
          subst he
          exact hX39_69 _ rfl
    unfold x_X1_collectRuns_b12 at h
    refine (?_ : PT Γ 11 shL 12 σ12 [(0, .ref (ga Γ 0)), (1, .long p1), (3, .int (zJ p3)), (4, .int (zJ u4_12))] [])
    refine p_iload G 3 rfl dX1_collectRuns_12 ?_
    refine p_bipush G (by decide) (by decide) dX1_collectRuns_14 ?_
    refine p_icmpge (tgt := 106) G dX1_collectRuns_16 (by decide) h (fun c17 h => ?_) (fun c17 h => ?_)
    · refine p_lv [] rfl ?_
      have he := hout12 _ (Option.some.inj h).symm
      subst he
      exact hX12_106 _ rfl
    · refine p_lconst G (v := 0) (by decide) dX1_collectRuns_19 ?_
      refine p_lstoreU (lv' := [(5, .long (0 : Int64)), (0, .ref (ga Γ 0)), (1, .long p1), (3, .int (zJ p3)), (4, .int (zJ u4_12))]) G dX1_collectRuns_20 (by decide) rfl ?_
      refine p_iload G 4 rfl dX1_collectRuns_22 ?_
      refine p_ifne (tgt := 32) G dX1_collectRuns_24 (by decide) h (fun c16 h => ?_) (fun c16 h => ?_)
      · refine p_bipush G (by decide) (by decide) dX1_collectRuns_32 ?_
        refine p_lv [1, 2, 3, 4, 0] rfl ?_
        exact j34 _ _ _ _ h
      · refine p_bipush G (by decide) (by decide) dX1_collectRuns_27 ?_
        refine p_goto (tgt := 34) G dX1_collectRuns_29 (by decide) ?_
        refine p_lv [1, 2, 3, 4, 0] rfl ?_
        exact j34 _ _ _ _ h
  · (cases h; exact p_vret G hR dX1_collectRuns_8 rfl rfl)
set_option maxHeartbeats 4000000 in
set_option maxRecDepth 100000 in
theorem c_X1_collect (l : Launch) {D : va_G} {yy : Nat → ClassId} {tk tv a : Nat → Nat} {σ : Mm} {p1 : Int64} {o : Mm} (h : x_X1_collect σ p1 = some o) : CT l yX1_collect cX1_collect 4 none rm_X1_collect shL D yy tk tv a σ [.ref (a 0), .long p1] o none := by
  refine ct_of (Ar := fun a tk => [.ref (a 0), .long p1]) (by decide) (Nat.le_of_ble_eq_true rfl) (fun Γ G _ _ hR => ?_)
  have hcs := rt_cs hR
  unfold x_X1_collect at h
  refine (?_ : PT Γ 4 shL 0 σ [(0, .ref (ga Γ 0)), (1, .long p1)] [])
  refine p_aload_n G rfl 0 rfl dX1_collect_0 ?_
  refine p_iconst G rfl dX1_collect_1 ?_
  refine p_putI G dX1_collect_2 fp_X1_35 (k := 0) rfl rfl rfl rfl h (fun σ1 h => ?_)
  refine p_iconst G rfl dX1_collect_5 ?_
  refine p_istore_nU (lv' := [(3, .int (zJ (0 : Int))), (0, .ref (ga Γ 0)), (1, .long p1)]) G rfl dX1_collect_6 (by decide) rfl ?_
  refine p_lv [1, 2, 0] rfl ?_
  obtain ⟨e6, hl7, h⟩ := bnd_some h
  have hX7_30 : ∀ (σ7 : Mm), σ7 = e6 → PT Γ 4 shL 30 σ7 [(0, .ref (ga Γ 0)), (1, .long p1)] [] := by
    intro σ7 he
    subst he
    refine p_iconst G rfl dX1_collect_30 ?_
    refine p_istore_nU (lv' := [(3, .int (zJ (0 : Int))), (0, .ref (ga Γ 0)), (1, .long p1)]) G rfl dX1_collect_31 (by decide) rfl ?_
    refine p_lv [1, 2, 0] rfl ?_
    obtain ⟨e12, hl32, h⟩ := bnd_some h
    have hX32_61 : ∀ (σ13 : Mm), σ13 = e12 → PT Γ 4 shL 61 σ13 [] [] := by
      intro σ13 he
      subst he
      (cases h; exact p_vret G hR dX1_collect_61 rfl rfl)
    refine lup_walk (s := (σ7, (0 : Int))) (At := fun s : Mm × Int => PT Γ 4 shL 32 s.1 [(0, .ref (ga Γ 0)), (1, .long p1), (3, .int (zJ s.2))] []) (fun s r hf hin32 hout32 => ?_) hl32
    obtain ⟨σ32, u3_32⟩ := s
    have h : x_X1_collect_b32 p1 σ32 u3_32 = some r := hf
    clear hf
    unfold x_X1_collect_b32 at h
    refine (?_ : PT Γ 4 shL 32 σ32 [(0, .ref (ga Γ 0)), (1, .long p1), (3, .int (zJ u3_32))] [])
    refine p_iload_n G rfl 2 rfl dX1_collect_32 ?_
    refine p_iconst G rfl dX1_collect_33 ?_
    refine p_icmpge (tgt := 61) G dX1_collect_34 (by decide) h (fun c10 h => ?_) (fun c10 h => ?_)
    · refine p_lv [] rfl ?_
      have he := hout32 _ (Option.some.inj h).symm
      subst he
      exact hX32_61 _ rfl
    · refine p_aload_n G rfl 0 rfl dX1_collect_37 ?_
      refine p_lload_n G rfl 1 rfl dX1_collect_38 ?_
      refine p_iload_n G rfl 2 rfl dX1_collect_39 ?_
      refine p_bipush G (by decide) (by decide) dX1_collect_40 ?_
      refine p_imul G dX1_collect_42 ?_
      refine p_lushr G dX1_collect_43 ?_
      refine p_ldc2 G gm_610 dX1_collect_44 ?_
      refine p_land G dX1_collect_47 ?_
      refine p_iload_n G rfl 2 rfl dX1_collect_48 ?_
      refine p_bipush G (by decide) (by decide) dX1_collect_49 ?_
      refine p_imul G dX1_collect_51 ?_
      obtain ⟨σ8, hc, h⟩ := bnd_some h
      refine p_callVi G dX1_collect_52 lk_X1_93 (c_X1_collectRuns (gl Γ) hc) (As := [.long ((zlushr p1 (u3_32 * (13 : Int))) &&& (8191 : Int64)), .int (zJ (u3_32 * (13 : Int)))]) (ci := 1) rfl rfl rfl rfl (Nat.le_of_ble_eq_true rfl) ⟨rfl, rfl, Nat.le_of_ble_eq_true rfl, Nat.le_of_ble_eq_true rfl⟩ hcs ?_
      refine p_iinc (lv' := fun v9 => [(3, .int (zJ v9)), (0, .ref (ga Γ 0)), (1, .long p1)]) G dX1_collect_55 h 2 rfl (by decide) (fun _ => rfl) (fun v9 h => ?_)
      refine p_goto (tgt := 32) G dX1_collect_58 (by decide) ?_
      refine p_lv [1, 2, 0] rfl ?_
      exact hin32 _ (Option.some.inj h).symm
  refine lup_walk (s := (σ1, (0 : Int))) (At := fun s : Mm × Int => PT Γ 4 shL 7 s.1 [(0, .ref (ga Γ 0)), (1, .long p1), (3, .int (zJ s.2))] []) (fun s r hf hin7 hout7 => ?_) hl7
  obtain ⟨σ7, u3_7⟩ := s
  have h : x_X1_collect_b7 p1 σ7 u3_7 = some r := hf
  clear hf
  unfold x_X1_collect_b7 at h
  refine (?_ : PT Γ 4 shL 7 σ7 [(0, .ref (ga Γ 0)), (1, .long p1), (3, .int (zJ u3_7))] [])
  refine p_iload_n G rfl 2 rfl dX1_collect_7 ?_
  refine p_bipush G (by decide) (by decide) dX1_collect_8 ?_
  refine p_icmpge (tgt := 30) G dX1_collect_10 (by decide) h (fun c4 h => ?_) (fun c4 h => ?_)
  · refine p_lv [0, 1] rfl ?_
    have he := hout7 _ (Option.some.inj h).symm
    subst he
    exact hX7_30 _ rfl
  · refine p_aload_n G rfl 0 rfl dX1_collect_13 ?_
    refine p_lload_n G rfl 1 rfl dX1_collect_14 ?_
    refine p_ldc2 G gm_595 dX1_collect_15 ?_
    refine p_iload_n G rfl 2 rfl dX1_collect_18 ?_
    refine p_lshl G dX1_collect_19 ?_
    refine p_land G dX1_collect_20 ?_
    obtain ⟨σ2, hc, h⟩ := bnd_some h
    refine p_callVi G dX1_collect_21 lk_X1_88 (c_X1_collectSets (gl Γ) hc) (As := [.long (p1 &&& (zlshl (549822930945 : Int64) u3_7))]) (ci := 1) rfl rfl rfl rfl (Nat.le_of_ble_eq_true rfl) ⟨rfl, rfl, Nat.le_of_ble_eq_true rfl, Nat.le_of_ble_eq_true rfl⟩ hcs ?_
    refine p_iinc (lv' := fun v3 => [(3, .int (zJ v3)), (0, .ref (ga Γ 0)), (1, .long p1)]) G dX1_collect_24 h 2 rfl (by decide) (fun _ => rfl) (fun v3 h => ?_)
    refine p_goto (tgt := 7) G dX1_collect_27 (by decide) ?_
    refine p_lv [1, 2, 0] rfl ?_
    exact hin7 _ (Option.some.inj h).symm
set_option maxHeartbeats 4000000 in
set_option maxRecDepth 100000 in
theorem c_X6_lowestOf (l : Launch) {D : va_G} {yy : Nat → ClassId} {tk tv a : Nat → Nat} {σ : Mm} {p0 : Int64} {o : Int} (h : x_X6_lowestOf p0 = some o) : CT l yX6_lowestOf cX6_lowestOf 2 (some .int) rm_X6_lowestOf shN D yy tk tv a σ [.long p0] σ (some (.int (zJ o))) := by
  refine ct_of (Ar := fun a tk => [.long p0]) (by decide) (Nat.le_of_ble_eq_true rfl) (fun Γ G _ _ hR => ?_)
  have hcs := rt_cs hR
  unfold x_X6_lowestOf at h
  refine (?_ : PT Γ 2 shN 0 σ [(0, .long p0)] [])
  refine p_lload_n G rfl 0 rfl dX6_lowestOf_0 ?_
  refine p_lload_n G rfl 0 rfl dX6_lowestOf_1 ?_
  refine p_lneg G dX6_lowestOf_2 ?_
  refine p_land G dX6_lowestOf_3 ?_
  refine p_lconst G (v := 1) (by decide) dX6_lowestOf_4 ?_
  refine p_lsub G dX6_lowestOf_5 ?_
  obtain ⟨v1, hc, h⟩ := bnd_some h
  refine p_callS0 G dX6_lowestOf_6 lk_X6_226 (c_J_Long_bitCount (gl Γ) hc) (As := [.long ((p0 &&& (-p0)) - (1 : Int64))]) rfl zk_1 rfl (Nat.le_of_ble_eq_true rfl) ⟨rfl, rfl, Nat.le_of_ble_eq_true rfl, Nat.le_of_ble_eq_true rfl⟩ hcs ?_
  (cases h; exact p_iret G hR dX6_lowestOf_9 rfl rfl)
set_option maxHeartbeats 4000000 in
set_option maxRecDepth 100000 in
theorem c_X1_keyOf (l : Launch) {D : va_G} {yy : Nat → ClassId} {tk tv a : Nat → Nat} {σ : Mm} {p0 : Int64} {p2 : Int} {o : Int} (h : x_X1_keyOf p0 p2 = some o) : CT l yX1_keyOf cX1_keyOf 3 (some .int) rm_X1_keyOf shN D yy tk tv a σ [.long p0, .int (zJ p2)] σ (some (.int (zJ o))) := by
  refine ct_of (Ar := fun a tk => [.long p0, .int (zJ p2)]) (by decide) (Nat.le_of_ble_eq_true rfl) (fun Γ G _ _ hR => ?_)
  have hcs := rt_cs hR
  unfold x_X1_keyOf at h
  refine (?_ : PT Γ 3 shN 0 σ [(0, .long p0), (2, .int (zJ p2))] [])
  refine p_lload_n G rfl 0 rfl dX1_keyOf_0 ?_
  obtain ⟨v1, hc, h⟩ := bnd_some h
  refine p_callS0 G dX1_keyOf_1 lk_X1_105 (c_X6_lowestOf (gl Γ) hc) (As := [.long p0]) rfl zk_1 rfl (Nat.le_of_ble_eq_true rfl) ⟨rfl, rfl, Nat.le_of_ble_eq_true rfl, Nat.le_of_ble_eq_true rfl⟩ hcs ?_
  refine p_bipush G (by decide) (by decide) dX1_keyOf_4 ?_
  refine p_imul G dX1_keyOf_6 ?_
  refine p_lload_n G rfl 0 rfl dX1_keyOf_7 ?_
  obtain ⟨v2, hc, h⟩ := bnd_some h
  refine p_callS0 G dX1_keyOf_8 lk_X1_97 (c_J_Long_bitCount (gl Γ) hc) (As := [.long p0]) rfl zk_1 rfl (Nat.le_of_ble_eq_true rfl) ⟨rfl, rfl, Nat.le_of_ble_eq_true rfl, Nat.le_of_ble_eq_true rfl⟩ hcs ?_
  refine p_iadd G dX1_keyOf_11 ?_
  refine p_iconst G rfl dX1_keyOf_12 ?_
  refine p_imul G dX1_keyOf_13 ?_
  refine p_iload_n G rfl 1 rfl dX1_keyOf_14 ?_
  refine p_iadd G dX1_keyOf_15 ?_
  (cases h; exact p_iret G hR dX1_keyOf_16 rfl rfl)
set_option maxHeartbeats 4000000 in
set_option maxRecDepth 100000 in
theorem c_X6_pointsFor (l : Launch) {D : va_G} {yy : Nat → ClassId} {tk tv a : Nat → Nat} {σ : Mm} {p0 : Int} {o : Int} (h : x_X6_pointsFor p0 = some o) : CT l yX6_pointsFor cX6_pointsFor 1 (some .int) rm_X6_pointsFor shN D yy tk tv a σ [.int (zJ p0)] σ (some (.int (zJ o))) := by
  refine ct_of (Ar := fun a tk => [.int (zJ p0)]) (by decide) (Nat.le_of_ble_eq_true rfl) (fun Γ G _ _ hR => ?_)
  have hcs := rt_cs hR
  unfold x_X6_pointsFor at h
  refine (?_ : PT Γ 1 shN 0 σ [(0, .int (zJ p0))] [])
  refine p_iload_n G rfl 0 rfl dX6_pointsFor_0 ?_
  refine p_bipush G (by decide) (by decide) dX6_pointsFor_1 ?_
  refine p_iremK G dX6_pointsFor_3 (by decide) ?_
  refine p_iconst G rfl dX6_pointsFor_4 ?_
  refine p_iadd G dX6_pointsFor_5 ?_
  refine p_bipush G (by decide) (by decide) dX6_pointsFor_6 ?_
  refine p_zmin G gm_630 gm_631 gm_103 gm_632 (by decide) (by decide) hcs dX6_pointsFor_8 ?_
  (cases h; exact p_iret G hR dX6_pointsFor_11 rfl rfl)
set_option maxHeartbeats 4000000 in
set_option maxRecDepth 100000 in
theorem c_X6_pointsOf (l : Launch) {D : va_G} {yy : Nat → ClassId} {tk tv a : Nat → Nat} {σ : Mm} {p0 : Int64} {o : Int} (h : x_X6_pointsOf p0 = some o) : CT l yX6_pointsOf cX6_pointsOf 6 (some .int) rm_X6_pointsOf shN D yy tk tv a σ [.long p0] σ (some (.int (zJ o))) := by
  refine ct_of (Ar := fun a tk => [.long p0]) (by decide) (Nat.le_of_ble_eq_true rfl) (fun Γ G _ _ hR => ?_)
  have hcs := rt_cs hR
  unfold x_X6_pointsOf at h
  refine (?_ : PT Γ 6 shN 0 σ [(0, .long p0)] [])
  refine p_iconst G rfl dX6_pointsOf_0 ?_
  refine p_istore_nU (lv' := [(2, .int (zJ (0 : Int))), (0, .long p0)]) G rfl dX6_pointsOf_1 (by decide) rfl ?_
  refine p_lload_n G rfl 1 rfl dX6_pointsOf_2 ?_
  refine p_lstore_nU (lv' := [(3, .long p0), (2, .int (zJ (0 : Int))), (0, .long p0)]) G rfl dX6_pointsOf_3 (by decide) rfl ?_
  refine p_iconst G rfl dX6_pointsOf_4 ?_
  refine p_istoreU (lv' := [(5, .int (zJ (0 : Int))), (3, .long p0), (2, .int (zJ (0 : Int))), (0, .long p0)]) G dX6_pointsOf_5 (by decide) rfl ?_
  refine p_lv [2, 1, 0] rfl ?_
  obtain ⟨e9, hl7, h⟩ := bnd_some h
  have hX7_42 : ∀ (v10 : Int), v10 = e9 → PT Γ 6 shN 42 σ [(2, .int (zJ v10))] [] := by
    intro v10 he
    subst he
    refine p_iload_n G rfl 0 rfl dX6_pointsOf_42 ?_
    (cases h; exact p_iret G hR dX6_pointsOf_43 rfl rfl)
  refine lup_walk (s := ((0 : Int), p0, (0 : Int))) (At := fun s : Int × Int64 × Int => PT Γ 6 shN 7 σ [(2, .int (zJ s.1)), (3, .long s.2.1), (5, .int (zJ s.2.2))] []) (fun s r hf hin7 hout7 => ?_) hl7
  obtain ⟨u2_7, u3_7, u5_7⟩ := s
  have h : x_X6_pointsOf_b7 u2_7 u3_7 u5_7 = some r := hf
  clear hf
  unfold x_X6_pointsOf_b7 at h
  refine (?_ : PT Γ 6 shN 7 σ [(2, .int (zJ u2_7)), (3, .long u3_7), (5, .int (zJ u5_7))] [])
  refine p_iload G 2 rfl dX6_pointsOf_7 ?_
  refine p_bipush G (by decide) (by decide) dX6_pointsOf_9 ?_
  refine p_icmpge (tgt := 42) G dX6_pointsOf_11 (by decide) h (fun c7 h => ?_) (fun c7 h => ?_)
  · refine p_lv [0] rfl ?_
    have he := hout7 _ (Option.some.inj h).symm
    subst he
    exact hX7_42 _ rfl
  · refine p_lload_n G rfl 1 rfl dX6_pointsOf_14 ?_
    refine p_lconst G (v := 0) (by decide) dX6_pointsOf_15 ?_
    refine p_lcmp G dX6_pointsOf_16 ?_
    refine p_ifeq (tgt := 42) G dX6_pointsOf_17 (by decide) h (fun c6 h => ?_) (fun c6 h => ?_)
    · refine p_lv [0] rfl ?_
      have he := hout7 _ (Option.some.inj h).symm
      subst he
      exact hX7_42 _ rfl
    · refine p_iload_n G rfl 0 rfl dX6_pointsOf_20 ?_
      refine p_lload_n G rfl 1 rfl dX6_pointsOf_21 ?_
      obtain ⟨v1, hc, h⟩ := bnd_some h
      refine p_callS0 G dX6_pointsOf_22 lk_X6_250 (c_X6_lowestOf (gl Γ) hc) (As := [.long u3_7]) rfl zk_1 rfl (Nat.le_of_ble_eq_true rfl) ⟨rfl, rfl, Nat.le_of_ble_eq_true rfl, Nat.le_of_ble_eq_true rfl⟩ hcs ?_
      obtain ⟨v2, hc, h⟩ := bnd_some h
      refine p_callS0 G dX6_pointsOf_25 lk_X6_278 (c_X6_pointsFor (gl Γ) hc) (As := [.int (zJ v1)]) rfl zk_1 rfl (Nat.le_of_ble_eq_true rfl) ⟨rfl, rfl, Nat.le_of_ble_eq_true rfl, Nat.le_of_ble_eq_true rfl⟩ hcs ?_
      refine p_iadd G dX6_pointsOf_28 ?_
      refine p_istore_n (lv' := fun v3 => [(2, .int (zJ v3)), (3, .long u3_7), (5, .int (zJ u5_7))]) G rfl dX6_pointsOf_29 h (by decide) (fun _ => rfl) (fun v3 h => ?_)
      refine p_lload_n G rfl 1 rfl dX6_pointsOf_30 ?_
      refine p_lload_n G rfl 1 rfl dX6_pointsOf_31 ?_
      refine p_lconst G (v := 1) (by decide) dX6_pointsOf_32 ?_
      refine p_lsub G dX6_pointsOf_33 ?_
      refine p_land G dX6_pointsOf_34 ?_
      refine p_lstore_n (lv' := fun v4 => [(3, .long v4), (2, .int (zJ v3)), (5, .int (zJ u5_7))]) G rfl dX6_pointsOf_35 h (by decide) (fun _ => rfl) (fun v4 h => ?_)
      refine p_iinc (lv' := fun v5 => [(5, .int (zJ v5)), (3, .long v4), (2, .int (zJ v3))]) G dX6_pointsOf_36 h 2 rfl (by decide) (fun _ => rfl) (fun v5 h => ?_)
      refine p_goto (tgt := 7) G dX6_pointsOf_39 (by decide) ?_
      refine p_lv [2, 1, 0] rfl ?_
      exact hin7 _ (Option.some.inj h).symm
set_option maxHeartbeats 4000000 in
set_option maxRecDepth 100000 in
theorem c_X1_isAhead (l : Launch) {D : va_G} {yy : Nat → ClassId} {tk tv a : Nat → Nat} {σ : Mm} {p1 : Int} {p2 : Int} {o : Int} (h : x_X1_isAhead σ p1 p2 = some o) : CT l yX1_isAhead cX1_isAhead 5 (some .boolean) rm_X1_isAhead shL D yy tk tv a σ [.ref (a 0), .int (zJ p1), .int (zJ p2)] σ (some (.int (zJ o))) := by
  refine ct_of (Ar := fun a tk => [.ref (a 0), .int (zJ p1), .int (zJ p2)]) (by decide) (Nat.le_of_ble_eq_true rfl) (fun Γ G _ _ hR => ?_)
  have hcs := rt_cs hR
  unfold x_X1_isAhead at h
  refine (?_ : PT Γ 5 shL 0 σ [(0, .ref (ga Γ 0)), (1, .int (zJ p1)), (2, .int (zJ p2))] [])
  refine p_aload_n G rfl 0 rfl dX1_isAhead_0 ?_
  refine p_get G dX1_isAhead_1 fl_X1_19 (k := 0) rfl rfl ?_
  refine p_iload_n G rfl 1 rfl dX1_isAhead_4 ?_
  refine p_iald G dX1_isAhead_5 (k := 3) rfl (zt_c _) h (fun c1 h => ?_)
  refine p_aload_n G rfl 0 rfl dX1_isAhead_6 ?_
  refine p_get G dX1_isAhead_7 fl_X1_19 (k := 0) rfl rfl ?_
  refine p_iload_n G rfl 2 rfl dX1_isAhead_10 ?_
  refine p_iald G dX1_isAhead_11 (k := 3) rfl (zt_c _) h (fun c2 h => ?_)
  refine p_icmpeq (tgt := 36) G dX1_isAhead_12 (by decide) h (fun c11 h => ?_) (fun c11 h => ?_)
  · refine p_aload_n G rfl 0 rfl dX1_isAhead_36 ?_
    refine p_get G dX1_isAhead_37 fl_X1_11 (k := 0) rfl rfl ?_
    refine p_iload_n G rfl 1 rfl dX1_isAhead_40 ?_
    refine p_lald G dX1_isAhead_41 (k := 1) rfl (zt_c _) h (fun c3 h => ?_)
    refine p_aload_n G rfl 0 rfl dX1_isAhead_42 ?_
    refine p_get G dX1_isAhead_43 fl_X1_11 (k := 0) rfl rfl ?_
    refine p_iload_n G rfl 2 rfl dX1_isAhead_46 ?_
    refine p_lald G dX1_isAhead_47 (k := 1) rfl (zt_c _) h (fun c4 h => ?_)
    refine p_lxor G dX1_isAhead_48 ?_
    refine p_lstore_n (lv' := fun v5 => [(3, .long v5), (0, .ref (ga Γ 0)), (1, .int (zJ p1)), (2, .int (zJ p2))]) G rfl dX1_isAhead_49 h (by decide) (fun _ => rfl) (fun v5 h => ?_)
    refine p_aload_n G rfl 1 rfl dX1_isAhead_50 ?_
    refine p_get G dX1_isAhead_51 fl_X1_11 (k := 0) rfl rfl ?_
    refine p_iload_n G rfl 2 rfl dX1_isAhead_54 ?_
    refine p_lald G dX1_isAhead_55 (k := 1) rfl (zt_c _) h (fun c6 h => ?_)
    refine p_lload_n G rfl 0 rfl dX1_isAhead_56 ?_
    refine p_land G dX1_isAhead_57 ?_
    refine p_lload_n G rfl 0 rfl dX1_isAhead_58 ?_
    refine p_lneg G dX1_isAhead_59 ?_
    refine p_land G dX1_isAhead_60 ?_
    refine p_lconst G (v := 0) (by decide) dX1_isAhead_61 ?_
    refine p_lcmp G dX1_isAhead_62 ?_
    refine p_ifeq (tgt := 70) G dX1_isAhead_63 (by decide) h (fun c7 h => ?_) (fun c7 h => ?_)
    · refine p_iconst G rfl dX1_isAhead_70 ?_
      (cases h; exact p_zret G hR dX1_isAhead_71 (by decide) rfl rfl)
    · refine p_iconst G rfl dX1_isAhead_66 ?_
      refine p_goto (tgt := 71) G dX1_isAhead_67 (by decide) ?_
      (cases h; exact p_zret G hR dX1_isAhead_71 (by decide) rfl rfl)
  · refine p_aload_n G rfl 0 rfl dX1_isAhead_15 ?_
    refine p_get G dX1_isAhead_16 fl_X1_19 (k := 0) rfl rfl ?_
    refine p_iload_n G rfl 1 rfl dX1_isAhead_19 ?_
    refine p_iald G dX1_isAhead_20 (k := 3) rfl (zt_c _) h (fun c8 h => ?_)
    refine p_aload_n G rfl 0 rfl dX1_isAhead_21 ?_
    refine p_get G dX1_isAhead_22 fl_X1_19 (k := 0) rfl rfl ?_
    refine p_iload_n G rfl 2 rfl dX1_isAhead_25 ?_
    refine p_iald G dX1_isAhead_26 (k := 3) rfl (zt_c _) h (fun c9 h => ?_)
    refine p_icmpge (tgt := 34) G dX1_isAhead_27 (by decide) h (fun c10 h => ?_) (fun c10 h => ?_)
    · refine p_iconst G rfl dX1_isAhead_34 ?_
      (cases h; exact p_zret G hR dX1_isAhead_35 (by decide) rfl rfl)
    · refine p_iconst G rfl dX1_isAhead_30 ?_
      refine p_goto (tgt := 35) G dX1_isAhead_31 (by decide) ?_
      (cases h; exact p_zret G hR dX1_isAhead_35 (by decide) rfl rfl)
set_option maxHeartbeats 4000000 in
set_option maxRecDepth 100000 in
theorem c_X1_sort (l : Launch) {D : va_G} {yy : Nat → ClassId} {tk tv a : Nat → Nat} {σ : Mm} {o : Mm} (h : x_X1_sort σ = some o) : CT l yX1_sort cX1_sort 7 none rm_X1_sort shL D yy tk tv a σ [.ref (a 0)] o none := by
  refine ct_of (Ar := fun a tk => [.ref (a 0)]) (by decide) (Nat.le_of_ble_eq_true rfl) (fun Γ G _ _ hR => ?_)
  have hcs := rt_cs hR
  unfold x_X1_sort at h
  refine (?_ : PT Γ 7 shL 0 σ [(0, .ref (ga Γ 0))] [])
  refine p_iconst G rfl dX1_sort_0 ?_
  refine p_istore_nU (lv' := [(1, .int (zJ (1 : Int))), (0, .ref (ga Γ 0))]) G rfl dX1_sort_1 (by decide) rfl ?_
  refine p_lv [1, 0] rfl ?_
  obtain ⟨e33, hl2, h⟩ := bnd_some h
  have hX2_139 : ∀ (σ34 : Mm), σ34 = e33 → PT Γ 7 shL 139 σ34 [] [] := by
    intro σ34 he
    subst he
    (cases h; exact p_vret G hR dX1_sort_139 rfl rfl)
  refine lup_walk (s := (σ, (1 : Int))) (At := fun s : Mm × Int => PT Γ 7 shL 2 s.1 [(0, .ref (ga Γ 0)), (1, .int (zJ s.2))] []) (fun s r hf hin2 hout2 => ?_) hl2
  obtain ⟨σ2, u1_2⟩ := s
  have h : x_X1_sort_b2 σ2 u1_2 = some r := hf
  clear hf
  unfold x_X1_sort_b2 at h
  refine (?_ : PT Γ 7 shL 2 σ2 [(0, .ref (ga Γ 0)), (1, .int (zJ u1_2))] [])
  refine p_iload_n G rfl 1 rfl dX1_sort_2 ?_
  refine p_aload_n G rfl 0 rfl dX1_sort_3 ?_
  refine p_get G dX1_sort_4 fl_X1_35 (k := 0) rfl rfl ?_
  refine p_icmpge (tgt := 139) G dX1_sort_7 (by decide) h (fun c31 h => ?_) (fun c31 h => ?_)
  · refine p_lv [] rfl ?_
    have he := hout2 _ (Option.some.inj h).symm
    subst he
    exact hX2_139 _ rfl
  · refine p_iload_n G rfl 1 rfl dX1_sort_10 ?_
    refine p_bipush G (by decide) (by decide) dX1_sort_11 ?_
    refine p_icmpge (tgt := 139) G dX1_sort_13 (by decide) h (fun c30 h => ?_) (fun c30 h => ?_)
    · refine p_lv [] rfl ?_
      have he := hout2 _ (Option.some.inj h).symm
      subst he
      exact hX2_139 _ rfl
    · refine p_iload_n G rfl 1 rfl dX1_sort_16 ?_
      refine p_istore_nU (lv' := [(2, .int (zJ u1_2)), (0, .ref (ga Γ 0)), (1, .int (zJ u1_2))]) G rfl dX1_sort_17 (by decide) rfl ?_
      refine p_lv [1, 2, 0] rfl ?_
      obtain ⟨e27, hl18, h⟩ := bnd_some h
      have hX18_133 : ∀ (σ28 : Mm), σ28 = e27 → PT Γ 7 shL 133 σ28 [(0, .ref (ga Γ 0)), (1, .int (zJ u1_2))] [] := by
        intro σ28 he
        subst he
        refine p_iinc (lv' := fun v29 => [(1, .int (zJ v29)), (0, .ref (ga Γ 0))]) G dX1_sort_133 h 1 rfl (by decide) (fun _ => rfl) (fun v29 h => ?_)
        refine p_goto (tgt := 2) G dX1_sort_136 (by decide) ?_
        refine p_lv [1, 0] rfl ?_
        exact hin2 _ (Option.some.inj h).symm
      refine lup_walk (s := (σ2, u1_2)) (At := fun s : Mm × Int => PT Γ 7 shL 18 s.1 [(0, .ref (ga Γ 0)), (1, .int (zJ u1_2)), (2, .int (zJ s.2))] []) (fun s r hf hin18 hout18 => ?_) hl18
      obtain ⟨σ18, u2_18⟩ := s
      have h : x_X1_sort_b18 u1_2 σ18 u2_18 = some r := hf
      clear hf
      unfold x_X1_sort_b18 at h
      refine (?_ : PT Γ 7 shL 18 σ18 [(0, .ref (ga Γ 0)), (1, .int (zJ u1_2)), (2, .int (zJ u2_18))] [])
      refine p_iload_n G rfl 2 rfl dX1_sort_18 ?_
      refine p_ifle (tgt := 133) G dX1_sort_19 (by decide) h (fun c25 h => ?_) (fun c25 h => ?_)
      · refine p_lv [0, 1] rfl ?_
        have he := hout18 _ (Option.some.inj h).symm
        subst he
        exact hX18_133 _ rfl
      · refine p_aload_n G rfl 0 rfl dX1_sort_22 ?_
        refine p_iload_n G rfl 2 rfl dX1_sort_23 ?_
        refine p_iload_n G rfl 2 rfl dX1_sort_24 ?_
        refine p_iconst G rfl dX1_sort_25 ?_
        refine p_isub G dX1_sort_26 ?_
        obtain ⟨v1, hc, h⟩ := bnd_some h
        refine p_callVi G dX1_sort_27 lk_X1_108 (c_X1_isAhead (gl Γ) hc) (As := [.int (zJ u2_18), .int (zJ (u2_18 - (1 : Int)))]) (ci := 1) rfl rfl rfl rfl (Nat.le_of_ble_eq_true rfl) ⟨rfl, rfl, Nat.le_of_ble_eq_true rfl, Nat.le_of_ble_eq_true rfl⟩ hcs ?_
        refine p_ifeq (tgt := 133) G dX1_sort_30 (by decide) h (fun c24 h => ?_) (fun c24 h => ?_)
        · refine p_lv [0, 1] rfl ?_
          have he := hout18 _ (Option.some.inj h).symm
          subst he
          exact hX18_133 _ rfl
        · refine p_aload_n G rfl 0 rfl dX1_sort_33 ?_
          refine p_get G dX1_sort_34 fl_X1_11 (k := 0) rfl rfl ?_
          refine p_iload_n G rfl 2 rfl dX1_sort_37 ?_
          refine p_lald G dX1_sort_38 (k := 1) rfl (zt_c _) h (fun c2 h => ?_)
          refine p_lstore_n (lv' := fun v3 => [(3, .long v3), (0, .ref (ga Γ 0)), (1, .int (zJ u1_2)), (2, .int (zJ u2_18))]) G rfl dX1_sort_39 h (by decide) (fun _ => rfl) (fun v3 h => ?_)
          refine p_aload_n G rfl 1 rfl dX1_sort_40 ?_
          refine p_get G dX1_sort_41 fl_X1_11 (k := 0) rfl rfl ?_
          refine p_iload_n G rfl 3 rfl dX1_sort_44 ?_
          refine p_aload_n G rfl 1 rfl dX1_sort_45 ?_
          refine p_get G dX1_sort_46 fl_X1_11 (k := 0) rfl rfl ?_
          refine p_iload_n G rfl 3 rfl dX1_sort_49 ?_
          refine p_iconst G rfl dX1_sort_50 ?_
          refine p_isub G dX1_sort_51 ?_
          refine p_lald G dX1_sort_52 (k := 1) rfl (zt_c _) h (fun c4 h => ?_)
          refine p_last G dX1_sort_53 (k := 1) rfl (zt_c _) rfl h (fun σ5 c6 h => ?_)
          refine p_aload_n G rfl 1 rfl dX1_sort_54 ?_
          refine p_get G dX1_sort_55 fl_X1_11 (k := 0) rfl rfl ?_
          refine p_iload_n G rfl 3 rfl dX1_sort_58 ?_
          refine p_iconst G rfl dX1_sort_59 ?_
          refine p_isub G dX1_sort_60 ?_
          refine p_lload_n G rfl 0 rfl dX1_sort_61 ?_
          refine p_last G dX1_sort_62 (k := 1) rfl (zt_c _) rfl h (fun σ7 c8 h => ?_)
          refine p_aload_n G rfl 1 rfl dX1_sort_63 ?_
          refine p_get G dX1_sort_64 fl_X1_19 (k := 0) rfl rfl ?_
          refine p_iload_n G rfl 3 rfl dX1_sort_67 ?_
          refine p_iald G dX1_sort_68 (k := 3) rfl (zt_c _) h (fun c9 h => ?_)
          refine p_istore (lv' := fun v10 => [(5, .int (zJ v10)), (3, .long v3), (0, .ref (ga Γ 0)), (1, .int (zJ u1_2)), (2, .int (zJ u2_18))]) G dX1_sort_69 h (by decide) (fun _ => rfl) (fun v10 h => ?_)
          refine p_aload_n G rfl 2 rfl dX1_sort_71 ?_
          refine p_get G dX1_sort_72 fl_X1_19 (k := 0) rfl rfl ?_
          refine p_iload_n G rfl 4 rfl dX1_sort_75 ?_
          refine p_aload_n G rfl 2 rfl dX1_sort_76 ?_
          refine p_get G dX1_sort_77 fl_X1_19 (k := 0) rfl rfl ?_
          refine p_iload_n G rfl 4 rfl dX1_sort_80 ?_
          refine p_iconst G rfl dX1_sort_81 ?_
          refine p_isub G dX1_sort_82 ?_
          refine p_iald G dX1_sort_83 (k := 3) rfl (zt_c _) h (fun c11 h => ?_)
          refine p_iast G dX1_sort_84 (k := 3) rfl (zt_c _) rfl h (fun σ12 c13 h => ?_)
          refine p_aload_n G rfl 2 rfl dX1_sort_85 ?_
          refine p_get G dX1_sort_86 fl_X1_19 (k := 0) rfl rfl ?_
          refine p_iload_n G rfl 4 rfl dX1_sort_89 ?_
          refine p_iconst G rfl dX1_sort_90 ?_
          refine p_isub G dX1_sort_91 ?_
          refine p_iload G 0 rfl dX1_sort_92 ?_
          refine p_iast G dX1_sort_94 (k := 3) rfl (zt_c _) rfl h (fun σ14 c15 h => ?_)
          refine p_aload_n G rfl 2 rfl dX1_sort_95 ?_
          refine p_get G dX1_sort_96 fl_X1_22 (k := 0) rfl rfl ?_
          refine p_iload_n G rfl 4 rfl dX1_sort_99 ?_
          refine p_iald G dX1_sort_100 (k := 4) rfl (zt_c _) h (fun c16 h => ?_)
          refine p_istore (lv' := fun v17 => [(6, .int (zJ v17)), (5, .int (zJ v10)), (3, .long v3), (0, .ref (ga Γ 0)), (1, .int (zJ u1_2)), (2, .int (zJ u2_18))]) G dX1_sort_101 h (by decide) (fun _ => rfl) (fun v17 h => ?_)
          refine p_aload_n G rfl 3 rfl dX1_sort_103 ?_
          refine p_get G dX1_sort_104 fl_X1_22 (k := 0) rfl rfl ?_
          refine p_iload_n G rfl 5 rfl dX1_sort_107 ?_
          refine p_aload_n G rfl 3 rfl dX1_sort_108 ?_
          refine p_get G dX1_sort_109 fl_X1_22 (k := 0) rfl rfl ?_
          refine p_iload_n G rfl 5 rfl dX1_sort_112 ?_
          refine p_iconst G rfl dX1_sort_113 ?_
          refine p_isub G dX1_sort_114 ?_
          refine p_iald G dX1_sort_115 (k := 4) rfl (zt_c _) h (fun c18 h => ?_)
          refine p_iast G dX1_sort_116 (k := 4) rfl (zt_c _) rfl h (fun σ19 c20 h => ?_)
          refine p_aload_n G rfl 3 rfl dX1_sort_117 ?_
          refine p_get G dX1_sort_118 fl_X1_22 (k := 0) rfl rfl ?_
          refine p_iload_n G rfl 5 rfl dX1_sort_121 ?_
          refine p_iconst G rfl dX1_sort_122 ?_
          refine p_isub G dX1_sort_123 ?_
          refine p_iload G 0 rfl dX1_sort_124 ?_
          refine p_iast G dX1_sort_126 (k := 4) rfl (zt_c _) rfl h (fun σ21 c22 h => ?_)
          refine p_iinc (lv' := fun v23 => [(2, .int (zJ v23)), (6, .int (zJ v17)), (5, .int (zJ v10)), (3, .long v3), (0, .ref (ga Γ 0)), (1, .int (zJ u1_2))]) G dX1_sort_127 h 5 rfl (by decide) (fun _ => rfl) (fun v23 h => ?_)
          refine p_goto (tgt := 18) G dX1_sort_130 (by decide) ?_
          refine p_lv [4, 5, 0] rfl ?_
          exact hin18 _ (Option.some.inj h).symm
set_option maxHeartbeats 4000000 in
set_option maxRecDepth 100000 in
theorem s_X1_search (R : Mm → Int → Int64 → Int → Int → Option (Mm)) (n : Nat) (IH : ∀ (l : Launch) {D : va_G} {yy : Nat → ClassId} {tk tv a : Nat → Nat} {σ : Mm} {p1 : Int} {p2 : Int64} {p4 : Int} {p5 : Int} {o : Mm} (h : R σ p1 p2 p4 p5 = some o), CT l yX1_search cX1_search 7 none (rm_X1_search n) shL D yy tk tv a σ [.ref (a 0), .int (zJ p1), .long p2, .int (zJ p4), .int (zJ p5)] o none) (l : Launch) {D : va_G} {yy : Nat → ClassId} {tk tv a : Nat → Nat} {σ : Mm} {p1 : Int} {p2 : Int64} {p4 : Int} {p5 : Int} {o : Mm} (h : x_X1_search_1 R σ p1 p2 p4 p5 = some o) : CT l yX1_search cX1_search 7 none (rm_X1_search (n + 1)) shL D yy tk tv a σ [.ref (a 0), .int (zJ p1), .long p2, .int (zJ p4), .int (zJ p5)] o none := by
  refine ct_of (Ar := fun a tk => [.ref (a 0), .int (zJ p1), .long p2, .int (zJ p4), .int (zJ p5)]) (by decide) (Nat.le_of_ble_eq_true rfl) (fun Γ G _ _ hR => ?_)
  have hcs := rt_cs hR
  unfold x_X1_search_1 at h
  refine (?_ : PT Γ 7 shL 0 σ [(0, .ref (ga Γ 0)), (1, .int (zJ p1)), (2, .long p2), (4, .int (zJ p4)), (5, .int (zJ p5))] [])
  have j107 : ∀ (σ_107 : Mm) (v4_107 : Int) (v5_107 : Int), x_X1_search_j107 R σ_107 v4_107 v5_107 = some o → PT Γ 7 shL 107 σ_107 [(0, .ref (ga Γ 0)), (4, .int (zJ v4_107)), (5, .int (zJ v5_107))] [] := by
    intro σ_107 v4_107 v5_107 h
    unfold x_X1_search_j107 at h
    refine p_iload G 1 rfl dX1_search_107 ?_
    refine p_aload_n G rfl 0 rfl dX1_search_109 ?_
    refine p_get G dX1_search_110 fl_X1_53 (k := 0) rfl rfl ?_
    refine p_icmple (tgt := 164) G dX1_search_113 (by decide) h (fun c29 h => ?_) (fun c29 h => ?_)
    · (cases h; exact p_vret G hR dX1_search_164 rfl rfl)
    · refine p_aload_n G rfl 0 rfl dX1_search_116 ?_
      refine p_iload G 1 rfl dX1_search_117 ?_
      refine p_putI G dX1_search_119 fp_X1_53 (k := 0) rfl rfl rfl rfl h (fun σ18 h => ?_)
      refine p_aload_n G rfl 0 rfl dX1_search_122 ?_
      refine p_iload G 2 rfl dX1_search_123 ?_
      refine p_putI G dX1_search_125 fp_X1_50 (k := 0) rfl rfl rfl rfl h (fun σ19 h => ?_)
      refine p_iconst G rfl dX1_search_128 ?_
      refine p_istoreU (lv' := [(6, .int (zJ (0 : Int))), (0, .ref (ga Γ 0)), (4, .int (zJ v4_107)), (5, .int (zJ v5_107))]) G dX1_search_129 (by decide) rfl ?_
      refine p_lv [1, 3, 0] rfl ?_
      obtain ⟨e27, hl131, h⟩ := bnd_some h
      have hX131_164 : ∀ (σ28 : Mm), σ28 = e27 → PT Γ 7 shL 164 σ28 [] [] := by
        intro σ28 he
        subst he
        (cases h; exact p_vret G hR dX1_search_164 rfl rfl)
      refine lup_walk (s := (σ19, (0 : Int))) (At := fun s : Mm × Int => PT Γ 7 shL 131 s.1 [(0, .ref (ga Γ 0)), (5, .int (zJ v5_107)), (6, .int (zJ s.2))] []) (fun s r hf hin131 hout131 => ?_) hl131
      obtain ⟨σ131, u6_131⟩ := s
      have h : x_X1_search_b131 R v5_107 σ131 u6_131 = some r := hf
      clear hf
      unfold x_X1_search_b131 at h
      refine (?_ : PT Γ 7 shL 131 σ131 [(0, .ref (ga Γ 0)), (5, .int (zJ v5_107)), (6, .int (zJ u6_131))] [])
      refine p_iload G 2 rfl dX1_search_131 ?_
      refine p_iload G 1 rfl dX1_search_133 ?_
      refine p_icmpge (tgt := 164) G dX1_search_135 (by decide) h (fun c25 h => ?_) (fun c25 h => ?_)
      · refine p_lv [] rfl ?_
        have he := hout131 _ (Option.some.inj h).symm
        subst he
        exact hX131_164 _ rfl
      · refine p_iload G 2 rfl dX1_search_138 ?_
        refine p_iconst G rfl dX1_search_140 ?_
        refine p_icmpge (tgt := 164) G dX1_search_141 (by decide) h (fun c24 h => ?_) (fun c24 h => ?_)
        · refine p_lv [] rfl ?_
          have he := hout131 _ (Option.some.inj h).symm
          subst he
          exact hX131_164 _ rfl
        · refine p_aload_n G rfl 0 rfl dX1_search_144 ?_
          refine p_get G dX1_search_145 fl_X1_28 (k := 0) rfl rfl ?_
          refine p_iload G 2 rfl dX1_search_148 ?_
          refine p_aload_n G rfl 0 rfl dX1_search_150 ?_
          refine p_get G dX1_search_151 fl_X1_25 (k := 0) rfl rfl ?_
          refine p_iload G 2 rfl dX1_search_154 ?_
          refine p_lald G dX1_search_156 (k := 5) rfl (zt_c _) h (fun c20 h => ?_)
          refine p_last G dX1_search_157 (k := 6) rfl (zt_c _) rfl h (fun σ21 c22 h => ?_)
          refine p_iinc (lv' := fun v23 => [(6, .int (zJ v23)), (0, .ref (ga Γ 0)), (5, .int (zJ v5_107))]) G dX1_search_158 h 2 rfl (by decide) (fun _ => rfl) (fun v23 h => ?_)
          refine p_goto (tgt := 131) G dX1_search_161 (by decide) ?_
          refine p_lv [1, 2, 0] rfl ?_
          exact hin131 _ (Option.some.inj h).symm
  refine p_iload G 4 rfl dX1_search_0 ?_
  refine p_iflt (tgt := 11) G dX1_search_2 (by decide) h (fun c31 h => ?_) (fun c31 h => ?_)
  · (cases h; exact p_vret G hR dX1_search_11 rfl rfl)
  · refine p_iload G 4 rfl dX1_search_5 ?_
    refine p_iconst G rfl dX1_search_7 ?_
    refine p_icmple (tgt := 12) G dX1_search_8 (by decide) h (fun c30 h => ?_) (fun c30 h => ?_)
    · refine p_iload_n G rfl 1 rfl dX1_search_12 ?_
      refine p_istoreU (lv' := [(6, .int (zJ p1)), (0, .ref (ga Γ 0)), (1, .int (zJ p1)), (2, .long p2), (4, .int (zJ p4)), (5, .int (zJ p5))]) G dX1_search_13 (by decide) rfl ?_
      refine p_lv [1, 3, 4, 5, 0] rfl ?_
      obtain ⟨e16, hl15, h⟩ := bnd_some h
      have hX15_107 : ∀ (σ17 : Mm), σ17 = e16 → PT Γ 7 shL 107 σ17 [(0, .ref (ga Γ 0)), (4, .int (zJ p4)), (5, .int (zJ p5))] [] := by
        intro σ17 he
        subst he
        exact j107 _ _ _ h
      refine lup_walk (s := (σ, p1)) (At := fun s : Mm × Int => PT Γ 7 shL 15 s.1 [(0, .ref (ga Γ 0)), (2, .long p2), (4, .int (zJ p4)), (5, .int (zJ p5)), (6, .int (zJ s.2))] []) (fun s r hf hin15 hout15 => ?_) hl15
      obtain ⟨σ15, u6_15⟩ := s
      have h : x_X1_search_b15 R p2 p4 p5 σ15 u6_15 = some r := hf
      clear hf
      unfold x_X1_search_b15 at h
      refine (?_ : PT Γ 7 shL 15 σ15 [(0, .ref (ga Γ 0)), (2, .long p2), (4, .int (zJ p4)), (5, .int (zJ p5)), (6, .int (zJ u6_15))] [])
      refine p_iload G 4 rfl dX1_search_15 ?_
      refine p_iflt (tgt := 107) G dX1_search_17 (by decide) h (fun c14 h => ?_) (fun c14 h => ?_)
      · refine p_lv [0, 2, 3] rfl ?_
        have he := hout15 _ (Option.some.inj h).symm
        subst he
        exact hX15_107 _ rfl
      · refine p_iload G 4 rfl dX1_search_20 ?_
        refine p_aload_n G rfl 0 rfl dX1_search_22 ?_
        refine p_get G dX1_search_23 fl_X1_35 (k := 0) rfl rfl ?_
        refine p_icmpge (tgt := 107) G dX1_search_26 (by decide) h (fun c13 h => ?_) (fun c13 h => ?_)
        · refine p_lv [0, 2, 3] rfl ?_
          have he := hout15 _ (Option.some.inj h).symm
          subst he
          exact hX15_107 _ rfl
        · refine p_iload G 4 rfl dX1_search_29 ?_
          refine p_bipush G (by decide) (by decide) dX1_search_31 ?_
          refine p_icmpge (tgt := 107) G dX1_search_33 (by decide) h (fun c12 h => ?_) (fun c12 h => ?_)
          · refine p_lv [0, 2, 3] rfl ?_
            have he := hout15 _ (Option.some.inj h).symm
            subst he
            exact hX15_107 _ rfl
          · refine p_iload G 3 rfl dX1_search_36 ?_
            refine p_iconst G rfl dX1_search_38 ?_
            refine p_icmpge (tgt := 107) G dX1_search_39 (by decide) h (fun c11 h => ?_) (fun c11 h => ?_)
            · refine p_lv [0, 2, 3] rfl ?_
              have he := hout15 _ (Option.some.inj h).symm
              subst he
              exact hX15_107 _ rfl
            · refine p_aload_n G rfl 0 rfl dX1_search_42 ?_
              refine p_get G dX1_search_43 fl_X1_11 (k := 0) rfl rfl ?_
              refine p_iload G 4 rfl dX1_search_46 ?_
              refine p_lald G dX1_search_48 (k := 1) rfl (zt_c _) h (fun c1 h => ?_)
              refine p_lload_n G rfl 1 rfl dX1_search_49 ?_
              refine p_land G dX1_search_50 ?_
              refine p_lconst G (v := 0) (by decide) dX1_search_51 ?_
              refine p_lcmp G dX1_search_52 ?_
              refine p_ifne (tgt := 101) G dX1_search_53 (by decide) h (fun c10 h => ?_) (fun c10 h => ?_)
              · refine p_iinc (lv' := fun v2 => [(6, .int (zJ v2)), (0, .ref (ga Γ 0)), (2, .long p2), (4, .int (zJ p4)), (5, .int (zJ p5))]) G dX1_search_101 h 4 rfl (by decide) (fun _ => rfl) (fun v2 h => ?_)
                refine p_goto (tgt := 15) G dX1_search_104 (by decide) ?_
                refine p_lv [1, 2, 3, 4, 0] rfl ?_
                exact hin15 _ (Option.some.inj h).symm
              · refine p_aload_n G rfl 0 rfl dX1_search_56 ?_
                refine p_get G dX1_search_57 fl_X1_25 (k := 0) rfl rfl ?_
                refine p_iload G 3 rfl dX1_search_60 ?_
                refine p_aload_n G rfl 0 rfl dX1_search_62 ?_
                refine p_get G dX1_search_63 fl_X1_11 (k := 0) rfl rfl ?_
                refine p_iload G 4 rfl dX1_search_66 ?_
                refine p_lald G dX1_search_68 (k := 1) rfl (zt_c _) h (fun c3 h => ?_)
                refine p_last G dX1_search_69 (k := 5) rfl (zt_c _) rfl h (fun σ4 c5 h => ?_)
                refine p_aload_n G rfl 0 rfl dX1_search_70 ?_
                refine p_iload G 4 rfl dX1_search_71 ?_
                refine p_iconst G rfl dX1_search_73 ?_
                refine p_iadd G dX1_search_74 ?_
                refine p_lload_n G rfl 1 rfl dX1_search_75 ?_
                refine p_aload_n G rfl 0 rfl dX1_search_76 ?_
                refine p_get G dX1_search_77 fl_X1_11 (k := 0) rfl rfl ?_
                refine p_iload G 4 rfl dX1_search_80 ?_
                refine p_lald G dX1_search_82 (k := 1) rfl (zt_c _) h (fun c6 h => ?_)
                refine p_lor G dX1_search_83 ?_
                refine p_iload G 2 rfl dX1_search_84 ?_
                refine p_aload_n G rfl 0 rfl dX1_search_86 ?_
                refine p_get G dX1_search_87 fl_X1_22 (k := 0) rfl rfl ?_
                refine p_iload G 4 rfl dX1_search_90 ?_
                refine p_iald G dX1_search_92 (k := 4) rfl (zt_c _) h (fun c7 h => ?_)
                refine p_iadd G dX1_search_93 ?_
                refine p_iload G 3 rfl dX1_search_94 ?_
                refine p_iconst G rfl dX1_search_96 ?_
                refine p_iadd G dX1_search_97 ?_
                obtain ⟨σ8, hc, h⟩ := bnd_some h
                refine p_callVi G dX1_search_98 lk_X1_56 (IH (gl Γ) hc) (As := [.int (zJ (u6_15 + (1 : Int))), .long (p2 ||| (zL (σ4 1 (zix u6_15)))), .int (zJ (p4 + (σ4 4 (zix u6_15)))), .int (zJ (p5 + (1 : Int)))]) (ci := 1) rfl rfl rfl rfl (Nat.le_of_ble_eq_true rfl) (by refine ⟨rfl, rfl, ?_, ?_⟩ <;> simp only [rm_X1_search, rm_X1_search] <;> omega) hcs ?_
                refine p_iinc (lv' := fun v9 => [(6, .int (zJ v9)), (0, .ref (ga Γ 0)), (2, .long p2), (4, .int (zJ p4)), (5, .int (zJ p5))]) G dX1_search_101 h 4 rfl (by decide) (fun _ => rfl) (fun v9 h => ?_)
                refine p_goto (tgt := 15) G dX1_search_104 (by decide) ?_
                refine p_lv [1, 2, 3, 4, 0] rfl ?_
                exact hin15 _ (Option.some.inj h).symm
    · (cases h; exact p_vret G hR dX1_search_11 rfl rfl)
theorem c_X1_search : ∀ (d : Nat) (l : Launch) {D : va_G} {yy : Nat → ClassId} {tk tv a : Nat → Nat} {σ : Mm} {p1 : Int} {p2 : Int64} {p4 : Int} {p5 : Int} {o : Mm} (h : x_X1_search d σ p1 p2 p4 p5 = some o), CT l yX1_search cX1_search 7 none (rm_X1_search d) shL D yy tk tv a σ [.ref (a 0), .int (zJ p1), .long p2, .int (zJ p4), .int (zJ p5)] o none
  | 0, _, _, _, _, _, _, _, _, _, _, _, _, h => by cases h
  | n + 1, l, D, yy, tk, tv, a, _, _, _, _, _, _, h => s_X1_search (x_X1_search n) n (fun l {_} {_} {_} {_} {_} {_} {_} {_} {_} {_} {_} h => c_X1_search n l h) l h
set_option maxHeartbeats 4000000 in
set_option maxRecDepth 100000 in
theorem c_X1_lay (l : Launch) {D : va_G} {yy : Nat → ClassId} {tk tv a : Nat → Nat} {σ : Mm} {p1 : Int64} {o : Mm} (h : x_X1_lay σ p1 = some o) : CT l yX1_lay cX1_lay 4 none rm_X1_lay shL D yy tk tv a σ [.ref (a 0), .long p1] o none := by
  refine ct_of (Ar := fun a tk => [.ref (a 0), .long p1]) (by decide) (Nat.le_of_ble_eq_true rfl) (fun Γ G _ _ hR => ?_)
  have hcs := rt_cs hR
  unfold x_X1_lay at h
  refine (?_ : PT Γ 4 shL 0 σ [(0, .ref (ga Γ 0)), (1, .long p1)] [])
  have j63 : ∀ (σ_63 : Mm) (v1_63 : Int64), x_X1_lay_j63 σ_63 v1_63 = some o → PT Γ 4 shL 63 σ_63 [(0, .ref (ga Γ 0)), (1, .long v1_63)] [] := by
    intro σ_63 v1_63 h
    unfold x_X1_lay_j63 at h
    refine p_aload_n G rfl 0 rfl dX1_lay_63 ?_
    obtain ⟨σ17, hc, h⟩ := bnd_some h
    refine p_callVi G dX1_lay_64 lk_X1_47 (c_X1_sort (gl Γ) hc) (As := []) (ci := 1) rfl rfl rfl rfl (Nat.le_of_ble_eq_true rfl) ⟨rfl, rfl, Nat.le_of_ble_eq_true rfl, Nat.le_of_ble_eq_true rfl⟩ hcs ?_
    refine p_aload_n G rfl 0 rfl dX1_lay_67 ?_
    refine p_iconst G rfl dX1_lay_68 ?_
    refine p_putI G dX1_lay_69 fp_X1_50 (k := 0) rfl rfl rfl rfl h (fun σ18 h => ?_)
    refine p_aload_n G rfl 0 rfl dX1_lay_72 ?_
    refine p_iconst G rfl dX1_lay_73 ?_
    refine p_putI G dX1_lay_74 fp_X1_53 (k := 0) rfl rfl rfl rfl h (fun σ19 h => ?_)
    refine p_aload_n G rfl 0 rfl dX1_lay_77 ?_
    refine p_iconst G rfl dX1_lay_78 ?_
    refine p_lconst G (v := 0) (by decide) dX1_lay_79 ?_
    refine p_iconst G rfl dX1_lay_80 ?_
    refine p_iconst G rfl dX1_lay_81 ?_
    obtain ⟨σ20, hc, h⟩ := bnd_some h
    refine p_callVi G dX1_lay_82 lk_X1_56 (c_X1_search 6 (gl Γ) hc) (As := [.int (zJ (0 : Int)), .long (0 : Int64), .int (zJ (0 : Int)), .int (zJ (0 : Int))]) (ci := 1) rfl rfl rfl rfl (Nat.le_of_ble_eq_true rfl) ⟨rfl, rfl, Nat.le_of_ble_eq_true rfl, Nat.le_of_ble_eq_true rfl⟩ hcs ?_
    refine p_aload_n G rfl 0 rfl dX1_lay_85 ?_
    refine p_lload_n G rfl 1 rfl dX1_lay_86 ?_
    refine p_putL G dX1_lay_87 fp_X1_60 (k := 0) rfl rfl rfl rfl h (fun σ21 h => ?_)
    refine p_iconst G rfl dX1_lay_90 ?_
    refine p_istore_nU (lv' := [(3, .int (zJ (0 : Int))), (0, .ref (ga Γ 0)), (1, .long v1_63)]) G rfl dX1_lay_91 (by decide) rfl ?_
    refine p_lv [1, 0] rfl ?_
    obtain ⟨e28, hl92, h⟩ := bnd_some h
    have hX92_134 : ∀ (σ29 : Mm), σ29 = e28 → PT Γ 4 shL 134 σ29 [(0, .ref (ga Γ 0))] [] := by
      intro σ29 he
      subst he
      refine p_aload_n G rfl 0 rfl dX1_lay_134 ?_
      refine p_aload_n G rfl 0 rfl dX1_lay_135 ?_
      refine p_get G dX1_lay_136 fl_X1_60 (k := 0) rfl rfl ?_
      obtain ⟨v30, hc, h⟩ := bnd_some h
      refine p_callS0 G dX1_lay_139 lk_X1_43 (c_X6_pointsOf (gl Γ) hc) (As := [.long (zL (σ29 0 9))]) rfl zk_2 rfl (Nat.le_of_ble_eq_true rfl) ⟨rfl, rfl, Nat.le_of_ble_eq_true rfl, Nat.le_of_ble_eq_true rfl⟩ hcs ?_
      refine p_putI G dX1_lay_142 fp_X1_66 (k := 0) rfl rfl rfl rfl h (fun σ31 h => ?_)
      (cases h; exact p_vret G hR dX1_lay_145 rfl rfl)
    refine lup_walk (s := (σ21, (0 : Int))) (At := fun s : Mm × Int => PT Γ 4 shL 92 s.1 [(0, .ref (ga Γ 0)), (3, .int (zJ s.2))] []) (fun s r hf hin92 hout92 => ?_) hl92
    obtain ⟨σ92, u3_92⟩ := s
    have h : x_X1_lay_b92 σ92 u3_92 = some r := hf
    clear hf
    unfold x_X1_lay_b92 at h
    refine (?_ : PT Γ 4 shL 92 σ92 [(0, .ref (ga Γ 0)), (3, .int (zJ u3_92))] [])
    refine p_iload_n G rfl 1 rfl dX1_lay_92 ?_
    refine p_aload_n G rfl 0 rfl dX1_lay_93 ?_
    refine p_get G dX1_lay_94 fl_X1_50 (k := 0) rfl rfl ?_
    refine p_icmpge (tgt := 134) G dX1_lay_97 (by decide) h (fun c26 h => ?_) (fun c26 h => ?_)
    · refine p_lv [0] rfl ?_
      have he := hout92 _ (Option.some.inj h).symm
      subst he
      exact hX92_134 _ rfl
    · refine p_iload_n G rfl 1 rfl dX1_lay_100 ?_
      refine p_aload_n G rfl 0 rfl dX1_lay_101 ?_
      refine p_get G dX1_lay_102 fl_X1_28 (k := 0) rfl rfl ?_
      refine p_alen G dX1_lay_105 (k := 6) (kd := 1) rfl (by decide) (by decide) ?_
      refine p_icmpge (tgt := 134) G dX1_lay_106 (by decide) h (fun c25 h => ?_) (fun c25 h => ?_)
      · refine p_lv [0] rfl ?_
        have he := hout92 _ (Option.some.inj h).symm
        subst he
        exact hX92_134 _ rfl
      · refine p_aload_n G rfl 0 rfl dX1_lay_109 ?_
        refine p_dup G rfl dX1_lay_110 ?_
        refine p_get G dX1_lay_111 fl_X1_60 (k := 0) rfl rfl ?_
        refine p_aload_n G rfl 0 rfl dX1_lay_114 ?_
        refine p_get G dX1_lay_115 fl_X1_28 (k := 0) rfl rfl ?_
        refine p_iload_n G rfl 1 rfl dX1_lay_118 ?_
        refine p_lald G dX1_lay_119 (k := 6) rfl (zt_c _) h (fun c22 h => ?_)
        refine p_ldc2 G gm_611 dX1_lay_120 ?_
        refine p_lxor G dX1_lay_123 ?_
        refine p_land G dX1_lay_124 ?_
        refine p_putL G dX1_lay_125 fp_X1_60 (k := 0) rfl rfl rfl rfl h (fun σ23 h => ?_)
        refine p_iinc (lv' := fun v24 => [(3, .int (zJ v24)), (0, .ref (ga Γ 0))]) G dX1_lay_128 h 1 rfl (by decide) (fun _ => rfl) (fun v24 h => ?_)
        refine p_goto (tgt := 92) G dX1_lay_131 (by decide) ?_
        refine p_lv [1, 0] rfl ?_
        exact hin92 _ (Option.some.inj h).symm
  refine p_aload_n G rfl 0 rfl dX1_lay_0 ?_
  refine p_lload_n G rfl 1 rfl dX1_lay_1 ?_
  obtain ⟨σ1, hc, h⟩ := bnd_some h
  refine p_callVi G dX1_lay_2 lk_X1_31 (c_X1_collect (gl Γ) hc) (As := [.long p1]) (ci := 1) rfl rfl rfl rfl (Nat.le_of_ble_eq_true rfl) ⟨rfl, rfl, Nat.le_of_ble_eq_true rfl, Nat.le_of_ble_eq_true rfl⟩ hcs ?_
  refine p_iconst G rfl dX1_lay_5 ?_
  refine p_istore_nU (lv' := [(3, .int (zJ (0 : Int))), (0, .ref (ga Γ 0)), (1, .long p1)]) G rfl dX1_lay_6 (by decide) rfl ?_
  refine p_lv [1, 2, 0] rfl ?_
  obtain ⟨e15, hl7, h⟩ := bnd_some h
  have hX7_63 : ∀ (σ16 : Mm), σ16 = e15 → PT Γ 4 shL 63 σ16 [(0, .ref (ga Γ 0)), (1, .long p1)] [] := by
    intro σ16 he
    subst he
    exact j63 _ _ h
  refine lup_walk (s := (σ1, (0 : Int))) (At := fun s : Mm × Int => PT Γ 4 shL 7 s.1 [(0, .ref (ga Γ 0)), (1, .long p1), (3, .int (zJ s.2))] []) (fun s r hf hin7 hout7 => ?_) hl7
  obtain ⟨σ7, u3_7⟩ := s
  have h : x_X1_lay_b7 p1 σ7 u3_7 = some r := hf
  clear hf
  unfold x_X1_lay_b7 at h
  refine (?_ : PT Γ 4 shL 7 σ7 [(0, .ref (ga Γ 0)), (1, .long p1), (3, .int (zJ u3_7))] [])
  refine p_iload_n G rfl 2 rfl dX1_lay_7 ?_
  refine p_aload_n G rfl 0 rfl dX1_lay_8 ?_
  refine p_get G dX1_lay_9 fl_X1_35 (k := 0) rfl rfl ?_
  refine p_icmpge (tgt := 63) G dX1_lay_12 (by decide) h (fun c13 h => ?_) (fun c13 h => ?_)
  · refine p_lv [0, 1] rfl ?_
    have he := hout7 _ (Option.some.inj h).symm
    subst he
    exact hX7_63 _ rfl
  · refine p_iload_n G rfl 2 rfl dX1_lay_15 ?_
    refine p_bipush G (by decide) (by decide) dX1_lay_16 ?_
    refine p_icmpge (tgt := 63) G dX1_lay_18 (by decide) h (fun c12 h => ?_) (fun c12 h => ?_)
    · refine p_lv [0, 1] rfl ?_
      have he := hout7 _ (Option.some.inj h).symm
      subst he
      exact hX7_63 _ rfl
    · refine p_aload_n G rfl 0 rfl dX1_lay_21 ?_
      refine p_get G dX1_lay_22 fl_X1_19 (k := 0) rfl rfl ?_
      refine p_iload_n G rfl 2 rfl dX1_lay_25 ?_
      refine p_aload_n G rfl 0 rfl dX1_lay_26 ?_
      refine p_get G dX1_lay_27 fl_X1_11 (k := 0) rfl rfl ?_
      refine p_iload_n G rfl 2 rfl dX1_lay_30 ?_
      refine p_lald G dX1_lay_31 (k := 1) rfl (zt_c _) h (fun c2 h => ?_)
      refine p_aload_n G rfl 0 rfl dX1_lay_32 ?_
      refine p_get G dX1_lay_33 fl_X1_15 (k := 0) rfl rfl ?_
      refine p_iload_n G rfl 2 rfl dX1_lay_36 ?_
      refine p_iald G dX1_lay_37 (k := 2) rfl (zt_c _) h (fun c3 h => ?_)
      obtain ⟨v4, hc, h⟩ := bnd_some h
      refine p_callS0 G dX1_lay_38 lk_X1_39 (c_X1_keyOf (gl Γ) hc) (As := [.long (zL (σ7 1 (zix u3_7))), .int (zJ (σ7 2 (zix u3_7)))]) rfl zk_2 rfl (Nat.le_of_ble_eq_true rfl) ⟨rfl, rfl, Nat.le_of_ble_eq_true rfl, Nat.le_of_ble_eq_true rfl⟩ hcs ?_
      refine p_iast G dX1_lay_41 (k := 3) rfl (zt_c _) rfl h (fun σ5 c6 h => ?_)
      refine p_aload_n G rfl 0 rfl dX1_lay_42 ?_
      refine p_get G dX1_lay_43 fl_X1_22 (k := 0) rfl rfl ?_
      refine p_iload_n G rfl 2 rfl dX1_lay_46 ?_
      refine p_aload_n G rfl 0 rfl dX1_lay_47 ?_
      refine p_get G dX1_lay_48 fl_X1_11 (k := 0) rfl rfl ?_
      refine p_iload_n G rfl 2 rfl dX1_lay_51 ?_
      refine p_lald G dX1_lay_52 (k := 1) rfl (zt_c _) h (fun c7 h => ?_)
      obtain ⟨v8, hc, h⟩ := bnd_some h
      refine p_callS0 G dX1_lay_53 lk_X1_43 (c_X6_pointsOf (gl Γ) hc) (As := [.long (zL (σ5 1 (zix u3_7)))]) rfl zk_2 rfl (Nat.le_of_ble_eq_true rfl) ⟨rfl, rfl, Nat.le_of_ble_eq_true rfl, Nat.le_of_ble_eq_true rfl⟩ hcs ?_
      refine p_iast G dX1_lay_56 (k := 4) rfl (zt_c _) rfl h (fun σ9 c10 h => ?_)
      refine p_iinc (lv' := fun v11 => [(3, .int (zJ v11)), (0, .ref (ga Γ 0)), (1, .long p1)]) G dX1_lay_57 h 2 rfl (by decide) (fun _ => rfl) (fun v11 h => ?_)
      refine p_goto (tgt := 7) G dX1_lay_60 (by decide) ?_
      refine p_lv [1, 2, 0] rfl ?_
      exact hin7 _ (Option.some.inj h).symm
set_option maxHeartbeats 4000000 in
set_option maxRecDepth 100000 in
theorem c_X6_bitOf (l : Launch) {D : va_G} {yy : Nat → ClassId} {tk tv a : Nat → Nat} {σ : Mm} {p0 : Int} {o : Int64} (h : x_X6_bitOf p0 = some o) : CT l yX6_bitOf cX6_bitOf 1 (some .long) rm_X6_bitOf shN D yy tk tv a σ [.int (zJ p0)] σ (some (.long o)) := by
  refine ct_of (Ar := fun a tk => [.int (zJ p0)]) (by decide) (Nat.le_of_ble_eq_true rfl) (fun Γ G _ _ hR => ?_)
  have hcs := rt_cs hR
  unfold x_X6_bitOf at h
  refine (?_ : PT Γ 1 shN 0 σ [(0, .int (zJ p0))] [])
  refine p_iload_n G rfl 0 rfl dX6_bitOf_0 ?_
  refine p_iflt (tgt := 16) G dX6_bitOf_1 (by decide) h (fun c2 h => ?_) (fun c2 h => ?_)
  · refine p_lconst G (v := 0) (by decide) dX6_bitOf_16 ?_
    (cases h; exact p_lret G hR dX6_bitOf_17 rfl rfl)
  · refine p_iload_n G rfl 0 rfl dX6_bitOf_4 ?_
    refine p_bipush G (by decide) (by decide) dX6_bitOf_5 ?_
    refine p_icmpge (tgt := 16) G dX6_bitOf_7 (by decide) h (fun c1 h => ?_) (fun c1 h => ?_)
    · refine p_lconst G (v := 0) (by decide) dX6_bitOf_16 ?_
      (cases h; exact p_lret G hR dX6_bitOf_17 rfl rfl)
    · refine p_lconst G (v := 1) (by decide) dX6_bitOf_10 ?_
      refine p_iload_n G rfl 0 rfl dX6_bitOf_11 ?_
      refine p_lshl G dX6_bitOf_12 ?_
      refine p_goto (tgt := 17) G dX6_bitOf_13 (by decide) ?_
      (cases h; exact p_lret G hR dX6_bitOf_17 rfl rfl)
set_option maxHeartbeats 4000000 in
set_option maxRecDepth 100000 in
theorem c_X1_mostPointsOf (l : Launch) {D : va_G} {yy : Nat → ClassId} {tk tv a : Nat → Nat} {σ : Mm} {p0 : Int64} {o : Int} (h : x_X1_mostPointsOf p0 = some o) : CT l yX1_mostPointsOf cX1_mostPointsOf 6 (some .int) rm_X1_mostPointsOf shN D yy tk tv a σ [.long p0] σ (some (.int (zJ o))) := by
  refine ct_of (Ar := fun a tk => [.long p0]) (by decide) (Nat.le_of_ble_eq_true rfl) (fun Γ G _ _ hR => ?_)
  have hcs := rt_cs hR
  unfold x_X1_mostPointsOf at h
  refine (?_ : PT Γ 6 shN 0 σ [(0, .long p0)] [])
  refine p_iconst G rfl dX1_mostPointsOf_0 ?_
  refine p_istore_nU (lv' := [(2, .int (zJ (0 : Int))), (0, .long p0)]) G rfl dX1_mostPointsOf_1 (by decide) rfl ?_
  refine p_lload_n G rfl 1 rfl dX1_mostPointsOf_2 ?_
  refine p_lstore_nU (lv' := [(3, .long p0), (2, .int (zJ (0 : Int))), (0, .long p0)]) G rfl dX1_mostPointsOf_3 (by decide) rfl ?_
  refine p_iconst G rfl dX1_mostPointsOf_4 ?_
  refine p_istoreU (lv' := [(5, .int (zJ (0 : Int))), (3, .long p0), (2, .int (zJ (0 : Int))), (0, .long p0)]) G dX1_mostPointsOf_5 (by decide) rfl ?_
  refine p_lv [2, 1, 0] rfl ?_
  obtain ⟨e9, hl7, h⟩ := bnd_some h
  have hX7_44 : ∀ (v10 : Int), v10 = e9 → PT Γ 6 shN 44 σ [(2, .int (zJ v10))] [] := by
    intro v10 he
    subst he
    refine p_iload_n G rfl 0 rfl dX1_mostPointsOf_44 ?_
    (cases h; exact p_iret G hR dX1_mostPointsOf_45 rfl rfl)
  refine lup_walk (s := ((0 : Int), p0, (0 : Int))) (At := fun s : Int × Int64 × Int => PT Γ 6 shN 7 σ [(2, .int (zJ s.1)), (3, .long s.2.1), (5, .int (zJ s.2.2))] []) (fun s r hf hin7 hout7 => ?_) hl7
  obtain ⟨u2_7, u3_7, u5_7⟩ := s
  have h : x_X1_mostPointsOf_b7 u2_7 u3_7 u5_7 = some r := hf
  clear hf
  unfold x_X1_mostPointsOf_b7 at h
  refine (?_ : PT Γ 6 shN 7 σ [(2, .int (zJ u2_7)), (3, .long u3_7), (5, .int (zJ u5_7))] [])
  refine p_iload G 2 rfl dX1_mostPointsOf_7 ?_
  refine p_bipush G (by decide) (by decide) dX1_mostPointsOf_9 ?_
  refine p_icmpge (tgt := 44) G dX1_mostPointsOf_11 (by decide) h (fun c7 h => ?_) (fun c7 h => ?_)
  · refine p_lv [0] rfl ?_
    have he := hout7 _ (Option.some.inj h).symm
    subst he
    exact hX7_44 _ rfl
  · refine p_lload_n G rfl 1 rfl dX1_mostPointsOf_14 ?_
    refine p_lconst G (v := 0) (by decide) dX1_mostPointsOf_15 ?_
    refine p_lcmp G dX1_mostPointsOf_16 ?_
    refine p_ifeq (tgt := 44) G dX1_mostPointsOf_17 (by decide) h (fun c6 h => ?_) (fun c6 h => ?_)
    · refine p_lv [0] rfl ?_
      have he := hout7 _ (Option.some.inj h).symm
      subst he
      exact hX7_44 _ rfl
    · refine p_iload_n G rfl 0 rfl dX1_mostPointsOf_20 ?_
      refine p_lload_n G rfl 1 rfl dX1_mostPointsOf_21 ?_
      obtain ⟨v1, hc, h⟩ := bnd_some h
      refine p_callS0 G dX1_mostPointsOf_22 lk_X1_105 (c_X6_lowestOf (gl Γ) hc) (As := [.long u3_7]) rfl zk_1 rfl (Nat.le_of_ble_eq_true rfl) ⟨rfl, rfl, Nat.le_of_ble_eq_true rfl, Nat.le_of_ble_eq_true rfl⟩ hcs ?_
      obtain ⟨v2, hc, h⟩ := bnd_some h
      refine p_callS0 G dX1_mostPointsOf_25 lk_X1_115 (c_X6_pointsFor (gl Γ) hc) (As := [.int (zJ v1)]) rfl zk_1 rfl (Nat.le_of_ble_eq_true rfl) ⟨rfl, rfl, Nat.le_of_ble_eq_true rfl, Nat.le_of_ble_eq_true rfl⟩ hcs ?_
      refine p_zmax G gm_786 gm_787 gm_103 gm_788 (by decide) (by decide) hcs dX1_mostPointsOf_28 ?_
      refine p_istore_n (lv' := fun v3 => [(2, .int (zJ v3)), (3, .long u3_7), (5, .int (zJ u5_7))]) G rfl dX1_mostPointsOf_31 h (by decide) (fun _ => rfl) (fun v3 h => ?_)
      refine p_lload_n G rfl 1 rfl dX1_mostPointsOf_32 ?_
      refine p_lload_n G rfl 1 rfl dX1_mostPointsOf_33 ?_
      refine p_lconst G (v := 1) (by decide) dX1_mostPointsOf_34 ?_
      refine p_lsub G dX1_mostPointsOf_35 ?_
      refine p_land G dX1_mostPointsOf_36 ?_
      refine p_lstore_n (lv' := fun v4 => [(3, .long v4), (2, .int (zJ v3)), (5, .int (zJ u5_7))]) G rfl dX1_mostPointsOf_37 h (by decide) (fun _ => rfl) (fun v4 h => ?_)
      refine p_iinc (lv' := fun v5 => [(5, .int (zJ v5)), (3, .long v4), (2, .int (zJ v3))]) G dX1_mostPointsOf_38 h 2 rfl (by decide) (fun _ => rfl) (fun v5 h => ?_)
      refine p_goto (tgt := 7) G dX1_mostPointsOf_41 (by decide) ?_
      refine p_lv [2, 1, 0] rfl ?_
      exact hin7 _ (Option.some.inj h).symm
set_option maxHeartbeats 4000000 in
set_option maxRecDepth 100000 in
theorem s_X1_searchDrop (R : Mm → Int → Int64 → Int → Option (Mm)) (n : Nat) (IH : ∀ (l : Launch) {D : va_G} {yy : Nat → ClassId} {tk tv a : Nat → Nat} {σ : Mm} {p1 : Int} {p2 : Int64} {p4 : Int} {o : Mm} (h : R σ p1 p2 p4 = some o), CT l yX1_searchDrop cX1_searchDrop 7 none (rm_X1_searchDrop n) shL D yy tk tv a σ [.ref (a 0), .int (zJ p1), .long p2, .int (zJ p4)] o none) (l : Launch) {D : va_G} {yy : Nat → ClassId} {tk tv a : Nat → Nat} {σ : Mm} {p1 : Int} {p2 : Int64} {p4 : Int} {o : Mm} (h : x_X1_searchDrop_1 R σ p1 p2 p4 = some o) : CT l yX1_searchDrop cX1_searchDrop 7 none (rm_X1_searchDrop (n + 1)) shL D yy tk tv a σ [.ref (a 0), .int (zJ p1), .long p2, .int (zJ p4)] o none := by
  refine ct_of (Ar := fun a tk => [.ref (a 0), .int (zJ p1), .long p2, .int (zJ p4)]) (by decide) (Nat.le_of_ble_eq_true rfl) (fun Γ G _ _ hR => ?_)
  have hcs := rt_cs hR
  unfold x_X1_searchDrop_1 at h
  refine (?_ : PT Γ 7 shL 0 σ [(0, .ref (ga Γ 0)), (1, .int (zJ p1)), (2, .long p2), (4, .int (zJ p4))] [])
  have j77 : ∀ (σ_77 : Mm) (v2_77 : Int64), x_X1_searchDrop_j77 R σ_77 v2_77 = some o → PT Γ 7 shL 77 σ_77 [(0, .ref (ga Γ 0)), (2, .long v2_77)] [] := by
    intro σ_77 v2_77 h
    unfold x_X1_searchDrop_j77 at h
    refine p_aload_n G rfl 0 rfl dX1_searchDrop_77 ?_
    refine p_get G dX1_searchDrop_78 fl_X1_76 (k := 0) rfl rfl ?_
    refine p_lload_n G rfl 1 rfl dX1_searchDrop_81 ?_
    refine p_ldc2 G gm_611 dX1_searchDrop_82 ?_
    refine p_lxor G dX1_searchDrop_85 ?_
    refine p_land G dX1_searchDrop_86 ?_
    obtain ⟨v13, hc, h⟩ := bnd_some h
    refine p_callS0 G dX1_searchDrop_87 lk_X1_112 (c_X1_mostPointsOf (gl Γ) hc) (As := [.long ((zL (σ_77 0 12)) &&& (v2_77 ^^^ (-1 : Int64)))]) rfl zk_2 rfl (Nat.le_of_ble_eq_true rfl) (by refine ⟨rfl, rfl, ?_, ?_⟩ <;> simp only [rm_X1_searchDrop, rm_X1_mostPointsOf] <;> omega) hcs ?_
    refine p_istoreU (lv' := [(5, .int (zJ v13)), (0, .ref (ga Γ 0)), (2, .long v2_77)]) G dX1_searchDrop_90 (by decide) rfl ?_
    refine p_aload_n G rfl 1 rfl dX1_searchDrop_92 ?_
    refine p_get G dX1_searchDrop_93 fl_X1_69 (k := 0) rfl rfl ?_
    refine p_lload_n G rfl 2 rfl dX1_searchDrop_96 ?_
    refine p_ldc2 G gm_611 dX1_searchDrop_97 ?_
    refine p_lxor G dX1_searchDrop_100 ?_
    refine p_land G dX1_searchDrop_101 ?_
    obtain ⟨v14, hc, h⟩ := bnd_some h
    refine p_callS0 G dX1_searchDrop_102 lk_X1_43 (c_X6_pointsOf (gl Γ) hc) (As := [.long ((zL (σ_77 0 11)) &&& (v2_77 ^^^ (-1 : Int64)))]) rfl zk_2 rfl (Nat.le_of_ble_eq_true rfl) (by refine ⟨rfl, rfl, ?_, ?_⟩ <;> simp only [rm_X1_searchDrop, rm_X6_pointsOf] <;> omega) hcs ?_
    refine p_iload G 0 rfl dX1_searchDrop_105 ?_
    refine p_isub G dX1_searchDrop_107 ?_
    refine p_istore (lv' := fun v15 => [(6, .int (zJ v15)), (5, .int (zJ v13)), (0, .ref (ga Γ 0)), (2, .long v2_77)]) G dX1_searchDrop_108 h (by decide) (fun _ => rfl) (fun v15 h => ?_)
    refine p_iload G 1 rfl dX1_searchDrop_110 ?_
    refine p_ifle (tgt := 138) G dX1_searchDrop_112 (by decide) h (fun c20 h => ?_) (fun c20 h => ?_)
    · (cases h; exact p_vret G hR dX1_searchDrop_138 rfl rfl)
    · refine p_aload_n G rfl 2 rfl dX1_searchDrop_115 ?_
      refine p_get G dX1_searchDrop_116 fl_X1_79 (k := 0) rfl rfl ?_
      refine p_iconst G rfl dX1_searchDrop_119 ?_
      refine p_icmpeq (tgt := 132) G dX1_searchDrop_120 (by decide) h (fun c19 h => ?_) (fun c19 h => ?_)
      · refine p_aload_n G rfl 2 rfl dX1_searchDrop_132 ?_
        refine p_iload G 0 rfl dX1_searchDrop_133 ?_
        refine p_putI G dX1_searchDrop_135 fp_X1_79 (k := 0) rfl rfl rfl rfl h (fun σ16 h => ?_)
        (cases h; exact p_vret G hR dX1_searchDrop_138 rfl rfl)
      · refine p_iload G 0 rfl dX1_searchDrop_123 ?_
        refine p_aload_n G rfl 2 rfl dX1_searchDrop_125 ?_
        refine p_get G dX1_searchDrop_126 fl_X1_79 (k := 0) rfl rfl ?_
        refine p_icmpge (tgt := 138) G dX1_searchDrop_129 (by decide) h (fun c18 h => ?_) (fun c18 h => ?_)
        · (cases h; exact p_vret G hR dX1_searchDrop_138 rfl rfl)
        · refine p_aload_n G rfl 2 rfl dX1_searchDrop_132 ?_
          refine p_iload G 0 rfl dX1_searchDrop_133 ?_
          refine p_putI G dX1_searchDrop_135 fp_X1_79 (k := 0) rfl rfl rfl rfl h (fun σ17 h => ?_)
          (cases h; exact p_vret G hR dX1_searchDrop_138 rfl rfl)
  refine p_iload G 3 rfl dX1_searchDrop_0 ?_
  refine p_iflt (tgt := 11) G dX1_searchDrop_2 (by decide) h (fun c22 h => ?_) (fun c22 h => ?_)
  · (cases h; exact p_vret G hR dX1_searchDrop_11 rfl rfl)
  · refine p_iload G 3 rfl dX1_searchDrop_5 ?_
    refine p_iconst G rfl dX1_searchDrop_7 ?_
    refine p_icmple (tgt := 12) G dX1_searchDrop_8 (by decide) h (fun c21 h => ?_) (fun c21 h => ?_)
    · refine p_iload_n G rfl 1 rfl dX1_searchDrop_12 ?_
      refine p_istoreU (lv' := [(5, .int (zJ p1)), (0, .ref (ga Γ 0)), (1, .int (zJ p1)), (2, .long p2), (4, .int (zJ p4))]) G dX1_searchDrop_13 (by decide) rfl ?_
      refine p_lv [1, 3, 4, 0] rfl ?_
      obtain ⟨e11, hl15, h⟩ := bnd_some h
      have hX15_77 : ∀ (σ12 : Mm), σ12 = e11 → PT Γ 7 shL 77 σ12 [(0, .ref (ga Γ 0)), (2, .long p2)] [] := by
        intro σ12 he
        subst he
        exact j77 _ _ h
      refine lup_walk (s := (σ, p1)) (At := fun s : Mm × Int => PT Γ 7 shL 15 s.1 [(0, .ref (ga Γ 0)), (2, .long p2), (4, .int (zJ p4)), (5, .int (zJ s.2))] []) (fun s r hf hin15 hout15 => ?_) hl15
      obtain ⟨σ15, u5_15⟩ := s
      have h : x_X1_searchDrop_b15 R p2 p4 σ15 u5_15 = some r := hf
      clear hf
      unfold x_X1_searchDrop_b15 at h
      refine (?_ : PT Γ 7 shL 15 σ15 [(0, .ref (ga Γ 0)), (2, .long p2), (4, .int (zJ p4)), (5, .int (zJ u5_15))] [])
      refine p_iload G 3 rfl dX1_searchDrop_15 ?_
      refine p_iflt (tgt := 77) G dX1_searchDrop_17 (by decide) h (fun c9 h => ?_) (fun c9 h => ?_)
      · refine p_lv [0, 1] rfl ?_
        have he := hout15 _ (Option.some.inj h).symm
        subst he
        exact hX15_77 _ rfl
      · refine p_iload G 3 rfl dX1_searchDrop_20 ?_
        refine p_aload_n G rfl 0 rfl dX1_searchDrop_22 ?_
        refine p_get G dX1_searchDrop_23 fl_X1_35 (k := 0) rfl rfl ?_
        refine p_icmpge (tgt := 77) G dX1_searchDrop_26 (by decide) h (fun c8 h => ?_) (fun c8 h => ?_)
        · refine p_lv [0, 1] rfl ?_
          have he := hout15 _ (Option.some.inj h).symm
          subst he
          exact hX15_77 _ rfl
        · refine p_iload G 3 rfl dX1_searchDrop_29 ?_
          refine p_bipush G (by decide) (by decide) dX1_searchDrop_31 ?_
          refine p_icmpge (tgt := 77) G dX1_searchDrop_33 (by decide) h (fun c7 h => ?_) (fun c7 h => ?_)
          · refine p_lv [0, 1] rfl ?_
            have he := hout15 _ (Option.some.inj h).symm
            subst he
            exact hX15_77 _ rfl
          · refine p_aload_n G rfl 0 rfl dX1_searchDrop_36 ?_
            refine p_get G dX1_searchDrop_37 fl_X1_11 (k := 0) rfl rfl ?_
            refine p_iload G 3 rfl dX1_searchDrop_40 ?_
            refine p_lald G dX1_searchDrop_42 (k := 1) rfl (zt_c _) h (fun c1 h => ?_)
            refine p_lload_n G rfl 1 rfl dX1_searchDrop_43 ?_
            refine p_land G dX1_searchDrop_44 ?_
            refine p_lconst G (v := 0) (by decide) dX1_searchDrop_45 ?_
            refine p_lcmp G dX1_searchDrop_46 ?_
            refine p_ifne (tgt := 71) G dX1_searchDrop_47 (by decide) h (fun c6 h => ?_) (fun c6 h => ?_)
            · refine p_iinc (lv' := fun v2 => [(5, .int (zJ v2)), (0, .ref (ga Γ 0)), (2, .long p2), (4, .int (zJ p4))]) G dX1_searchDrop_71 h 3 rfl (by decide) (fun _ => rfl) (fun v2 h => ?_)
              refine p_goto (tgt := 15) G dX1_searchDrop_74 (by decide) ?_
              refine p_lv [1, 2, 3, 0] rfl ?_
              exact hin15 _ (Option.some.inj h).symm
            · refine p_aload_n G rfl 0 rfl dX1_searchDrop_50 ?_
              refine p_iload G 3 rfl dX1_searchDrop_51 ?_
              refine p_iconst G rfl dX1_searchDrop_53 ?_
              refine p_iadd G dX1_searchDrop_54 ?_
              refine p_lload_n G rfl 1 rfl dX1_searchDrop_55 ?_
              refine p_aload_n G rfl 0 rfl dX1_searchDrop_56 ?_
              refine p_get G dX1_searchDrop_57 fl_X1_11 (k := 0) rfl rfl ?_
              refine p_iload G 3 rfl dX1_searchDrop_60 ?_
              refine p_lald G dX1_searchDrop_62 (k := 1) rfl (zt_c _) h (fun c3 h => ?_)
              refine p_lor G dX1_searchDrop_63 ?_
              refine p_iload G 2 rfl dX1_searchDrop_64 ?_
              refine p_iconst G rfl dX1_searchDrop_66 ?_
              refine p_iadd G dX1_searchDrop_67 ?_
              obtain ⟨σ4, hc, h⟩ := bnd_some h
              refine p_callVi G dX1_searchDrop_68 lk_X1_82 (IH (gl Γ) hc) (As := [.int (zJ (u5_15 + (1 : Int))), .long (p2 ||| (zL (σ15 1 (zix u5_15)))), .int (zJ (p4 + (1 : Int)))]) (ci := 1) rfl rfl rfl rfl (Nat.le_of_ble_eq_true rfl) (by refine ⟨rfl, rfl, ?_, ?_⟩ <;> simp only [rm_X1_searchDrop, rm_X1_searchDrop] <;> omega) hcs ?_
              refine p_iinc (lv' := fun v5 => [(5, .int (zJ v5)), (0, .ref (ga Γ 0)), (2, .long p2), (4, .int (zJ p4))]) G dX1_searchDrop_71 h 3 rfl (by decide) (fun _ => rfl) (fun v5 h => ?_)
              refine p_goto (tgt := 15) G dX1_searchDrop_74 (by decide) ?_
              refine p_lv [1, 2, 3, 0] rfl ?_
              exact hin15 _ (Option.some.inj h).symm
    · (cases h; exact p_vret G hR dX1_searchDrop_11 rfl rfl)
theorem c_X1_searchDrop : ∀ (d : Nat) (l : Launch) {D : va_G} {yy : Nat → ClassId} {tk tv a : Nat → Nat} {σ : Mm} {p1 : Int} {p2 : Int64} {p4 : Int} {o : Mm} (h : x_X1_searchDrop d σ p1 p2 p4 = some o), CT l yX1_searchDrop cX1_searchDrop 7 none (rm_X1_searchDrop d) shL D yy tk tv a σ [.ref (a 0), .int (zJ p1), .long p2, .int (zJ p4)] o none
  | 0, _, _, _, _, _, _, _, _, _, _, _, h => by cases h
  | n + 1, l, D, yy, tk, tv, a, _, _, _, _, _, h => s_X1_searchDrop (x_X1_searchDrop n) n (fun l {_} {_} {_} {_} {_} {_} {_} {_} {_} {_} h => c_X1_searchDrop n l h) l h
set_option maxHeartbeats 4000000 in
set_option maxRecDepth 100000 in
theorem c_X1_restBehindDrop (l : Launch) {D : va_G} {yy : Nat → ClassId} {tk tv a : Nat → Nat} {σ : Mm} {p1 : Int64} {p3 : Int} {o : Mm × Int} (h : x_X1_restBehindDrop σ p1 p3 = some o) : CT l yX1_restBehindDrop cX1_restBehindDrop 4 (some .int) rm_X1_restBehindDrop shL D yy tk tv a σ [.ref (a 0), .long p1, .int (zJ p3)] o.1 (some (.int (zJ o.2))) := by
  refine ct_of (Ar := fun a tk => [.ref (a 0), .long p1, .int (zJ p3)]) (by decide) (Nat.le_of_ble_eq_true rfl) (fun Γ G _ _ hR => ?_)
  have hcs := rt_cs hR
  unfold x_X1_restBehindDrop at h
  refine (?_ : PT Γ 4 shL 0 σ [(0, .ref (ga Γ 0)), (1, .long p1), (3, .int (zJ p3))] [])
  refine p_aload_n G rfl 0 rfl dX1_restBehindDrop_0 ?_
  refine p_lload_n G rfl 1 rfl dX1_restBehindDrop_1 ?_
  obtain ⟨σ1, hc, h⟩ := bnd_some h
  refine p_callVi G dX1_restBehindDrop_2 lk_X1_31 (c_X1_collect (gl Γ) hc) (As := [.long p1]) (ci := 1) rfl rfl rfl rfl (Nat.le_of_ble_eq_true rfl) ⟨rfl, rfl, Nat.le_of_ble_eq_true rfl, Nat.le_of_ble_eq_true rfl⟩ hcs ?_
  refine p_aload_n G rfl 0 rfl dX1_restBehindDrop_5 ?_
  refine p_lload_n G rfl 1 rfl dX1_restBehindDrop_6 ?_
  refine p_putL G dX1_restBehindDrop_7 fp_X1_69 (k := 0) rfl rfl rfl rfl h (fun σ2 h => ?_)
  refine p_aload_n G rfl 0 rfl dX1_restBehindDrop_10 ?_
  refine p_lload_n G rfl 1 rfl dX1_restBehindDrop_11 ?_
  refine p_iload_n G rfl 2 rfl dX1_restBehindDrop_12 ?_
  obtain ⟨v3, hc, h⟩ := bnd_some h
  refine p_callS0 G dX1_restBehindDrop_13 lk_X1_72 (c_X6_bitOf (gl Γ) hc) (As := [.int (zJ p3)]) rfl zk_2 rfl (Nat.le_of_ble_eq_true rfl) ⟨rfl, rfl, Nat.le_of_ble_eq_true rfl, Nat.le_of_ble_eq_true rfl⟩ hcs ?_
  refine p_ldc2 G gm_611 dX1_restBehindDrop_16 ?_
  refine p_lxor G dX1_restBehindDrop_19 ?_
  refine p_land G dX1_restBehindDrop_20 ?_
  refine p_putL G dX1_restBehindDrop_21 fp_X1_76 (k := 0) rfl rfl rfl rfl h (fun σ4 h => ?_)
  refine p_aload_n G rfl 0 rfl dX1_restBehindDrop_24 ?_
  refine p_iconst G rfl dX1_restBehindDrop_25 ?_
  refine p_putI G dX1_restBehindDrop_26 fp_X1_79 (k := 0) rfl rfl rfl rfl h (fun σ5 h => ?_)
  refine p_aload_n G rfl 0 rfl dX1_restBehindDrop_29 ?_
  refine p_iconst G rfl dX1_restBehindDrop_30 ?_
  refine p_lconst G (v := 0) (by decide) dX1_restBehindDrop_31 ?_
  refine p_iconst G rfl dX1_restBehindDrop_32 ?_
  obtain ⟨σ6, hc, h⟩ := bnd_some h
  refine p_callVi G dX1_restBehindDrop_33 lk_X1_82 (c_X1_searchDrop 6 (gl Γ) hc) (As := [.int (zJ (0 : Int)), .long (0 : Int64), .int (zJ (0 : Int))]) (ci := 1) rfl rfl rfl rfl (Nat.le_of_ble_eq_true rfl) ⟨rfl, rfl, Nat.le_of_ble_eq_true rfl, Nat.le_of_ble_eq_true rfl⟩ hcs ?_
  refine p_aload_n G rfl 0 rfl dX1_restBehindDrop_36 ?_
  refine p_get G dX1_restBehindDrop_37 fl_X1_79 (k := 0) rfl rfl ?_
  (cases h; exact p_iret G hR dX1_restBehindDrop_40 rfl rfl)
set_option maxHeartbeats 4000000 in
set_option maxRecDepth 100000 in
theorem c_X1_foundAt (l : Launch) {D : va_G} {yy : Nat → ClassId} {tk tv a : Nat → Nat} {σ : Mm} {p1 : Int} {o : Int64} (h : x_X1_foundAt σ p1 = some o) : CT l yX1_foundAt cX1_foundAt 2 (some .long) rm_X1_foundAt shL D yy tk tv a σ [.ref (a 0), .int (zJ p1)] σ (some (.long o)) := by
  refine ct_of (Ar := fun a tk => [.ref (a 0), .int (zJ p1)]) (by decide) (Nat.le_of_ble_eq_true rfl) (fun Γ G _ _ hR => ?_)
  have hcs := rt_cs hR
  unfold x_X1_foundAt at h
  refine (?_ : PT Γ 2 shL 0 σ [(0, .ref (ga Γ 0)), (1, .int (zJ p1))] [])
  refine p_iload_n G rfl 1 rfl dX1_foundAt_0 ?_
  refine p_iflt (tgt := 30) G dX1_foundAt_1 (by decide) h (fun c4 h => ?_) (fun c4 h => ?_)
  · refine p_lconst G (v := 0) (by decide) dX1_foundAt_30 ?_
    (cases h; exact p_lret G hR dX1_foundAt_31 rfl rfl)
  · refine p_iload_n G rfl 1 rfl dX1_foundAt_4 ?_
    refine p_aload_n G rfl 0 rfl dX1_foundAt_5 ?_
    refine p_get G dX1_foundAt_6 fl_X1_50 (k := 0) rfl rfl ?_
    refine p_icmpge (tgt := 30) G dX1_foundAt_9 (by decide) h (fun c3 h => ?_) (fun c3 h => ?_)
    · refine p_lconst G (v := 0) (by decide) dX1_foundAt_30 ?_
      (cases h; exact p_lret G hR dX1_foundAt_31 rfl rfl)
    · refine p_iload_n G rfl 1 rfl dX1_foundAt_12 ?_
      refine p_aload_n G rfl 0 rfl dX1_foundAt_13 ?_
      refine p_get G dX1_foundAt_14 fl_X1_28 (k := 0) rfl rfl ?_
      refine p_alen G dX1_foundAt_17 (k := 6) (kd := 1) rfl (by decide) (by decide) ?_
      refine p_icmpge (tgt := 30) G dX1_foundAt_18 (by decide) h (fun c2 h => ?_) (fun c2 h => ?_)
      · refine p_lconst G (v := 0) (by decide) dX1_foundAt_30 ?_
        (cases h; exact p_lret G hR dX1_foundAt_31 rfl rfl)
      · refine p_aload_n G rfl 0 rfl dX1_foundAt_21 ?_
        refine p_get G dX1_foundAt_22 fl_X1_28 (k := 0) rfl rfl ?_
        refine p_iload_n G rfl 1 rfl dX1_foundAt_25 ?_
        refine p_lald G dX1_foundAt_26 (k := 6) rfl (zt_c _) h (fun c1 h => ?_)
        refine p_goto (tgt := 31) G dX1_foundAt_27 (by decide) ?_
        (cases h; exact p_lret G hR dX1_foundAt_31 rfl rfl)
set_option maxHeartbeats 4000000 in
set_option maxRecDepth 100000 in
theorem c_X6_has (l : Launch) {D : va_G} {yy : Nat → ClassId} {tk tv a : Nat → Nat} {σ : Mm} {p0 : Int64} {p2 : Int} {o : Int} (h : x_X6_has p0 p2 = some o) : CT l yX6_has cX6_has 3 (some .boolean) rm_X6_has shN D yy tk tv a σ [.long p0, .int (zJ p2)] σ (some (.int (zJ o))) := by
  refine ct_of (Ar := fun a tk => [.long p0, .int (zJ p2)]) (by decide) (Nat.le_of_ble_eq_true rfl) (fun Γ G _ _ hR => ?_)
  have hcs := rt_cs hR
  unfold x_X6_has at h
  refine (?_ : PT Γ 3 shN 0 σ [(0, .long p0), (2, .int (zJ p2))] [])
  refine p_lload_n G rfl 0 rfl dX6_has_0 ?_
  refine p_iload_n G rfl 1 rfl dX6_has_1 ?_
  obtain ⟨v1, hc, h⟩ := bnd_some h
  refine p_callS0 G dX6_has_2 lk_X6_281 (c_X6_bitOf (gl Γ) hc) (As := [.int (zJ p2)]) rfl zk_1 rfl (Nat.le_of_ble_eq_true rfl) ⟨rfl, rfl, Nat.le_of_ble_eq_true rfl, Nat.le_of_ble_eq_true rfl⟩ hcs ?_
  refine p_land G dX6_has_5 ?_
  refine p_lconst G (v := 0) (by decide) dX6_has_6 ?_
  refine p_lcmp G dX6_has_7 ?_
  refine p_ifeq (tgt := 15) G dX6_has_8 (by decide) h (fun c2 h => ?_) (fun c2 h => ?_)
  · refine p_iconst G rfl dX6_has_15 ?_
    (cases h; exact p_zret G hR dX6_has_16 (by decide) rfl rfl)
  · refine p_iconst G rfl dX6_has_11 ?_
    refine p_goto (tgt := 16) G dX6_has_12 (by decide) ?_
    (cases h; exact p_zret G hR dX6_has_16 (by decide) rfl rfl)
set_option maxHeartbeats 4000000 in
set_option maxRecDepth 100000 in
theorem c_X1_indexOf (l : Launch) {D : va_G} {yy : Nat → ClassId} {tk tv a : Nat → Nat} {σ : Mm} {p1 : Int} {o : Int} (h : x_X1_indexOf σ p1 = some o) : CT l yX1_indexOf cX1_indexOf 3 (some .int) rm_X1_indexOf shL D yy tk tv a σ [.ref (a 0), .int (zJ p1)] σ (some (.int (zJ o))) := by
  refine ct_of (Ar := fun a tk => [.ref (a 0), .int (zJ p1)]) (by decide) (Nat.le_of_ble_eq_true rfl) (fun Γ G _ _ hR => ?_)
  have hcs := rt_cs hR
  unfold x_X1_indexOf at h
  refine (?_ : PT Γ 3 shL 0 σ [(0, .ref (ga Γ 0)), (1, .int (zJ p1))] [])
  refine p_iconst G rfl dX1_indexOf_0 ?_
  refine p_istore_nU (lv' := [(2, .int (zJ (0 : Int))), (0, .ref (ga Γ 0)), (1, .int (zJ p1))]) G rfl dX1_indexOf_1 (by decide) rfl ?_
  refine p_lv [1, 2, 0] rfl ?_
  obtain ⟨e7, hl2, h⟩ := bnd_some h
  have hX2_22 : ∀ (v8 : Int), (.inl v8) = e7 → PT Γ 3 shL 22 σ [(2, .int (zJ v8))] [] := by
    intro v8 he
    subst he
    rw [zel_l] at h
    refine p_iload_n G rfl 0 rfl dX1_indexOf_22 ?_
    (cases h; exact p_iret G hR dX1_indexOf_23 rfl rfl)
  have hX2_30 : ∀ (_ : Unit), (.inr ()) = e7 → PT Γ 3 shL 30 σ [] [] := by
    intro _ he
    subst he
    rw [zel_r] at h
    refine p_iconst G rfl dX1_indexOf_30 ?_
    (cases h; exact p_iret G hR dX1_indexOf_31 rfl rfl)
  refine lup_walk (s := (0 : Int)) (At := fun s : Int => PT Γ 3 shL 2 σ [(0, .ref (ga Γ 0)), (1, .int (zJ p1)), (2, .int (zJ s))] []) (fun u2_2 r hf hin2 hout2 => ?_) hl2
  have h : x_X1_indexOf_b2 σ p1 u2_2 = some r := hf
  clear hf
  unfold x_X1_indexOf_b2 at h
  refine (?_ : PT Γ 3 shL 2 σ [(0, .ref (ga Γ 0)), (1, .int (zJ p1)), (2, .int (zJ u2_2))] [])
  refine p_iload_n G rfl 2 rfl dX1_indexOf_2 ?_
  refine p_aload_n G rfl 0 rfl dX1_indexOf_3 ?_
  refine p_get G dX1_indexOf_4 fl_X1_50 (k := 0) rfl rfl ?_
  refine p_icmpge (tgt := 30) G dX1_indexOf_7 (by decide) h (fun c5 h => ?_) (fun c5 h => ?_)
  · refine p_lv [] rfl ?_
    have he := hout2 _ (Option.some.inj h).symm
    subst he
    exact hX2_30 () rfl
  · refine p_aload_n G rfl 0 rfl dX1_indexOf_10 ?_
    refine p_iload_n G rfl 2 rfl dX1_indexOf_11 ?_
    obtain ⟨v1, hc, h⟩ := bnd_some h
    refine p_callVi G dX1_indexOf_12 lk_X1_125 (c_X1_foundAt (gl Γ) hc) (As := [.int (zJ u2_2)]) (ci := 1) rfl rfl rfl rfl (Nat.le_of_ble_eq_true rfl) ⟨rfl, rfl, Nat.le_of_ble_eq_true rfl, Nat.le_of_ble_eq_true rfl⟩ hcs ?_
    refine p_iload_n G rfl 1 rfl dX1_indexOf_15 ?_
    obtain ⟨v2, hc, h⟩ := bnd_some h
    refine p_callS0 G dX1_indexOf_16 lk_X1_128 (c_X6_has (gl Γ) hc) (As := [.long v1, .int (zJ p1)]) rfl zk_2 rfl (Nat.le_of_ble_eq_true rfl) ⟨rfl, rfl, Nat.le_of_ble_eq_true rfl, Nat.le_of_ble_eq_true rfl⟩ hcs ?_
    refine p_ifeq (tgt := 24) G dX1_indexOf_19 (by decide) h (fun c4 h => ?_) (fun c4 h => ?_)
    · refine p_iinc (lv' := fun v3 => [(2, .int (zJ v3)), (0, .ref (ga Γ 0)), (1, .int (zJ p1))]) G dX1_indexOf_24 h 2 rfl (by decide) (fun _ => rfl) (fun v3 h => ?_)
      refine p_goto (tgt := 2) G dX1_indexOf_27 (by decide) ?_
      refine p_lv [1, 2, 0] rfl ?_
      exact hin2 _ (Option.some.inj h).symm
    · refine p_lv [2] rfl ?_
      have he := hout2 _ (Option.some.inj h).symm
      subst he
      exact hX2_22 _ rfl
set_option maxHeartbeats 4000000 in
set_option maxRecDepth 100000 in
theorem c_X6_beginningsOf (l : Launch) {D : va_G} {yy : Nat → ClassId} {tk tv a : Nat → Nat} {σ : Mm} {p0 : Int64} {o : Int64} (h : x_X6_beginningsOf p0 = some o) : CT l yX6_beginningsOf cX6_beginningsOf 4 (some .long) rm_X6_beginningsOf shN D yy tk tv a σ [.long p0] σ (some (.long o)) := by
  refine ct_of (Ar := fun a tk => [.long p0]) (by decide) (Nat.le_of_ble_eq_true rfl) (fun Γ G _ _ hR => ?_)
  have hcs := rt_cs hR
  unfold x_X6_beginningsOf at h
  refine (?_ : PT Γ 4 shN 0 σ [(0, .long p0)] [])
  refine p_lload_n G rfl 0 rfl dX6_beginningsOf_0 ?_
  refine p_iconst G rfl dX6_beginningsOf_1 ?_
  refine p_lshl G dX6_beginningsOf_2 ?_
  refine p_lload_n G rfl 0 rfl dX6_beginningsOf_3 ?_
  refine p_bipush G (by decide) (by decide) dX6_beginningsOf_4 ?_
  refine p_lushr G dX6_beginningsOf_6 ?_
  refine p_lor G dX6_beginningsOf_7 ?_
  refine p_ldc2 G gm_660 dX6_beginningsOf_8 ?_
  refine p_land G dX6_beginningsOf_11 ?_
  refine p_lstore_n (lv' := fun v1 => [(2, .long v1), (0, .long p0)]) G rfl dX6_beginningsOf_12 h (by decide) (fun _ => rfl) (fun v1 h => ?_)
  refine p_lload_n G rfl 1 rfl dX6_beginningsOf_13 ?_
  refine p_lload_n G rfl 0 rfl dX6_beginningsOf_14 ?_
  refine p_ldc2 G gm_659 dX6_beginningsOf_15 ?_
  refine p_lxor G dX6_beginningsOf_18 ?_
  refine p_land G dX6_beginningsOf_19 ?_
  (cases h; exact p_lret G hR dX6_beginningsOf_20 rfl rfl)
set_option maxHeartbeats 4000000 in
set_option maxRecDepth 100000 in
theorem c_X6_kindOf (l : Launch) {D : va_G} {yy : Nat → ClassId} {tk tv a : Nat → Nat} {σ : Mm} {p0 : Int64} {o : Int} (h : x_X6_kindOf p0 = some o) : CT l yX6_kindOf cX6_kindOf 4 (some .int) rm_X6_kindOf shN D yy tk tv a σ [.long p0] σ (some (.int (zJ o))) := by
  refine ct_of (Ar := fun a tk => [.long p0]) (by decide) (Nat.le_of_ble_eq_true rfl) (fun Γ G _ _ hR => ?_)
  have hcs := rt_cs hR
  unfold x_X6_kindOf at h
  refine (?_ : PT Γ 4 shN 0 σ [(0, .long p0)] [])
  refine p_lload_n G rfl 0 rfl dX6_kindOf_0 ?_
  obtain ⟨v1, hc, h⟩ := bnd_some h
  refine p_callS0 G dX6_kindOf_1 lk_X6_226 (c_J_Long_bitCount (gl Γ) hc) (As := [.long p0]) rfl zk_1 rfl (Nat.le_of_ble_eq_true rfl) ⟨rfl, rfl, Nat.le_of_ble_eq_true rfl, Nat.le_of_ble_eq_true rfl⟩ hcs ?_
  refine p_iconst G rfl dX6_kindOf_4 ?_
  refine p_icmpge (tgt := 10) G dX6_kindOf_5 (by decide) h (fun c9 h => ?_) (fun c9 h => ?_)
  · refine p_lload_n G rfl 0 rfl dX6_kindOf_10 ?_
    obtain ⟨v2, hc, h⟩ := bnd_some h
    refine p_callS0 G dX6_kindOf_11 lk_X6_250 (c_X6_lowestOf (gl Γ) hc) (As := [.long p0]) rfl zk_1 rfl (Nat.le_of_ble_eq_true rfl) ⟨rfl, rfl, Nat.le_of_ble_eq_true rfl, Nat.le_of_ble_eq_true rfl⟩ hcs ?_
    refine p_istore_nU (lv' := [(2, .int (zJ v2)), (0, .long p0)]) G rfl dX6_kindOf_14 (by decide) rfl ?_
    refine p_lload_n G rfl 1 rfl dX6_kindOf_15 ?_
    refine p_ldc2 G gm_658 dX6_kindOf_16 ?_
    refine p_iload_n G rfl 0 rfl dX6_kindOf_19 ?_
    refine p_bipush G (by decide) (by decide) dX6_kindOf_20 ?_
    refine p_iremK G dX6_kindOf_22 (by decide) ?_
    refine p_lshl G dX6_kindOf_23 ?_
    refine p_ldc2 G gm_659 dX6_kindOf_24 ?_
    refine p_lxor G dX6_kindOf_27 ?_
    refine p_land G dX6_kindOf_28 ?_
    refine p_lconst G (v := 0) (by decide) dX6_kindOf_29 ?_
    refine p_lcmp G dX6_kindOf_30 ?_
    refine p_ifne (tgt := 36) G dX6_kindOf_31 (by decide) h (fun c8 h => ?_) (fun c8 h => ?_)
    · refine p_iload_n G rfl 0 rfl dX6_kindOf_36 ?_
      refine p_bipush G (by decide) (by decide) dX6_kindOf_37 ?_
      refine p_idivK G dX6_kindOf_39 (by decide) ?_
      refine p_bipush G (by decide) (by decide) dX6_kindOf_40 ?_
      refine p_imul G dX6_kindOf_42 ?_
      refine p_istore_n (lv' := fun v3 => [(3, .int (zJ v3)), (2, .int (zJ v2)), (0, .long p0)]) G rfl dX6_kindOf_43 h (by decide) (fun _ => rfl) (fun v3 h => ?_)
      refine p_lload_n G rfl 2 rfl dX6_kindOf_44 ?_
      refine p_ldc2 G gm_660 dX6_kindOf_45 ?_
      refine p_iload_n G rfl 0 rfl dX6_kindOf_48 ?_
      refine p_lshl G dX6_kindOf_49 ?_
      refine p_ldc2 G gm_659 dX6_kindOf_50 ?_
      refine p_lxor G dX6_kindOf_53 ?_
      refine p_land G dX6_kindOf_54 ?_
      refine p_lconst G (v := 0) (by decide) dX6_kindOf_55 ?_
      refine p_lcmp G dX6_kindOf_56 ?_
      refine p_ifeq (tgt := 62) G dX6_kindOf_57 (by decide) h (fun c7 h => ?_) (fun c7 h => ?_)
      · refine p_lload_n G rfl 2 rfl dX6_kindOf_62 ?_
        refine p_iload_n G rfl 0 rfl dX6_kindOf_63 ?_
        refine p_lushr G dX6_kindOf_64 ?_
        obtain ⟨v4, hc, h⟩ := bnd_some h
        refine p_callS0 G dX6_kindOf_65 lk_X6_332 (c_X6_beginningsOf (gl Γ) hc) (As := [.long (zlushr p0 v3)]) rfl zk_1 rfl (Nat.le_of_ble_eq_true rfl) ⟨rfl, rfl, Nat.le_of_ble_eq_true rfl, Nat.le_of_ble_eq_true rfl⟩ hcs ?_
        obtain ⟨v5, hc, h⟩ := bnd_some h
        refine p_callS0 G dX6_kindOf_68 lk_X6_226 (c_J_Long_bitCount (gl Γ) hc) (As := [.long v4]) rfl zk_1 rfl (Nat.le_of_ble_eq_true rfl) ⟨rfl, rfl, Nat.le_of_ble_eq_true rfl, Nat.le_of_ble_eq_true rfl⟩ hcs ?_
        refine p_iconst G rfl dX6_kindOf_71 ?_
        refine p_icmpgt (tgt := 79) G dX6_kindOf_72 (by decide) h (fun c6 h => ?_) (fun c6 h => ?_)
        · refine p_iconst G rfl dX6_kindOf_79 ?_
          (cases h; exact p_iret G hR dX6_kindOf_80 rfl rfl)
        · refine p_iconst G rfl dX6_kindOf_75 ?_
          refine p_goto (tgt := 80) G dX6_kindOf_76 (by decide) ?_
          (cases h; exact p_iret G hR dX6_kindOf_80 rfl rfl)
      · refine p_iconst G rfl dX6_kindOf_60 ?_
        (cases h; exact p_iret G hR dX6_kindOf_61 rfl rfl)
    · refine p_iconst G rfl dX6_kindOf_34 ?_
      (cases h; exact p_iret G hR dX6_kindOf_35 rfl rfl)
  · refine p_iconst G rfl dX6_kindOf_8 ?_
    (cases h; exact p_iret G hR dX6_kindOf_9 rfl rfl)
set_option maxHeartbeats 4000000 in
set_option maxRecDepth 100000 in
theorem c_X1_countKind (l : Launch) {D : va_G} {yy : Nat → ClassId} {tk tv a : Nat → Nat} {σ : Mm} {p1 : Int} {o : Int} (h : x_X1_countKind σ p1 = some o) : CT l yX1_countKind cX1_countKind 4 (some .int) rm_X1_countKind shL D yy tk tv a σ [.ref (a 0), .int (zJ p1)] σ (some (.int (zJ o))) := by
  refine ct_of (Ar := fun a tk => [.ref (a 0), .int (zJ p1)]) (by decide) (Nat.le_of_ble_eq_true rfl) (fun Γ G _ _ hR => ?_)
  have hcs := rt_cs hR
  unfold x_X1_countKind at h
  refine (?_ : PT Γ 4 shL 0 σ [(0, .ref (ga Γ 0)), (1, .int (zJ p1))] [])
  refine p_iconst G rfl dX1_countKind_0 ?_
  refine p_istore_nU (lv' := [(2, .int (zJ (0 : Int))), (0, .ref (ga Γ 0)), (1, .int (zJ p1))]) G rfl dX1_countKind_1 (by decide) rfl ?_
  refine p_iconst G rfl dX1_countKind_2 ?_
  refine p_istore_nU (lv' := [(3, .int (zJ (0 : Int))), (2, .int (zJ (0 : Int))), (0, .ref (ga Γ 0)), (1, .int (zJ p1))]) G rfl dX1_countKind_3 (by decide) rfl ?_
  refine p_lv [2, 3, 1, 0] rfl ?_
  obtain ⟨e9, hl4, h⟩ := bnd_some h
  have hX4_33 : ∀ (v10 : Int), v10 = e9 → PT Γ 4 shL 33 σ [(2, .int (zJ v10))] [] := by
    intro v10 he
    subst he
    refine p_iload_n G rfl 0 rfl dX1_countKind_33 ?_
    (cases h; exact p_iret G hR dX1_countKind_34 rfl rfl)
  refine lup_walk (s := ((0 : Int), (0 : Int))) (At := fun s : Int × Int => PT Γ 4 shL 4 σ [(0, .ref (ga Γ 0)), (1, .int (zJ p1)), (2, .int (zJ s.1)), (3, .int (zJ s.2))] []) (fun s r hf hin4 hout4 => ?_) hl4
  obtain ⟨u2_4, u3_4⟩ := s
  have h : x_X1_countKind_b4 σ p1 u2_4 u3_4 = some r := hf
  clear hf
  unfold x_X1_countKind_b4 at h
  refine (?_ : PT Γ 4 shL 4 σ [(0, .ref (ga Γ 0)), (1, .int (zJ p1)), (2, .int (zJ u2_4)), (3, .int (zJ u3_4))] [])
  refine p_iload_n G rfl 3 rfl dX1_countKind_4 ?_
  refine p_aload_n G rfl 0 rfl dX1_countKind_5 ?_
  refine p_get G dX1_countKind_6 fl_X1_50 (k := 0) rfl rfl ?_
  refine p_icmpge (tgt := 33) G dX1_countKind_9 (by decide) h (fun c7 h => ?_) (fun c7 h => ?_)
  · refine p_lv [2] rfl ?_
    have he := hout4 _ (Option.some.inj h).symm
    subst he
    exact hX4_33 _ rfl
  · refine p_aload_n G rfl 0 rfl dX1_countKind_12 ?_
    refine p_iload_n G rfl 3 rfl dX1_countKind_13 ?_
    obtain ⟨v1, hc, h⟩ := bnd_some h
    refine p_callVi G dX1_countKind_14 lk_X1_125 (c_X1_foundAt (gl Γ) hc) (As := [.int (zJ u3_4)]) (ci := 1) rfl rfl rfl rfl (Nat.le_of_ble_eq_true rfl) ⟨rfl, rfl, Nat.le_of_ble_eq_true rfl, Nat.le_of_ble_eq_true rfl⟩ hcs ?_
    obtain ⟨v2, hc, h⟩ := bnd_some h
    refine p_callS0 G dX1_countKind_17 lk_X1_132 (c_X6_kindOf (gl Γ) hc) (As := [.long v1]) rfl zk_2 rfl (Nat.le_of_ble_eq_true rfl) ⟨rfl, rfl, Nat.le_of_ble_eq_true rfl, Nat.le_of_ble_eq_true rfl⟩ hcs ?_
    refine p_iload_n G rfl 1 rfl dX1_countKind_20 ?_
    refine p_icmpne (tgt := 27) G dX1_countKind_21 (by decide) h (fun c6 h => ?_) (fun c6 h => ?_)
    · refine p_iinc (lv' := fun v3 => [(3, .int (zJ v3)), (0, .ref (ga Γ 0)), (1, .int (zJ p1)), (2, .int (zJ u2_4))]) G dX1_countKind_27 h 3 rfl (by decide) (fun _ => rfl) (fun v3 h => ?_)
      refine p_goto (tgt := 4) G dX1_countKind_30 (by decide) ?_
      refine p_lv [1, 2, 3, 0] rfl ?_
      exact hin4 _ (Option.some.inj h).symm
    · refine p_iinc (lv' := fun v4 => [(2, .int (zJ v4)), (0, .ref (ga Γ 0)), (1, .int (zJ p1)), (3, .int (zJ u3_4))]) G dX1_countKind_24 h 2 rfl (by decide) (fun _ => rfl) (fun v4 h => ?_)
      refine p_iinc (lv' := fun v5 => [(3, .int (zJ v5)), (2, .int (zJ v4)), (0, .ref (ga Γ 0)), (1, .int (zJ p1))]) G dX1_countKind_27 h 3 rfl (by decide) (fun _ => rfl) (fun v5 h => ?_)
      refine p_goto (tgt := 4) G dX1_countKind_30 (by decide) ?_
      refine p_lv [2, 3, 1, 0] rfl ?_
      exact hin4 _ (Option.some.inj h).symm
set_option maxHeartbeats 4000000 in
set_option maxRecDepth 100000 in
theorem c_X6_firstOf (l : Launch) {D : va_G} {yy : Nat → ClassId} {tk tv a : Nat → Nat} {σ : Mm} {p0 : Int64} {o : Int} (h : x_X6_firstOf p0 = some o) : CT l yX6_firstOf cX6_firstOf 5 (some .int) rm_X6_firstOf shN D yy tk tv a σ [.long p0] σ (some (.int (zJ o))) := by
  refine ct_of (Ar := fun a tk => [.long p0]) (by decide) (Nat.le_of_ble_eq_true rfl) (fun Γ G _ _ hR => ?_)
  have hcs := rt_cs hR
  unfold x_X6_firstOf at h
  refine (?_ : PT Γ 5 shN 0 σ [(0, .long p0)] [])
  refine p_lload_n G rfl 0 rfl dX6_firstOf_0 ?_
  obtain ⟨v1, hc, h⟩ := bnd_some h
  refine p_callS0 G dX6_firstOf_1 lk_X6_250 (c_X6_lowestOf (gl Γ) hc) (As := [.long p0]) rfl zk_1 rfl (Nat.le_of_ble_eq_true rfl) ⟨rfl, rfl, Nat.le_of_ble_eq_true rfl, Nat.le_of_ble_eq_true rfl⟩ hcs ?_
  refine p_bipush G (by decide) (by decide) dX6_firstOf_4 ?_
  refine p_idivK G dX6_firstOf_6 (by decide) ?_
  refine p_bipush G (by decide) (by decide) dX6_firstOf_7 ?_
  refine p_imul G dX6_firstOf_9 ?_
  refine p_istore_n (lv' := fun v2 => [(2, .int (zJ v2)), (0, .long p0)]) G rfl dX6_firstOf_10 h (by decide) (fun _ => rfl) (fun v2 h => ?_)
  refine p_lload_n G rfl 1 rfl dX6_firstOf_11 ?_
  refine p_iload_n G rfl 0 rfl dX6_firstOf_12 ?_
  refine p_lushr G dX6_firstOf_13 ?_
  refine p_ldc2 G gm_660 dX6_firstOf_14 ?_
  refine p_land G dX6_firstOf_17 ?_
  obtain ⟨v3, hc, h⟩ := bnd_some h
  refine p_callS0 G dX6_firstOf_18 lk_X6_332 (c_X6_beginningsOf (gl Γ) hc) (As := [.long ((zlushr p0 v2) &&& (8191 : Int64))]) rfl zk_1 rfl (Nat.le_of_ble_eq_true rfl) ⟨rfl, rfl, Nat.le_of_ble_eq_true rfl, Nat.le_of_ble_eq_true rfl⟩ hcs ?_
  refine p_lstore_nU (lv' := [(3, .long v3), (2, .int (zJ v2)), (0, .long p0)]) G rfl dX6_firstOf_21 (by decide) rfl ?_
  refine p_lload_n G rfl 0 rfl dX6_firstOf_22 ?_
  refine p_lconst G (v := 0) (by decide) dX6_firstOf_23 ?_
  refine p_lcmp G dX6_firstOf_24 ?_
  refine p_ifne (tgt := 32) G dX6_firstOf_25 (by decide) h (fun c5 h => ?_) (fun c5 h => ?_)
  · refine p_iload_n G rfl 1 rfl dX6_firstOf_32 ?_
    refine p_lload_n G rfl 0 rfl dX6_firstOf_33 ?_
    obtain ⟨v4, hc, h⟩ := bnd_some h
    refine p_callS0 G dX6_firstOf_34 lk_X6_250 (c_X6_lowestOf (gl Γ) hc) (As := [.long v3]) rfl zk_1 rfl (Nat.le_of_ble_eq_true rfl) ⟨rfl, rfl, Nat.le_of_ble_eq_true rfl, Nat.le_of_ble_eq_true rfl⟩ hcs ?_
    refine p_iadd G dX6_firstOf_37 ?_
    (cases h; exact p_iret G hR dX6_firstOf_38 rfl rfl)
  · refine p_iload_n G rfl 1 rfl dX6_firstOf_28 ?_
    refine p_goto (tgt := 38) G dX6_firstOf_29 (by decide) ?_
    (cases h; exact p_iret G hR dX6_firstOf_38 rfl rfl)
set_option maxHeartbeats 4000000 in
set_option maxRecDepth 100000 in
theorem c_X1_countWrapped (l : Launch) {D : va_G} {yy : Nat → ClassId} {tk tv a : Nat → Nat} {σ : Mm} {o : Int} (h : x_X1_countWrapped σ = some o) : CT l yX1_countWrapped cX1_countWrapped 6 (some .int) rm_X1_countWrapped shL D yy tk tv a σ [.ref (a 0)] σ (some (.int (zJ o))) := by
  refine ct_of (Ar := fun a tk => [.ref (a 0)]) (by decide) (Nat.le_of_ble_eq_true rfl) (fun Γ G _ _ hR => ?_)
  have hcs := rt_cs hR
  unfold x_X1_countWrapped at h
  refine (?_ : PT Γ 6 shL 0 σ [(0, .ref (ga Γ 0))] [])
  refine p_iconst G rfl dX1_countWrapped_0 ?_
  refine p_istore_nU (lv' := [(1, .int (zJ (0 : Int))), (0, .ref (ga Γ 0))]) G rfl dX1_countWrapped_1 (by decide) rfl ?_
  refine p_iconst G rfl dX1_countWrapped_2 ?_
  refine p_istore_nU (lv' := [(2, .int (zJ (0 : Int))), (1, .int (zJ (0 : Int))), (0, .ref (ga Γ 0))]) G rfl dX1_countWrapped_3 (by decide) rfl ?_
  refine p_lv [2, 1, 0] rfl ?_
  obtain ⟨e16, hl4, h⟩ := bnd_some h
  have hX4_74 : ∀ (v17 : Int), v17 = e16 → PT Γ 6 shL 74 σ [(1, .int (zJ v17))] [] := by
    intro v17 he
    subst he
    refine p_iload_n G rfl 0 rfl dX1_countWrapped_74 ?_
    (cases h; exact p_iret G hR dX1_countWrapped_75 rfl rfl)
  refine lup_walk (s := ((0 : Int), (0 : Int))) (At := fun s : Int × Int => PT Γ 6 shL 4 σ [(0, .ref (ga Γ 0)), (1, .int (zJ s.1)), (2, .int (zJ s.2))] []) (fun s r hf hin4 hout4 => ?_) hl4
  obtain ⟨u1_4, u2_4⟩ := s
  have h : x_X1_countWrapped_b4 σ u1_4 u2_4 = some r := hf
  clear hf
  have j34 : ∀ (v1_34 : Int) (v2_34 : Int) (v3_34 : Int64) (w0_34 : Int), x_X1_countWrapped_j34_4 σ v1_34 v2_34 v3_34 w0_34 = some r → PT Γ 6 shL 34 σ [(0, .ref (ga Γ 0)), (1, .int (zJ v1_34)), (2, .int (zJ v2_34)), (3, .long v3_34)] [.int (zJ w0_34)] := by
    intro v1_34 v2_34 v3_34 w0_34 h
    unfold x_X1_countWrapped_j34_4 at h
    refine p_istoreU (lv' := [(5, .int (zJ w0_34)), (0, .ref (ga Γ 0)), (1, .int (zJ v1_34)), (2, .int (zJ v2_34)), (3, .long v3_34)]) G dX1_countWrapped_34 (by decide) rfl ?_
    refine p_iload G 0 rfl dX1_countWrapped_36 ?_
    refine p_iconst G rfl dX1_countWrapped_38 ?_
    refine p_icmpeq (tgt := 68) G dX1_countWrapped_39 (by decide) h (fun c11 h => ?_) (fun c11 h => ?_)
    · refine p_iinc (lv' := fun v3 => [(2, .int (zJ v3)), (5, .int (zJ w0_34)), (0, .ref (ga Γ 0)), (1, .int (zJ v1_34)), (3, .long v3_34)]) G dX1_countWrapped_68 h 3 rfl (by decide) (fun _ => rfl) (fun v3 h => ?_)
      refine p_goto (tgt := 4) G dX1_countWrapped_71 (by decide) ?_
      refine p_lv [2, 3, 0] rfl ?_
      exact hin4 _ (Option.some.inj h).symm
    · refine p_iload G 0 rfl dX1_countWrapped_42 ?_
      refine p_bipush G (by decide) (by decide) dX1_countWrapped_44 ?_
      refine p_iremK G dX1_countWrapped_46 (by decide) ?_
      refine p_ifle (tgt := 68) G dX1_countWrapped_47 (by decide) h (fun c10 h => ?_) (fun c10 h => ?_)
      · refine p_iinc (lv' := fun v4 => [(2, .int (zJ v4)), (5, .int (zJ w0_34)), (0, .ref (ga Γ 0)), (1, .int (zJ v1_34)), (3, .long v3_34)]) G dX1_countWrapped_68 h 3 rfl (by decide) (fun _ => rfl) (fun v4 h => ?_)
        refine p_goto (tgt := 4) G dX1_countWrapped_71 (by decide) ?_
        refine p_lv [2, 3, 0] rfl ?_
        exact hin4 _ (Option.some.inj h).symm
      · refine p_lload_n G rfl 4 rfl dX1_countWrapped_50 ?_
        refine p_iload G 0 rfl dX1_countWrapped_51 ?_
        refine p_bipush G (by decide) (by decide) dX1_countWrapped_53 ?_
        refine p_idivK G dX1_countWrapped_55 (by decide) ?_
        refine p_bipush G (by decide) (by decide) dX1_countWrapped_56 ?_
        refine p_imul G dX1_countWrapped_58 ?_
        obtain ⟨v5, hc, h⟩ := bnd_some h
        refine p_callS0 G dX1_countWrapped_59 lk_X1_128 (c_X6_has (gl Γ) hc) (As := [.long v3_34, .int (zJ ((zdiv w0_34 (13 : Int)) * (13 : Int)))]) rfl zk_2 rfl (Nat.le_of_ble_eq_true rfl) ⟨rfl, rfl, Nat.le_of_ble_eq_true rfl, Nat.le_of_ble_eq_true rfl⟩ hcs ?_
        refine p_ifeq (tgt := 68) G dX1_countWrapped_62 (by decide) h (fun c9 h => ?_) (fun c9 h => ?_)
        · refine p_iinc (lv' := fun v6 => [(2, .int (zJ v6)), (5, .int (zJ w0_34)), (0, .ref (ga Γ 0)), (1, .int (zJ v1_34)), (3, .long v3_34)]) G dX1_countWrapped_68 h 3 rfl (by decide) (fun _ => rfl) (fun v6 h => ?_)
          refine p_goto (tgt := 4) G dX1_countWrapped_71 (by decide) ?_
          refine p_lv [2, 3, 0] rfl ?_
          exact hin4 _ (Option.some.inj h).symm
        · refine p_iinc (lv' := fun v7 => [(1, .int (zJ v7)), (5, .int (zJ w0_34)), (0, .ref (ga Γ 0)), (2, .int (zJ v2_34)), (3, .long v3_34)]) G dX1_countWrapped_65 h 2 rfl (by decide) (fun _ => rfl) (fun v7 h => ?_)
          refine p_iinc (lv' := fun v8 => [(2, .int (zJ v8)), (1, .int (zJ v7)), (5, .int (zJ w0_34)), (0, .ref (ga Γ 0)), (3, .long v3_34)]) G dX1_countWrapped_68 h 3 rfl (by decide) (fun _ => rfl) (fun v8 h => ?_)
          refine p_goto (tgt := 4) G dX1_countWrapped_71 (by decide) ?_
          refine p_lv [3, 1, 0] rfl ?_
          exact hin4 _ (Option.some.inj h).symm
  unfold x_X1_countWrapped_b4 at h
  refine (?_ : PT Γ 6 shL 4 σ [(0, .ref (ga Γ 0)), (1, .int (zJ u1_4)), (2, .int (zJ u2_4))] [])
  refine p_iload_n G rfl 2 rfl dX1_countWrapped_4 ?_
  refine p_aload_n G rfl 0 rfl dX1_countWrapped_5 ?_
  refine p_get G dX1_countWrapped_6 fl_X1_50 (k := 0) rfl rfl ?_
  refine p_icmpge (tgt := 74) G dX1_countWrapped_9 (by decide) h (fun c14 h => ?_) (fun c14 h => ?_)
  · refine p_lv [1] rfl ?_
    have he := hout4 _ (Option.some.inj h).symm
    subst he
    exact hX4_74 _ rfl
  · refine p_aload_n G rfl 0 rfl dX1_countWrapped_12 ?_
    refine p_iload_n G rfl 2 rfl dX1_countWrapped_13 ?_
    obtain ⟨v1, hc, h⟩ := bnd_some h
    refine p_callVi G dX1_countWrapped_14 lk_X1_125 (c_X1_foundAt (gl Γ) hc) (As := [.int (zJ u2_4)]) (ci := 1) rfl rfl rfl rfl (Nat.le_of_ble_eq_true rfl) ⟨rfl, rfl, Nat.le_of_ble_eq_true rfl, Nat.le_of_ble_eq_true rfl⟩ hcs ?_
    refine p_lstore_nU (lv' := [(3, .long v1), (0, .ref (ga Γ 0)), (1, .int (zJ u1_4)), (2, .int (zJ u2_4))]) G rfl dX1_countWrapped_17 (by decide) rfl ?_
    refine p_lload_n G rfl 0 rfl dX1_countWrapped_18 ?_
    obtain ⟨v2, hc, h⟩ := bnd_some h
    refine p_callS0 G dX1_countWrapped_19 lk_X1_132 (c_X6_kindOf (gl Γ) hc) (As := [.long v1]) rfl zk_2 rfl (Nat.le_of_ble_eq_true rfl) ⟨rfl, rfl, Nat.le_of_ble_eq_true rfl, Nat.le_of_ble_eq_true rfl⟩ hcs ?_
    refine p_iconst G rfl dX1_countWrapped_22 ?_
    refine p_icmpne (tgt := 33) G dX1_countWrapped_23 (by decide) h (fun c13 h => ?_) (fun c13 h => ?_)
    · refine p_iconst G rfl dX1_countWrapped_33 ?_
      refine p_lv [1, 2, 3, 0] rfl ?_
      exact j34 _ _ _ _ h
    · refine p_lload_n G rfl 0 rfl dX1_countWrapped_26 ?_
      obtain ⟨v12, hc, h⟩ := bnd_some h
      refine p_callS0 G dX1_countWrapped_27 lk_X1_135 (c_X6_firstOf (gl Γ) hc) (As := [.long v1]) rfl zk_2 rfl (Nat.le_of_ble_eq_true rfl) ⟨rfl, rfl, Nat.le_of_ble_eq_true rfl, Nat.le_of_ble_eq_true rfl⟩ hcs ?_
      refine p_goto (tgt := 34) G dX1_countWrapped_30 (by decide) ?_
      refine p_lv [1, 2, 3, 0] rfl ?_
      exact j34 _ _ _ _ h
set_option maxHeartbeats 4000000 in
set_option maxRecDepth 100000 in
theorem c_X1_foundPoints (l : Launch) {D : va_G} {yy : Nat → ClassId} {tk tv a : Nat → Nat} {σ : Mm} {o : Int} (h : x_X1_foundPoints σ = some o) : CT l yX1_foundPoints cX1_foundPoints 3 (some .int) rm_X1_foundPoints shL D yy tk tv a σ [.ref (a 0)] σ (some (.int (zJ o))) := by
  refine ct_of (Ar := fun a tk => [.ref (a 0)]) (by decide) (Nat.le_of_ble_eq_true rfl) (fun Γ G _ _ hR => ?_)
  have hcs := rt_cs hR
  unfold x_X1_foundPoints at h
  refine (?_ : PT Γ 3 shL 0 σ [(0, .ref (ga Γ 0))] [])
  refine p_iconst G rfl dX1_foundPoints_0 ?_
  refine p_istore_nU (lv' := [(1, .int (zJ (0 : Int))), (0, .ref (ga Γ 0))]) G rfl dX1_foundPoints_1 (by decide) rfl ?_
  refine p_iconst G rfl dX1_foundPoints_2 ?_
  refine p_istore_nU (lv' := [(2, .int (zJ (0 : Int))), (1, .int (zJ (0 : Int))), (0, .ref (ga Γ 0))]) G rfl dX1_foundPoints_3 (by decide) rfl ?_
  refine p_lv [2, 1, 0] rfl ?_
  obtain ⟨e7, hl4, h⟩ := bnd_some h
  have hX4_29 : ∀ (v8 : Int), v8 = e7 → PT Γ 3 shL 29 σ [(1, .int (zJ v8))] [] := by
    intro v8 he
    subst he
    refine p_iload_n G rfl 0 rfl dX1_foundPoints_29 ?_
    (cases h; exact p_iret G hR dX1_foundPoints_30 rfl rfl)
  refine lup_walk (s := ((0 : Int), (0 : Int))) (At := fun s : Int × Int => PT Γ 3 shL 4 σ [(0, .ref (ga Γ 0)), (1, .int (zJ s.1)), (2, .int (zJ s.2))] []) (fun s r hf hin4 hout4 => ?_) hl4
  obtain ⟨u1_4, u2_4⟩ := s
  have h : x_X1_foundPoints_b4 σ u1_4 u2_4 = some r := hf
  clear hf
  unfold x_X1_foundPoints_b4 at h
  refine (?_ : PT Γ 3 shL 4 σ [(0, .ref (ga Γ 0)), (1, .int (zJ u1_4)), (2, .int (zJ u2_4))] [])
  refine p_iload_n G rfl 2 rfl dX1_foundPoints_4 ?_
  refine p_aload_n G rfl 0 rfl dX1_foundPoints_5 ?_
  refine p_get G dX1_foundPoints_6 fl_X1_50 (k := 0) rfl rfl ?_
  refine p_icmpge (tgt := 29) G dX1_foundPoints_9 (by decide) h (fun c5 h => ?_) (fun c5 h => ?_)
  · refine p_lv [1] rfl ?_
    have he := hout4 _ (Option.some.inj h).symm
    subst he
    exact hX4_29 _ rfl
  · refine p_iload_n G rfl 1 rfl dX1_foundPoints_12 ?_
    refine p_aload_n G rfl 0 rfl dX1_foundPoints_13 ?_
    refine p_iload_n G rfl 2 rfl dX1_foundPoints_14 ?_
    obtain ⟨v1, hc, h⟩ := bnd_some h
    refine p_callVi G dX1_foundPoints_15 lk_X1_125 (c_X1_foundAt (gl Γ) hc) (As := [.int (zJ u2_4)]) (ci := 1) rfl rfl rfl rfl (Nat.le_of_ble_eq_true rfl) ⟨rfl, rfl, Nat.le_of_ble_eq_true rfl, Nat.le_of_ble_eq_true rfl⟩ hcs ?_
    obtain ⟨v2, hc, h⟩ := bnd_some h
    refine p_callS0 G dX1_foundPoints_18 lk_X1_43 (c_X6_pointsOf (gl Γ) hc) (As := [.long v1]) rfl zk_2 rfl (Nat.le_of_ble_eq_true rfl) ⟨rfl, rfl, Nat.le_of_ble_eq_true rfl, Nat.le_of_ble_eq_true rfl⟩ hcs ?_
    refine p_iadd G dX1_foundPoints_21 ?_
    refine p_istore_n (lv' := fun v3 => [(1, .int (zJ v3)), (0, .ref (ga Γ 0)), (2, .int (zJ u2_4))]) G rfl dX1_foundPoints_22 h (by decide) (fun _ => rfl) (fun v3 h => ?_)
    refine p_iinc (lv' := fun v4 => [(2, .int (zJ v4)), (1, .int (zJ v3)), (0, .ref (ga Γ 0))]) G dX1_foundPoints_23 h 2 rfl (by decide) (fun _ => rfl) (fun v4 h => ?_)
    refine p_goto (tgt := 4) G dX1_foundPoints_26 (by decide) ?_
    refine p_lv [2, 1, 0] rfl ?_
    exact hin4 _ (Option.some.inj h).symm
set_option maxHeartbeats 4000000 in
set_option maxRecDepth 100000 in
theorem c_X1_widen (l : Launch) {D : va_G} {yy : Nat → ClassId} {tk tv a : Nat → Nat} {σ : Mm} {p1 : Int} {p2 : Int} {o : Mm} (h : x_X1_widen σ p1 p2 = some o) : CT l yX1_widen cX1_widen 3 none rm_X1_widen shL D yy tk tv a σ [.ref (a 0), .int (zJ p1), .int (zJ p2)] o none := by
  refine ct_of (Ar := fun a tk => [.ref (a 0), .int (zJ p1), .int (zJ p2)]) (by decide) (Nat.le_of_ble_eq_true rfl) (fun Γ G _ _ hR => ?_)
  have hcs := rt_cs hR
  unfold x_X1_widen at h
  refine (?_ : PT Γ 3 shL 0 σ [(0, .ref (ga Γ 0)), (1, .int (zJ p1)), (2, .int (zJ p2))] [])
  refine p_iload_n G rfl 1 rfl dX1_widen_0 ?_
  refine p_iflt (tgt := 34) G dX1_widen_1 (by decide) h (fun c7 h => ?_) (fun c7 h => ?_)
  · (cases h; exact p_vret G hR dX1_widen_34 rfl rfl)
  · refine p_iload_n G rfl 1 rfl dX1_widen_4 ?_
    refine p_aload_n G rfl 0 rfl dX1_widen_5 ?_
    refine p_get G dX1_widen_6 fl_X1_50 (k := 0) rfl rfl ?_
    refine p_icmpge (tgt := 34) G dX1_widen_9 (by decide) h (fun c6 h => ?_) (fun c6 h => ?_)
    · (cases h; exact p_vret G hR dX1_widen_34 rfl rfl)
    · refine p_iload_n G rfl 1 rfl dX1_widen_12 ?_
      refine p_aload_n G rfl 0 rfl dX1_widen_13 ?_
      refine p_get G dX1_widen_14 fl_X1_28 (k := 0) rfl rfl ?_
      refine p_alen G dX1_widen_17 (k := 6) (kd := 1) rfl (by decide) (by decide) ?_
      refine p_icmpge (tgt := 34) G dX1_widen_18 (by decide) h (fun c5 h => ?_) (fun c5 h => ?_)
      · (cases h; exact p_vret G hR dX1_widen_34 rfl rfl)
      · refine p_aload_n G rfl 0 rfl dX1_widen_21 ?_
        refine p_get G dX1_widen_22 fl_X1_28 (k := 0) rfl rfl ?_
        refine p_iload_n G rfl 1 rfl dX1_widen_25 ?_
        refine p_dup2 G rfl rfl dX1_widen_26 ?_
        refine p_lald G dX1_widen_27 (k := 6) rfl (zt_c _) h (fun c1 h => ?_)
        refine p_iload_n G rfl 2 rfl dX1_widen_28 ?_
        obtain ⟨v2, hc, h⟩ := bnd_some h
        refine p_callS0 G dX1_widen_29 lk_X1_72 (c_X6_bitOf (gl Γ) hc) (As := [.int (zJ p2)]) rfl zk_2 rfl (Nat.le_of_ble_eq_true rfl) ⟨rfl, rfl, Nat.le_of_ble_eq_true rfl, Nat.le_of_ble_eq_true rfl⟩ hcs ?_
        refine p_lor G dX1_widen_32 ?_
        refine p_last G dX1_widen_33 (k := 6) rfl (zt_c _) rfl h (fun σ3 c4 h => ?_)
        (cases h; exact p_vret G hR dX1_widen_34 rfl rfl)
set_option maxHeartbeats 4000000 in
set_option maxRecDepth 100000 in
theorem c_X2_begin (l : Launch) {D : va_G} {yy : Nat → ClassId} {tk tv a : Nat → Nat} {σ : Mm} {o : Mm} (h : x_X2_begin σ = some o) : CT l yX2_begin cX2_begin 1 none rm_X2_begin shM D yy tk tv a σ [.ref (a 0)] o none := by
  refine ct_of (Ar := fun a tk => [.ref (a 0)]) (by decide) (Nat.le_of_ble_eq_true rfl) (fun Γ G _ _ hR => ?_)
  have hcs := rt_cs hR
  unfold x_X2_begin at h
  refine (?_ : PT Γ 1 shM 0 σ [(0, .ref (ga Γ 0))] [])
  refine p_aload_n G rfl 0 rfl dX2_begin_0 ?_
  refine p_iconst G rfl dX2_begin_1 ?_
  refine p_putI G dX2_begin_2 fp_X2_39 (k := 0) rfl rfl rfl rfl h (fun σ1 h => ?_)
  refine p_aload_n G rfl 0 rfl dX2_begin_5 ?_
  refine p_iconst G rfl dX2_begin_6 ?_
  refine p_putI G dX2_begin_7 fp_X2_55 (k := 0) rfl rfl rfl rfl h (fun σ2 h => ?_)
  refine p_aload_n G rfl 0 rfl dX2_begin_10 ?_
  refine p_iconst G rfl dX2_begin_11 ?_
  refine p_putI G dX2_begin_12 fp_X2_58 (k := 0) rfl rfl rfl rfl h (fun σ3 h => ?_)
  refine p_aload_n G rfl 0 rfl dX2_begin_15 ?_
  refine p_get G dX2_begin_16 fl_X2_9 (k := 0) rfl rfl ?_
  refine p_iconst G rfl dX2_begin_19 ?_
  refine p_iconst G rfl dX2_begin_20 ?_
  refine p_iast G dX2_begin_21 (k := 1) rfl (zt_c _) rfl h (fun σ4 c5 h => ?_)
  refine p_aload_n G rfl 0 rfl dX2_begin_22 ?_
  refine p_get G dX2_begin_23 fl_X2_9 (k := 0) rfl rfl ?_
  refine p_iconst G rfl dX2_begin_26 ?_
  refine p_iconst G rfl dX2_begin_27 ?_
  refine p_iast G dX2_begin_28 (k := 1) rfl (zt_c _) rfl h (fun σ6 c7 h => ?_)
  (cases h; exact p_vret G hR dX2_begin_29 rfl rfl)
set_option maxHeartbeats 4000000 in
set_option maxRecDepth 100000 in
theorem c_X2_shuffle (l : Launch) {D : va_G} {yy : Nat → ClassId} {tk tv a : Nat → Nat} {σ : Mm} {o : Mm} (h : x_X2_shuffle σ = some o) : CT l yX2_shuffle cX2_shuffle 4 none rm_X2_shuffle shM D yy tk tv a σ [.ref (a 0)] o none := by
  refine ct_of (Ar := fun a tk => [.ref (a 0)]) (by decide) (Nat.le_of_ble_eq_true rfl) (fun Γ G _ _ hR => ?_)
  have hcs := rt_cs hR
  unfold x_X2_shuffle at h
  refine (?_ : PT Γ 4 shM 0 σ [(0, .ref (ga Γ 0))] [])
  refine p_iconst G rfl dX2_shuffle_0 ?_
  refine p_istore_nU (lv' := [(1, .int (zJ (0 : Int))), (0, .ref (ga Γ 0))]) G rfl dX2_shuffle_1 (by decide) rfl ?_
  refine p_lv [1, 0] rfl ?_
  obtain ⟨e6, hl2, h⟩ := bnd_some h
  have hX2_21 : ∀ (σ7 : Mm), σ7 = e6 → PT Γ 4 shM 21 σ7 [(0, .ref (ga Γ 0))] [] := by
    intro σ7 he
    subst he
    refine p_bipush G (by decide) (by decide) dX2_shuffle_21 ?_
    refine p_istore_nU (lv' := [(1, .int (zJ (51 : Int))), (0, .ref (ga Γ 0))]) G rfl dX2_shuffle_23 (by decide) rfl ?_
    refine p_lv [1, 0] rfl ?_
    obtain ⟨e24, hl24, h⟩ := bnd_some h
    have hX24_105 : ∀ (σ25 : Mm), σ25 = e24 → PT Γ 4 shM 105 σ25 [] [] := by
      intro σ25 he
      subst he
      (cases h; exact p_vret G hR dX2_shuffle_105 rfl rfl)
    refine lup_walk (s := (σ7, (51 : Int))) (At := fun s : Mm × Int => PT Γ 4 shM 24 s.1 [(0, .ref (ga Γ 0)), (1, .int (zJ s.2))] []) (fun s r hf hin24 hout24 => ?_) hl24
    obtain ⟨σ24, u1_24⟩ := s
    have h : x_X2_shuffle_b24 σ24 u1_24 = some r := hf
    clear hf
    unfold x_X2_shuffle_b24 at h
    refine (?_ : PT Γ 4 shM 24 σ24 [(0, .ref (ga Γ 0)), (1, .int (zJ u1_24))] [])
    refine p_iload_n G rfl 1 rfl dX2_shuffle_24 ?_
    refine p_ifle (tgt := 105) G dX2_shuffle_25 (by decide) h (fun c22 h => ?_) (fun c22 h => ?_)
    · refine p_lv [] rfl ?_
      have he := hout24 _ (Option.some.inj h).symm
      subst he
      exact hX24_105 _ rfl
    · refine p_aload_n G rfl 0 rfl dX2_shuffle_28 ?_
      refine p_aload_n G rfl 0 rfl dX2_shuffle_29 ?_
      refine p_get G dX2_shuffle_30 fl_X2_35 (k := 0) rfl rfl ?_
      refine p_ldc2 G gm_475 dX2_shuffle_33 ?_
      refine p_lmul G dX2_shuffle_36 ?_
      refine p_ldc2 G gm_476 dX2_shuffle_37 ?_
      refine p_ladd G dX2_shuffle_40 ?_
      refine p_ldc2 G gm_477 dX2_shuffle_41 ?_
      refine p_lremK G (by decide) dX2_shuffle_44 ?_
      refine p_putL G dX2_shuffle_45 fp_X2_35 (k := 0) rfl rfl rfl rfl h (fun σ8 h => ?_)
      refine p_aload_n G rfl 0 rfl dX2_shuffle_48 ?_
      refine p_get G dX2_shuffle_49 fl_X2_35 (k := 0) rfl rfl ?_
      refine p_ldc2 G gm_478 dX2_shuffle_52 ?_
      refine p_ldivK G (by decide) dX2_shuffle_55 ?_
      refine p_iload_n G rfl 1 rfl dX2_shuffle_56 ?_
      refine p_iconst G rfl dX2_shuffle_57 ?_
      refine p_iadd G dX2_shuffle_58 ?_
      refine p_i2l G dX2_shuffle_59 ?_
      refine p_lrem G dX2_shuffle_60 h (fun h => ?_)
      refine p_l2i G dX2_shuffle_61 ?_
      refine p_istore_n (lv' := fun v9 => [(2, .int (zJ v9)), (0, .ref (ga Γ 0)), (1, .int (zJ u1_24))]) G rfl dX2_shuffle_62 h (by decide) (fun _ => rfl) (fun v9 h => ?_)
      refine p_iload_n G rfl 0 rfl dX2_shuffle_63 ?_
      refine p_iflt (tgt := 99) G dX2_shuffle_64 (by decide) h (fun c21 h => ?_) (fun c21 h => ?_)
      · refine p_iinc (lv' := fun v10 => [(1, .int (zJ v10)), (2, .int (zJ v9)), (0, .ref (ga Γ 0))]) G dX2_shuffle_99 h 2 rfl (by decide) (fun _ => rfl) (fun v10 h => ?_)
        refine p_goto (tgt := 24) G dX2_shuffle_102 (by decide) ?_
        refine p_lv [2, 0] rfl ?_
        exact hin24 _ (Option.some.inj h).symm
      · refine p_iload_n G rfl 0 rfl dX2_shuffle_67 ?_
        refine p_bipush G (by decide) (by decide) dX2_shuffle_68 ?_
        refine p_icmpge (tgt := 99) G dX2_shuffle_70 (by decide) h (fun c20 h => ?_) (fun c20 h => ?_)
        · refine p_iinc (lv' := fun v11 => [(1, .int (zJ v11)), (2, .int (zJ v9)), (0, .ref (ga Γ 0))]) G dX2_shuffle_99 h 2 rfl (by decide) (fun _ => rfl) (fun v11 h => ?_)
          refine p_goto (tgt := 24) G dX2_shuffle_102 (by decide) ?_
          refine p_lv [2, 0] rfl ?_
          exact hin24 _ (Option.some.inj h).symm
        · refine p_aload_n G rfl 1 rfl dX2_shuffle_73 ?_
          refine p_get G dX2_shuffle_74 fl_X2_19 (k := 0) rfl rfl ?_
          refine p_iload_n G rfl 2 rfl dX2_shuffle_77 ?_
          refine p_iald G dX2_shuffle_78 (k := 3) rfl (zt_c _) h (fun c12 h => ?_)
          refine p_istore_n (lv' := fun v13 => [(3, .int (zJ v13)), (2, .int (zJ v9)), (0, .ref (ga Γ 0)), (1, .int (zJ u1_24))]) G rfl dX2_shuffle_79 h (by decide) (fun _ => rfl) (fun v13 h => ?_)
          refine p_aload_n G rfl 2 rfl dX2_shuffle_80 ?_
          refine p_get G dX2_shuffle_81 fl_X2_19 (k := 0) rfl rfl ?_
          refine p_iload_n G rfl 3 rfl dX2_shuffle_84 ?_
          refine p_aload_n G rfl 2 rfl dX2_shuffle_85 ?_
          refine p_get G dX2_shuffle_86 fl_X2_19 (k := 0) rfl rfl ?_
          refine p_iload_n G rfl 1 rfl dX2_shuffle_89 ?_
          refine p_iald G dX2_shuffle_90 (k := 3) rfl (zt_c _) h (fun c14 h => ?_)
          refine p_iast G dX2_shuffle_91 (k := 3) rfl (zt_c _) rfl h (fun σ15 c16 h => ?_)
          refine p_aload_n G rfl 2 rfl dX2_shuffle_92 ?_
          refine p_get G dX2_shuffle_93 fl_X2_19 (k := 0) rfl rfl ?_
          refine p_iload_n G rfl 1 rfl dX2_shuffle_96 ?_
          refine p_iload_n G rfl 0 rfl dX2_shuffle_97 ?_
          refine p_iast G dX2_shuffle_98 (k := 3) rfl (zt_c _) rfl h (fun σ17 c18 h => ?_)
          refine p_iinc (lv' := fun v19 => [(1, .int (zJ v19)), (3, .int (zJ v13)), (2, .int (zJ v9)), (0, .ref (ga Γ 0))]) G dX2_shuffle_99 h 3 rfl (by decide) (fun _ => rfl) (fun v19 h => ?_)
          refine p_goto (tgt := 24) G dX2_shuffle_102 (by decide) ?_
          refine p_lv [3, 0] rfl ?_
          exact hin24 _ (Option.some.inj h).symm
  refine lup_walk (s := (σ, (0 : Int))) (At := fun s : Mm × Int => PT Γ 4 shM 2 s.1 [(0, .ref (ga Γ 0)), (1, .int (zJ s.2))] []) (fun s r hf hin2 hout2 => ?_) hl2
  obtain ⟨σ2, u1_2⟩ := s
  have h : x_X2_shuffle_b2 σ2 u1_2 = some r := hf
  clear hf
  unfold x_X2_shuffle_b2 at h
  refine (?_ : PT Γ 4 shM 2 σ2 [(0, .ref (ga Γ 0)), (1, .int (zJ u1_2))] [])
  refine p_iload_n G rfl 1 rfl dX2_shuffle_2 ?_
  refine p_bipush G (by decide) (by decide) dX2_shuffle_3 ?_
  refine p_icmpge (tgt := 21) G dX2_shuffle_5 (by decide) h (fun c4 h => ?_) (fun c4 h => ?_)
  · refine p_lv [0] rfl ?_
    have he := hout2 _ (Option.some.inj h).symm
    subst he
    exact hX2_21 _ rfl
  · refine p_aload_n G rfl 0 rfl dX2_shuffle_8 ?_
    refine p_get G dX2_shuffle_9 fl_X2_19 (k := 0) rfl rfl ?_
    refine p_iload_n G rfl 1 rfl dX2_shuffle_12 ?_
    refine p_iload_n G rfl 1 rfl dX2_shuffle_13 ?_
    refine p_iast G dX2_shuffle_14 (k := 3) rfl (zt_c _) rfl h (fun σ1 c2 h => ?_)
    refine p_iinc (lv' := fun v3 => [(1, .int (zJ v3)), (0, .ref (ga Γ 0))]) G dX2_shuffle_15 h 1 rfl (by decide) (fun _ => rfl) (fun v3 h => ?_)
    refine p_goto (tgt := 2) G dX2_shuffle_18 (by decide) ?_
    refine p_lv [1, 0] rfl ?_
    exact hin2 _ (Option.some.inj h).symm
set_option maxHeartbeats 4000000 in
set_option maxRecDepth 100000 in
theorem c_X2_deckAt (l : Launch) {D : va_G} {yy : Nat → ClassId} {tk tv a : Nat → Nat} {σ : Mm} {p1 : Int} {o : Int} (h : x_X2_deckAt σ p1 = some o) : CT l yX2_deckAt cX2_deckAt 2 (some .int) rm_X2_deckAt shM D yy tk tv a σ [.ref (a 0), .int (zJ p1)] σ (some (.int (zJ o))) := by
  refine ct_of (Ar := fun a tk => [.ref (a 0), .int (zJ p1)]) (by decide) (Nat.le_of_ble_eq_true rfl) (fun Γ G _ _ hR => ?_)
  have hcs := rt_cs hR
  unfold x_X2_deckAt at h
  refine (?_ : PT Γ 2 shM 0 σ [(0, .ref (ga Γ 0)), (1, .int (zJ p1))] [])
  refine p_iload_n G rfl 1 rfl dX2_deckAt_0 ?_
  refine p_iflt (tgt := 19) G dX2_deckAt_1 (by decide) h (fun c3 h => ?_) (fun c3 h => ?_)
  · refine p_iconst G rfl dX2_deckAt_19 ?_
    (cases h; exact p_iret G hR dX2_deckAt_20 rfl rfl)
  · refine p_iload_n G rfl 1 rfl dX2_deckAt_4 ?_
    refine p_bipush G (by decide) (by decide) dX2_deckAt_5 ?_
    refine p_icmpge (tgt := 19) G dX2_deckAt_7 (by decide) h (fun c2 h => ?_) (fun c2 h => ?_)
    · refine p_iconst G rfl dX2_deckAt_19 ?_
      (cases h; exact p_iret G hR dX2_deckAt_20 rfl rfl)
    · refine p_aload_n G rfl 0 rfl dX2_deckAt_10 ?_
      refine p_get G dX2_deckAt_11 fl_X2_19 (k := 0) rfl rfl ?_
      refine p_iload_n G rfl 1 rfl dX2_deckAt_14 ?_
      refine p_iald G dX2_deckAt_15 (k := 3) rfl (zt_c _) h (fun c1 h => ?_)
      refine p_goto (tgt := 20) G dX2_deckAt_16 (by decide) ?_
      (cases h; exact p_iret G hR dX2_deckAt_20 rfl rfl)
set_option maxHeartbeats 4000000 in
set_option maxRecDepth 100000 in
theorem c_X2_dealOut (l : Launch) {D : va_G} {yy : Nat → ClassId} {tk tv a : Nat → Nat} {σ : Mm} {o : Mm} (h : x_X2_dealOut σ = some o) : CT l yX2_dealOut cX2_dealOut 3 none rm_X2_dealOut shM D yy tk tv a σ [.ref (a 0)] o none := by
  refine ct_of (Ar := fun a tk => [.ref (a 0)]) (by decide) (Nat.le_of_ble_eq_true rfl) (fun Γ G _ _ hR => ?_)
  have hcs := rt_cs hR
  unfold x_X2_dealOut at h
  refine (?_ : PT Γ 3 shM 0 σ [(0, .ref (ga Γ 0))] [])
  refine p_iconst G rfl dX2_dealOut_0 ?_
  refine p_istore_nU (lv' := [(1, .int (zJ (0 : Int))), (0, .ref (ga Γ 0))]) G rfl dX2_dealOut_1 (by decide) rfl ?_
  refine p_lv [1, 0] rfl ?_
  obtain ⟨e16, hl2, h⟩ := bnd_some h
  have hX2_60 : ∀ (σ17 : Mm), σ17 = e16 → PT Γ 3 shM 60 σ17 [(0, .ref (ga Γ 0))] [] := by
    intro σ17 he
    subst he
    refine p_aload_n G rfl 0 rfl dX2_dealOut_60 ?_
    refine p_get G dX2_dealOut_61 fl_X2_22 (k := 0) rfl rfl ?_
    refine p_iconst G rfl dX2_dealOut_64 ?_
    refine p_aload_n G rfl 0 rfl dX2_dealOut_65 ?_
    refine p_iconst G rfl dX2_dealOut_66 ?_
    refine p_aload_n G rfl 0 rfl dX2_dealOut_67 ?_
    refine p_get G dX2_dealOut_68 fl_X2_25 (k := 0) rfl rfl ?_
    refine p_imul G dX2_dealOut_71 ?_
    obtain ⟨v18, hc, h⟩ := bnd_some h
    refine p_callVi G dX2_dealOut_72 lk_X2_81 (c_X2_deckAt (gl Γ) hc) (As := [.int (zJ ((2 : Int) * (σ17 0 0)))]) (ci := 2) rfl rfl rfl rfl (Nat.le_of_ble_eq_true rfl) ⟨rfl, rfl, Nat.le_of_ble_eq_true rfl, Nat.le_of_ble_eq_true rfl⟩ hcs ?_
    refine p_iast G dX2_dealOut_75 (k := 4) rfl (zt_c _) rfl h (fun σ19 c20 h => ?_)
    refine p_aload_n G rfl 0 rfl dX2_dealOut_76 ?_
    refine p_iconst G rfl dX2_dealOut_77 ?_
    refine p_putI G dX2_dealOut_78 fp_X2_64 (k := 0) rfl rfl rfl rfl h (fun σ21 h => ?_)
    refine p_aload_n G rfl 0 rfl dX2_dealOut_81 ?_
    refine p_iconst G rfl dX2_dealOut_82 ?_
    refine p_aload_n G rfl 0 rfl dX2_dealOut_83 ?_
    refine p_get G dX2_dealOut_84 fl_X2_25 (k := 0) rfl rfl ?_
    refine p_imul G dX2_dealOut_87 ?_
    refine p_iconst G rfl dX2_dealOut_88 ?_
    refine p_iadd G dX2_dealOut_89 ?_
    refine p_putI G dX2_dealOut_90 fp_X2_61 (k := 0) rfl rfl rfl rfl h (fun σ22 h => ?_)
    refine p_aload_n G rfl 0 rfl dX2_dealOut_93 ?_
    refine p_aload_n G rfl 0 rfl dX2_dealOut_94 ?_
    refine p_get G dX2_dealOut_95 fl_X2_39 (k := 0) rfl rfl ?_
    refine p_iconst G rfl dX2_dealOut_98 ?_
    refine p_iand G dX2_dealOut_99 ?_
    refine p_ifne (tgt := 107) G dX2_dealOut_100 (by decide) h (fun c31 h => ?_) (fun c31 h => ?_)
    · refine p_iconst G rfl dX2_dealOut_107 ?_
      refine p_putI G dX2_dealOut_108 fp_X2_42 (k := 0) rfl rfl rfl rfl h (fun σ23 h => ?_)
      refine p_aload_n G rfl 0 rfl dX2_dealOut_111 ?_
      refine p_iconst G rfl dX2_dealOut_112 ?_
      refine p_putZ G dX2_dealOut_113 fp_X2_45 (k := 0) rfl rfl rfl rfl (zb_01 (by decide)) h (fun σ24 h => ?_)
      refine p_aload_n G rfl 0 rfl dX2_dealOut_116 ?_
      refine p_iconst G rfl dX2_dealOut_117 ?_
      refine p_putI G dX2_dealOut_118 fp_X2_49 (k := 0) rfl rfl rfl rfl h (fun σ25 h => ?_)
      refine p_aload_n G rfl 0 rfl dX2_dealOut_121 ?_
      refine p_iconst G rfl dX2_dealOut_122 ?_
      refine p_putZ G dX2_dealOut_123 fp_X2_52 (k := 0) rfl rfl rfl rfl (zb_01 (by decide)) h (fun σ26 h => ?_)
      (cases h; exact p_vret G hR dX2_dealOut_126 rfl rfl)
    · refine p_iconst G rfl dX2_dealOut_103 ?_
      refine p_goto (tgt := 108) G dX2_dealOut_104 (by decide) ?_
      refine p_putI G dX2_dealOut_108 fp_X2_42 (k := 0) rfl rfl rfl rfl h (fun σ27 h => ?_)
      refine p_aload_n G rfl 0 rfl dX2_dealOut_111 ?_
      refine p_iconst G rfl dX2_dealOut_112 ?_
      refine p_putZ G dX2_dealOut_113 fp_X2_45 (k := 0) rfl rfl rfl rfl (zb_01 (by decide)) h (fun σ28 h => ?_)
      refine p_aload_n G rfl 0 rfl dX2_dealOut_116 ?_
      refine p_iconst G rfl dX2_dealOut_117 ?_
      refine p_putI G dX2_dealOut_118 fp_X2_49 (k := 0) rfl rfl rfl rfl h (fun σ29 h => ?_)
      refine p_aload_n G rfl 0 rfl dX2_dealOut_121 ?_
      refine p_iconst G rfl dX2_dealOut_122 ?_
      refine p_putZ G dX2_dealOut_123 fp_X2_52 (k := 0) rfl rfl rfl rfl (zb_01 (by decide)) h (fun σ30 h => ?_)
      (cases h; exact p_vret G hR dX2_dealOut_126 rfl rfl)
  refine lup_walk (s := (σ, (0 : Int))) (At := fun s : Mm × Int => PT Γ 3 shM 2 s.1 [(0, .ref (ga Γ 0)), (1, .int (zJ s.2))] []) (fun s r hf hin2 hout2 => ?_) hl2
  obtain ⟨σ2, u1_2⟩ := s
  have h : x_X2_dealOut_b2 σ2 u1_2 = some r := hf
  clear hf
  unfold x_X2_dealOut_b2 at h
  refine (?_ : PT Γ 3 shM 2 σ2 [(0, .ref (ga Γ 0)), (1, .int (zJ u1_2))] [])
  refine p_iload_n G rfl 1 rfl dX2_dealOut_2 ?_
  refine p_iconst G rfl dX2_dealOut_3 ?_
  refine p_icmpge (tgt := 60) G dX2_dealOut_4 (by decide) h (fun c14 h => ?_) (fun c14 h => ?_)
  · refine p_lv [0] rfl ?_
    have he := hout2 _ (Option.some.inj h).symm
    subst he
    exact hX2_60 _ rfl
  · refine p_aload_n G rfl 0 rfl dX2_dealOut_7 ?_
    refine p_get G dX2_dealOut_8 fl_X2_15 (k := 0) rfl rfl ?_
    refine p_iload_n G rfl 1 rfl dX2_dealOut_11 ?_
    refine p_lconst G (v := 0) (by decide) dX2_dealOut_12 ?_
    refine p_last G dX2_dealOut_13 (k := 2) rfl (zt_c _) rfl h (fun σ1 c2 h => ?_)
    refine p_iconst G rfl dX2_dealOut_14 ?_
    refine p_istore_nU (lv' := [(2, .int (zJ (0 : Int))), (0, .ref (ga Γ 0)), (1, .int (zJ u1_2))]) G rfl dX2_dealOut_15 (by decide) rfl ?_
    refine p_lv [1, 2, 0] rfl ?_
    obtain ⟨e11, hl16, h⟩ := bnd_some h
    have hX16_54 : ∀ (σ12 : Mm), σ12 = e11 → PT Γ 3 shM 54 σ12 [(0, .ref (ga Γ 0)), (1, .int (zJ u1_2))] [] := by
      intro σ12 he
      subst he
      refine p_iinc (lv' := fun v13 => [(1, .int (zJ v13)), (0, .ref (ga Γ 0))]) G dX2_dealOut_54 h 1 rfl (by decide) (fun _ => rfl) (fun v13 h => ?_)
      refine p_goto (tgt := 2) G dX2_dealOut_57 (by decide) ?_
      refine p_lv [1, 0] rfl ?_
      exact hin2 _ (Option.some.inj h).symm
    refine lup_walk (s := (σ1, (0 : Int))) (At := fun s : Mm × Int => PT Γ 3 shM 16 s.1 [(0, .ref (ga Γ 0)), (1, .int (zJ u1_2)), (2, .int (zJ s.2))] []) (fun s r hf hin16 hout16 => ?_) hl16
    obtain ⟨σ16, u2_16⟩ := s
    have h : x_X2_dealOut_b16 u1_2 σ16 u2_16 = some r := hf
    clear hf
    unfold x_X2_dealOut_b16 at h
    refine (?_ : PT Γ 3 shM 16 σ16 [(0, .ref (ga Γ 0)), (1, .int (zJ u1_2)), (2, .int (zJ u2_16))] [])
    refine p_iload_n G rfl 2 rfl dX2_dealOut_16 ?_
    refine p_aload_n G rfl 0 rfl dX2_dealOut_17 ?_
    refine p_get G dX2_dealOut_18 fl_X2_25 (k := 0) rfl rfl ?_
    refine p_icmpge (tgt := 54) G dX2_dealOut_21 (by decide) h (fun c9 h => ?_) (fun c9 h => ?_)
    · refine p_lv [0, 1] rfl ?_
      have he := hout16 _ (Option.some.inj h).symm
      subst he
      exact hX16_54 _ rfl
    · refine p_aload_n G rfl 0 rfl dX2_dealOut_24 ?_
      refine p_get G dX2_dealOut_25 fl_X2_15 (k := 0) rfl rfl ?_
      refine p_iload_n G rfl 1 rfl dX2_dealOut_28 ?_
      refine p_dup2 G rfl rfl dX2_dealOut_29 ?_
      refine p_lald G dX2_dealOut_30 (k := 2) rfl (zt_c _) h (fun c3 h => ?_)
      refine p_aload_n G rfl 0 rfl dX2_dealOut_31 ?_
      refine p_iload_n G rfl 1 rfl dX2_dealOut_32 ?_
      refine p_aload_n G rfl 0 rfl dX2_dealOut_33 ?_
      refine p_get G dX2_dealOut_34 fl_X2_25 (k := 0) rfl rfl ?_
      refine p_imul G dX2_dealOut_37 ?_
      refine p_iload_n G rfl 2 rfl dX2_dealOut_38 ?_
      refine p_iadd G dX2_dealOut_39 ?_
      obtain ⟨v4, hc, h⟩ := bnd_some h
      refine p_callVi G dX2_dealOut_40 lk_X2_81 (c_X2_deckAt (gl Γ) hc) (As := [.int (zJ ((u1_2 * (σ16 0 0)) + u2_16))]) (ci := 2) rfl rfl rfl rfl (Nat.le_of_ble_eq_true rfl) ⟨rfl, rfl, Nat.le_of_ble_eq_true rfl, Nat.le_of_ble_eq_true rfl⟩ hcs ?_
      obtain ⟨v5, hc, h⟩ := bnd_some h
      refine p_callS0 G dX2_dealOut_43 lk_X2_85 (c_X6_bitOf (gl Γ) hc) (As := [.int (zJ v4)]) rfl zk_3 rfl (Nat.le_of_ble_eq_true rfl) ⟨rfl, rfl, Nat.le_of_ble_eq_true rfl, Nat.le_of_ble_eq_true rfl⟩ hcs ?_
      refine p_lor G dX2_dealOut_46 ?_
      refine p_last G dX2_dealOut_47 (k := 2) rfl (zt_c _) rfl h (fun σ6 c7 h => ?_)
      refine p_iinc (lv' := fun v8 => [(2, .int (zJ v8)), (0, .ref (ga Γ 0)), (1, .int (zJ u1_2))]) G dX2_dealOut_48 h 2 rfl (by decide) (fun _ => rfl) (fun v8 h => ?_)
      refine p_goto (tgt := 16) G dX2_dealOut_51 (by decide) ?_
      refine p_lv [1, 2, 0] rfl ?_
      exact hin16 _ (Option.some.inj h).symm
set_option maxHeartbeats 4000000 in
set_option maxRecDepth 100000 in
theorem c_X2_beginNextRound (l : Launch) {D : va_G} {yy : Nat → ClassId} {tk tv a : Nat → Nat} {σ : Mm} {o : Mm} (h : x_X2_beginNextRound σ = some o) : CT l yX2_beginNextRound cX2_beginNextRound 1 none rm_X2_beginNextRound shM D yy tk tv a σ [.ref (a 0)] o none := by
  refine ct_of (Ar := fun a tk => [.ref (a 0)]) (by decide) (Nat.le_of_ble_eq_true rfl) (fun Γ G _ _ hR => ?_)
  have hcs := rt_cs hR
  unfold x_X2_beginNextRound at h
  refine (?_ : PT Γ 1 shM 0 σ [(0, .ref (ga Γ 0))] [])
  refine p_aload_n G rfl 0 rfl dX2_beginNextRound_0 ?_
  refine p_dup G rfl dX2_beginNextRound_1 ?_
  refine p_get G dX2_beginNextRound_2 fl_X2_39 (k := 0) rfl rfl ?_
  refine p_iconst G rfl dX2_beginNextRound_5 ?_
  refine p_iadd G dX2_beginNextRound_6 ?_
  refine p_putI G dX2_beginNextRound_7 fp_X2_39 (k := 0) rfl rfl rfl rfl h (fun σ1 h => ?_)
  refine p_aload_n G rfl 0 rfl dX2_beginNextRound_10 ?_
  obtain ⟨σ2, hc, h⟩ := bnd_some h
  refine p_callVi G dX2_beginNextRound_11 lk_X2_89 (c_X2_shuffle (gl Γ) hc) (As := []) (ci := 2) rfl rfl rfl rfl (Nat.le_of_ble_eq_true rfl) ⟨rfl, rfl, Nat.le_of_ble_eq_true rfl, Nat.le_of_ble_eq_true rfl⟩ hcs ?_
  refine p_aload_n G rfl 0 rfl dX2_beginNextRound_14 ?_
  obtain ⟨σ3, hc, h⟩ := bnd_some h
  refine p_callVi G dX2_beginNextRound_15 lk_X2_92 (c_X2_dealOut (gl Γ) hc) (As := []) (ci := 2) rfl rfl rfl rfl (Nat.le_of_ble_eq_true rfl) ⟨rfl, rfl, Nat.le_of_ble_eq_true rfl, Nat.le_of_ble_eq_true rfl⟩ hcs ?_
  (cases h; exact p_vret G hR dX2_beginNextRound_18 rfl rfl)
set_option maxHeartbeats 4000000 in
set_option maxRecDepth 100000 in
theorem c_X2_topOfPile (l : Launch) {D : va_G} {yy : Nat → ClassId} {tk tv a : Nat → Nat} {σ : Mm} {o : Int} (h : x_X2_topOfPile σ = some o) : CT l yX2_topOfPile cX2_topOfPile 1 (some .int) rm_X2_topOfPile shM D yy tk tv a σ [.ref (a 0)] σ (some (.int (zJ o))) := by
  refine ct_of (Ar := fun a tk => [.ref (a 0)]) (by decide) (Nat.le_of_ble_eq_true rfl) (fun Γ G _ _ hR => ?_)
  have hcs := rt_cs hR
  unfold x_X2_topOfPile at h
  refine (?_ : PT Γ 1 shM 0 σ [(0, .ref (ga Γ 0))] [])
  refine p_aload_n G rfl 0 rfl dX2_topOfPile_0 ?_
  refine p_get G dX2_topOfPile_1 fl_X2_64 (k := 0) rfl rfl ?_
  refine p_ifle (tgt := 30) G dX2_topOfPile_4 (by decide) h (fun c3 h => ?_) (fun c3 h => ?_)
  · refine p_iconst G rfl dX2_topOfPile_30 ?_
    (cases h; exact p_iret G hR dX2_topOfPile_31 rfl rfl)
  · refine p_aload_n G rfl 0 rfl dX2_topOfPile_7 ?_
    refine p_get G dX2_topOfPile_8 fl_X2_64 (k := 0) rfl rfl ?_
    refine p_bipush G (by decide) (by decide) dX2_topOfPile_11 ?_
    refine p_icmpgt (tgt := 30) G dX2_topOfPile_13 (by decide) h (fun c2 h => ?_) (fun c2 h => ?_)
    · refine p_iconst G rfl dX2_topOfPile_30 ?_
      (cases h; exact p_iret G hR dX2_topOfPile_31 rfl rfl)
    · refine p_aload_n G rfl 0 rfl dX2_topOfPile_16 ?_
      refine p_get G dX2_topOfPile_17 fl_X2_22 (k := 0) rfl rfl ?_
      refine p_aload_n G rfl 0 rfl dX2_topOfPile_20 ?_
      refine p_get G dX2_topOfPile_21 fl_X2_64 (k := 0) rfl rfl ?_
      refine p_iconst G rfl dX2_topOfPile_24 ?_
      refine p_isub G dX2_topOfPile_25 ?_
      refine p_iald G dX2_topOfPile_26 (k := 4) rfl (zt_c _) h (fun c1 h => ?_)
      refine p_goto (tgt := 31) G dX2_topOfPile_27 (by decide) ?_
      (cases h; exact p_iret G hR dX2_topOfPile_31 rfl rfl)
set_option maxHeartbeats 4000000 in
set_option maxRecDepth 100000 in
theorem c_X2_takeCard (l : Launch) {D : va_G} {yy : Nat → ClassId} {tk tv a : Nat → Nat} {σ : Mm} {p1 : Int} {o : Mm × Int} (h : x_X2_takeCard σ p1 = some o) : CT l yX2_takeCard cX2_takeCard 3 (some .int) rm_X2_takeCard shM D yy tk tv a σ [.ref (a 0), .int (zJ p1)] o.1 (some (.int (zJ o.2))) := by
  refine ct_of (Ar := fun a tk => [.ref (a 0), .int (zJ p1)]) (by decide) (Nat.le_of_ble_eq_true rfl) (fun Γ G _ _ hR => ?_)
  have hcs := rt_cs hR
  unfold x_X2_takeCard at h
  refine (?_ : PT Γ 3 shM 0 σ [(0, .ref (ga Γ 0)), (1, .int (zJ p1))] [])
  have j59 : ∀ (σ_59 : Mm) (v2_59 : Int), x_X2_takeCard_j59 σ_59 v2_59 = some o → PT Γ 3 shM 59 σ_59 [(0, .ref (ga Γ 0)), (2, .int (zJ v2_59))] [] := by
    intro σ_59 v2_59 h
    unfold x_X2_takeCard_j59 at h
    refine p_aload_n G rfl 0 rfl dX2_takeCard_59 ?_
    refine p_get G dX2_takeCard_60 fl_X2_15 (k := 0) rfl rfl ?_
    refine p_aload_n G rfl 0 rfl dX2_takeCard_63 ?_
    refine p_get G dX2_takeCard_64 fl_X2_42 (k := 0) rfl rfl ?_
    refine p_iconst G rfl dX2_takeCard_67 ?_
    refine p_iand G dX2_takeCard_68 ?_
    refine p_dup2 G rfl rfl dX2_takeCard_69 ?_
    refine p_lald G dX2_takeCard_70 (k := 2) rfl (zt_c _) h (fun c3 h => ?_)
    refine p_iload_n G rfl 1 rfl dX2_takeCard_71 ?_
    obtain ⟨v4, hc, h⟩ := bnd_some h
    refine p_callS0 G dX2_takeCard_72 lk_X2_85 (c_X6_bitOf (gl Γ) hc) (As := [.int (zJ v2_59)]) rfl zk_3 rfl (Nat.le_of_ble_eq_true rfl) ⟨rfl, rfl, Nat.le_of_ble_eq_true rfl, Nat.le_of_ble_eq_true rfl⟩ hcs ?_
    refine p_lor G dX2_takeCard_75 ?_
    refine p_last G dX2_takeCard_76 (k := 2) rfl (zt_c _) rfl h (fun σ5 c6 h => ?_)
    refine p_aload_n G rfl 0 rfl dX2_takeCard_77 ?_
    refine p_iconst G rfl dX2_takeCard_78 ?_
    refine p_putZ G dX2_takeCard_79 fp_X2_45 (k := 0) rfl rfl rfl rfl (zb_01 (by decide)) h (fun σ7 h => ?_)
    refine p_iload_n G rfl 1 rfl dX2_takeCard_82 ?_
    (cases h; exact p_iret G hR dX2_takeCard_83 rfl rfl)
  have j19 : ∀ (σ_19 : Mm) (v1_19 : Int) (w0_19 : Int), x_X2_takeCard_j19 σ_19 v1_19 w0_19 = some o → PT Γ 3 shM 19 σ_19 [(0, .ref (ga Γ 0)), (1, .int (zJ v1_19))] [.int (zJ w0_19)] := by
    intro σ_19 v1_19 w0_19 h
    unfold x_X2_takeCard_j19 at h
    refine p_istore_nU (lv' := [(2, .int (zJ w0_19)), (0, .ref (ga Γ 0)), (1, .int (zJ v1_19))]) G rfl dX2_takeCard_19 (by decide) rfl ?_
    refine p_iload_n G rfl 0 rfl dX2_takeCard_20 ?_
    refine p_iconst G rfl dX2_takeCard_21 ?_
    refine p_icmpne (tgt := 27) G dX2_takeCard_22 (by decide) h (fun c11 h => ?_) (fun c11 h => ?_)
    · refine p_iload_n G rfl 2 rfl dX2_takeCard_27 ?_
      refine p_ifeq (tgt := 49) G dX2_takeCard_28 (by decide) h (fun c10 h => ?_) (fun c10 h => ?_)
      · refine p_aload_n G rfl 1 rfl dX2_takeCard_49 ?_
        refine p_dup G rfl dX2_takeCard_50 ?_
        refine p_get G dX2_takeCard_51 fl_X2_61 (k := 0) rfl rfl ?_
        refine p_iconst G rfl dX2_takeCard_54 ?_
        refine p_iadd G dX2_takeCard_55 ?_
        refine p_putI G dX2_takeCard_56 fp_X2_61 (k := 0) rfl rfl rfl rfl h (fun σ2 h => ?_)
        refine p_lv [1, 0] rfl ?_
        exact j59 _ _ h
      · refine p_aload_n G rfl 1 rfl dX2_takeCard_31 ?_
        refine p_dup G rfl dX2_takeCard_32 ?_
        refine p_get G dX2_takeCard_33 fl_X2_64 (k := 0) rfl rfl ?_
        refine p_iconst G rfl dX2_takeCard_36 ?_
        refine p_isub G dX2_takeCard_37 ?_
        refine p_putI G dX2_takeCard_38 fp_X2_64 (k := 0) rfl rfl rfl rfl h (fun σ8 h => ?_)
        refine p_aload_n G rfl 1 rfl dX2_takeCard_41 ?_
        refine p_iload_n G rfl 0 rfl dX2_takeCard_42 ?_
        refine p_putI G dX2_takeCard_43 fp_X2_49 (k := 0) rfl rfl rfl rfl h (fun σ9 h => ?_)
        refine p_goto (tgt := 59) G dX2_takeCard_46 (by decide) ?_
        refine p_lv [1, 0] rfl ?_
        exact j59 _ _ h
    · refine p_iconst G rfl dX2_takeCard_25 ?_
      (cases h; exact p_iret G hR dX2_takeCard_26 rfl rfl)
  refine p_iload_n G rfl 1 rfl dX2_takeCard_0 ?_
  refine p_ifeq (tgt := 11) G dX2_takeCard_1 (by decide) h (fun c13 h => ?_) (fun c13 h => ?_)
  · refine p_aload_n G rfl 0 rfl dX2_takeCard_11 ?_
    refine p_aload_n G rfl 0 rfl dX2_takeCard_12 ?_
    refine p_get G dX2_takeCard_13 fl_X2_61 (k := 0) rfl rfl ?_
    obtain ⟨v1, hc, h⟩ := bnd_some h
    refine p_callVi G dX2_takeCard_16 lk_X2_81 (c_X2_deckAt (gl Γ) hc) (As := [.int (zJ (σ 0 14))]) (ci := 2) rfl rfl rfl rfl (Nat.le_of_ble_eq_true rfl) ⟨rfl, rfl, Nat.le_of_ble_eq_true rfl, Nat.le_of_ble_eq_true rfl⟩ hcs ?_
    exact j19 _ _ _ h
  · refine p_aload_n G rfl 0 rfl dX2_takeCard_4 ?_
    obtain ⟨v12, hc, h⟩ := bnd_some h
    refine p_callVi G dX2_takeCard_5 lk_X2_95 (c_X2_topOfPile (gl Γ) hc) (As := []) (ci := 2) rfl rfl rfl rfl (Nat.le_of_ble_eq_true rfl) ⟨rfl, rfl, Nat.le_of_ble_eq_true rfl, Nat.le_of_ble_eq_true rfl⟩ hcs ?_
    refine p_goto (tgt := 19) G dX2_takeCard_8 (by decide) ?_
    exact j19 _ _ _ h
set_option maxHeartbeats 4000000 in
set_option maxRecDepth 100000 in
theorem c_X2_putDown (l : Launch) {D : va_G} {yy : Nat → ClassId} {tk tv a : Nat → Nat} {σ : Mm} {p1 : Int} {o : Mm} (h : x_X2_putDown σ p1 = some o) : CT l yX2_putDown cX2_putDown 2 none rm_X2_putDown shM D yy tk tv a σ [.ref (a 0), .int (zJ p1)] o none := by
  refine ct_of (Ar := fun a tk => [.ref (a 0), .int (zJ p1)]) (by decide) (Nat.le_of_ble_eq_true rfl) (fun Γ G _ _ hR => ?_)
  have hcs := rt_cs hR
  unfold x_X2_putDown at h
  refine (?_ : PT Γ 2 shM 0 σ [(0, .ref (ga Γ 0)), (1, .int (zJ p1))] [])
  refine p_aload_n G rfl 0 rfl dX2_putDown_0 ?_
  refine p_get G dX2_putDown_1 fl_X2_15 (k := 0) rfl rfl ?_
  refine p_aload_n G rfl 0 rfl dX2_putDown_4 ?_
  refine p_get G dX2_putDown_5 fl_X2_42 (k := 0) rfl rfl ?_
  refine p_iconst G rfl dX2_putDown_8 ?_
  refine p_iand G dX2_putDown_9 ?_
  refine p_dup2 G rfl rfl dX2_putDown_10 ?_
  refine p_lald G dX2_putDown_11 (k := 2) rfl (zt_c _) h (fun c1 h => ?_)
  refine p_iload_n G rfl 1 rfl dX2_putDown_12 ?_
  obtain ⟨v2, hc, h⟩ := bnd_some h
  refine p_callS0 G dX2_putDown_13 lk_X2_85 (c_X6_bitOf (gl Γ) hc) (As := [.int (zJ p1)]) rfl zk_3 rfl (Nat.le_of_ble_eq_true rfl) ⟨rfl, rfl, Nat.le_of_ble_eq_true rfl, Nat.le_of_ble_eq_true rfl⟩ hcs ?_
  refine p_ldc2 G gm_569 dX2_putDown_16 ?_
  refine p_lxor G dX2_putDown_19 ?_
  refine p_land G dX2_putDown_20 ?_
  refine p_last G dX2_putDown_21 (k := 2) rfl (zt_c _) rfl h (fun σ3 c4 h => ?_)
  refine p_aload_n G rfl 0 rfl dX2_putDown_22 ?_
  refine p_get G dX2_putDown_23 fl_X2_64 (k := 0) rfl rfl ?_
  refine p_iflt (tgt := 58) G dX2_putDown_26 (by decide) h (fun c15 h => ?_) (fun c15 h => ?_)
  · refine p_aload_n G rfl 0 rfl dX2_putDown_58 ?_
    refine p_iconst G rfl dX2_putDown_59 ?_
    refine p_putZ G dX2_putDown_60 fp_X2_45 (k := 0) rfl rfl rfl rfl (zb_01 (by decide)) h (fun σ5 h => ?_)
    refine p_aload_n G rfl 0 rfl dX2_putDown_63 ?_
    refine p_iconst G rfl dX2_putDown_64 ?_
    refine p_putI G dX2_putDown_65 fp_X2_49 (k := 0) rfl rfl rfl rfl h (fun σ6 h => ?_)
    (cases h; exact p_vret G hR dX2_putDown_68 rfl rfl)
  · refine p_aload_n G rfl 0 rfl dX2_putDown_29 ?_
    refine p_get G dX2_putDown_30 fl_X2_64 (k := 0) rfl rfl ?_
    refine p_bipush G (by decide) (by decide) dX2_putDown_33 ?_
    refine p_icmpge (tgt := 58) G dX2_putDown_35 (by decide) h (fun c14 h => ?_) (fun c14 h => ?_)
    · refine p_aload_n G rfl 0 rfl dX2_putDown_58 ?_
      refine p_iconst G rfl dX2_putDown_59 ?_
      refine p_putZ G dX2_putDown_60 fp_X2_45 (k := 0) rfl rfl rfl rfl (zb_01 (by decide)) h (fun σ7 h => ?_)
      refine p_aload_n G rfl 0 rfl dX2_putDown_63 ?_
      refine p_iconst G rfl dX2_putDown_64 ?_
      refine p_putI G dX2_putDown_65 fp_X2_49 (k := 0) rfl rfl rfl rfl h (fun σ8 h => ?_)
      (cases h; exact p_vret G hR dX2_putDown_68 rfl rfl)
    · refine p_aload_n G rfl 0 rfl dX2_putDown_38 ?_
      refine p_get G dX2_putDown_39 fl_X2_22 (k := 0) rfl rfl ?_
      refine p_aload_n G rfl 0 rfl dX2_putDown_42 ?_
      refine p_get G dX2_putDown_43 fl_X2_64 (k := 0) rfl rfl ?_
      refine p_iload_n G rfl 1 rfl dX2_putDown_46 ?_
      refine p_iast G dX2_putDown_47 (k := 4) rfl (zt_c _) rfl h (fun σ9 c10 h => ?_)
      refine p_aload_n G rfl 0 rfl dX2_putDown_48 ?_
      refine p_dup G rfl dX2_putDown_49 ?_
      refine p_get G dX2_putDown_50 fl_X2_64 (k := 0) rfl rfl ?_
      refine p_iconst G rfl dX2_putDown_53 ?_
      refine p_iadd G dX2_putDown_54 ?_
      refine p_putI G dX2_putDown_55 fp_X2_64 (k := 0) rfl rfl rfl rfl h (fun σ11 h => ?_)
      refine p_aload_n G rfl 0 rfl dX2_putDown_58 ?_
      refine p_iconst G rfl dX2_putDown_59 ?_
      refine p_putZ G dX2_putDown_60 fp_X2_45 (k := 0) rfl rfl rfl rfl (zb_01 (by decide)) h (fun σ12 h => ?_)
      refine p_aload_n G rfl 0 rfl dX2_putDown_63 ?_
      refine p_iconst G rfl dX2_putDown_64 ?_
      refine p_putI G dX2_putDown_65 fp_X2_49 (k := 0) rfl rfl rfl rfl h (fun σ13 h => ?_)
      (cases h; exact p_vret G hR dX2_putDown_68 rfl rfl)
set_option maxHeartbeats 4000000 in
set_option maxRecDepth 100000 in
theorem c_X2_stockCount (l : Launch) {D : va_G} {yy : Nat → ClassId} {tk tv a : Nat → Nat} {σ : Mm} {o : Int} (h : x_X2_stockCount σ = some o) : CT l yX2_stockCount cX2_stockCount 1 (some .int) rm_X2_stockCount shM D yy tk tv a σ [.ref (a 0)] σ (some (.int (zJ o))) := by
  refine ct_of (Ar := fun a tk => [.ref (a 0)]) (by decide) (Nat.le_of_ble_eq_true rfl) (fun Γ G _ _ hR => ?_)
  have hcs := rt_cs hR
  unfold x_X2_stockCount at h
  refine (?_ : PT Γ 1 shM 0 σ [(0, .ref (ga Γ 0))] [])
  refine p_bipush G (by decide) (by decide) dX2_stockCount_0 ?_
  refine p_aload_n G rfl 0 rfl dX2_stockCount_2 ?_
  refine p_get G dX2_stockCount_3 fl_X2_61 (k := 0) rfl rfl ?_
  refine p_isub G dX2_stockCount_6 ?_
  (cases h; exact p_iret G hR dX2_stockCount_7 rfl rfl)
set_option maxHeartbeats 4000000 in
set_option maxRecDepth 100000 in
theorem c_X2_endTurn (l : Launch) {D : va_G} {yy : Nat → ClassId} {tk tv a : Nat → Nat} {σ : Mm} {p1 : Int} {o : Mm} (h : x_X2_endTurn σ p1 = some o) : CT l yX2_endTurn cX2_endTurn 2 none rm_X2_endTurn shM D yy tk tv a σ [.ref (a 0), .int (zJ p1)] o none := by
  refine ct_of (Ar := fun a tk => [.ref (a 0), .int (zJ p1)]) (by decide) (Nat.le_of_ble_eq_true rfl) (fun Γ G _ _ hR => ?_)
  have hcs := rt_cs hR
  unfold x_X2_endTurn at h
  refine (?_ : PT Γ 2 shM 0 σ [(0, .ref (ga Γ 0)), (1, .int (zJ p1))] [])
  refine p_aload_n G rfl 0 rfl dX2_endTurn_0 ?_
  refine p_iload_n G rfl 1 rfl dX2_endTurn_1 ?_
  obtain ⟨σ1, hc, h⟩ := bnd_some h
  refine p_callVi G dX2_endTurn_2 lk_X2_101 (c_X2_putDown (gl Γ) hc) (As := [.int (zJ p1)]) (ci := 2) rfl rfl rfl rfl (Nat.le_of_ble_eq_true rfl) ⟨rfl, rfl, Nat.le_of_ble_eq_true rfl, Nat.le_of_ble_eq_true rfl⟩ hcs ?_
  refine p_aload_n G rfl 0 rfl dX2_endTurn_5 ?_
  obtain ⟨v2, hc, h⟩ := bnd_some h
  refine p_callVi G dX2_endTurn_6 lk_X2_105 (c_X2_stockCount (gl Γ) hc) (As := []) (ci := 2) rfl rfl rfl rfl (Nat.le_of_ble_eq_true rfl) ⟨rfl, rfl, Nat.le_of_ble_eq_true rfl, Nat.le_of_ble_eq_true rfl⟩ hcs ?_
  refine p_ifle (tgt := 23) G dX2_endTurn_9 (by decide) h (fun c7 h => ?_) (fun c7 h => ?_)
  · refine p_aload_n G rfl 0 rfl dX2_endTurn_23 ?_
    refine p_iconst G rfl dX2_endTurn_24 ?_
    refine p_putZ G dX2_endTurn_25 fp_X2_52 (k := 0) rfl rfl rfl rfl (zb_01 (by decide)) h (fun σ3 h => ?_)
    refine p_aload_n G rfl 0 rfl dX2_endTurn_28 ?_
    refine p_iconst G rfl dX2_endTurn_29 ?_
    refine p_putI G dX2_endTurn_30 fp_X2_55 (k := 0) rfl rfl rfl rfl h (fun σ4 h => ?_)
    refine p_aload_n G rfl 0 rfl dX2_endTurn_33 ?_
    refine p_iconst G rfl dX2_endTurn_34 ?_
    refine p_putI G dX2_endTurn_35 fp_X2_58 (k := 0) rfl rfl rfl rfl h (fun σ5 h => ?_)
    (cases h; exact p_vret G hR dX2_endTurn_38 rfl rfl)
  · refine p_aload_n G rfl 0 rfl dX2_endTurn_12 ?_
    refine p_iconst G rfl dX2_endTurn_13 ?_
    refine p_aload_n G rfl 0 rfl dX2_endTurn_14 ?_
    refine p_get G dX2_endTurn_15 fl_X2_42 (k := 0) rfl rfl ?_
    refine p_isub G dX2_endTurn_18 ?_
    refine p_putI G dX2_endTurn_19 fp_X2_42 (k := 0) rfl rfl rfl rfl h (fun σ6 h => ?_)
    (cases h; exact p_vret G hR dX2_endTurn_22 rfl rfl)
set_option maxHeartbeats 4000000 in
set_option maxRecDepth 100000 in
theorem c_X2_endRound (l : Launch) {D : va_G} {yy : Nat → ClassId} {tk tv a : Nat → Nat} {σ : Mm} {p1 : Int} {p2 : Int} {o : Mm} (h : x_X2_endRound σ p1 p2 = some o) : CT l yX2_endRound cX2_endRound 3 none rm_X2_endRound shM D yy tk tv a σ [.ref (a 0), .int (zJ p1), .int (zJ p2)] o none := by
  refine ct_of (Ar := fun a tk => [.ref (a 0), .int (zJ p1), .int (zJ p2)]) (by decide) (Nat.le_of_ble_eq_true rfl) (fun Γ G _ _ hR => ?_)
  have hcs := rt_cs hR
  unfold x_X2_endRound at h
  refine (?_ : PT Γ 3 shM 0 σ [(0, .ref (ga Γ 0)), (1, .int (zJ p1)), (2, .int (zJ p2))] [])
  refine p_aload_n G rfl 0 rfl dX2_endRound_0 ?_
  refine p_iload_n G rfl 1 rfl dX2_endRound_1 ?_
  obtain ⟨σ1, hc, h⟩ := bnd_some h
  refine p_callVi G dX2_endRound_2 lk_X2_101 (c_X2_putDown (gl Γ) hc) (As := [.int (zJ p1)]) (ci := 2) rfl rfl rfl rfl (Nat.le_of_ble_eq_true rfl) ⟨rfl, rfl, Nat.le_of_ble_eq_true rfl, Nat.le_of_ble_eq_true rfl⟩ hcs ?_
  refine p_aload_n G rfl 0 rfl dX2_endRound_5 ?_
  refine p_iconst G rfl dX2_endRound_6 ?_
  refine p_putZ G dX2_endRound_7 fp_X2_52 (k := 0) rfl rfl rfl rfl (zb_01 (by decide)) h (fun σ2 h => ?_)
  refine p_aload_n G rfl 0 rfl dX2_endRound_10 ?_
  refine p_iload_n G rfl 2 rfl dX2_endRound_11 ?_
  refine p_zabs G gm_684 gm_685 gm_103 gm_686 (by decide) (by decide) hcs dX2_endRound_12 ?_
  refine p_putI G dX2_endRound_15 fp_X2_55 (k := 0) rfl rfl rfl rfl h (fun σ3 h => ?_)
  refine p_aload_n G rfl 0 rfl dX2_endRound_18 ?_
  refine p_iload_n G rfl 2 rfl dX2_endRound_19 ?_
  refine p_ifle (tgt := 30) G dX2_endRound_20 (by decide) h (fun c12 h => ?_) (fun c12 h => ?_)
  · refine p_iconst G rfl dX2_endRound_30 ?_
    refine p_aload_n G rfl 0 rfl dX2_endRound_31 ?_
    refine p_get G dX2_endRound_32 fl_X2_42 (k := 0) rfl rfl ?_
    refine p_isub G dX2_endRound_35 ?_
    refine p_putI G dX2_endRound_36 fp_X2_58 (k := 0) rfl rfl rfl rfl h (fun σ4 h => ?_)
    refine p_aload_n G rfl 0 rfl dX2_endRound_39 ?_
    refine p_get G dX2_endRound_40 fl_X2_9 (k := 0) rfl rfl ?_
    refine p_aload_n G rfl 0 rfl dX2_endRound_43 ?_
    refine p_get G dX2_endRound_44 fl_X2_58 (k := 0) rfl rfl ?_
    refine p_iconst G rfl dX2_endRound_47 ?_
    refine p_iand G dX2_endRound_48 ?_
    refine p_dup2 G rfl rfl dX2_endRound_49 ?_
    refine p_iald G dX2_endRound_50 (k := 1) rfl (zt_c _) h (fun c5 h => ?_)
    refine p_aload_n G rfl 0 rfl dX2_endRound_51 ?_
    refine p_get G dX2_endRound_52 fl_X2_55 (k := 0) rfl rfl ?_
    refine p_iadd G dX2_endRound_55 ?_
    refine p_iast G dX2_endRound_56 (k := 1) rfl (zt_c _) rfl h (fun σ6 c7 h => ?_)
    (cases h; exact p_vret G hR dX2_endRound_57 rfl rfl)
  · refine p_aload_n G rfl 0 rfl dX2_endRound_23 ?_
    refine p_get G dX2_endRound_24 fl_X2_42 (k := 0) rfl rfl ?_
    refine p_goto (tgt := 36) G dX2_endRound_27 (by decide) ?_
    refine p_putI G dX2_endRound_36 fp_X2_58 (k := 0) rfl rfl rfl rfl h (fun σ8 h => ?_)
    refine p_aload_n G rfl 0 rfl dX2_endRound_39 ?_
    refine p_get G dX2_endRound_40 fl_X2_9 (k := 0) rfl rfl ?_
    refine p_aload_n G rfl 0 rfl dX2_endRound_43 ?_
    refine p_get G dX2_endRound_44 fl_X2_58 (k := 0) rfl rfl ?_
    refine p_iconst G rfl dX2_endRound_47 ?_
    refine p_iand G dX2_endRound_48 ?_
    refine p_dup2 G rfl rfl dX2_endRound_49 ?_
    refine p_iald G dX2_endRound_50 (k := 1) rfl (zt_c _) h (fun c9 h => ?_)
    refine p_aload_n G rfl 0 rfl dX2_endRound_51 ?_
    refine p_get G dX2_endRound_52 fl_X2_55 (k := 0) rfl rfl ?_
    refine p_iadd G dX2_endRound_55 ?_
    refine p_iast G dX2_endRound_56 (k := 1) rfl (zt_c _) rfl h (fun σ10 c11 h => ?_)
    (cases h; exact p_vret G hR dX2_endRound_57 rfl rfl)
set_option maxHeartbeats 4000000 in
set_option maxRecDepth 100000 in
theorem c_X2_reasonAgainstDraw (l : Launch) {D : va_G} {yy : Nat → ClassId} {tk tv a : Nat → Nat} {σ : Mm} {o : Int} (h : x_X2_reasonAgainstDraw σ = some o) : CT l yX2_reasonAgainstDraw cX2_reasonAgainstDraw 1 (some .int) rm_X2_reasonAgainstDraw shM D yy tk tv a σ [.ref (a 0)] σ (some (.int (zJ o))) := by
  refine ct_of (Ar := fun a tk => [.ref (a 0)]) (by decide) (Nat.le_of_ble_eq_true rfl) (fun Γ G _ _ hR => ?_)
  have hcs := rt_cs hR
  unfold x_X2_reasonAgainstDraw at h
  refine (?_ : PT Γ 1 shM 0 σ [(0, .ref (ga Γ 0))] [])
  refine p_aload_n G rfl 0 rfl dX2_reasonAgainstDraw_0 ?_
  refine p_get G dX2_reasonAgainstDraw_1 fl_X2_52 (k := 0) rfl rfl ?_
  refine p_ifeq (tgt := 9) G dX2_reasonAgainstDraw_4 (by decide) h (fun c2 h => ?_) (fun c2 h => ?_)
  · refine p_aload_n G rfl 0 rfl dX2_reasonAgainstDraw_9 ?_
    refine p_get G dX2_reasonAgainstDraw_10 fl_X2_45 (k := 0) rfl rfl ?_
    refine p_ifeq (tgt := 20) G dX2_reasonAgainstDraw_13 (by decide) h (fun c1 h => ?_) (fun c1 h => ?_)
    · refine p_iconst G rfl dX2_reasonAgainstDraw_20 ?_
      (cases h; exact p_iret G hR dX2_reasonAgainstDraw_21 rfl rfl)
    · refine p_iconst G rfl dX2_reasonAgainstDraw_16 ?_
      refine p_goto (tgt := 21) G dX2_reasonAgainstDraw_17 (by decide) ?_
      (cases h; exact p_iret G hR dX2_reasonAgainstDraw_21 rfl rfl)
  · refine p_iconst G rfl dX2_reasonAgainstDraw_7 ?_
    (cases h; exact p_iret G hR dX2_reasonAgainstDraw_8 rfl rfl)
set_option maxHeartbeats 4000000 in
set_option maxRecDepth 100000 in
theorem c_X2_reasonAgainstDrop (l : Launch) {D : va_G} {yy : Nat → ClassId} {tk tv a : Nat → Nat} {σ : Mm} {p1 : Int} {o : Int} (h : x_X2_reasonAgainstDrop σ p1 = some o) : CT l yX2_reasonAgainstDrop cX2_reasonAgainstDrop 2 (some .int) rm_X2_reasonAgainstDrop shM D yy tk tv a σ [.ref (a 0), .int (zJ p1)] σ (some (.int (zJ o))) := by
  refine ct_of (Ar := fun a tk => [.ref (a 0), .int (zJ p1)]) (by decide) (Nat.le_of_ble_eq_true rfl) (fun Γ G _ _ hR => ?_)
  have hcs := rt_cs hR
  unfold x_X2_reasonAgainstDrop at h
  refine (?_ : PT Γ 2 shM 0 σ [(0, .ref (ga Γ 0)), (1, .int (zJ p1))] [])
  refine p_aload_n G rfl 0 rfl dX2_reasonAgainstDrop_0 ?_
  refine p_get G dX2_reasonAgainstDrop_1 fl_X2_52 (k := 0) rfl rfl ?_
  refine p_ifeq (tgt := 9) G dX2_reasonAgainstDrop_4 (by decide) h (fun c3 h => ?_) (fun c3 h => ?_)
  · refine p_aload_n G rfl 0 rfl dX2_reasonAgainstDrop_9 ?_
    refine p_get G dX2_reasonAgainstDrop_10 fl_X2_45 (k := 0) rfl rfl ?_
    refine p_ifne (tgt := 18) G dX2_reasonAgainstDrop_13 (by decide) h (fun c2 h => ?_) (fun c2 h => ?_)
    · refine p_iload_n G rfl 1 rfl dX2_reasonAgainstDrop_18 ?_
      refine p_aload_n G rfl 0 rfl dX2_reasonAgainstDrop_19 ?_
      refine p_get G dX2_reasonAgainstDrop_20 fl_X2_49 (k := 0) rfl rfl ?_
      refine p_icmpne (tgt := 30) G dX2_reasonAgainstDrop_23 (by decide) h (fun c1 h => ?_) (fun c1 h => ?_)
      · refine p_iconst G rfl dX2_reasonAgainstDrop_30 ?_
        (cases h; exact p_iret G hR dX2_reasonAgainstDrop_31 rfl rfl)
      · refine p_iconst G rfl dX2_reasonAgainstDrop_26 ?_
        refine p_goto (tgt := 31) G dX2_reasonAgainstDrop_27 (by decide) ?_
        (cases h; exact p_iret G hR dX2_reasonAgainstDrop_31 rfl rfl)
    · refine p_iconst G rfl dX2_reasonAgainstDrop_16 ?_
      (cases h; exact p_iret G hR dX2_reasonAgainstDrop_17 rfl rfl)
  · refine p_iconst G rfl dX2_reasonAgainstDrop_7 ?_
    (cases h; exact p_iret G hR dX2_reasonAgainstDrop_8 rfl rfl)
set_option maxHeartbeats 4000000 in
set_option maxRecDepth 100000 in
theorem c_X2_reasonAgainstKnock (l : Launch) {D : va_G} {yy : Nat → ClassId} {tk tv a : Nat → Nat} {σ : Mm} {p1 : Int} {p2 : Int} {o : Int} (h : x_X2_reasonAgainstKnock σ p1 p2 = some o) : CT l yX2_reasonAgainstKnock cX2_reasonAgainstKnock 4 (some .int) rm_X2_reasonAgainstKnock shM D yy tk tv a σ [.ref (a 0), .int (zJ p1), .int (zJ p2)] σ (some (.int (zJ o))) := by
  refine ct_of (Ar := fun a tk => [.ref (a 0), .int (zJ p1), .int (zJ p2)]) (by decide) (Nat.le_of_ble_eq_true rfl) (fun Γ G _ _ hR => ?_)
  have hcs := rt_cs hR
  unfold x_X2_reasonAgainstKnock at h
  refine (?_ : PT Γ 4 shM 0 σ [(0, .ref (ga Γ 0)), (1, .int (zJ p1)), (2, .int (zJ p2))] [])
  refine p_aload_n G rfl 0 rfl dX2_reasonAgainstKnock_0 ?_
  refine p_iload_n G rfl 1 rfl dX2_reasonAgainstKnock_1 ?_
  obtain ⟨v1, hc, h⟩ := bnd_some h
  refine p_callVi G dX2_reasonAgainstKnock_2 lk_X2_113 (c_X2_reasonAgainstDrop (gl Γ) hc) (As := [.int (zJ p1)]) (ci := 2) rfl rfl rfl rfl (Nat.le_of_ble_eq_true rfl) ⟨rfl, rfl, Nat.le_of_ble_eq_true rfl, Nat.le_of_ble_eq_true rfl⟩ hcs ?_
  refine p_istore_nU (lv' := [(3, .int (zJ v1)), (0, .ref (ga Γ 0)), (1, .int (zJ p1)), (2, .int (zJ p2))]) G rfl dX2_reasonAgainstKnock_5 (by decide) rfl ?_
  refine p_iload_n G rfl 0 rfl dX2_reasonAgainstKnock_6 ?_
  refine p_ifeq (tgt := 12) G dX2_reasonAgainstKnock_7 (by decide) h (fun c3 h => ?_) (fun c3 h => ?_)
  · refine p_iload_n G rfl 3 rfl dX2_reasonAgainstKnock_12 ?_
    refine p_aload_n G rfl 1 rfl dX2_reasonAgainstKnock_13 ?_
    refine p_get G dX2_reasonAgainstKnock_14 fl_X2_29 (k := 0) rfl rfl ?_
    refine p_icmple (tgt := 25) G dX2_reasonAgainstKnock_17 (by decide) h (fun c2 h => ?_) (fun c2 h => ?_)
    · refine p_iconst G rfl dX2_reasonAgainstKnock_25 ?_
      (cases h; exact p_iret G hR dX2_reasonAgainstKnock_26 rfl rfl)
    · refine p_bipush G (by decide) (by decide) dX2_reasonAgainstKnock_20 ?_
      refine p_goto (tgt := 26) G dX2_reasonAgainstKnock_22 (by decide) ?_
      (cases h; exact p_iret G hR dX2_reasonAgainstKnock_26 rfl rfl)
  · refine p_iload_n G rfl 0 rfl dX2_reasonAgainstKnock_10 ?_
    (cases h; exact p_iret G hR dX2_reasonAgainstKnock_11 rfl rfl)
set_option maxHeartbeats 4000000 in
set_option maxRecDepth 100000 in
theorem c_X2_isMatchOver (l : Launch) {D : va_G} {yy : Nat → ClassId} {tk tv a : Nat → Nat} {σ : Mm} {o : Int} (h : x_X2_isMatchOver σ = some o) : CT l yX2_isMatchOver cX2_isMatchOver 1 (some .boolean) rm_X2_isMatchOver shM D yy tk tv a σ [.ref (a 0)] σ (some (.int (zJ o))) := by
  refine ct_of (Ar := fun a tk => [.ref (a 0)]) (by decide) (Nat.le_of_ble_eq_true rfl) (fun Γ G _ _ hR => ?_)
  have hcs := rt_cs hR
  unfold x_X2_isMatchOver at h
  refine (?_ : PT Γ 1 shM 0 σ [(0, .ref (ga Γ 0))] [])
  refine p_aload_n G rfl 0 rfl dX2_isMatchOver_0 ?_
  refine p_get G dX2_isMatchOver_1 fl_X2_52 (k := 0) rfl rfl ?_
  refine p_ifeq (tgt := 37) G dX2_isMatchOver_4 (by decide) h (fun c5 h => ?_) (fun c5 h => ?_)
  · refine p_iconst G rfl dX2_isMatchOver_37 ?_
    (cases h; exact p_zret G hR dX2_isMatchOver_38 (by decide) rfl rfl)
  · refine p_aload_n G rfl 0 rfl dX2_isMatchOver_7 ?_
    refine p_get G dX2_isMatchOver_8 fl_X2_9 (k := 0) rfl rfl ?_
    refine p_iconst G rfl dX2_isMatchOver_11 ?_
    refine p_iald G dX2_isMatchOver_12 (k := 1) rfl (zt_c _) h (fun c1 h => ?_)
    refine p_aload_n G rfl 0 rfl dX2_isMatchOver_13 ?_
    refine p_get G dX2_isMatchOver_14 fl_X2_32 (k := 0) rfl rfl ?_
    refine p_icmpge (tgt := 33) G dX2_isMatchOver_17 (by decide) h (fun c4 h => ?_) (fun c4 h => ?_)
    · refine p_iconst G rfl dX2_isMatchOver_33 ?_
      refine p_goto (tgt := 38) G dX2_isMatchOver_34 (by decide) ?_
      (cases h; exact p_zret G hR dX2_isMatchOver_38 (by decide) rfl rfl)
    · refine p_aload_n G rfl 0 rfl dX2_isMatchOver_20 ?_
      refine p_get G dX2_isMatchOver_21 fl_X2_9 (k := 0) rfl rfl ?_
      refine p_iconst G rfl dX2_isMatchOver_24 ?_
      refine p_iald G dX2_isMatchOver_25 (k := 1) rfl (zt_c _) h (fun c2 h => ?_)
      refine p_aload_n G rfl 0 rfl dX2_isMatchOver_26 ?_
      refine p_get G dX2_isMatchOver_27 fl_X2_32 (k := 0) rfl rfl ?_
      refine p_icmplt (tgt := 37) G dX2_isMatchOver_30 (by decide) h (fun c3 h => ?_) (fun c3 h => ?_)
      · refine p_iconst G rfl dX2_isMatchOver_37 ?_
        (cases h; exact p_zret G hR dX2_isMatchOver_38 (by decide) rfl rfl)
      · refine p_iconst G rfl dX2_isMatchOver_33 ?_
        refine p_goto (tgt := 38) G dX2_isMatchOver_34 (by decide) ?_
        (cases h; exact p_zret G hR dX2_isMatchOver_38 (by decide) rfl rfl)
set_option maxHeartbeats 4000000 in
set_option maxRecDepth 100000 in
theorem c_X2_reasonAgainstDeal (l : Launch) {D : va_G} {yy : Nat → ClassId} {tk tv a : Nat → Nat} {σ : Mm} {o : Int} (h : x_X2_reasonAgainstDeal σ = some o) : CT l yX2_reasonAgainstDeal cX2_reasonAgainstDeal 1 (some .int) rm_X2_reasonAgainstDeal shM D yy tk tv a σ [.ref (a 0)] σ (some (.int (zJ o))) := by
  refine ct_of (Ar := fun a tk => [.ref (a 0)]) (by decide) (Nat.le_of_ble_eq_true rfl) (fun Γ G _ _ hR => ?_)
  have hcs := rt_cs hR
  unfold x_X2_reasonAgainstDeal at h
  refine (?_ : PT Γ 1 shM 0 σ [(0, .ref (ga Γ 0))] [])
  refine p_aload_n G rfl 0 rfl dX2_reasonAgainstDeal_0 ?_
  refine p_get G dX2_reasonAgainstDeal_1 fl_X2_52 (k := 0) rfl rfl ?_
  refine p_ifne (tgt := 10) G dX2_reasonAgainstDeal_4 (by decide) h (fun c3 h => ?_) (fun c3 h => ?_)
  · refine p_aload_n G rfl 0 rfl dX2_reasonAgainstDeal_10 ?_
    obtain ⟨v1, hc, h⟩ := bnd_some h
    refine p_callVi G dX2_reasonAgainstDeal_11 lk_X2_116 (c_X2_isMatchOver (gl Γ) hc) (As := []) (ci := 2) rfl rfl rfl rfl (Nat.le_of_ble_eq_true rfl) ⟨rfl, rfl, Nat.le_of_ble_eq_true rfl, Nat.le_of_ble_eq_true rfl⟩ hcs ?_
    refine p_ifeq (tgt := 22) G dX2_reasonAgainstDeal_14 (by decide) h (fun c2 h => ?_) (fun c2 h => ?_)
    · refine p_iconst G rfl dX2_reasonAgainstDeal_22 ?_
      (cases h; exact p_iret G hR dX2_reasonAgainstDeal_23 rfl rfl)
    · refine p_bipush G (by decide) (by decide) dX2_reasonAgainstDeal_17 ?_
      refine p_goto (tgt := 23) G dX2_reasonAgainstDeal_19 (by decide) ?_
      (cases h; exact p_iret G hR dX2_reasonAgainstDeal_23 rfl rfl)
  · refine p_bipush G (by decide) (by decide) dX2_reasonAgainstDeal_7 ?_
    (cases h; exact p_iret G hR dX2_reasonAgainstDeal_9 rfl rfl)
set_option maxHeartbeats 4000000 in
set_option maxRecDepth 100000 in
theorem c_X2_isDropDue (l : Launch) {D : va_G} {yy : Nat → ClassId} {tk tv a : Nat → Nat} {σ : Mm} {o : Int} (h : x_X2_isDropDue σ = some o) : CT l yX2_isDropDue cX2_isDropDue 1 (some .boolean) rm_X2_isDropDue shM D yy tk tv a σ [.ref (a 0)] σ (some (.int (zJ o))) := by
  refine ct_of (Ar := fun a tk => [.ref (a 0)]) (by decide) (Nat.le_of_ble_eq_true rfl) (fun Γ G _ _ hR => ?_)
  have hcs := rt_cs hR
  unfold x_X2_isDropDue at h
  refine (?_ : PT Γ 1 shM 0 σ [(0, .ref (ga Γ 0))] [])
  refine p_aload_n G rfl 0 rfl dX2_isDropDue_0 ?_
  refine p_get G dX2_isDropDue_1 fl_X2_45 (k := 0) rfl rfl ?_
  refine p_ifeq (tgt := 18) G dX2_isDropDue_4 (by decide) h (fun c2 h => ?_) (fun c2 h => ?_)
  · refine p_iconst G rfl dX2_isDropDue_18 ?_
    (cases h; exact p_zret G hR dX2_isDropDue_19 (by decide) rfl rfl)
  · refine p_aload_n G rfl 0 rfl dX2_isDropDue_7 ?_
    refine p_get G dX2_isDropDue_8 fl_X2_52 (k := 0) rfl rfl ?_
    refine p_ifne (tgt := 18) G dX2_isDropDue_11 (by decide) h (fun c1 h => ?_) (fun c1 h => ?_)
    · refine p_iconst G rfl dX2_isDropDue_18 ?_
      (cases h; exact p_zret G hR dX2_isDropDue_19 (by decide) rfl rfl)
    · refine p_iconst G rfl dX2_isDropDue_14 ?_
      refine p_goto (tgt := 19) G dX2_isDropDue_15 (by decide) ?_
      (cases h; exact p_zret G hR dX2_isDropDue_19 (by decide) rfl rfl)
set_option maxHeartbeats 4000000 in
set_option maxRecDepth 100000 in
theorem c_X2_score (l : Launch) {D : va_G} {yy : Nat → ClassId} {tk tv a : Nat → Nat} {σ : Mm} {p1 : Int} {o : Int} (h : x_X2_score σ p1 = some o) : CT l yX2_score cX2_score 2 (some .int) rm_X2_score shM D yy tk tv a σ [.ref (a 0), .int (zJ p1)] σ (some (.int (zJ o))) := by
  refine ct_of (Ar := fun a tk => [.ref (a 0), .int (zJ p1)]) (by decide) (Nat.le_of_ble_eq_true rfl) (fun Γ G _ _ hR => ?_)
  have hcs := rt_cs hR
  unfold x_X2_score at h
  refine (?_ : PT Γ 2 shM 0 σ [(0, .ref (ga Γ 0)), (1, .int (zJ p1))] [])
  refine p_aload_n G rfl 0 rfl dX2_score_0 ?_
  refine p_get G dX2_score_1 fl_X2_9 (k := 0) rfl rfl ?_
  refine p_iload_n G rfl 1 rfl dX2_score_4 ?_
  refine p_iconst G rfl dX2_score_5 ?_
  refine p_iand G dX2_score_6 ?_
  refine p_iald G dX2_score_7 (k := 1) rfl (zt_c _) h (fun c1 h => ?_)
  (cases h; exact p_iret G hR dX2_score_8 rfl rfl)
set_option maxHeartbeats 4000000 in
set_option maxRecDepth 100000 in
theorem c_X2_handOf (l : Launch) {D : va_G} {yy : Nat → ClassId} {tk tv a : Nat → Nat} {σ : Mm} {p1 : Int} {o : Int64} (h : x_X2_handOf σ p1 = some o) : CT l yX2_handOf cX2_handOf 2 (some .long) rm_X2_handOf shM D yy tk tv a σ [.ref (a 0), .int (zJ p1)] σ (some (.long o)) := by
  refine ct_of (Ar := fun a tk => [.ref (a 0), .int (zJ p1)]) (by decide) (Nat.le_of_ble_eq_true rfl) (fun Γ G _ _ hR => ?_)
  have hcs := rt_cs hR
  unfold x_X2_handOf at h
  refine (?_ : PT Γ 2 shM 0 σ [(0, .ref (ga Γ 0)), (1, .int (zJ p1))] [])
  refine p_aload_n G rfl 0 rfl dX2_handOf_0 ?_
  refine p_get G dX2_handOf_1 fl_X2_15 (k := 0) rfl rfl ?_
  refine p_iload_n G rfl 1 rfl dX2_handOf_4 ?_
  refine p_iconst G rfl dX2_handOf_5 ?_
  refine p_iand G dX2_handOf_6 ?_
  refine p_lald G dX2_handOf_7 (k := 2) rfl (zt_c _) h (fun c1 h => ?_)
  (cases h; exact p_lret G hR dX2_handOf_8 rfl rfl)
set_option maxHeartbeats 4000000 in
set_option maxRecDepth 100000 in
theorem c_X2_otherHand (l : Launch) {D : va_G} {yy : Nat → ClassId} {tk tv a : Nat → Nat} {σ : Mm} {o : Int64} (h : x_X2_otherHand σ = some o) : CT l yX2_otherHand cX2_otherHand 1 (some .long) rm_X2_otherHand shM D yy tk tv a σ [.ref (a 0)] σ (some (.long o)) := by
  refine ct_of (Ar := fun a tk => [.ref (a 0)]) (by decide) (Nat.le_of_ble_eq_true rfl) (fun Γ G _ _ hR => ?_)
  have hcs := rt_cs hR
  unfold x_X2_otherHand at h
  refine (?_ : PT Γ 1 shM 0 σ [(0, .ref (ga Γ 0))] [])
  refine p_aload_n G rfl 0 rfl dX2_otherHand_0 ?_
  refine p_iconst G rfl dX2_otherHand_1 ?_
  refine p_aload_n G rfl 0 rfl dX2_otherHand_2 ?_
  refine p_get G dX2_otherHand_3 fl_X2_42 (k := 0) rfl rfl ?_
  refine p_isub G dX2_otherHand_6 ?_
  obtain ⟨v1, hc, h⟩ := bnd_some h
  refine p_callVi G dX2_otherHand_7 lk_X2_120 (c_X2_handOf (gl Γ) hc) (As := [.int (zJ ((1 : Int) - (σ 0 5)))]) (ci := 2) rfl rfl rfl rfl (Nat.le_of_ble_eq_true rfl) ⟨rfl, rfl, Nat.le_of_ble_eq_true rfl, Nat.le_of_ble_eq_true rfl⟩ hcs ?_
  (cases h; exact p_lret G hR dX2_otherHand_10 rfl rfl)
set_option maxHeartbeats 4000000 in
set_option maxRecDepth 100000 in
theorem c_X2_handWithout (l : Launch) {D : va_G} {yy : Nat → ClassId} {tk tv a : Nat → Nat} {σ : Mm} {p1 : Int} {o : Int64} (h : x_X2_handWithout σ p1 = some o) : CT l yX2_handWithout cX2_handWithout 2 (some .long) rm_X2_handWithout shM D yy tk tv a σ [.ref (a 0), .int (zJ p1)] σ (some (.long o)) := by
  refine ct_of (Ar := fun a tk => [.ref (a 0), .int (zJ p1)]) (by decide) (Nat.le_of_ble_eq_true rfl) (fun Γ G _ _ hR => ?_)
  have hcs := rt_cs hR
  unfold x_X2_handWithout at h
  refine (?_ : PT Γ 2 shM 0 σ [(0, .ref (ga Γ 0)), (1, .int (zJ p1))] [])
  refine p_aload_n G rfl 0 rfl dX2_handWithout_0 ?_
  refine p_aload_n G rfl 0 rfl dX2_handWithout_1 ?_
  refine p_get G dX2_handWithout_2 fl_X2_42 (k := 0) rfl rfl ?_
  obtain ⟨v1, hc, h⟩ := bnd_some h
  refine p_callVi G dX2_handWithout_5 lk_X2_120 (c_X2_handOf (gl Γ) hc) (As := [.int (zJ (σ 0 5))]) (ci := 2) rfl rfl rfl rfl (Nat.le_of_ble_eq_true rfl) ⟨rfl, rfl, Nat.le_of_ble_eq_true rfl, Nat.le_of_ble_eq_true rfl⟩ hcs ?_
  refine p_iload_n G rfl 1 rfl dX2_handWithout_8 ?_
  obtain ⟨v2, hc, h⟩ := bnd_some h
  refine p_callS0 G dX2_handWithout_9 lk_X2_85 (c_X6_bitOf (gl Γ) hc) (As := [.int (zJ p1)]) rfl zk_3 rfl (Nat.le_of_ble_eq_true rfl) ⟨rfl, rfl, Nat.le_of_ble_eq_true rfl, Nat.le_of_ble_eq_true rfl⟩ hcs ?_
  refine p_ldc2 G gm_569 dX2_handWithout_12 ?_
  refine p_lxor G dX2_handWithout_15 ?_
  refine p_land G dX2_handWithout_16 ?_
  (cases h; exact p_lret G hR dX2_handWithout_17 rfl rfl)
set_option maxHeartbeats 4000000 in
set_option maxRecDepth 100000 in
theorem c_X2_placeOf (l : Launch) {D : va_G} {yy : Nat → ClassId} {tk tv a : Nat → Nat} {σ : Mm} {p1 : Int} {o : Int} (h : x_X2_placeOf σ p1 = some o) : CT l yX2_placeOf cX2_placeOf 3 (some .int) rm_X2_placeOf shM D yy tk tv a σ [.ref (a 0), .int (zJ p1)] σ (some (.int (zJ o))) := by
  refine ct_of (Ar := fun a tk => [.ref (a 0), .int (zJ p1)]) (by decide) (Nat.le_of_ble_eq_true rfl) (fun Γ G _ _ hR => ?_)
  have hcs := rt_cs hR
  unfold x_X2_placeOf at h
  refine (?_ : PT Γ 3 shM 0 σ [(0, .ref (ga Γ 0)), (1, .int (zJ p1))] [])
  refine p_iconst G rfl dX2_placeOf_0 ?_
  refine p_istore_nU (lv' := [(2, .int (zJ (0 : Int))), (0, .ref (ga Γ 0)), (1, .int (zJ p1))]) G rfl dX2_placeOf_1 (by decide) rfl ?_
  refine p_lv [1, 2, 0] rfl ?_
  obtain ⟨e7, hl2, h⟩ := bnd_some h
  have hX2_20 : ∀ (v8 : Int), (.inl v8) = e7 → PT Γ 3 shM 20 σ [(2, .int (zJ v8))] [] := by
    intro v8 he
    subst he
    rw [zel_l] at h
    refine p_iload_n G rfl 0 rfl dX2_placeOf_20 ?_
    (cases h; exact p_iret G hR dX2_placeOf_21 rfl rfl)
  have hX2_28 : ∀ (_ : Unit), (.inr ()) = e7 → PT Γ 3 shM 28 σ [(0, .ref (ga Γ 0)), (1, .int (zJ p1))] [] := by
    intro _ he
    subst he
    rw [zel_r] at h
    refine p_iconst G rfl dX2_placeOf_28 ?_
    refine p_istore_nU (lv' := [(2, .int (zJ (0 : Int))), (0, .ref (ga Γ 0)), (1, .int (zJ p1))]) G rfl dX2_placeOf_29 (by decide) rfl ?_
    refine p_lv [1, 2, 0] rfl ?_
    obtain ⟨e15, hl30, h⟩ := bnd_some h
    have hX30_54 : ∀ (_ : Unit), (.inl ()) = e15 → PT Γ 3 shM 54 σ [] [] := by
      intro _ he
      subst he
      rw [zel_l] at h
      refine p_iconst G rfl dX2_placeOf_54 ?_
      (cases h; exact p_iret G hR dX2_placeOf_55 rfl rfl)
    have hX30_62 : ∀ (_ : Unit), (.inr ()) = e15 → PT Γ 3 shM 62 σ [] [] := by
      intro _ he
      subst he
      rw [zel_r] at h
      refine p_iconst G rfl dX2_placeOf_62 ?_
      (cases h; exact p_iret G hR dX2_placeOf_63 rfl rfl)
    refine lup_walk (s := (0 : Int)) (At := fun s : Int => PT Γ 3 shM 30 σ [(0, .ref (ga Γ 0)), (1, .int (zJ p1)), (2, .int (zJ s))] []) (fun u2_30 r hf hin30 hout30 => ?_) hl30
    have h : x_X2_placeOf_b30 σ p1 u2_30 = some r := hf
    clear hf
    unfold x_X2_placeOf_b30 at h
    refine (?_ : PT Γ 3 shM 30 σ [(0, .ref (ga Γ 0)), (1, .int (zJ p1)), (2, .int (zJ u2_30))] [])
    refine p_iload_n G rfl 2 rfl dX2_placeOf_30 ?_
    refine p_aload_n G rfl 0 rfl dX2_placeOf_31 ?_
    refine p_get G dX2_placeOf_32 fl_X2_64 (k := 0) rfl rfl ?_
    refine p_icmpge (tgt := 62) G dX2_placeOf_35 (by decide) h (fun c13 h => ?_) (fun c13 h => ?_)
    · refine p_lv [] rfl ?_
      have he := hout30 _ (Option.some.inj h).symm
      subst he
      exact hX30_62 () rfl
    · refine p_iload_n G rfl 2 rfl dX2_placeOf_38 ?_
      refine p_bipush G (by decide) (by decide) dX2_placeOf_39 ?_
      refine p_icmpge (tgt := 62) G dX2_placeOf_41 (by decide) h (fun c12 h => ?_) (fun c12 h => ?_)
      · refine p_lv [] rfl ?_
        have he := hout30 _ (Option.some.inj h).symm
        subst he
        exact hX30_62 () rfl
      · refine p_aload_n G rfl 0 rfl dX2_placeOf_44 ?_
        refine p_get G dX2_placeOf_45 fl_X2_22 (k := 0) rfl rfl ?_
        refine p_iload_n G rfl 2 rfl dX2_placeOf_48 ?_
        refine p_iald G dX2_placeOf_49 (k := 4) rfl (zt_c _) h (fun c9 h => ?_)
        refine p_iload_n G rfl 1 rfl dX2_placeOf_50 ?_
        refine p_icmpne (tgt := 56) G dX2_placeOf_51 (by decide) h (fun c11 h => ?_) (fun c11 h => ?_)
        · refine p_iinc (lv' := fun v10 => [(2, .int (zJ v10)), (0, .ref (ga Γ 0)), (1, .int (zJ p1))]) G dX2_placeOf_56 h 2 rfl (by decide) (fun _ => rfl) (fun v10 h => ?_)
          refine p_goto (tgt := 30) G dX2_placeOf_59 (by decide) ?_
          refine p_lv [1, 2, 0] rfl ?_
          exact hin30 _ (Option.some.inj h).symm
        · refine p_lv [] rfl ?_
          have he := hout30 _ (Option.some.inj h).symm
          subst he
          exact hX30_54 () rfl
  refine lup_walk (s := (0 : Int)) (At := fun s : Int => PT Γ 3 shM 2 σ [(0, .ref (ga Γ 0)), (1, .int (zJ p1)), (2, .int (zJ s))] []) (fun u2_2 r hf hin2 hout2 => ?_) hl2
  have h : x_X2_placeOf_b2 σ p1 u2_2 = some r := hf
  clear hf
  unfold x_X2_placeOf_b2 at h
  refine (?_ : PT Γ 3 shM 2 σ [(0, .ref (ga Γ 0)), (1, .int (zJ p1)), (2, .int (zJ u2_2))] [])
  refine p_iload_n G rfl 2 rfl dX2_placeOf_2 ?_
  refine p_iconst G rfl dX2_placeOf_3 ?_
  refine p_icmpge (tgt := 28) G dX2_placeOf_4 (by decide) h (fun c5 h => ?_) (fun c5 h => ?_)
  · refine p_lv [0, 1] rfl ?_
    have he := hout2 _ (Option.some.inj h).symm
    subst he
    exact hX2_28 () rfl
  · refine p_aload_n G rfl 0 rfl dX2_placeOf_7 ?_
    refine p_get G dX2_placeOf_8 fl_X2_15 (k := 0) rfl rfl ?_
    refine p_iload_n G rfl 2 rfl dX2_placeOf_11 ?_
    refine p_lald G dX2_placeOf_12 (k := 2) rfl (zt_c _) h (fun c1 h => ?_)
    refine p_iload_n G rfl 1 rfl dX2_placeOf_13 ?_
    obtain ⟨v2, hc, h⟩ := bnd_some h
    refine p_callS0 G dX2_placeOf_14 lk_X2_123 (c_X6_has (gl Γ) hc) (As := [.long (zL (σ 2 (zix u2_2))), .int (zJ p1)]) rfl zk_3 rfl (Nat.le_of_ble_eq_true rfl) ⟨rfl, rfl, Nat.le_of_ble_eq_true rfl, Nat.le_of_ble_eq_true rfl⟩ hcs ?_
    refine p_ifeq (tgt := 22) G dX2_placeOf_17 (by decide) h (fun c4 h => ?_) (fun c4 h => ?_)
    · refine p_iinc (lv' := fun v3 => [(2, .int (zJ v3)), (0, .ref (ga Γ 0)), (1, .int (zJ p1))]) G dX2_placeOf_22 h 2 rfl (by decide) (fun _ => rfl) (fun v3 h => ?_)
      refine p_goto (tgt := 2) G dX2_placeOf_25 (by decide) ?_
      refine p_lv [1, 2, 0] rfl ?_
      exact hin2 _ (Option.some.inj h).symm
    · refine p_lv [2] rfl ?_
      have he := hout2 _ (Option.some.inj h).symm
      subst he
      exact hX2_20 _ rfl
set_option maxHeartbeats 4000000 in
set_option maxRecDepth 100000 in
theorem c_X3_writeByte (l : Launch) {D : va_G} {yy : Nat → ClassId} {tk tv a : Nat → Nat} {σ : Mm} {p1 : Int} {o : Mm} (h : x_X3_writeByte σ p1 = some o) : CT l yX3_writeByte cX3_writeByte 2 none rm_X3_writeByte shR D yy tk tv a σ [.ref (a 0), .int (zJ p1)] o none := by
  refine ct_of (Ar := fun a tk => [.ref (a 0), .int (zJ p1)]) (by decide) (Nat.le_of_ble_eq_true rfl) (fun Γ G _ _ hR => ?_)
  have hcs := rt_cs hR
  unfold x_X3_writeByte at h
  refine (?_ : PT Γ 2 shR 0 σ [(0, .ref (ga Γ 0)), (1, .int (zJ p1))] [])
  refine p_aload_n G rfl 0 rfl dX3_writeByte_0 ?_
  refine p_get G dX3_writeByte_1 fl_X3_19 (k := 0) rfl rfl ?_
  refine p_iflt (tgt := 38) G dX3_writeByte_4 (by decide) h (fun c5 h => ?_) (fun c5 h => ?_)
  · (cases h; exact p_vret G hR dX3_writeByte_38 rfl rfl)
  · refine p_aload_n G rfl 0 rfl dX3_writeByte_7 ?_
    refine p_get G dX3_writeByte_8 fl_X3_19 (k := 0) rfl rfl ?_
    refine p_sipush G (by decide) (by decide) dX3_writeByte_11 ?_
    refine p_icmpge (tgt := 38) G dX3_writeByte_14 (by decide) h (fun c4 h => ?_) (fun c4 h => ?_)
    · (cases h; exact p_vret G hR dX3_writeByte_38 rfl rfl)
    · refine p_aload_n G rfl 0 rfl dX3_writeByte_17 ?_
      refine p_get G dX3_writeByte_18 fl_X3_9 (k := 0) rfl rfl ?_
      refine p_aload_n G rfl 0 rfl dX3_writeByte_21 ?_
      refine p_get G dX3_writeByte_22 fl_X3_19 (k := 0) rfl rfl ?_
      refine p_iload_n G rfl 1 rfl dX3_writeByte_25 ?_
      refine p_i2b G dX3_writeByte_26 ?_
      refine p_bast G dX3_writeByte_27 (k := 1) rfl (zt_c _) rfl h (fun σ1 c2 h => ?_)
      refine p_aload_n G rfl 0 rfl dX3_writeByte_28 ?_
      refine p_dup G rfl dX3_writeByte_29 ?_
      refine p_get G dX3_writeByte_30 fl_X3_19 (k := 0) rfl rfl ?_
      refine p_iconst G rfl dX3_writeByte_33 ?_
      refine p_iadd G dX3_writeByte_34 ?_
      refine p_putI G dX3_writeByte_35 fp_X3_19 (k := 0) rfl rfl rfl rfl h (fun σ3 h => ?_)
      (cases h; exact p_vret G hR dX3_writeByte_38 rfl rfl)
set_option maxHeartbeats 4000000 in
set_option maxRecDepth 100000 in
theorem c_X3_writeFour (l : Launch) {D : va_G} {yy : Nat → ClassId} {tk tv a : Nat → Nat} {σ : Mm} {p1 : Int} {o : Mm} (h : x_X3_writeFour σ p1 = some o) : CT l yX3_writeFour cX3_writeFour 3 none rm_X3_writeFour shR D yy tk tv a σ [.ref (a 0), .int (zJ p1)] o none := by
  refine ct_of (Ar := fun a tk => [.ref (a 0), .int (zJ p1)]) (by decide) (Nat.le_of_ble_eq_true rfl) (fun Γ G _ _ hR => ?_)
  have hcs := rt_cs hR
  unfold x_X3_writeFour at h
  refine (?_ : PT Γ 3 shR 0 σ [(0, .ref (ga Γ 0)), (1, .int (zJ p1))] [])
  refine p_bipush G (by decide) (by decide) dX3_writeFour_0 ?_
  refine p_istore_nU (lv' := [(2, .int (zJ (24 : Int))), (0, .ref (ga Γ 0)), (1, .int (zJ p1))]) G rfl dX3_writeFour_2 (by decide) rfl ?_
  refine p_lv [1, 2, 0] rfl ?_
  obtain ⟨e5, hl3, h⟩ := bnd_some h
  have hX3_20 : ∀ (σ6 : Mm), σ6 = e5 → PT Γ 3 shR 20 σ6 [] [] := by
    intro σ6 he
    subst he
    (cases h; exact p_vret G hR dX3_writeFour_20 rfl rfl)
  refine lup_walk (s := (σ, (24 : Int))) (At := fun s : Mm × Int => PT Γ 3 shR 3 s.1 [(0, .ref (ga Γ 0)), (1, .int (zJ p1)), (2, .int (zJ s.2))] []) (fun s r hf hin3 hout3 => ?_) hl3
  obtain ⟨σ3, u2_3⟩ := s
  have h : x_X3_writeFour_b3 p1 σ3 u2_3 = some r := hf
  clear hf
  unfold x_X3_writeFour_b3 at h
  refine (?_ : PT Γ 3 shR 3 σ3 [(0, .ref (ga Γ 0)), (1, .int (zJ p1)), (2, .int (zJ u2_3))] [])
  refine p_iload_n G rfl 2 rfl dX3_writeFour_3 ?_
  refine p_iflt (tgt := 20) G dX3_writeFour_4 (by decide) h (fun c3 h => ?_) (fun c3 h => ?_)
  · refine p_lv [] rfl ?_
    have he := hout3 _ (Option.some.inj h).symm
    subst he
    exact hX3_20 _ rfl
  · refine p_aload_n G rfl 0 rfl dX3_writeFour_7 ?_
    refine p_iload_n G rfl 1 rfl dX3_writeFour_8 ?_
    refine p_iload_n G rfl 2 rfl dX3_writeFour_9 ?_
    refine p_iushr G dX3_writeFour_10 ?_
    obtain ⟨σ1, hc, h⟩ := bnd_some h
    refine p_callVi G dX3_writeFour_11 lk_X3_23 (c_X3_writeByte (gl Γ) hc) (As := [.int (zJ (zushr p1 u2_3))]) (ci := 3) rfl rfl rfl rfl (Nat.le_of_ble_eq_true rfl) ⟨rfl, rfl, Nat.le_of_ble_eq_true rfl, Nat.le_of_ble_eq_true rfl⟩ hcs ?_
    refine p_iinc (lv' := fun v2 => [(2, .int (zJ v2)), (0, .ref (ga Γ 0)), (1, .int (zJ p1))]) G dX3_writeFour_14 h 2 rfl (by decide) (fun _ => rfl) (fun v2 h => ?_)
    refine p_goto (tgt := 3) G dX3_writeFour_17 (by decide) ?_
    refine p_lv [1, 2, 0] rfl ?_
    exact hin3 _ (Option.some.inj h).symm
set_option maxHeartbeats 4000000 in
set_option maxRecDepth 100000 in
theorem c_X3_write (l : Launch) {D : va_G} {yy : Nat → ClassId} {tk tv a : Nat → Nat} {σ : Mm} {p1 : Nat} {o : Mm} (h : x_X3_write σ p1 = some o) : CT l yX3_write cX3_write 3 none rm_X3_write shR D yy tk tv a σ [.ref (a 0), .ref (tk p1)] o none := by
  refine ct_of (Ar := fun a tk => [.ref (a 0), .ref (tk p1)]) (by decide) (Nat.le_of_ble_eq_true rfl) (fun Γ G _ _ hR => ?_)
  have hcs := rt_cs hR
  unfold x_X3_write at h
  refine (?_ : PT Γ 3 shR 0 σ [(0, .ref (ga Γ 0)), (1, .ref (gk Γ p1))] [])
  refine p_iconst G rfl dX3_write_0 ?_
  refine p_istore_nU (lv' := [(2, .int (zJ (0 : Int))), (0, .ref (ga Γ 0)), (1, .ref (gk Γ p1))]) G rfl dX3_write_1 (by decide) rfl ?_
  refine p_lv [1, 2, 0] rfl ?_
  obtain ⟨e7, hl2, h⟩ := bnd_some h
  have hX2_25 : ∀ (σ8 : Mm), σ8 = e7 → PT Γ 3 shR 25 σ8 [] [] := by
    intro σ8 he
    subst he
    (cases h; exact p_vret G hR dX3_write_25 rfl rfl)
  refine lup_walk (s := (σ, (0 : Int))) (At := fun s : Mm × Int => PT Γ 3 shR 2 s.1 [(0, .ref (ga Γ 0)), (1, .ref (gk Γ p1)), (2, .int (zJ s.2))] []) (fun s r hf hin2 hout2 => ?_) hl2
  obtain ⟨σ2, u2_2⟩ := s
  have h : x_X3_write_b2 p1 σ2 u2_2 = some r := hf
  clear hf
  unfold x_X3_write_b2 at h
  refine (?_ : PT Γ 3 shR 2 σ2 [(0, .ref (ga Γ 0)), (1, .ref (gk Γ p1)), (2, .int (zJ u2_2))] [])
  refine p_iload_n G rfl 2 rfl dX3_write_2 ?_
  refine p_aload_n G rfl 1 rfl dX3_write_3 ?_
  obtain ⟨v1, hc, h⟩ := bnd_some h
  refine p_callT G (zlen_u hc) dX3_write_4 lk_X3_27 (c_J_String_length (gl Γ) hc) (As := []) rfl zk_4 rfl (Nat.le_of_ble_eq_true rfl) ⟨rfl, rfl, Nat.le_of_ble_eq_true rfl, Nat.le_of_ble_eq_true rfl⟩ hcs ?_
  refine p_icmpge (tgt := 25) G dX3_write_7 (by decide) h (fun c5 h => ?_) (fun c5 h => ?_)
  · refine p_lv [] rfl ?_
    have he := hout2 _ (Option.some.inj h).symm
    subst he
    exact hX2_25 _ rfl
  · refine p_aload_n G rfl 0 rfl dX3_write_10 ?_
    refine p_aload_n G rfl 1 rfl dX3_write_11 ?_
    refine p_iload_n G rfl 2 rfl dX3_write_12 ?_
    obtain ⟨v2, hc, h⟩ := bnd_some h
    refine p_callT G (zchr_u hc) dX3_write_13 lk_X3_32 (c_J_String_charAt (gl Γ) hc) (As := [.int (zJ u2_2)]) rfl zk_4 rfl (Nat.le_of_ble_eq_true rfl) ⟨rfl, rfl, Nat.le_of_ble_eq_true rfl, Nat.le_of_ble_eq_true rfl⟩ hcs ?_
    obtain ⟨σ3, hc, h⟩ := bnd_some h
    refine p_callVi G dX3_write_16 lk_X3_23 (c_X3_writeByte (gl Γ) hc) (As := [.int (zJ v2)]) (ci := 3) rfl rfl rfl rfl (Nat.le_of_ble_eq_true rfl) ⟨rfl, rfl, Nat.le_of_ble_eq_true rfl, Nat.le_of_ble_eq_true rfl⟩ hcs ?_
    refine p_iinc (lv' := fun v4 => [(2, .int (zJ v4)), (0, .ref (ga Γ 0)), (1, .ref (gk Γ p1))]) G dX3_write_19 h 2 rfl (by decide) (fun _ => rfl) (fun v4 h => ?_)
    refine p_goto (tgt := 2) G dX3_write_22 (by decide) ?_
    refine p_lv [1, 2, 0] rfl ?_
    exact hin2 _ (Option.some.inj h).symm
set_option maxHeartbeats 4000000 in
set_option maxRecDepth 100000 in
theorem c_X3_shorten (l : Launch) {D : va_G} {yy : Nat → ClassId} {tk tv a : Nat → Nat} {σ : Mm} {p1 : Int} {o : Mm} (h : x_X3_shorten σ p1 = some o) : CT l yX3_shorten cX3_shorten 2 none rm_X3_shorten shR D yy tk tv a σ [.ref (a 0), .int (zJ p1)] o none := by
  refine ct_of (Ar := fun a tk => [.ref (a 0), .int (zJ p1)]) (by decide) (Nat.le_of_ble_eq_true rfl) (fun Γ G _ _ hR => ?_)
  have hcs := rt_cs hR
  unfold x_X3_shorten at h
  refine (?_ : PT Γ 2 shR 0 σ [(0, .ref (ga Γ 0)), (1, .int (zJ p1))] [])
  refine p_aload_n G rfl 0 rfl dX3_shorten_0 ?_
  refine p_iload_n G rfl 1 rfl dX3_shorten_1 ?_
  refine p_putI G dX3_shorten_2 fp_X3_19 (k := 0) rfl rfl rfl rfl h (fun σ1 h => ?_)
  (cases h; exact p_vret G hR dX3_shorten_5 rfl rfl)
set_option maxHeartbeats 4000000 in
set_option maxRecDepth 100000 in
theorem c_X3_signAt (l : Launch) {D : va_G} {yy : Nat → ClassId} {tk tv a : Nat → Nat} {σ : Mm} {p1 : Int} {o : Int} (h : x_X3_signAt σ p1 = some o) : CT l yX3_signAt cX3_signAt 2 (some .int) rm_X3_signAt shR D yy tk tv a σ [.ref (a 0), .int (zJ p1)] σ (some (.int (zJ o))) := by
  refine ct_of (Ar := fun a tk => [.ref (a 0), .int (zJ p1)]) (by decide) (Nat.le_of_ble_eq_true rfl) (fun Γ G _ _ hR => ?_)
  have hcs := rt_cs hR
  unfold x_X3_signAt at h
  refine (?_ : PT Γ 2 shR 0 σ [(0, .ref (ga Γ 0)), (1, .int (zJ p1))] [])
  refine p_iload_n G rfl 1 rfl dX3_signAt_0 ?_
  refine p_iflt (tgt := 32) G dX3_signAt_1 (by decide) h (fun c4 h => ?_) (fun c4 h => ?_)
  · refine p_iconst G rfl dX3_signAt_32 ?_
    (cases h; exact p_iret G hR dX3_signAt_33 rfl rfl)
  · refine p_iload_n G rfl 1 rfl dX3_signAt_4 ?_
    refine p_aload_n G rfl 0 rfl dX3_signAt_5 ?_
    refine p_get G dX3_signAt_6 fl_X3_19 (k := 0) rfl rfl ?_
    refine p_icmpge (tgt := 32) G dX3_signAt_9 (by decide) h (fun c3 h => ?_) (fun c3 h => ?_)
    · refine p_iconst G rfl dX3_signAt_32 ?_
      (cases h; exact p_iret G hR dX3_signAt_33 rfl rfl)
    · refine p_iload_n G rfl 1 rfl dX3_signAt_12 ?_
      refine p_sipush G (by decide) (by decide) dX3_signAt_13 ?_
      refine p_icmpge (tgt := 32) G dX3_signAt_16 (by decide) h (fun c2 h => ?_) (fun c2 h => ?_)
      · refine p_iconst G rfl dX3_signAt_32 ?_
        (cases h; exact p_iret G hR dX3_signAt_33 rfl rfl)
      · refine p_aload_n G rfl 0 rfl dX3_signAt_19 ?_
        refine p_get G dX3_signAt_20 fl_X3_9 (k := 0) rfl rfl ?_
        refine p_iload_n G rfl 1 rfl dX3_signAt_23 ?_
        refine p_bald G dX3_signAt_24 (k := 1) rfl (zt_c _) h (fun c1 h => ?_)
        refine p_sipush G (by decide) (by decide) dX3_signAt_25 ?_
        refine p_iand G dX3_signAt_28 ?_
        refine p_goto (tgt := 33) G dX3_signAt_29 (by decide) ?_
        (cases h; exact p_iret G hR dX3_signAt_33 rfl rfl)
set_option maxHeartbeats 4000000 in
set_option maxRecDepth 100000 in
theorem c_X3_isBlank (l : Launch) {D : va_G} {yy : Nat → ClassId} {tk tv a : Nat → Nat} {σ : Mm} {p0 : Int} {o : Int} (h : x_X3_isBlank p0 = some o) : CT l yX3_isBlank cX3_isBlank 1 (some .boolean) rm_X3_isBlank shN D yy tk tv a σ [.int (zJ p0)] σ (some (.int (zJ o))) := by
  refine ct_of (Ar := fun a tk => [.int (zJ p0)]) (by decide) (Nat.le_of_ble_eq_true rfl) (fun Γ G _ _ hR => ?_)
  have hcs := rt_cs hR
  unfold x_X3_isBlank at h
  refine (?_ : PT Γ 1 shN 0 σ [(0, .int (zJ p0))] [])
  refine p_iload_n G rfl 0 rfl dX3_isBlank_0 ?_
  refine p_bipush G (by decide) (by decide) dX3_isBlank_1 ?_
  refine p_icmpeq (tgt := 12) G dX3_isBlank_3 (by decide) h (fun c2 h => ?_) (fun c2 h => ?_)
  · refine p_iconst G rfl dX3_isBlank_12 ?_
    refine p_goto (tgt := 17) G dX3_isBlank_13 (by decide) ?_
    (cases h; exact p_zret G hR dX3_isBlank_17 (by decide) rfl rfl)
  · refine p_iload_n G rfl 0 rfl dX3_isBlank_6 ?_
    refine p_bipush G (by decide) (by decide) dX3_isBlank_7 ?_
    refine p_icmpne (tgt := 16) G dX3_isBlank_9 (by decide) h (fun c1 h => ?_) (fun c1 h => ?_)
    · refine p_iconst G rfl dX3_isBlank_16 ?_
      (cases h; exact p_zret G hR dX3_isBlank_17 (by decide) rfl rfl)
    · refine p_iconst G rfl dX3_isBlank_12 ?_
      refine p_goto (tgt := 17) G dX3_isBlank_13 (by decide) ?_
      (cases h; exact p_zret G hR dX3_isBlank_17 (by decide) rfl rfl)
set_option maxHeartbeats 4000000 in
set_option maxRecDepth 100000 in
theorem c_X3_isLetter (l : Launch) {D : va_G} {yy : Nat → ClassId} {tk tv a : Nat → Nat} {σ : Mm} {p0 : Int} {o : Int} (h : x_X3_isLetter p0 = some o) : CT l yX3_isLetter cX3_isLetter 1 (some .boolean) rm_X3_isLetter shN D yy tk tv a σ [.int (zJ p0)] σ (some (.int (zJ o))) := by
  refine ct_of (Ar := fun a tk => [.int (zJ p0)]) (by decide) (Nat.le_of_ble_eq_true rfl) (fun Γ G _ _ hR => ?_)
  have hcs := rt_cs hR
  unfold x_X3_isLetter at h
  refine (?_ : PT Γ 1 shN 0 σ [(0, .int (zJ p0))] [])
  refine p_iload_n G rfl 0 rfl dX3_isLetter_0 ?_
  refine p_bipush G (by decide) (by decide) dX3_isLetter_1 ?_
  refine p_icmplt (tgt := 16) G dX3_isLetter_3 (by decide) h (fun c2 h => ?_) (fun c2 h => ?_)
  · refine p_iconst G rfl dX3_isLetter_16 ?_
    (cases h; exact p_zret G hR dX3_isLetter_17 (by decide) rfl rfl)
  · refine p_iload_n G rfl 0 rfl dX3_isLetter_6 ?_
    refine p_bipush G (by decide) (by decide) dX3_isLetter_7 ?_
    refine p_icmpgt (tgt := 16) G dX3_isLetter_9 (by decide) h (fun c1 h => ?_) (fun c1 h => ?_)
    · refine p_iconst G rfl dX3_isLetter_16 ?_
      (cases h; exact p_zret G hR dX3_isLetter_17 (by decide) rfl rfl)
    · refine p_iconst G rfl dX3_isLetter_12 ?_
      refine p_goto (tgt := 17) G dX3_isLetter_13 (by decide) ?_
      (cases h; exact p_zret G hR dX3_isLetter_17 (by decide) rfl rfl)
set_option maxHeartbeats 4000000 in
set_option maxRecDepth 100000 in
theorem c_X3_isFigure (l : Launch) {D : va_G} {yy : Nat → ClassId} {tk tv a : Nat → Nat} {σ : Mm} {p0 : Int} {o : Int} (h : x_X3_isFigure p0 = some o) : CT l yX3_isFigure cX3_isFigure 1 (some .boolean) rm_X3_isFigure shN D yy tk tv a σ [.int (zJ p0)] σ (some (.int (zJ o))) := by
  refine ct_of (Ar := fun a tk => [.int (zJ p0)]) (by decide) (Nat.le_of_ble_eq_true rfl) (fun Γ G _ _ hR => ?_)
  have hcs := rt_cs hR
  unfold x_X3_isFigure at h
  refine (?_ : PT Γ 1 shN 0 σ [(0, .int (zJ p0))] [])
  refine p_iload_n G rfl 0 rfl dX3_isFigure_0 ?_
  refine p_bipush G (by decide) (by decide) dX3_isFigure_1 ?_
  refine p_icmplt (tgt := 16) G dX3_isFigure_3 (by decide) h (fun c2 h => ?_) (fun c2 h => ?_)
  · refine p_iconst G rfl dX3_isFigure_16 ?_
    (cases h; exact p_zret G hR dX3_isFigure_17 (by decide) rfl rfl)
  · refine p_iload_n G rfl 0 rfl dX3_isFigure_6 ?_
    refine p_bipush G (by decide) (by decide) dX3_isFigure_7 ?_
    refine p_icmpgt (tgt := 16) G dX3_isFigure_9 (by decide) h (fun c1 h => ?_) (fun c1 h => ?_)
    · refine p_iconst G rfl dX3_isFigure_16 ?_
      (cases h; exact p_zret G hR dX3_isFigure_17 (by decide) rfl rfl)
    · refine p_iconst G rfl dX3_isFigure_12 ?_
      refine p_goto (tgt := 17) G dX3_isFigure_13 (by decide) ?_
      (cases h; exact p_zret G hR dX3_isFigure_17 (by decide) rfl rfl)
set_option maxHeartbeats 4000000 in
set_option maxRecDepth 100000 in
theorem c_X3_readFigures (l : Launch) {D : va_G} {yy : Nat → ClassId} {tk tv a : Nat → Nat} {σ : Mm} {o : Mm} (h : x_X3_readFigures σ = some o) : CT l yX3_readFigures cX3_readFigures 1 none rm_X3_readFigures shR D yy tk tv a σ [.ref (a 0)] o none := by
  refine ct_of (Ar := fun a tk => [.ref (a 0)]) (by decide) (Nat.le_of_ble_eq_true rfl) (fun Γ G _ _ hR => ?_)
  have hcs := rt_cs hR
  unfold x_X3_readFigures at h
  refine (?_ : PT Γ 1 shR 0 σ [(0, .ref (ga Γ 0))] [])
  obtain ⟨e11, hl0, h⟩ := bnd_some h
  have hX0_75 : ∀ (σ12 : Mm), σ12 = e11 → PT Γ 1 shR 75 σ12 [(0, .ref (ga Γ 0))] [] := by
    intro σ12 he
    subst he
    refine p_aload_n G rfl 0 rfl dX3_readFigures_75 ?_
    refine p_aload_n G rfl 0 rfl dX3_readFigures_76 ?_
    refine p_get G dX3_readFigures_77 fl_X3_36 (k := 0) rfl rfl ?_
    refine p_aload_n G rfl 0 rfl dX3_readFigures_80 ?_
    refine p_get G dX3_readFigures_81 fl_X3_199 (k := 0) rfl rfl ?_
    refine p_isub G dX3_readFigures_84 ?_
    refine p_bipush G (by decide) (by decide) dX3_readFigures_85 ?_
    refine p_icmpgt (tgt := 94) G dX3_readFigures_87 (by decide) h (fun c15 h => ?_) (fun c15 h => ?_)
    · refine p_iconst G rfl dX3_readFigures_94 ?_
      refine p_putI G dX3_readFigures_95 fp_X3_61 (k := 0) rfl rfl rfl rfl h (fun σ13 h => ?_)
      (cases h; exact p_vret G hR dX3_readFigures_98 rfl rfl)
    · refine p_iconst G rfl dX3_readFigures_90 ?_
      refine p_goto (tgt := 95) G dX3_readFigures_91 (by decide) ?_
      refine p_putI G dX3_readFigures_95 fp_X3_61 (k := 0) rfl rfl rfl rfl h (fun σ14 h => ?_)
      (cases h; exact p_vret G hR dX3_readFigures_98 rfl rfl)
  refine lup_walk (s := σ) (At := fun s : Mm => PT Γ 1 shR 0 s [(0, .ref (ga Γ 0))] []) (fun σ0 r hf hin0 hout0 => ?_) hl0
  have h : x_X3_readFigures_b0 σ0 = some r := hf
  clear hf
  unfold x_X3_readFigures_b0 at h
  refine (?_ : PT Γ 1 shR 0 σ0 [(0, .ref (ga Γ 0))] [])
  refine p_aload_n G rfl 0 rfl dX3_readFigures_0 ?_
  refine p_get G dX3_readFigures_1 fl_X3_36 (k := 0) rfl rfl ?_
  refine p_aload_n G rfl 0 rfl dX3_readFigures_4 ?_
  refine p_get G dX3_readFigures_5 fl_X3_19 (k := 0) rfl rfl ?_
  refine p_icmpge (tgt := 75) G dX3_readFigures_8 (by decide) h (fun c9 h => ?_) (fun c9 h => ?_)
  · have he := hout0 _ (Option.some.inj h).symm
    subst he
    exact hX0_75 _ rfl
  · refine p_aload_n G rfl 0 rfl dX3_readFigures_11 ?_
    refine p_aload_n G rfl 0 rfl dX3_readFigures_12 ?_
    refine p_get G dX3_readFigures_13 fl_X3_36 (k := 0) rfl rfl ?_
    obtain ⟨v1, hc, h⟩ := bnd_some h
    refine p_callVi G dX3_readFigures_16 lk_X3_202 (c_X3_signAt (gl Γ) hc) (As := [.int (zJ (σ0 0 2))]) (ci := 3) rfl rfl rfl rfl (Nat.le_of_ble_eq_true rfl) ⟨rfl, rfl, Nat.le_of_ble_eq_true rfl, Nat.le_of_ble_eq_true rfl⟩ hcs ?_
    obtain ⟨v2, hc, h⟩ := bnd_some h
    refine p_callS0 G dX3_readFigures_19 lk_X3_212 (c_X3_isFigure (gl Γ) hc) (As := [.int (zJ v1)]) rfl zk_4 rfl (Nat.le_of_ble_eq_true rfl) ⟨rfl, rfl, Nat.le_of_ble_eq_true rfl, Nat.le_of_ble_eq_true rfl⟩ hcs ?_
    refine p_ifeq (tgt := 75) G dX3_readFigures_22 (by decide) h (fun c8 h => ?_) (fun c8 h => ?_)
    · have he := hout0 _ (Option.some.inj h).symm
      subst he
      exact hX0_75 _ rfl
    · refine p_aload_n G rfl 0 rfl dX3_readFigures_25 ?_
      refine p_get G dX3_readFigures_26 fl_X3_36 (k := 0) rfl rfl ?_
      refine p_aload_n G rfl 0 rfl dX3_readFigures_29 ?_
      refine p_get G dX3_readFigures_30 fl_X3_199 (k := 0) rfl rfl ?_
      refine p_isub G dX3_readFigures_33 ?_
      refine p_bipush G (by decide) (by decide) dX3_readFigures_34 ?_
      refine p_icmpge (tgt := 62) G dX3_readFigures_36 (by decide) h (fun c7 h => ?_) (fun c7 h => ?_)
      · refine p_aload_n G rfl 0 rfl dX3_readFigures_62 ?_
        refine p_dup G rfl dX3_readFigures_63 ?_
        refine p_get G dX3_readFigures_64 fl_X3_36 (k := 0) rfl rfl ?_
        refine p_iconst G rfl dX3_readFigures_67 ?_
        refine p_iadd G dX3_readFigures_68 ?_
        refine p_putI G dX3_readFigures_69 fp_X3_36 (k := 0) rfl rfl rfl rfl h (fun σ3 h => ?_)
        refine p_goto (tgt := 0) G dX3_readFigures_72 (by decide) ?_
        exact hin0 _ (Option.some.inj h).symm
      · refine p_aload_n G rfl 0 rfl dX3_readFigures_39 ?_
        refine p_aload_n G rfl 0 rfl dX3_readFigures_40 ?_
        refine p_get G dX3_readFigures_41 fl_X3_82 (k := 0) rfl rfl ?_
        refine p_bipush G (by decide) (by decide) dX3_readFigures_44 ?_
        refine p_imul G dX3_readFigures_46 ?_
        refine p_aload_n G rfl 0 rfl dX3_readFigures_47 ?_
        refine p_aload_n G rfl 0 rfl dX3_readFigures_48 ?_
        refine p_get G dX3_readFigures_49 fl_X3_36 (k := 0) rfl rfl ?_
        obtain ⟨v4, hc, h⟩ := bnd_some h
        refine p_callVi G dX3_readFigures_52 lk_X3_202 (c_X3_signAt (gl Γ) hc) (As := [.int (zJ (σ0 0 2))]) (ci := 3) rfl rfl rfl rfl (Nat.le_of_ble_eq_true rfl) ⟨rfl, rfl, Nat.le_of_ble_eq_true rfl, Nat.le_of_ble_eq_true rfl⟩ hcs ?_
        refine p_iadd G dX3_readFigures_55 ?_
        refine p_bipush G (by decide) (by decide) dX3_readFigures_56 ?_
        refine p_isub G dX3_readFigures_58 ?_
        refine p_putI G dX3_readFigures_59 fp_X3_82 (k := 0) rfl rfl rfl rfl h (fun σ5 h => ?_)
        refine p_aload_n G rfl 0 rfl dX3_readFigures_62 ?_
        refine p_dup G rfl dX3_readFigures_63 ?_
        refine p_get G dX3_readFigures_64 fl_X3_36 (k := 0) rfl rfl ?_
        refine p_iconst G rfl dX3_readFigures_67 ?_
        refine p_iadd G dX3_readFigures_68 ?_
        refine p_putI G dX3_readFigures_69 fp_X3_36 (k := 0) rfl rfl rfl rfl h (fun σ6 h => ?_)
        refine p_goto (tgt := 0) G dX3_readFigures_72 (by decide) ?_
        exact hin0 _ (Option.some.inj h).symm
set_option maxHeartbeats 4000000 in
set_option maxRecDepth 100000 in
theorem c_X3_advance (l : Launch) {D : va_G} {yy : Nat → ClassId} {tk tv a : Nat → Nat} {σ : Mm} {o : Mm} (h : x_X3_advance σ = some o) : CT l yX3_advance cX3_advance 2 none rm_X3_advance shR D yy tk tv a σ [.ref (a 0)] o none := by
  refine ct_of (Ar := fun a tk => [.ref (a 0)]) (by decide) (Nat.le_of_ble_eq_true rfl) (fun Γ G _ _ hR => ?_)
  have hcs := rt_cs hR
  unfold x_X3_advance at h
  refine (?_ : PT Γ 2 shR 0 σ [(0, .ref (ga Γ 0))] [])
  have j38 : ∀ (σ_38 : Mm), x_X3_advance_j38 σ_38 = some o → PT Γ 2 shR 38 σ_38 [(0, .ref (ga Γ 0))] [] := by
    intro σ_38 h
    unfold x_X3_advance_j38 at h
    refine p_aload_n G rfl 0 rfl dX3_advance_38 ?_
    refine p_aload_n G rfl 0 rfl dX3_advance_39 ?_
    refine p_get G dX3_advance_40 fl_X3_36 (k := 0) rfl rfl ?_
    refine p_putI G dX3_advance_43 fp_X3_199 (k := 0) rfl rfl rfl rfl h (fun σ9 h => ?_)
    refine p_aload_n G rfl 0 rfl dX3_advance_46 ?_
    refine p_iconst G rfl dX3_advance_47 ?_
    refine p_putI G dX3_advance_48 fp_X3_82 (k := 0) rfl rfl rfl rfl h (fun σ10 h => ?_)
    refine p_aload_n G rfl 0 rfl dX3_advance_51 ?_
    refine p_aload_n G rfl 0 rfl dX3_advance_52 ?_
    refine p_get G dX3_advance_53 fl_X3_36 (k := 0) rfl rfl ?_
    obtain ⟨v11, hc, h⟩ := bnd_some h
    refine p_callVi G dX3_advance_56 lk_X3_202 (c_X3_signAt (gl Γ) hc) (As := [.int (zJ (σ10 0 2))]) (ci := 3) rfl rfl rfl rfl (Nat.le_of_ble_eq_true rfl) ⟨rfl, rfl, Nat.le_of_ble_eq_true rfl, Nat.le_of_ble_eq_true rfl⟩ hcs ?_
    refine p_istore_nU (lv' := [(1, .int (zJ v11)), (0, .ref (ga Γ 0))]) G rfl dX3_advance_59 (by decide) rfl ?_
    refine p_iload_n G rfl 0 rfl dX3_advance_60 ?_
    refine p_iconst G rfl dX3_advance_61 ?_
    refine p_icmpne (tgt := 73) G dX3_advance_62 (by decide) h (fun c32 h => ?_) (fun c32 h => ?_)
    · refine p_iload_n G rfl 0 rfl dX3_advance_73 ?_
      obtain ⟨v12, hc, h⟩ := bnd_some h
      refine p_callS0 G dX3_advance_74 lk_X3_209 (c_X3_isLetter (gl Γ) hc) (As := [.int (zJ v11)]) rfl zk_4 rfl (Nat.le_of_ble_eq_true rfl) ⟨rfl, rfl, Nat.le_of_ble_eq_true rfl, Nat.le_of_ble_eq_true rfl⟩ hcs ?_
      refine p_ifeq (tgt := 123) G dX3_advance_77 (by decide) h (fun c30 h => ?_) (fun c30 h => ?_)
      · refine p_iload_n G rfl 0 rfl dX3_advance_123 ?_
        obtain ⟨v13, hc, h⟩ := bnd_some h
        refine p_callS0 G dX3_advance_124 lk_X3_212 (c_X3_isFigure (gl Γ) hc) (As := [.int (zJ v11)]) rfl zk_4 rfl (Nat.le_of_ble_eq_true rfl) ⟨rfl, rfl, Nat.le_of_ble_eq_true rfl, Nat.le_of_ble_eq_true rfl⟩ hcs ?_
        refine p_ifeq (tgt := 137) G dX3_advance_127 (by decide) h (fun c20 h => ?_) (fun c20 h => ?_)
        · refine p_aload_n G rfl 1 rfl dX3_advance_137 ?_
          refine p_iload_n G rfl 0 rfl dX3_advance_138 ?_
          refine p_bipush G (by decide) (by decide) dX3_advance_139 ?_
          refine p_icmpne (tgt := 148) G dX3_advance_141 (by decide) h (fun c18 h => ?_) (fun c18 h => ?_)
          · refine p_iconst G rfl dX3_advance_148 ?_
            refine p_putI G dX3_advance_149 fp_X3_61 (k := 0) rfl rfl rfl rfl h (fun σ14 h => ?_)
            refine p_aload_n G rfl 1 rfl dX3_advance_152 ?_
            refine p_dup G rfl dX3_advance_153 ?_
            refine p_get G dX3_advance_154 fl_X3_36 (k := 0) rfl rfl ?_
            refine p_iconst G rfl dX3_advance_157 ?_
            refine p_iadd G dX3_advance_158 ?_
            refine p_putI G dX3_advance_159 fp_X3_36 (k := 0) rfl rfl rfl rfl h (fun σ15 h => ?_)
            (cases h; exact p_vret G hR dX3_advance_162 rfl rfl)
          · refine p_iconst G rfl dX3_advance_144 ?_
            refine p_goto (tgt := 149) G dX3_advance_145 (by decide) ?_
            refine p_putI G dX3_advance_149 fp_X3_61 (k := 0) rfl rfl rfl rfl h (fun σ16 h => ?_)
            refine p_aload_n G rfl 1 rfl dX3_advance_152 ?_
            refine p_dup G rfl dX3_advance_153 ?_
            refine p_get G dX3_advance_154 fl_X3_36 (k := 0) rfl rfl ?_
            refine p_iconst G rfl dX3_advance_157 ?_
            refine p_iadd G dX3_advance_158 ?_
            refine p_putI G dX3_advance_159 fp_X3_36 (k := 0) rfl rfl rfl rfl h (fun σ17 h => ?_)
            (cases h; exact p_vret G hR dX3_advance_162 rfl rfl)
        · refine p_aload_n G rfl 1 rfl dX3_advance_130 ?_
          obtain ⟨σ19, hc, h⟩ := bnd_some h
          refine p_callVi G dX3_advance_131 lk_X3_215 (c_X3_readFigures (gl Γ) hc) (As := []) (ci := 3) rfl rfl rfl rfl (Nat.le_of_ble_eq_true rfl) ⟨rfl, rfl, Nat.le_of_ble_eq_true rfl, Nat.le_of_ble_eq_true rfl⟩ hcs ?_
          refine p_goto (tgt := 162) G dX3_advance_134 (by decide) ?_
          (cases h; exact p_vret G hR dX3_advance_162 rfl rfl)
      · refine p_aload_n G rfl 1 rfl dX3_advance_80 ?_
        refine p_iconst G rfl dX3_advance_81 ?_
        refine p_putI G dX3_advance_82 fp_X3_61 (k := 0) rfl rfl rfl rfl h (fun σ21 h => ?_)
        refine p_lv [1] rfl ?_
        obtain ⟨e28, hl85, h⟩ := bnd_some h
        have hX85_162 : ∀ (σ29 : Mm), σ29 = e28 → PT Γ 2 shR 162 σ29 [] [] := by
          intro σ29 he
          subst he
          (cases h; exact p_vret G hR dX3_advance_162 rfl rfl)
        refine lup_walk (s := σ21) (At := fun s : Mm => PT Γ 2 shR 85 s [(0, .ref (ga Γ 0))] []) (fun σ85 r hf hin85 hout85 => ?_) hl85
        have h : x_X3_advance_b85 σ85 = some r := hf
        clear hf
        unfold x_X3_advance_b85 at h
        refine (?_ : PT Γ 2 shR 85 σ85 [(0, .ref (ga Γ 0))] [])
        refine p_aload_n G rfl 0 rfl dX3_advance_85 ?_
        refine p_get G dX3_advance_86 fl_X3_36 (k := 0) rfl rfl ?_
        refine p_aload_n G rfl 0 rfl dX3_advance_89 ?_
        refine p_get G dX3_advance_90 fl_X3_19 (k := 0) rfl rfl ?_
        refine p_icmpge (tgt := 162) G dX3_advance_93 (by decide) h (fun c26 h => ?_) (fun c26 h => ?_)
        · refine p_lv [] rfl ?_
          have he := hout85 _ (Option.some.inj h).symm
          subst he
          exact hX85_162 _ rfl
        · refine p_aload_n G rfl 0 rfl dX3_advance_96 ?_
          refine p_aload_n G rfl 0 rfl dX3_advance_97 ?_
          refine p_get G dX3_advance_98 fl_X3_36 (k := 0) rfl rfl ?_
          obtain ⟨v22, hc, h⟩ := bnd_some h
          refine p_callVi G dX3_advance_101 lk_X3_202 (c_X3_signAt (gl Γ) hc) (As := [.int (zJ (σ85 0 2))]) (ci := 3) rfl rfl rfl rfl (Nat.le_of_ble_eq_true rfl) ⟨rfl, rfl, Nat.le_of_ble_eq_true rfl, Nat.le_of_ble_eq_true rfl⟩ hcs ?_
          obtain ⟨v23, hc, h⟩ := bnd_some h
          refine p_callS0 G dX3_advance_104 lk_X3_209 (c_X3_isLetter (gl Γ) hc) (As := [.int (zJ v22)]) rfl zk_4 rfl (Nat.le_of_ble_eq_true rfl) ⟨rfl, rfl, Nat.le_of_ble_eq_true rfl, Nat.le_of_ble_eq_true rfl⟩ hcs ?_
          refine p_ifeq (tgt := 162) G dX3_advance_107 (by decide) h (fun c25 h => ?_) (fun c25 h => ?_)
          · refine p_lv [] rfl ?_
            have he := hout85 _ (Option.some.inj h).symm
            subst he
            exact hX85_162 _ rfl
          · refine p_aload_n G rfl 0 rfl dX3_advance_110 ?_
            refine p_dup G rfl dX3_advance_111 ?_
            refine p_get G dX3_advance_112 fl_X3_36 (k := 0) rfl rfl ?_
            refine p_iconst G rfl dX3_advance_115 ?_
            refine p_iadd G dX3_advance_116 ?_
            refine p_putI G dX3_advance_117 fp_X3_36 (k := 0) rfl rfl rfl rfl h (fun σ24 h => ?_)
            refine p_goto (tgt := 85) G dX3_advance_120 (by decide) ?_
            exact hin85 _ (Option.some.inj h).symm
    · refine p_aload_n G rfl 1 rfl dX3_advance_65 ?_
      refine p_iconst G rfl dX3_advance_66 ?_
      refine p_putI G dX3_advance_67 fp_X3_61 (k := 0) rfl rfl rfl rfl h (fun σ31 h => ?_)
      refine p_goto (tgt := 162) G dX3_advance_70 (by decide) ?_
      (cases h; exact p_vret G hR dX3_advance_162 rfl rfl)
  obtain ⟨e7, hl0, h⟩ := bnd_some h
  have hX0_38 : ∀ (σ8 : Mm), σ8 = e7 → PT Γ 2 shR 38 σ8 [(0, .ref (ga Γ 0))] [] := by
    intro σ8 he
    subst he
    exact j38 _ h
  refine lup_walk (s := σ) (At := fun s : Mm => PT Γ 2 shR 0 s [(0, .ref (ga Γ 0))] []) (fun σ0 r hf hin0 hout0 => ?_) hl0
  have h : x_X3_advance_b0 σ0 = some r := hf
  clear hf
  unfold x_X3_advance_b0 at h
  refine (?_ : PT Γ 2 shR 0 σ0 [(0, .ref (ga Γ 0))] [])
  refine p_aload_n G rfl 0 rfl dX3_advance_0 ?_
  refine p_get G dX3_advance_1 fl_X3_36 (k := 0) rfl rfl ?_
  refine p_aload_n G rfl 0 rfl dX3_advance_4 ?_
  refine p_get G dX3_advance_5 fl_X3_19 (k := 0) rfl rfl ?_
  refine p_icmpge (tgt := 38) G dX3_advance_8 (by decide) h (fun c5 h => ?_) (fun c5 h => ?_)
  · have he := hout0 _ (Option.some.inj h).symm
    subst he
    exact hX0_38 _ rfl
  · refine p_aload_n G rfl 0 rfl dX3_advance_11 ?_
    refine p_aload_n G rfl 0 rfl dX3_advance_12 ?_
    refine p_get G dX3_advance_13 fl_X3_36 (k := 0) rfl rfl ?_
    obtain ⟨v1, hc, h⟩ := bnd_some h
    refine p_callVi G dX3_advance_16 lk_X3_202 (c_X3_signAt (gl Γ) hc) (As := [.int (zJ (σ0 0 2))]) (ci := 3) rfl rfl rfl rfl (Nat.le_of_ble_eq_true rfl) ⟨rfl, rfl, Nat.le_of_ble_eq_true rfl, Nat.le_of_ble_eq_true rfl⟩ hcs ?_
    obtain ⟨v2, hc, h⟩ := bnd_some h
    refine p_callS0 G dX3_advance_19 lk_X3_205 (c_X3_isBlank (gl Γ) hc) (As := [.int (zJ v1)]) rfl zk_4 rfl (Nat.le_of_ble_eq_true rfl) ⟨rfl, rfl, Nat.le_of_ble_eq_true rfl, Nat.le_of_ble_eq_true rfl⟩ hcs ?_
    refine p_ifeq (tgt := 38) G dX3_advance_22 (by decide) h (fun c4 h => ?_) (fun c4 h => ?_)
    · have he := hout0 _ (Option.some.inj h).symm
      subst he
      exact hX0_38 _ rfl
    · refine p_aload_n G rfl 0 rfl dX3_advance_25 ?_
      refine p_dup G rfl dX3_advance_26 ?_
      refine p_get G dX3_advance_27 fl_X3_36 (k := 0) rfl rfl ?_
      refine p_iconst G rfl dX3_advance_30 ?_
      refine p_iadd G dX3_advance_31 ?_
      refine p_putI G dX3_advance_32 fp_X3_36 (k := 0) rfl rfl rfl rfl h (fun σ3 h => ?_)
      refine p_goto (tgt := 0) G dX3_advance_35 (by decide) ?_
      exact hin0 _ (Option.some.inj h).symm
set_option maxHeartbeats 4000000 in
set_option maxRecDepth 100000 in
theorem c_X3_isWord (l : Launch) {D : va_G} {yy : Nat → ClassId} {tk tv a : Nat → Nat} {σ : Mm} {p1 : Nat} {o : Int} (h : x_X3_isWord σ p1 = some o) : CT l yX3_isWord cX3_isWord 3 (some .boolean) rm_X3_isWord shR D yy tk tv a σ [.ref (a 0), .ref (tk p1)] σ (some (.int (zJ o))) := by
  refine ct_of (Ar := fun a tk => [.ref (a 0), .ref (tk p1)]) (by decide) (Nat.le_of_ble_eq_true rfl) (fun Γ G _ _ hR => ?_)
  have hcs := rt_cs hR
  unfold x_X3_isWord at h
  refine (?_ : PT Γ 3 shR 0 σ [(0, .ref (ga Γ 0)), (1, .ref (gk Γ p1))] [])
  refine p_aload_n G rfl 0 rfl dX3_isWord_0 ?_
  refine p_get G dX3_isWord_1 fl_X3_61 (k := 0) rfl rfl ?_
  refine p_iconst G rfl dX3_isWord_4 ?_
  refine p_icmpne (tgt := 24) G dX3_isWord_5 (by decide) h (fun c11 h => ?_) (fun c11 h => ?_)
  · refine p_iconst G rfl dX3_isWord_24 ?_
    (cases h; exact p_zret G hR dX3_isWord_25 (by decide) rfl rfl)
  · refine p_aload_n G rfl 0 rfl dX3_isWord_8 ?_
    refine p_get G dX3_isWord_9 fl_X3_36 (k := 0) rfl rfl ?_
    refine p_aload_n G rfl 0 rfl dX3_isWord_12 ?_
    refine p_get G dX3_isWord_13 fl_X3_199 (k := 0) rfl rfl ?_
    refine p_isub G dX3_isWord_16 ?_
    refine p_aload_n G rfl 1 rfl dX3_isWord_17 ?_
    obtain ⟨v1, hc, h⟩ := bnd_some h
    refine p_callT G (zlen_u hc) dX3_isWord_18 lk_X3_27 (c_J_String_length (gl Γ) hc) (As := []) rfl zk_4 rfl (Nat.le_of_ble_eq_true rfl) ⟨rfl, rfl, Nat.le_of_ble_eq_true rfl, Nat.le_of_ble_eq_true rfl⟩ hcs ?_
    refine p_icmpeq (tgt := 26) G dX3_isWord_21 (by decide) h (fun c10 h => ?_) (fun c10 h => ?_)
    · refine p_iconst G rfl dX3_isWord_26 ?_
      refine p_istore_nU (lv' := [(2, .int (zJ (0 : Int))), (0, .ref (ga Γ 0)), (1, .ref (gk Γ p1))]) G rfl dX3_isWord_27 (by decide) rfl ?_
      refine p_lv [1, 2, 0] rfl ?_
      obtain ⟨e9, hl28, h⟩ := bnd_some h
      have hX28_54 : ∀ (_ : Unit), (.inl ()) = e9 → PT Γ 3 shR 54 σ [] [] := by
        intro _ he
        subst he
        rw [zel_l] at h
        refine p_iconst G rfl dX3_isWord_54 ?_
        (cases h; exact p_zret G hR dX3_isWord_55 (by decide) rfl rfl)
      have hX28_62 : ∀ (_ : Unit), (.inr ()) = e9 → PT Γ 3 shR 62 σ [] [] := by
        intro _ he
        subst he
        rw [zel_r] at h
        refine p_iconst G rfl dX3_isWord_62 ?_
        (cases h; exact p_zret G hR dX3_isWord_63 (by decide) rfl rfl)
      refine lup_walk (s := (0 : Int)) (At := fun s : Int => PT Γ 3 shR 28 σ [(0, .ref (ga Γ 0)), (1, .ref (gk Γ p1)), (2, .int (zJ s))] []) (fun u2_28 r hf hin28 hout28 => ?_) hl28
      have h : x_X3_isWord_b28 σ p1 u2_28 = some r := hf
      clear hf
      unfold x_X3_isWord_b28 at h
      refine (?_ : PT Γ 3 shR 28 σ [(0, .ref (ga Γ 0)), (1, .ref (gk Γ p1)), (2, .int (zJ u2_28))] [])
      refine p_iload_n G rfl 2 rfl dX3_isWord_28 ?_
      refine p_aload_n G rfl 1 rfl dX3_isWord_29 ?_
      obtain ⟨v2, hc, h⟩ := bnd_some h
      refine p_callT G (zlen_u hc) dX3_isWord_30 lk_X3_27 (c_J_String_length (gl Γ) hc) (As := []) rfl zk_4 rfl (Nat.le_of_ble_eq_true rfl) ⟨rfl, rfl, Nat.le_of_ble_eq_true rfl, Nat.le_of_ble_eq_true rfl⟩ hcs ?_
      refine p_icmpge (tgt := 62) G dX3_isWord_33 (by decide) h (fun c7 h => ?_) (fun c7 h => ?_)
      · refine p_lv [] rfl ?_
        have he := hout28 _ (Option.some.inj h).symm
        subst he
        exact hX28_62 () rfl
      · refine p_aload_n G rfl 0 rfl dX3_isWord_36 ?_
        refine p_aload_n G rfl 0 rfl dX3_isWord_37 ?_
        refine p_get G dX3_isWord_38 fl_X3_199 (k := 0) rfl rfl ?_
        refine p_iload_n G rfl 2 rfl dX3_isWord_41 ?_
        refine p_iadd G dX3_isWord_42 ?_
        obtain ⟨v3, hc, h⟩ := bnd_some h
        refine p_callVi G dX3_isWord_43 lk_X3_202 (c_X3_signAt (gl Γ) hc) (As := [.int (zJ ((σ 0 3) + u2_28))]) (ci := 3) rfl rfl rfl rfl (Nat.le_of_ble_eq_true rfl) ⟨rfl, rfl, Nat.le_of_ble_eq_true rfl, Nat.le_of_ble_eq_true rfl⟩ hcs ?_
        refine p_aload_n G rfl 1 rfl dX3_isWord_46 ?_
        refine p_iload_n G rfl 2 rfl dX3_isWord_47 ?_
        obtain ⟨v4, hc, h⟩ := bnd_some h
        refine p_callT G (zchr_u hc) dX3_isWord_48 lk_X3_32 (c_J_String_charAt (gl Γ) hc) (As := [.int (zJ u2_28)]) rfl zk_4 rfl (Nat.le_of_ble_eq_true rfl) ⟨rfl, rfl, Nat.le_of_ble_eq_true rfl, Nat.le_of_ble_eq_true rfl⟩ hcs ?_
        refine p_icmpeq (tgt := 56) G dX3_isWord_51 (by decide) h (fun c6 h => ?_) (fun c6 h => ?_)
        · refine p_iinc (lv' := fun v5 => [(2, .int (zJ v5)), (0, .ref (ga Γ 0)), (1, .ref (gk Γ p1))]) G dX3_isWord_56 h 2 rfl (by decide) (fun _ => rfl) (fun v5 h => ?_)
          refine p_goto (tgt := 28) G dX3_isWord_59 (by decide) ?_
          refine p_lv [1, 2, 0] rfl ?_
          exact hin28 _ (Option.some.inj h).symm
        · refine p_lv [] rfl ?_
          have he := hout28 _ (Option.some.inj h).symm
          subst he
          exact hX28_54 () rfl
    · refine p_iconst G rfl dX3_isWord_24 ?_
      (cases h; exact p_zret G hR dX3_isWord_25 (by decide) rfl rfl)
set_option maxHeartbeats 4000000 in
set_option maxRecDepth 100000 in
theorem c_X3_errorAs (l : Launch) {D : va_G} {yy : Nat → ClassId} {tk tv a : Nat → Nat} {σ : Mm} {p1 : Int} {o : Int} (h : x_X3_errorAs σ p1 = some o) : CT l yX3_errorAs cX3_errorAs 2 (some .int) rm_X3_errorAs shR D yy tk tv a σ [.ref (a 0), .int (zJ p1)] σ (some (.int (zJ o))) := by
  refine ct_of (Ar := fun a tk => [.ref (a 0), .int (zJ p1)]) (by decide) (Nat.le_of_ble_eq_true rfl) (fun Γ G _ _ hR => ?_)
  have hcs := rt_cs hR
  unfold x_X3_errorAs at h
  refine (?_ : PT Γ 2 shR 0 σ [(0, .ref (ga Γ 0)), (1, .int (zJ p1))] [])
  refine p_bipush G (by decide) (by decide) dX3_errorAs_0 ?_
  refine p_aload_n G rfl 0 rfl dX3_errorAs_2 ?_
  refine p_get G dX3_errorAs_3 fl_X3_199 (k := 0) rfl rfl ?_
  refine p_imul G dX3_errorAs_6 ?_
  refine p_iload_n G rfl 1 rfl dX3_errorAs_7 ?_
  refine p_iadd G dX3_errorAs_8 ?_
  (cases h; exact p_iret G hR dX3_errorAs_9 rfl rfl)
set_option maxHeartbeats 4000000 in
set_option maxRecDepth 100000 in
theorem c_X3_rangeError (l : Launch) {D : va_G} {yy : Nat → ClassId} {tk tv a : Nat → Nat} {σ : Mm} {p1 : Int} {p2 : Int} {o : Int} (h : x_X3_rangeError σ p1 p2 = some o) : CT l yX3_rangeError cX3_rangeError 3 (some .int) rm_X3_rangeError shR D yy tk tv a σ [.ref (a 0), .int (zJ p1), .int (zJ p2)] σ (some (.int (zJ o))) := by
  refine ct_of (Ar := fun a tk => [.ref (a 0), .int (zJ p1), .int (zJ p2)]) (by decide) (Nat.le_of_ble_eq_true rfl) (fun Γ G _ _ hR => ?_)
  have hcs := rt_cs hR
  unfold x_X3_rangeError at h
  refine (?_ : PT Γ 3 shR 0 σ [(0, .ref (ga Γ 0)), (1, .int (zJ p1)), (2, .int (zJ p2))] [])
  refine p_aload_n G rfl 0 rfl dX3_rangeError_0 ?_
  refine p_get G dX3_rangeError_1 fl_X3_82 (k := 0) rfl rfl ?_
  refine p_iload_n G rfl 1 rfl dX3_rangeError_4 ?_
  refine p_icmplt (tgt := 16) G dX3_rangeError_5 (by decide) h (fun c4 h => ?_) (fun c4 h => ?_)
  · refine p_aload_n G rfl 0 rfl dX3_rangeError_16 ?_
    refine p_iconst G rfl dX3_rangeError_17 ?_
    obtain ⟨v1, hc, h⟩ := bnd_some h
    refine p_callVi G dX3_rangeError_18 lk_X3_73 (c_X3_errorAs (gl Γ) hc) (As := [.int (zJ (2 : Int))]) (ci := 3) rfl rfl rfl rfl (Nat.le_of_ble_eq_true rfl) ⟨rfl, rfl, Nat.le_of_ble_eq_true rfl, Nat.le_of_ble_eq_true rfl⟩ hcs ?_
    refine p_goto (tgt := 25) G dX3_rangeError_21 (by decide) ?_
    (cases h; exact p_iret G hR dX3_rangeError_25 rfl rfl)
  · refine p_aload_n G rfl 0 rfl dX3_rangeError_8 ?_
    refine p_get G dX3_rangeError_9 fl_X3_82 (k := 0) rfl rfl ?_
    refine p_iload_n G rfl 2 rfl dX3_rangeError_12 ?_
    refine p_icmple (tgt := 24) G dX3_rangeError_13 (by decide) h (fun c3 h => ?_) (fun c3 h => ?_)
    · refine p_iconst G rfl dX3_rangeError_24 ?_
      (cases h; exact p_iret G hR dX3_rangeError_25 rfl rfl)
    · refine p_aload_n G rfl 0 rfl dX3_rangeError_16 ?_
      refine p_iconst G rfl dX3_rangeError_17 ?_
      obtain ⟨v2, hc, h⟩ := bnd_some h
      refine p_callVi G dX3_rangeError_18 lk_X3_73 (c_X3_errorAs (gl Γ) hc) (As := [.int (zJ (2 : Int))]) (ci := 3) rfl rfl rfl rfl (Nat.le_of_ble_eq_true rfl) ⟨rfl, rfl, Nat.le_of_ble_eq_true rfl, Nat.le_of_ble_eq_true rfl⟩ hcs ?_
      refine p_goto (tgt := 25) G dX3_rangeError_21 (by decide) ?_
      (cases h; exact p_iret G hR dX3_rangeError_25 rfl rfl)
set_option maxHeartbeats 4000000 in
set_option maxRecDepth 100000 in
theorem c_X3_readNumber (l : Launch) {D : va_G} {yy : Nat → ClassId} {tk tv a : Nat → Nat} {σ : Mm} {p1 : Int} {p2 : Int} {o : Mm × Int} (h : x_X3_readNumber σ p1 p2 = some o) : CT l yX3_readNumber cX3_readNumber 3 (some .int) rm_X3_readNumber shR D yy tk tv a σ [.ref (a 0), .int (zJ p1), .int (zJ p2)] o.1 (some (.int (zJ o.2))) := by
  refine ct_of (Ar := fun a tk => [.ref (a 0), .int (zJ p1), .int (zJ p2)]) (by decide) (Nat.le_of_ble_eq_true rfl) (fun Γ G _ _ hR => ?_)
  have hcs := rt_cs hR
  unfold x_X3_readNumber at h
  refine (?_ : PT Γ 3 shR 0 σ [(0, .ref (ga Γ 0)), (1, .int (zJ p1)), (2, .int (zJ p2))] [])
  refine p_aload_n G rfl 0 rfl dX3_readNumber_0 ?_
  obtain ⟨σ1, hc, h⟩ := bnd_some h
  refine p_callVi G dX3_readNumber_1 lk_X3_64 (c_X3_advance (gl Γ) hc) (As := []) (ci := 3) rfl rfl rfl rfl (Nat.le_of_ble_eq_true rfl) ⟨rfl, rfl, Nat.le_of_ble_eq_true rfl, Nat.le_of_ble_eq_true rfl⟩ hcs ?_
  refine p_aload_n G rfl 0 rfl dX3_readNumber_4 ?_
  refine p_get G dX3_readNumber_5 fl_X3_61 (k := 0) rfl rfl ?_
  refine p_iconst G rfl dX3_readNumber_8 ?_
  refine p_icmpne (tgt := 21) G dX3_readNumber_9 (by decide) h (fun c4 h => ?_) (fun c4 h => ?_)
  · refine p_aload_n G rfl 0 rfl dX3_readNumber_21 ?_
    refine p_iconst G rfl dX3_readNumber_22 ?_
    obtain ⟨v2, hc, h⟩ := bnd_some h
    refine p_callVi G dX3_readNumber_23 lk_X3_73 (c_X3_errorAs (gl Γ) hc) (As := [.int (zJ (1 : Int))]) (ci := 3) rfl rfl rfl rfl (Nat.le_of_ble_eq_true rfl) ⟨rfl, rfl, Nat.le_of_ble_eq_true rfl, Nat.le_of_ble_eq_true rfl⟩ hcs ?_
    (cases h; exact p_iret G hR dX3_readNumber_26 rfl rfl)
  · refine p_aload_n G rfl 0 rfl dX3_readNumber_12 ?_
    refine p_iload_n G rfl 1 rfl dX3_readNumber_13 ?_
    refine p_iload_n G rfl 2 rfl dX3_readNumber_14 ?_
    obtain ⟨v3, hc, h⟩ := bnd_some h
    refine p_callVi G dX3_readNumber_15 lk_X3_114 (c_X3_rangeError (gl Γ) hc) (As := [.int (zJ p1), .int (zJ p2)]) (ci := 3) rfl rfl rfl rfl (Nat.le_of_ble_eq_true rfl) ⟨rfl, rfl, Nat.le_of_ble_eq_true rfl, Nat.le_of_ble_eq_true rfl⟩ hcs ?_
    refine p_goto (tgt := 26) G dX3_readNumber_18 (by decide) ?_
    (cases h; exact p_iret G hR dX3_readNumber_26 rfl rfl)
set_option maxHeartbeats 4000000 in
set_option maxRecDepth 100000 in
theorem c_X3_readSemicolon (l : Launch) {D : va_G} {yy : Nat → ClassId} {tk tv a : Nat → Nat} {σ : Mm} {o : Mm × Int} (h : x_X3_readSemicolon σ = some o) : CT l yX3_readSemicolon cX3_readSemicolon 1 (some .int) rm_X3_readSemicolon shR D yy tk tv a σ [.ref (a 0)] o.1 (some (.int (zJ o.2))) := by
  refine ct_of (Ar := fun a tk => [.ref (a 0)]) (by decide) (Nat.le_of_ble_eq_true rfl) (fun Γ G _ _ hR => ?_)
  have hcs := rt_cs hR
  unfold x_X3_readSemicolon at h
  refine (?_ : PT Γ 1 shR 0 σ [(0, .ref (ga Γ 0))] [])
  refine p_aload_n G rfl 0 rfl dX3_readSemicolon_0 ?_
  obtain ⟨σ1, hc, h⟩ := bnd_some h
  refine p_callVi G dX3_readSemicolon_1 lk_X3_64 (c_X3_advance (gl Γ) hc) (As := []) (ci := 3) rfl rfl rfl rfl (Nat.le_of_ble_eq_true rfl) ⟨rfl, rfl, Nat.le_of_ble_eq_true rfl, Nat.le_of_ble_eq_true rfl⟩ hcs ?_
  refine p_aload_n G rfl 0 rfl dX3_readSemicolon_4 ?_
  refine p_get G dX3_readSemicolon_5 fl_X3_61 (k := 0) rfl rfl ?_
  refine p_iconst G rfl dX3_readSemicolon_8 ?_
  refine p_icmpne (tgt := 16) G dX3_readSemicolon_9 (by decide) h (fun c3 h => ?_) (fun c3 h => ?_)
  · refine p_aload_n G rfl 0 rfl dX3_readSemicolon_16 ?_
    refine p_iconst G rfl dX3_readSemicolon_17 ?_
    obtain ⟨v2, hc, h⟩ := bnd_some h
    refine p_callVi G dX3_readSemicolon_18 lk_X3_73 (c_X3_errorAs (gl Γ) hc) (As := [.int (zJ (1 : Int))]) (ci := 3) rfl rfl rfl rfl (Nat.le_of_ble_eq_true rfl) ⟨rfl, rfl, Nat.le_of_ble_eq_true rfl, Nat.le_of_ble_eq_true rfl⟩ hcs ?_
    (cases h; exact p_iret G hR dX3_readSemicolon_21 rfl rfl)
  · refine p_iconst G rfl dX3_readSemicolon_12 ?_
    refine p_goto (tgt := 21) G dX3_readSemicolon_13 (by decide) ?_
    (cases h; exact p_iret G hR dX3_readSemicolon_21 rfl rfl)
set_option maxHeartbeats 4000000 in
set_option maxRecDepth 100000 in
theorem c_X3_readHead (l : Launch) {D : va_G} {yy : Nat → ClassId} {tk tv a : Nat → Nat} {σ : Mm} {o : Mm × Int} (h : x_X3_readHead σ = some o) : CT l yX3_readHead cX3_readHead 3 (some .int) rm_X3_readHead shRM D yy tk tv a σ [.ref (a 0), .ref (a 3)] o.1 (some (.int (zJ o.2))) := by
  refine ct_of (Ar := fun a tk => [.ref (a 0), .ref (a 3)]) (by decide) (Nat.le_of_ble_eq_true rfl) (fun Γ G _ _ hR => ?_)
  have hcs := rt_cs hR
  unfold x_X3_readHead at h
  refine (?_ : PT Γ 3 shRM 0 σ [(0, .ref (ga Γ 0)), (1, .ref (ga Γ 3))] [])
  have j77 : ∀ (σ_77 : Mm) (v2_77 : Int), x_X3_readHead_j77 σ_77 v2_77 = some o → PT Γ 3 shRM 77 σ_77 [(0, .ref (ga Γ 0)), (1, .ref (ga Γ 3)), (2, .int (zJ v2_77))] [] := by
    intro σ_77 v2_77 h
    unfold x_X3_readHead_j77 at h
    refine p_iload_n G rfl 2 rfl dX3_readHead_77 ?_
    refine p_ifne (tgt := 99) G dX3_readHead_78 (by decide) h (fun c20 h => ?_) (fun c20 h => ?_)
    · refine p_iload_n G rfl 2 rfl dX3_readHead_99 ?_
      refine p_ifne (tgt := 108) G dX3_readHead_100 (by decide) h (fun c11 h => ?_) (fun c11 h => ?_)
      · refine p_iload_n G rfl 2 rfl dX3_readHead_108 ?_
        (cases h; exact p_iret G hR dX3_readHead_109 rfl rfl)
      · refine p_aload_n G rfl 0 rfl dX3_readHead_103 ?_
        obtain ⟨⟨σ8, v9⟩, hc, h⟩ := bnd_some h
        rw [un2_mk] at h
        refine p_callV G zl_5 dX3_readHead_104 lk_X3_98 (c_X3_readSemicolon (gl Γ) hc) (As := []) (ci := 3) rfl zk_5 (zs_x zs_5 _) rfl rfl rfl (Nat.le_of_ble_eq_true rfl) ⟨rfl, rfl, Nat.le_of_ble_eq_true rfl, Nat.le_of_ble_eq_true rfl⟩ hcs ?_
        refine p_nm h (fun σ10 h => ?_)
        refine p_istore_nU (lv' := [(2, .int (zJ v9)), (0, .ref (ga Γ 0)), (1, .ref (ga Γ 3))]) G rfl dX3_readHead_107 (by decide) rfl ?_
        refine p_iload_n G rfl 0 rfl dX3_readHead_108 ?_
        (cases h; exact p_iret G hR dX3_readHead_109 rfl rfl)
    · refine p_aload_n G rfl 0 rfl dX3_readHead_81 ?_
      refine p_bipush G (by decide) (by decide) dX3_readHead_82 ?_
      refine p_sipush G (by decide) (by decide) dX3_readHead_84 ?_
      obtain ⟨⟨σ12, v13⟩, hc, h⟩ := bnd_some h
      rw [un2_mk] at h
      refine p_callV G zl_5 dX3_readHead_87 lk_X3_78 (c_X3_readNumber (gl Γ) hc) (As := [.int (zJ (20 : Int)), .int (zJ (500 : Int))]) (ci := 3) rfl zk_5 (zs_x zs_5 _) rfl rfl rfl (Nat.le_of_ble_eq_true rfl) ⟨rfl, rfl, Nat.le_of_ble_eq_true rfl, Nat.le_of_ble_eq_true rfl⟩ hcs ?_
      refine p_nm h (fun σ14 h => ?_)
      refine p_istore_nU (lv' := [(2, .int (zJ v13)), (0, .ref (ga Γ 0)), (1, .ref (ga Γ 3))]) G rfl dX3_readHead_90 (by decide) rfl ?_
      refine p_aload_n G rfl 2 rfl dX3_readHead_91 ?_
      refine p_aload_n G rfl 1 rfl dX3_readHead_92 ?_
      refine p_get G dX3_readHead_93 fl_X3_82 (k := 0) rfl rfl ?_
      refine p_putI G dX3_readHead_96 fp_X3_95 (k := 3) rfl rfl rfl rfl h (fun σ15 h => ?_)
      refine p_iload_n G rfl 0 rfl dX3_readHead_99 ?_
      refine p_ifne (tgt := 108) G dX3_readHead_100 (by decide) h (fun c19 h => ?_) (fun c19 h => ?_)
      · refine p_iload_n G rfl 0 rfl dX3_readHead_108 ?_
        (cases h; exact p_iret G hR dX3_readHead_109 rfl rfl)
      · refine p_aload_n G rfl 1 rfl dX3_readHead_103 ?_
        obtain ⟨⟨σ16, v17⟩, hc, h⟩ := bnd_some h
        rw [un2_mk] at h
        refine p_callV G zl_5 dX3_readHead_104 lk_X3_98 (c_X3_readSemicolon (gl Γ) hc) (As := []) (ci := 3) rfl zk_5 (zs_x zs_5 _) rfl rfl rfl (Nat.le_of_ble_eq_true rfl) ⟨rfl, rfl, Nat.le_of_ble_eq_true rfl, Nat.le_of_ble_eq_true rfl⟩ hcs ?_
        refine p_nm h (fun σ18 h => ?_)
        refine p_istore_nU (lv' := [(2, .int (zJ v17)), (0, .ref (ga Γ 0)), (1, .ref (ga Γ 3))]) G rfl dX3_readHead_107 (by decide) rfl ?_
        refine p_iload_n G rfl 0 rfl dX3_readHead_108 ?_
        (cases h; exact p_iret G hR dX3_readHead_109 rfl rfl)
  have j57 : ∀ (σ_57 : Mm) (v2_57 : Int), x_X3_readHead_j57 σ_57 v2_57 = some o → PT Γ 3 shRM 57 σ_57 [(0, .ref (ga Γ 0)), (1, .ref (ga Γ 3)), (2, .int (zJ v2_57))] [] := by
    intro σ_57 v2_57 h
    unfold x_X3_readHead_j57 at h
    refine p_iload_n G rfl 2 rfl dX3_readHead_57 ?_
    refine p_ifne (tgt := 77) G dX3_readHead_58 (by decide) h (fun c25 h => ?_) (fun c25 h => ?_)
    · exact j77 _ _ h
    · refine p_aload_n G rfl 0 rfl dX3_readHead_61 ?_
      refine p_iconst G rfl dX3_readHead_62 ?_
      refine p_bipush G (by decide) (by decide) dX3_readHead_63 ?_
      obtain ⟨⟨σ21, v22⟩, hc, h⟩ := bnd_some h
      rw [un2_mk] at h
      refine p_callV G zl_5 dX3_readHead_65 lk_X3_78 (c_X3_readNumber (gl Γ) hc) (As := [.int (zJ (0 : Int)), .int (zJ (20 : Int))]) (ci := 3) rfl zk_5 (zs_x zs_5 _) rfl rfl rfl (Nat.le_of_ble_eq_true rfl) ⟨rfl, rfl, Nat.le_of_ble_eq_true rfl, Nat.le_of_ble_eq_true rfl⟩ hcs ?_
      refine p_nm h (fun σ23 h => ?_)
      refine p_istore_nU (lv' := [(2, .int (zJ v22)), (0, .ref (ga Γ 0)), (1, .ref (ga Γ 3))]) G rfl dX3_readHead_68 (by decide) rfl ?_
      refine p_aload_n G rfl 2 rfl dX3_readHead_69 ?_
      refine p_aload_n G rfl 1 rfl dX3_readHead_70 ?_
      refine p_get G dX3_readHead_71 fl_X3_82 (k := 0) rfl rfl ?_
      refine p_putI G dX3_readHead_74 fp_X3_92 (k := 3) rfl rfl rfl rfl h (fun σ24 h => ?_)
      refine p_lv [1, 2, 0] rfl ?_
      exact j77 _ _ h
  refine p_aload_n G rfl 0 rfl dX3_readHead_0 ?_
  obtain ⟨σ1, hc, h⟩ := bnd_some h
  refine p_callV G zl_5 dX3_readHead_1 lk_X3_64 (c_X3_advance (gl Γ) hc) (As := []) (ci := 3) rfl zk_5 (zs_x zs_5 _) rfl rfl rfl (Nat.le_of_ble_eq_true rfl) ⟨rfl, rfl, Nat.le_of_ble_eq_true rfl, Nat.le_of_ble_eq_true rfl⟩ hcs ?_
  refine p_nm h (fun σ2 h => ?_)
  refine p_aload_n G rfl 0 rfl dX3_readHead_4 ?_
  refine p_ldcS G 1 (by decide) rfl rfl dX3_readHead_5 rfl ?_
  obtain ⟨v3, hc, h⟩ := bnd_some h
  refine p_callVr G zl_5 dX3_readHead_7 lk_X3_69 (c_X3_isWord (gl Γ) hc) (As := [.ref (gk Γ 1)]) (ci := 3) rfl zk_5 (zs_x zs_5 _) rfl rfl rfl (Nat.le_of_ble_eq_true rfl) ⟨rfl, rfl, Nat.le_of_ble_eq_true rfl, Nat.le_of_ble_eq_true rfl⟩ hcs ?_
  refine p_ifne (tgt := 19) G dX3_readHead_10 (by decide) h (fun c32 h => ?_) (fun c32 h => ?_)
  · refine p_aload_n G rfl 0 rfl dX3_readHead_19 ?_
    refine p_iconst G rfl dX3_readHead_20 ?_
    refine p_ldc (x := 999999999) G gm_442 (by decide) dX3_readHead_21 ?_
    obtain ⟨⟨σ4, v5⟩, hc, h⟩ := bnd_some h
    rw [un2_mk] at h
    refine p_callV G zl_5 dX3_readHead_23 lk_X3_78 (c_X3_readNumber (gl Γ) hc) (As := [.int (zJ (0 : Int)), .int (zJ (999999999 : Int))]) (ci := 3) rfl zk_5 (zs_x zs_5 _) rfl rfl rfl (Nat.le_of_ble_eq_true rfl) ⟨rfl, rfl, Nat.le_of_ble_eq_true rfl, Nat.le_of_ble_eq_true rfl⟩ hcs ?_
    refine p_nm h (fun σ6 h => ?_)
    refine p_istore_nU (lv' := [(2, .int (zJ v5)), (0, .ref (ga Γ 0)), (1, .ref (ga Γ 3))]) G rfl dX3_readHead_26 (by decide) rfl ?_
    refine p_aload_n G rfl 2 rfl dX3_readHead_27 ?_
    refine p_aload_n G rfl 1 rfl dX3_readHead_28 ?_
    refine p_get G dX3_readHead_29 fl_X3_82 (k := 0) rfl rfl ?_
    refine p_i2l G dX3_readHead_32 ?_
    refine p_putL G dX3_readHead_33 fp_X3_85 (k := 3) rfl rfl rfl rfl h (fun σ7 h => ?_)
    refine p_iload_n G rfl 0 rfl dX3_readHead_36 ?_
    refine p_ifne (tgt := 57) G dX3_readHead_37 (by decide) h (fun c30 h => ?_) (fun c30 h => ?_)
    · refine p_lv [1, 2, 0] rfl ?_
      exact j57 _ _ h
    · refine p_aload_n G rfl 1 rfl dX3_readHead_40 ?_
      refine p_bipush G (by decide) (by decide) dX3_readHead_41 ?_
      refine p_bipush G (by decide) (by decide) dX3_readHead_43 ?_
      obtain ⟨⟨σ26, v27⟩, hc, h⟩ := bnd_some h
      rw [un2_mk] at h
      refine p_callV G zl_5 dX3_readHead_45 lk_X3_78 (c_X3_readNumber (gl Γ) hc) (As := [.int (zJ (7 : Int)), .int (zJ (10 : Int))]) (ci := 3) rfl zk_5 (zs_x zs_5 _) rfl rfl rfl (Nat.le_of_ble_eq_true rfl) ⟨rfl, rfl, Nat.le_of_ble_eq_true rfl, Nat.le_of_ble_eq_true rfl⟩ hcs ?_
      refine p_nm h (fun σ28 h => ?_)
      refine p_istore_nU (lv' := [(2, .int (zJ v27)), (0, .ref (ga Γ 0)), (1, .ref (ga Γ 3))]) G rfl dX3_readHead_48 (by decide) rfl ?_
      refine p_aload_n G rfl 2 rfl dX3_readHead_49 ?_
      refine p_aload_n G rfl 1 rfl dX3_readHead_50 ?_
      refine p_get G dX3_readHead_51 fl_X3_82 (k := 0) rfl rfl ?_
      refine p_putI G dX3_readHead_54 fp_X3_89 (k := 3) rfl rfl rfl rfl h (fun σ29 h => ?_)
      refine p_lv [1, 2, 0] rfl ?_
      exact j57 _ _ h
  · refine p_aload_n G rfl 0 rfl dX3_readHead_13 ?_
    refine p_iconst G rfl dX3_readHead_14 ?_
    obtain ⟨v31, hc, h⟩ := bnd_some h
    refine p_callVr G zl_5 dX3_readHead_15 lk_X3_73 (c_X3_errorAs (gl Γ) hc) (As := [.int (zJ (1 : Int))]) (ci := 3) rfl zk_5 (zs_x zs_5 _) rfl rfl rfl (Nat.le_of_ble_eq_true rfl) ⟨rfl, rfl, Nat.le_of_ble_eq_true rfl, Nat.le_of_ble_eq_true rfl⟩ hcs ?_
    (cases h; exact p_iret G hR dX3_readHead_18 rfl rfl)
set_option maxHeartbeats 4000000 in
set_option maxRecDepth 100000 in
theorem c_X3_readDeck (l : Launch) {D : va_G} {yy : Nat → ClassId} {tk tv a : Nat → Nat} {σ : Mm} {o : Mm × Int} (h : x_X3_readDeck σ = some o) : CT l yX3_readDeck cX3_readDeck 5 (some .int) rm_X3_readDeck shR D yy tk tv a σ [.ref (a 0)] o.1 (some (.int (zJ o.2))) := by
  refine ct_of (Ar := fun a tk => [.ref (a 0)]) (by decide) (Nat.le_of_ble_eq_true rfl) (fun Γ G _ _ hR => ?_)
  have hcs := rt_cs hR
  unfold x_X3_readDeck at h
  refine (?_ : PT Γ 5 shR 0 σ [(0, .ref (ga Γ 0))] [])
  have j137 : ∀ (σ_137 : Mm) (v3_137 : Int), x_X3_readDeck_j137 σ_137 v3_137 = some o → PT Γ 5 shR 137 σ_137 [(0, .ref (ga Γ 0)), (3, .int (zJ v3_137))] [] := by
    intro σ_137 v3_137 h
    unfold x_X3_readDeck_j137 at h
    refine p_iload_n G rfl 1 rfl dX3_readDeck_137 ?_
    refine p_ifeq (tgt := 143) G dX3_readDeck_138 (by decide) h (fun c31 h => ?_) (fun c31 h => ?_)
    · refine p_aload_n G rfl 0 rfl dX3_readDeck_143 ?_
      refine p_get G dX3_readDeck_144 fl_X3_61 (k := 0) rfl rfl ?_
      refine p_iconst G rfl dX3_readDeck_147 ?_
      refine p_icmpeq (tgt := 157) G dX3_readDeck_148 (by decide) h (fun c30 h => ?_) (fun c30 h => ?_)
      · refine p_aload_n G rfl 0 rfl dX3_readDeck_157 ?_
        obtain ⟨σ28, hc, h⟩ := bnd_some h
        refine p_callVi G dX3_readDeck_158 lk_X3_64 (c_X3_advance (gl Γ) hc) (As := []) (ci := 3) rfl rfl rfl rfl (Nat.le_of_ble_eq_true rfl) ⟨rfl, rfl, Nat.le_of_ble_eq_true rfl, Nat.le_of_ble_eq_true rfl⟩ hcs ?_
        refine p_iconst G rfl dX3_readDeck_161 ?_
        (cases h; exact p_iret G hR dX3_readDeck_162 rfl rfl)
      · refine p_aload_n G rfl 0 rfl dX3_readDeck_151 ?_
        refine p_iconst G rfl dX3_readDeck_152 ?_
        obtain ⟨v29, hc, h⟩ := bnd_some h
        refine p_callVi G dX3_readDeck_153 lk_X3_73 (c_X3_errorAs (gl Γ) hc) (As := [.int (zJ (1 : Int))]) (ci := 3) rfl rfl rfl rfl (Nat.le_of_ble_eq_true rfl) ⟨rfl, rfl, Nat.le_of_ble_eq_true rfl, Nat.le_of_ble_eq_true rfl⟩ hcs ?_
        (cases h; exact p_iret G hR dX3_readDeck_156 rfl rfl)
    · refine p_iload_n G rfl 1 rfl dX3_readDeck_141 ?_
      (cases h; exact p_iret G hR dX3_readDeck_142 rfl rfl)
  refine p_aload_n G rfl 0 rfl dX3_readDeck_0 ?_
  refine p_iconst G rfl dX3_readDeck_1 ?_
  refine p_putI G dX3_readDeck_2 fp_X3_101 (k := 0) rfl rfl rfl rfl h (fun σ1 h => ?_)
  refine p_lconst G (v := 0) (by decide) dX3_readDeck_5 ?_
  refine p_lstore_nU (lv' := [(1, .long (0 : Int64)), (0, .ref (ga Γ 0))]) G rfl dX3_readDeck_6 (by decide) rfl ?_
  refine p_aload_n G rfl 1 rfl dX3_readDeck_7 ?_
  obtain ⟨σ2, hc, h⟩ := bnd_some h
  refine p_callVi G dX3_readDeck_8 lk_X3_64 (c_X3_advance (gl Γ) hc) (As := []) (ci := 3) rfl rfl rfl rfl (Nat.le_of_ble_eq_true rfl) ⟨rfl, rfl, Nat.le_of_ble_eq_true rfl, Nat.le_of_ble_eq_true rfl⟩ hcs ?_
  refine p_aload_n G rfl 1 rfl dX3_readDeck_11 ?_
  refine p_ldcS G 2 (by decide) rfl rfl dX3_readDeck_12 rfl ?_
  obtain ⟨v3, hc, h⟩ := bnd_some h
  refine p_callVi G dX3_readDeck_14 lk_X3_69 (c_X3_isWord (gl Γ) hc) (As := [.ref (gk Γ 2)]) (ci := 3) rfl rfl rfl rfl (Nat.le_of_ble_eq_true rfl) ⟨rfl, rfl, Nat.le_of_ble_eq_true rfl, Nat.le_of_ble_eq_true rfl⟩ hcs ?_
  refine p_ifne (tgt := 22) G dX3_readDeck_17 (by decide) h (fun c32 h => ?_) (fun c32 h => ?_)
  · refine p_aload_n G rfl 1 rfl dX3_readDeck_22 ?_
    refine p_iconst G rfl dX3_readDeck_23 ?_
    refine p_bipush G (by decide) (by decide) dX3_readDeck_24 ?_
    obtain ⟨⟨σ4, v5⟩, hc, h⟩ := bnd_some h
    rw [un2_mk] at h
    refine p_callVi G dX3_readDeck_26 lk_X3_78 (c_X3_readNumber (gl Γ) hc) (As := [.int (zJ (0 : Int)), .int (zJ (51 : Int))]) (ci := 3) rfl rfl rfl rfl (Nat.le_of_ble_eq_true rfl) ⟨rfl, rfl, Nat.le_of_ble_eq_true rfl, Nat.le_of_ble_eq_true rfl⟩ hcs ?_
    refine p_istore_nU (lv' := [(3, .int (zJ v5)), (1, .long (0 : Int64)), (0, .ref (ga Γ 0))]) G rfl dX3_readDeck_29 (by decide) rfl ?_
    refine p_iconst G rfl dX3_readDeck_30 ?_
    refine p_istoreU (lv' := [(4, .int (zJ (0 : Int))), (3, .int (zJ v5)), (1, .long (0 : Int64)), (0, .ref (ga Γ 0))]) G dX3_readDeck_31 (by decide) rfl ?_
    refine p_lv [3, 2, 1, 0] rfl ?_
    obtain ⟨e23, hl33, h⟩ := bnd_some h
    have hX33_72 : ∀ (σ24 : Mm), (.inl σ24) = e23 → PT Γ 5 shR 72 σ24 [(0, .ref (ga Γ 0))] [] := by
      intro σ24 he
      subst he
      rw [zel_l] at h
      refine p_aload_n G rfl 0 rfl dX3_readDeck_72 ?_
      refine p_iconst G rfl dX3_readDeck_73 ?_
      obtain ⟨v25, hc, h⟩ := bnd_some h
      refine p_callVi G dX3_readDeck_74 lk_X3_73 (c_X3_errorAs (gl Γ) hc) (As := [.int (zJ (3 : Int))]) (ci := 3) rfl rfl rfl rfl (Nat.le_of_ble_eq_true rfl) ⟨rfl, rfl, Nat.le_of_ble_eq_true rfl, Nat.le_of_ble_eq_true rfl⟩ hcs ?_
      (cases h; exact p_iret G hR dX3_readDeck_77 rfl rfl)
    have hX33_137 : ∀ (σ26 : Mm) (v27 : Int), (.inr (σ26, v27)) = e23 → PT Γ 5 shR 137 σ26 [(0, .ref (ga Γ 0)), (3, .int (zJ v27))] [] := by
      intro σ26 v27 he
      subst he
      rw [zel_r] at h
      rw [un2_mk] at h
      exact j137 _ _ h
    refine lup_walk (s := (σ4, (0 : Int64), v5, (0 : Int))) (At := fun s : Mm × Int64 × Int × Int => PT Γ 5 shR 33 s.1 [(0, .ref (ga Γ 0)), (1, .long s.2.1), (3, .int (zJ s.2.2.1)), (4, .int (zJ s.2.2.2))] []) (fun s r hf hin33 hout33 => ?_) hl33
    obtain ⟨σ33, u1_33, u3_33, u4_33⟩ := s
    have h : x_X3_readDeck_b33 σ33 u1_33 u3_33 u4_33 = some r := hf
    clear hf
    unfold x_X3_readDeck_b33 at h
    refine (?_ : PT Γ 5 shR 33 σ33 [(0, .ref (ga Γ 0)), (1, .long u1_33), (3, .int (zJ u3_33)), (4, .int (zJ u4_33))] [])
    refine p_iload G 3 rfl dX3_readDeck_33 ?_
    refine p_bipush G (by decide) (by decide) dX3_readDeck_35 ?_
    refine p_icmpgt (tgt := 137) G dX3_readDeck_37 (by decide) h (fun c21 h => ?_) (fun c21 h => ?_)
    · refine p_lv [0, 2] rfl ?_
      have he := hout33 _ (Option.some.inj h).symm
      subst he
      exact hX33_137 _ _ rfl
    · refine p_iload_n G rfl 2 rfl dX3_readDeck_40 ?_
      refine p_ifne (tgt := 137) G dX3_readDeck_41 (by decide) h (fun c20 h => ?_) (fun c20 h => ?_)
      · refine p_lv [0, 2] rfl ?_
        have he := hout33 _ (Option.some.inj h).symm
        subst he
        exact hX33_137 _ _ rfl
      · refine p_aload_n G rfl 0 rfl dX3_readDeck_44 ?_
        refine p_get G dX3_readDeck_45 fl_X3_61 (k := 0) rfl rfl ?_
        refine p_iconst G rfl dX3_readDeck_48 ?_
        refine p_icmpne (tgt := 137) G dX3_readDeck_49 (by decide) h (fun c19 h => ?_) (fun c19 h => ?_)
        · refine p_lv [0, 2] rfl ?_
          have he := hout33 _ (Option.some.inj h).symm
          subst he
          exact hX33_137 _ _ rfl
        · refine p_lload_n G rfl 1 rfl dX3_readDeck_52 ?_
          refine p_aload_n G rfl 0 rfl dX3_readDeck_53 ?_
          refine p_get G dX3_readDeck_54 fl_X3_82 (k := 0) rfl rfl ?_
          obtain ⟨v6, hc, h⟩ := bnd_some h
          refine p_callS0 G dX3_readDeck_57 lk_X3_106 (c_X6_has (gl Γ) hc) (As := [.long u1_33, .int (zJ (σ33 0 5))]) rfl zk_4 rfl (Nat.le_of_ble_eq_true rfl) ⟨rfl, rfl, Nat.le_of_ble_eq_true rfl, Nat.le_of_ble_eq_true rfl⟩ hcs ?_
          refine p_ifne (tgt := 72) G dX3_readDeck_60 (by decide) h (fun c18 h => ?_) (fun c18 h => ?_)
          · refine p_lv [0] rfl ?_
            have he := hout33 _ (Option.some.inj h).symm
            subst he
            exact hX33_72 _ rfl
          · refine p_aload_n G rfl 0 rfl dX3_readDeck_63 ?_
            refine p_get G dX3_readDeck_64 fl_X3_101 (k := 0) rfl rfl ?_
            refine p_bipush G (by decide) (by decide) dX3_readDeck_67 ?_
            refine p_icmplt (tgt := 78) G dX3_readDeck_69 (by decide) h (fun c17 h => ?_) (fun c17 h => ?_)
            · refine p_lload_n G rfl 1 rfl dX3_readDeck_78 ?_
              refine p_aload_n G rfl 0 rfl dX3_readDeck_79 ?_
              refine p_get G dX3_readDeck_80 fl_X3_82 (k := 0) rfl rfl ?_
              obtain ⟨v7, hc, h⟩ := bnd_some h
              refine p_callS0 G dX3_readDeck_83 lk_X3_110 (c_X6_bitOf (gl Γ) hc) (As := [.int (zJ (σ33 0 5))]) rfl zk_4 rfl (Nat.le_of_ble_eq_true rfl) ⟨rfl, rfl, Nat.le_of_ble_eq_true rfl, Nat.le_of_ble_eq_true rfl⟩ hcs ?_
              refine p_lor G dX3_readDeck_86 ?_
              refine p_lstore_n (lv' := fun v8 => [(1, .long v8), (0, .ref (ga Γ 0)), (3, .int (zJ u3_33)), (4, .int (zJ u4_33))]) G rfl dX3_readDeck_87 h (by decide) (fun _ => rfl) (fun v8 h => ?_)
              refine p_aload_n G rfl 1 rfl dX3_readDeck_88 ?_
              refine p_get G dX3_readDeck_89 fl_X3_15 (k := 0) rfl rfl ?_
              refine p_aload_n G rfl 1 rfl dX3_readDeck_92 ?_
              refine p_get G dX3_readDeck_93 fl_X3_101 (k := 0) rfl rfl ?_
              refine p_aload_n G rfl 1 rfl dX3_readDeck_96 ?_
              refine p_get G dX3_readDeck_97 fl_X3_82 (k := 0) rfl rfl ?_
              refine p_iast G dX3_readDeck_100 (k := 2) rfl (zt_c _) rfl h (fun σ9 c10 h => ?_)
              refine p_aload_n G rfl 1 rfl dX3_readDeck_101 ?_
              refine p_dup G rfl dX3_readDeck_102 ?_
              refine p_get G dX3_readDeck_103 fl_X3_101 (k := 0) rfl rfl ?_
              refine p_iconst G rfl dX3_readDeck_106 ?_
              refine p_iadd G dX3_readDeck_107 ?_
              refine p_putI G dX3_readDeck_108 fp_X3_101 (k := 0) rfl rfl rfl rfl h (fun σ11 h => ?_)
              refine p_aload_n G rfl 1 rfl dX3_readDeck_111 ?_
              obtain ⟨σ12, hc, h⟩ := bnd_some h
              refine p_callVi G dX3_readDeck_112 lk_X3_64 (c_X3_advance (gl Γ) hc) (As := []) (ci := 3) rfl rfl rfl rfl (Nat.le_of_ble_eq_true rfl) ⟨rfl, rfl, Nat.le_of_ble_eq_true rfl, Nat.le_of_ble_eq_true rfl⟩ hcs ?_
              refine p_aload_n G rfl 1 rfl dX3_readDeck_115 ?_
              refine p_get G dX3_readDeck_116 fl_X3_61 (k := 0) rfl rfl ?_
              refine p_iconst G rfl dX3_readDeck_119 ?_
              refine p_icmpne (tgt := 131) G dX3_readDeck_120 (by decide) h (fun c16 h => ?_) (fun c16 h => ?_)
              · refine p_iinc (lv' := fun v13 => [(4, .int (zJ v13)), (1, .long v8), (0, .ref (ga Γ 0)), (3, .int (zJ u3_33))]) G dX3_readDeck_131 h 3 rfl (by decide) (fun _ => rfl) (fun v13 h => ?_)
                refine p_goto (tgt := 33) G dX3_readDeck_134 (by decide) ?_
                refine p_lv [2, 1, 3, 0] rfl ?_
                exact hin33 _ (Option.some.inj h).symm
              · refine p_aload_n G rfl 1 rfl dX3_readDeck_123 ?_
                refine p_iconst G rfl dX3_readDeck_124 ?_
                refine p_bipush G (by decide) (by decide) dX3_readDeck_125 ?_
                obtain ⟨v14, hc, h⟩ := bnd_some h
                refine p_callVi G dX3_readDeck_127 lk_X3_114 (c_X3_rangeError (gl Γ) hc) (As := [.int (zJ (0 : Int)), .int (zJ (51 : Int))]) (ci := 3) rfl rfl rfl rfl (Nat.le_of_ble_eq_true rfl) ⟨rfl, rfl, Nat.le_of_ble_eq_true rfl, Nat.le_of_ble_eq_true rfl⟩ hcs ?_
                refine p_istore_nU (lv' := [(3, .int (zJ v14)), (1, .long v8), (0, .ref (ga Γ 0)), (4, .int (zJ u4_33))]) G rfl dX3_readDeck_130 (by decide) rfl ?_
                refine p_iinc (lv' := fun v15 => [(4, .int (zJ v15)), (3, .int (zJ v14)), (1, .long v8), (0, .ref (ga Γ 0))]) G dX3_readDeck_131 h 3 rfl (by decide) (fun _ => rfl) (fun v15 h => ?_)
                refine p_goto (tgt := 33) G dX3_readDeck_134 (by decide) ?_
                refine p_lv [3, 2, 1, 0] rfl ?_
                exact hin33 _ (Option.some.inj h).symm
            · refine p_lv [0] rfl ?_
              have he := hout33 _ (Option.some.inj h).symm
              subst he
              exact hX33_72 _ rfl
  · refine p_iconst G rfl dX3_readDeck_20 ?_
    (cases h; exact p_iret G hR dX3_readDeck_21 rfl rfl)
set_option maxHeartbeats 4000000 in
set_option maxRecDepth 100000 in
theorem c_X3_arrange (l : Launch) {D : va_G} {yy : Nat → ClassId} {tk tv a : Nat → Nat} {σ : Mm} {o : Mm} (h : x_X3_arrange σ = some o) : CT l yX3_arrange cX3_arrange 7 none rm_X3_arrange shRM D yy tk tv a σ [.ref (a 0), .ref (a 3)] o none := by
  refine ct_of (Ar := fun a tk => [.ref (a 0), .ref (a 3)]) (by decide) (Nat.le_of_ble_eq_true rfl) (fun Γ G _ _ hR => ?_)
  have hcs := rt_cs hR
  unfold x_X3_arrange at h
  refine (?_ : PT Γ 7 shRM 0 σ [(0, .ref (ga Γ 0)), (1, .ref (ga Γ 3))] [])
  have j40 : ∀ (σ_40 : Mm) (v2_40 : Int64), x_X3_arrange_j40 σ_40 v2_40 = some o → PT Γ 7 shRM 40 σ_40 [(0, .ref (ga Γ 0)), (1, .ref (ga Γ 3)), (2, .long v2_40)] [] := by
    intro σ_40 v2_40 h
    unfold x_X3_arrange_j40 at h
    refine p_aload_n G rfl 0 rfl dX3_arrange_40 ?_
    refine p_get G dX3_arrange_41 fl_X3_101 (k := 0) rfl rfl ?_
    refine p_istore (lv' := fun v10 => [(4, .int (zJ v10)), (0, .ref (ga Γ 0)), (1, .ref (ga Γ 3)), (2, .long v2_40)]) G dX3_arrange_44 h (by decide) (fun _ => rfl) (fun v10 h => ?_)
    refine p_iconst G rfl dX3_arrange_46 ?_
    refine p_istoreU (lv' := [(5, .int (zJ (0 : Int))), (4, .int (zJ v10)), (0, .ref (ga Γ 0)), (1, .ref (ga Γ 3)), (2, .long v2_40)]) G dX3_arrange_47 (by decide) rfl ?_
    refine p_lv [2, 3, 4, 1, 0] rfl ?_
    obtain ⟨e22, hl49, h⟩ := bnd_some h
    have hX49_98 : ∀ (σ23 : Mm), σ23 = e22 → PT Γ 7 shRM 98 σ23 [(0, .ref (ga Γ 0)), (1, .ref (ga Γ 3))] [] := by
      intro σ23 he
      subst he
      refine p_aload_n G rfl 0 rfl dX3_arrange_98 ?_
      refine p_get G dX3_arrange_99 fl_X3_15 (k := 0) rfl rfl ?_
      refine p_iconst G rfl dX3_arrange_102 ?_
      refine p_aload_n G rfl 1 rfl dX3_arrange_103 ?_
      refine p_get G dX3_arrange_104 fl_X3_120 (k := 3) rfl rfl ?_
      refine p_iconst G rfl dX3_arrange_107 ?_
      refine p_bipush G (by decide) (by decide) dX3_arrange_108 ?_
      refine p_copy G gm_487 gm_489 gm_488 gm_100 (k0 := 2) (k1 := 6) (n := 52) (kd := 0) rfl rfl (zt_c _) (zt_c _) (by decide) (by decide) (by decide) (by decide) rfl (by decide) (by decide) dX3_arrange_110 h (fun σ24 h => ?_)
      (cases h; exact p_vret G hR dX3_arrange_113 rfl rfl)
    refine lup_walk (s := (σ_40, v10, (0 : Int))) (At := fun s : Mm × Int × Int => PT Γ 7 shRM 49 s.1 [(0, .ref (ga Γ 0)), (1, .ref (ga Γ 3)), (2, .long v2_40), (4, .int (zJ s.2.1)), (5, .int (zJ s.2.2))] []) (fun s r hf hin49 hout49 => ?_) hl49
    obtain ⟨σ49, u4_49, u5_49⟩ := s
    have h : x_X3_arrange_b49 v2_40 σ49 u4_49 u5_49 = some r := hf
    clear hf
    unfold x_X3_arrange_b49 at h
    refine (?_ : PT Γ 7 shRM 49 σ49 [(0, .ref (ga Γ 0)), (1, .ref (ga Γ 3)), (2, .long v2_40), (4, .int (zJ u4_49)), (5, .int (zJ u5_49))] [])
    refine p_iload G 4 rfl dX3_arrange_49 ?_
    refine p_bipush G (by decide) (by decide) dX3_arrange_51 ?_
    refine p_icmpge (tgt := 98) G dX3_arrange_53 (by decide) h (fun c20 h => ?_) (fun c20 h => ?_)
    · refine p_lv [0, 1] rfl ?_
      have he := hout49 _ (Option.some.inj h).symm
      subst he
      exact hX49_98 _ rfl
    · refine p_iload G 3 rfl dX3_arrange_56 ?_
      refine p_bipush G (by decide) (by decide) dX3_arrange_58 ?_
      refine p_icmpge (tgt := 98) G dX3_arrange_60 (by decide) h (fun c19 h => ?_) (fun c19 h => ?_)
      · refine p_lv [0, 1] rfl ?_
        have he := hout49 _ (Option.some.inj h).symm
        subst he
        exact hX49_98 _ rfl
      · refine p_aload_n G rfl 1 rfl dX3_arrange_63 ?_
        refine p_iload G 4 rfl dX3_arrange_64 ?_
        obtain ⟨v11, hc, h⟩ := bnd_some h
        refine p_callVr G zl_7 dX3_arrange_66 lk_X3_117 (c_X2_deckAt (gl Γ) hc) (As := [.int (zJ u5_49)]) (ci := 2) rfl zk_7 (zs_x zs_7 _) rfl rfl rfl (Nat.le_of_ble_eq_true rfl) ⟨rfl, rfl, Nat.le_of_ble_eq_true rfl, Nat.le_of_ble_eq_true rfl⟩ hcs ?_
        refine p_istoreU (lv' := [(6, .int (zJ v11)), (0, .ref (ga Γ 0)), (1, .ref (ga Γ 3)), (2, .long v2_40), (4, .int (zJ u4_49)), (5, .int (zJ u5_49))]) G dX3_arrange_69 (by decide) rfl ?_
        refine p_lload_n G rfl 3 rfl dX3_arrange_71 ?_
        refine p_iload G 0 rfl dX3_arrange_72 ?_
        obtain ⟨v12, hc, h⟩ := bnd_some h
        refine p_callS0 G dX3_arrange_74 lk_X3_106 (c_X6_has (gl Γ) hc) (As := [.long v2_40, .int (zJ v11)]) rfl zk_6 rfl (Nat.le_of_ble_eq_true rfl) ⟨rfl, rfl, Nat.le_of_ble_eq_true rfl, Nat.le_of_ble_eq_true rfl⟩ hcs ?_
        refine p_ifne (tgt := 92) G dX3_arrange_77 (by decide) h (fun c18 h => ?_) (fun c18 h => ?_)
        · refine p_iinc (lv' := fun v13 => [(5, .int (zJ v13)), (6, .int (zJ v11)), (0, .ref (ga Γ 0)), (1, .ref (ga Γ 3)), (2, .long v2_40), (4, .int (zJ u4_49))]) G dX3_arrange_92 h 5 rfl (by decide) (fun _ => rfl) (fun v13 h => ?_)
          refine p_goto (tgt := 49) G dX3_arrange_95 (by decide) ?_
          refine p_lv [2, 3, 4, 5, 0] rfl ?_
          exact hin49 _ (Option.some.inj h).symm
        · refine p_aload_n G rfl 1 rfl dX3_arrange_80 ?_
          refine p_get G dX3_arrange_81 fl_X3_15 (k := 0) rfl rfl ?_
          refine p_iload G 4 rfl dX3_arrange_84 ?_
          refine p_iload G 0 rfl dX3_arrange_86 ?_
          refine p_iast G dX3_arrange_88 (k := 2) rfl (zt_c _) rfl h (fun σ14 c15 h => ?_)
          refine p_iinc (lv' := fun v16 => [(4, .int (zJ v16)), (6, .int (zJ v11)), (0, .ref (ga Γ 0)), (1, .ref (ga Γ 3)), (2, .long v2_40), (5, .int (zJ u5_49))]) G dX3_arrange_89 h 4 rfl (by decide) (fun _ => rfl) (fun v16 h => ?_)
          refine p_iinc (lv' := fun v17 => [(5, .int (zJ v17)), (4, .int (zJ v16)), (6, .int (zJ v11)), (0, .ref (ga Γ 0)), (1, .ref (ga Γ 3)), (2, .long v2_40)]) G dX3_arrange_92 h 5 rfl (by decide) (fun _ => rfl) (fun v17 h => ?_)
          refine p_goto (tgt := 49) G dX3_arrange_95 (by decide) ?_
          refine p_lv [3, 4, 5, 1, 0] rfl ?_
          exact hin49 _ (Option.some.inj h).symm
  refine p_lconst G (v := 0) (by decide) dX3_arrange_0 ?_
  refine p_lstore_nU (lv' := [(2, .long (0 : Int64)), (0, .ref (ga Γ 0)), (1, .ref (ga Γ 3))]) G rfl dX3_arrange_1 (by decide) rfl ?_
  refine p_iconst G rfl dX3_arrange_2 ?_
  refine p_istoreU (lv' := [(4, .int (zJ (0 : Int))), (2, .long (0 : Int64)), (0, .ref (ga Γ 0)), (1, .ref (ga Γ 3))]) G dX3_arrange_3 (by decide) rfl ?_
  refine p_lv [2, 3, 1, 0] rfl ?_
  obtain ⟨e8, hl5, h⟩ := bnd_some h
  have hX5_40 : ∀ (v9 : Int64), v9 = e8 → PT Γ 7 shRM 40 σ [(0, .ref (ga Γ 0)), (1, .ref (ga Γ 3)), (2, .long v9)] [] := by
    intro v9 he
    subst he
    exact j40 _ _ h
  refine lup_walk (s := ((0 : Int64), (0 : Int))) (At := fun s : Int64 × Int => PT Γ 7 shRM 5 σ [(0, .ref (ga Γ 0)), (1, .ref (ga Γ 3)), (2, .long s.1), (4, .int (zJ s.2))] []) (fun s r hf hin5 hout5 => ?_) hl5
  obtain ⟨u2_5, u4_5⟩ := s
  have h : x_X3_arrange_b5 σ u2_5 u4_5 = some r := hf
  clear hf
  unfold x_X3_arrange_b5 at h
  refine (?_ : PT Γ 7 shRM 5 σ [(0, .ref (ga Γ 0)), (1, .ref (ga Γ 3)), (2, .long u2_5), (4, .int (zJ u4_5))] [])
  refine p_iload G 3 rfl dX3_arrange_5 ?_
  refine p_aload_n G rfl 0 rfl dX3_arrange_7 ?_
  refine p_get G dX3_arrange_8 fl_X3_101 (k := 0) rfl rfl ?_
  refine p_icmpge (tgt := 40) G dX3_arrange_11 (by decide) h (fun c6 h => ?_) (fun c6 h => ?_)
  · refine p_lv [0, 1, 2] rfl ?_
    have he := hout5 _ (Option.some.inj h).symm
    subst he
    exact hX5_40 _ rfl
  · refine p_iload G 3 rfl dX3_arrange_14 ?_
    refine p_bipush G (by decide) (by decide) dX3_arrange_16 ?_
    refine p_icmpge (tgt := 40) G dX3_arrange_18 (by decide) h (fun c5 h => ?_) (fun c5 h => ?_)
    · refine p_lv [0, 1, 2] rfl ?_
      have he := hout5 _ (Option.some.inj h).symm
      subst he
      exact hX5_40 _ rfl
    · refine p_lload_n G rfl 2 rfl dX3_arrange_21 ?_
      refine p_aload_n G rfl 0 rfl dX3_arrange_22 ?_
      refine p_get G dX3_arrange_23 fl_X3_15 (k := 0) rfl rfl ?_
      refine p_iload G 3 rfl dX3_arrange_26 ?_
      refine p_iald G dX3_arrange_28 (k := 2) rfl (zt_c _) h (fun c1 h => ?_)
      obtain ⟨v2, hc, h⟩ := bnd_some h
      refine p_callS0 G dX3_arrange_29 lk_X3_110 (c_X6_bitOf (gl Γ) hc) (As := [.int (zJ (σ 2 (zix u4_5)))]) rfl zk_6 rfl (Nat.le_of_ble_eq_true rfl) ⟨rfl, rfl, Nat.le_of_ble_eq_true rfl, Nat.le_of_ble_eq_true rfl⟩ hcs ?_
      refine p_lor G dX3_arrange_32 ?_
      refine p_lstore_n (lv' := fun v3 => [(2, .long v3), (0, .ref (ga Γ 0)), (1, .ref (ga Γ 3)), (4, .int (zJ u4_5))]) G rfl dX3_arrange_33 h (by decide) (fun _ => rfl) (fun v3 h => ?_)
      refine p_iinc (lv' := fun v4 => [(4, .int (zJ v4)), (2, .long v3), (0, .ref (ga Γ 0)), (1, .ref (ga Γ 3))]) G dX3_arrange_34 h 3 rfl (by decide) (fun _ => rfl) (fun v4 h => ?_)
      refine p_goto (tgt := 5) G dX3_arrange_37 (by decide) ?_
      refine p_lv [2, 3, 1, 0] rfl ?_
      exact hin5 _ (Option.some.inj h).symm
set_option maxHeartbeats 4000000 in
set_option maxRecDepth 100000 in
theorem c_X3_readDeal (l : Launch) {D : va_G} {yy : Nat → ClassId} {tk tv a : Nat → Nat} {σ : Mm} {o : Mm × Int} (h : x_X3_readDeal σ = some o) : CT l yX3_readDeal cX3_readDeal 3 (some .int) rm_X3_readDeal shRM D yy tk tv a σ [.ref (a 0), .ref (a 3)] o.1 (some (.int (zJ o.2))) := by
  refine ct_of (Ar := fun a tk => [.ref (a 0), .ref (a 3)]) (by decide) (Nat.le_of_ble_eq_true rfl) (fun Γ G _ _ hR => ?_)
  have hcs := rt_cs hR
  unfold x_X3_readDeal at h
  refine (?_ : PT Γ 3 shRM 0 σ [(0, .ref (ga Γ 0)), (1, .ref (ga Γ 3))] [])
  refine p_aload_n G rfl 0 rfl dX3_readDeal_0 ?_
  refine p_iconst G rfl dX3_readDeal_1 ?_
  refine p_putI G dX3_readDeal_2 fp_X3_36 (k := 0) rfl rfl rfl rfl h (fun σ1 h => ?_)
  refine p_aload_n G rfl 0 rfl dX3_readDeal_5 ?_
  refine p_aload_n G rfl 1 rfl dX3_readDeal_6 ?_
  obtain ⟨⟨σ2, v3⟩, hc, h⟩ := bnd_some h
  rw [un2_mk] at h
  refine p_callVi G dX3_readDeal_7 lk_X3_39 (c_X3_readHead (gl Γ) hc) (As := [.ref (ga Γ 3)]) (ci := 3) rfl rfl rfl rfl (Nat.le_of_ble_eq_true rfl) ⟨rfl, rfl, Nat.le_of_ble_eq_true rfl, Nat.le_of_ble_eq_true rfl⟩ hcs ?_
  refine p_istore_nU (lv' := [(2, .int (zJ v3)), (0, .ref (ga Γ 0)), (1, .ref (ga Γ 3))]) G rfl dX3_readDeal_10 (by decide) rfl ?_
  refine p_iload_n G rfl 0 rfl dX3_readDeal_11 ?_
  refine p_ifne (tgt := 20) G dX3_readDeal_12 (by decide) h (fun c23 h => ?_) (fun c23 h => ?_)
  · refine p_iload_n G rfl 0 rfl dX3_readDeal_20 ?_
    refine p_ifne (tgt := 41) G dX3_readDeal_21 (by decide) h (fun c11 h => ?_) (fun c11 h => ?_)
    · refine p_iload_n G rfl 0 rfl dX3_readDeal_41 ?_
      (cases h; exact p_iret G hR dX3_readDeal_42 rfl rfl)
    · refine p_aload_n G rfl 2 rfl dX3_readDeal_24 ?_
      obtain ⟨σ4, hc, h⟩ := bnd_some h
      refine p_callV G zl_7 dX3_readDeal_25 lk_X3_46 (c_X2_begin (gl Γ) hc) (As := []) (ci := 2) rfl zk_7 (zs_x zs_7 _) rfl rfl rfl (Nat.le_of_ble_eq_true rfl) ⟨rfl, rfl, Nat.le_of_ble_eq_true rfl, Nat.le_of_ble_eq_true rfl⟩ hcs ?_
      refine p_nm h (fun σ5 h => ?_)
      refine p_aload_n G rfl 2 rfl dX3_readDeal_28 ?_
      obtain ⟨σ6, hc, h⟩ := bnd_some h
      refine p_callV G zl_7 dX3_readDeal_29 lk_X3_51 (c_X2_shuffle (gl Γ) hc) (As := []) (ci := 2) rfl zk_7 (zs_x zs_7 _) rfl rfl rfl (Nat.le_of_ble_eq_true rfl) ⟨rfl, rfl, Nat.le_of_ble_eq_true rfl, Nat.le_of_ble_eq_true rfl⟩ hcs ?_
      refine p_nm h (fun σ7 h => ?_)
      refine p_aload_n G rfl 1 rfl dX3_readDeal_32 ?_
      refine p_aload_n G rfl 2 rfl dX3_readDeal_33 ?_
      obtain ⟨σ8, hc, h⟩ := bnd_some h
      refine p_callVi G dX3_readDeal_34 lk_X3_54 (c_X3_arrange (gl Γ) hc) (As := [.ref (ga Γ 3)]) (ci := 3) rfl rfl rfl rfl (Nat.le_of_ble_eq_true rfl) ⟨rfl, rfl, Nat.le_of_ble_eq_true rfl, Nat.le_of_ble_eq_true rfl⟩ hcs ?_
      refine p_aload_n G rfl 2 rfl dX3_readDeal_37 ?_
      obtain ⟨σ9, hc, h⟩ := bnd_some h
      refine p_callV G zl_7 dX3_readDeal_38 lk_X3_58 (c_X2_dealOut (gl Γ) hc) (As := []) (ci := 2) rfl zk_7 (zs_x zs_7 _) rfl rfl rfl (Nat.le_of_ble_eq_true rfl) ⟨rfl, rfl, Nat.le_of_ble_eq_true rfl, Nat.le_of_ble_eq_true rfl⟩ hcs ?_
      refine p_nm h (fun σ10 h => ?_)
      refine p_iload_n G rfl 0 rfl dX3_readDeal_41 ?_
      (cases h; exact p_iret G hR dX3_readDeal_42 rfl rfl)
  · refine p_aload_n G rfl 1 rfl dX3_readDeal_15 ?_
    obtain ⟨⟨σ12, v13⟩, hc, h⟩ := bnd_some h
    rw [un2_mk] at h
    refine p_callV G zl_5 dX3_readDeal_16 lk_X3_43 (c_X3_readDeck (gl Γ) hc) (As := []) (ci := 3) rfl zk_5 (zs_x zs_5 _) rfl rfl rfl (Nat.le_of_ble_eq_true rfl) ⟨rfl, rfl, Nat.le_of_ble_eq_true rfl, Nat.le_of_ble_eq_true rfl⟩ hcs ?_
    refine p_nm h (fun σ14 h => ?_)
    refine p_istore_nU (lv' := [(2, .int (zJ v13)), (0, .ref (ga Γ 0)), (1, .ref (ga Γ 3))]) G rfl dX3_readDeal_19 (by decide) rfl ?_
    refine p_iload_n G rfl 0 rfl dX3_readDeal_20 ?_
    refine p_ifne (tgt := 41) G dX3_readDeal_21 (by decide) h (fun c22 h => ?_) (fun c22 h => ?_)
    · refine p_iload_n G rfl 0 rfl dX3_readDeal_41 ?_
      (cases h; exact p_iret G hR dX3_readDeal_42 rfl rfl)
    · refine p_aload_n G rfl 2 rfl dX3_readDeal_24 ?_
      obtain ⟨σ15, hc, h⟩ := bnd_some h
      refine p_callV G zl_7 dX3_readDeal_25 lk_X3_46 (c_X2_begin (gl Γ) hc) (As := []) (ci := 2) rfl zk_7 (zs_x zs_7 _) rfl rfl rfl (Nat.le_of_ble_eq_true rfl) ⟨rfl, rfl, Nat.le_of_ble_eq_true rfl, Nat.le_of_ble_eq_true rfl⟩ hcs ?_
      refine p_nm h (fun σ16 h => ?_)
      refine p_aload_n G rfl 2 rfl dX3_readDeal_28 ?_
      obtain ⟨σ17, hc, h⟩ := bnd_some h
      refine p_callV G zl_7 dX3_readDeal_29 lk_X3_51 (c_X2_shuffle (gl Γ) hc) (As := []) (ci := 2) rfl zk_7 (zs_x zs_7 _) rfl rfl rfl (Nat.le_of_ble_eq_true rfl) ⟨rfl, rfl, Nat.le_of_ble_eq_true rfl, Nat.le_of_ble_eq_true rfl⟩ hcs ?_
      refine p_nm h (fun σ18 h => ?_)
      refine p_aload_n G rfl 1 rfl dX3_readDeal_32 ?_
      refine p_aload_n G rfl 2 rfl dX3_readDeal_33 ?_
      obtain ⟨σ19, hc, h⟩ := bnd_some h
      refine p_callVi G dX3_readDeal_34 lk_X3_54 (c_X3_arrange (gl Γ) hc) (As := [.ref (ga Γ 3)]) (ci := 3) rfl rfl rfl rfl (Nat.le_of_ble_eq_true rfl) ⟨rfl, rfl, Nat.le_of_ble_eq_true rfl, Nat.le_of_ble_eq_true rfl⟩ hcs ?_
      refine p_aload_n G rfl 2 rfl dX3_readDeal_37 ?_
      obtain ⟨σ20, hc, h⟩ := bnd_some h
      refine p_callV G zl_7 dX3_readDeal_38 lk_X3_58 (c_X2_dealOut (gl Γ) hc) (As := []) (ci := 2) rfl zk_7 (zs_x zs_7 _) rfl rfl rfl (Nat.le_of_ble_eq_true rfl) ⟨rfl, rfl, Nat.le_of_ble_eq_true rfl, Nat.le_of_ble_eq_true rfl⟩ hcs ?_
      refine p_nm h (fun σ21 h => ?_)
      refine p_iload_n G rfl 0 rfl dX3_readDeal_41 ?_
      (cases h; exact p_iret G hR dX3_readDeal_42 rfl rfl)
set_option maxHeartbeats 4000000 in
set_option maxRecDepth 100000 in
theorem c_X3_isAtEnd (l : Launch) {D : va_G} {yy : Nat → ClassId} {tk tv a : Nat → Nat} {σ : Mm} {o : Int} (h : x_X3_isAtEnd σ = some o) : CT l yX3_isAtEnd cX3_isAtEnd 1 (some .boolean) rm_X3_isAtEnd shR D yy tk tv a σ [.ref (a 0)] σ (some (.int (zJ o))) := by
  refine ct_of (Ar := fun a tk => [.ref (a 0)]) (by decide) (Nat.le_of_ble_eq_true rfl) (fun Γ G _ _ hR => ?_)
  have hcs := rt_cs hR
  unfold x_X3_isAtEnd at h
  refine (?_ : PT Γ 1 shR 0 σ [(0, .ref (ga Γ 0))] [])
  refine p_aload_n G rfl 0 rfl dX3_isAtEnd_0 ?_
  refine p_get G dX3_isAtEnd_1 fl_X3_61 (k := 0) rfl rfl ?_
  refine p_ifne (tgt := 11) G dX3_isAtEnd_4 (by decide) h (fun c1 h => ?_) (fun c1 h => ?_)
  · refine p_iconst G rfl dX3_isAtEnd_11 ?_
    (cases h; exact p_zret G hR dX3_isAtEnd_12 (by decide) rfl rfl)
  · refine p_iconst G rfl dX3_isAtEnd_7 ?_
    refine p_goto (tgt := 12) G dX3_isAtEnd_8 (by decide) ?_
    (cases h; exact p_zret G hR dX3_isAtEnd_12 (by decide) rfl rfl)
set_option maxHeartbeats 4000000 in
set_option maxRecDepth 100000 in
theorem c_X3_moveTold (l : Launch) {D : va_G} {yy : Nat → ClassId} {tk tv a : Nat → Nat} {σ : Mm} {o : Int} (h : x_X3_moveTold σ = some o) : CT l yX3_moveTold cX3_moveTold 1 (some .int) rm_X3_moveTold shR D yy tk tv a σ [.ref (a 0)] σ (some (.int (zJ o))) := by
  refine ct_of (Ar := fun a tk => [.ref (a 0)]) (by decide) (Nat.le_of_ble_eq_true rfl) (fun Γ G _ _ hR => ?_)
  have hcs := rt_cs hR
  unfold x_X3_moveTold at h
  refine (?_ : PT Γ 1 shR 0 σ [(0, .ref (ga Γ 0))] [])
  refine p_aload_n G rfl 0 rfl dX3_moveTold_0 ?_
  refine p_ldcS G 3 (by decide) rfl rfl dX3_moveTold_1 rfl ?_
  obtain ⟨v1, hc, h⟩ := bnd_some h
  refine p_callVi G dX3_moveTold_3 lk_X3_69 (c_X3_isWord (gl Γ) hc) (As := [.ref (gk Γ 3)]) (ci := 3) rfl rfl rfl rfl (Nat.le_of_ble_eq_true rfl) ⟨rfl, rfl, Nat.le_of_ble_eq_true rfl, Nat.le_of_ble_eq_true rfl⟩ hcs ?_
  refine p_ifeq (tgt := 11) G dX3_moveTold_6 (by decide) h (fun c10 h => ?_) (fun c10 h => ?_)
  · refine p_aload_n G rfl 0 rfl dX3_moveTold_11 ?_
    refine p_ldcS G 4 (by decide) rfl rfl dX3_moveTold_12 rfl ?_
    obtain ⟨v2, hc, h⟩ := bnd_some h
    refine p_callVi G dX3_moveTold_14 lk_X3_69 (c_X3_isWord (gl Γ) hc) (As := [.ref (gk Γ 4)]) (ci := 3) rfl rfl rfl rfl (Nat.le_of_ble_eq_true rfl) ⟨rfl, rfl, Nat.le_of_ble_eq_true rfl, Nat.le_of_ble_eq_true rfl⟩ hcs ?_
    refine p_ifeq (tgt := 22) G dX3_moveTold_17 (by decide) h (fun c9 h => ?_) (fun c9 h => ?_)
    · refine p_aload_n G rfl 0 rfl dX3_moveTold_22 ?_
      refine p_ldcS G 5 (by decide) rfl rfl dX3_moveTold_23 rfl ?_
      obtain ⟨v3, hc, h⟩ := bnd_some h
      refine p_callVi G dX3_moveTold_25 lk_X3_69 (c_X3_isWord (gl Γ) hc) (As := [.ref (gk Γ 5)]) (ci := 3) rfl rfl rfl rfl (Nat.le_of_ble_eq_true rfl) ⟨rfl, rfl, Nat.le_of_ble_eq_true rfl, Nat.le_of_ble_eq_true rfl⟩ hcs ?_
      refine p_ifeq (tgt := 33) G dX3_moveTold_28 (by decide) h (fun c8 h => ?_) (fun c8 h => ?_)
      · refine p_aload_n G rfl 0 rfl dX3_moveTold_33 ?_
        refine p_ldcS G 6 (by decide) rfl rfl dX3_moveTold_34 rfl ?_
        obtain ⟨v4, hc, h⟩ := bnd_some h
        refine p_callVi G dX3_moveTold_36 lk_X3_69 (c_X3_isWord (gl Γ) hc) (As := [.ref (gk Γ 6)]) (ci := 3) rfl rfl rfl rfl (Nat.le_of_ble_eq_true rfl) ⟨rfl, rfl, Nat.le_of_ble_eq_true rfl, Nat.le_of_ble_eq_true rfl⟩ hcs ?_
        refine p_ifeq (tgt := 44) G dX3_moveTold_39 (by decide) h (fun c7 h => ?_) (fun c7 h => ?_)
        · refine p_aload_n G rfl 0 rfl dX3_moveTold_44 ?_
          refine p_ldcS G 7 (by decide) rfl rfl dX3_moveTold_45 rfl ?_
          obtain ⟨v5, hc, h⟩ := bnd_some h
          refine p_callVi G dX3_moveTold_47 lk_X3_69 (c_X3_isWord (gl Γ) hc) (As := [.ref (gk Γ 7)]) (ci := 3) rfl rfl rfl rfl (Nat.le_of_ble_eq_true rfl) ⟨rfl, rfl, Nat.le_of_ble_eq_true rfl, Nat.le_of_ble_eq_true rfl⟩ hcs ?_
          refine p_ifeq (tgt := 57) G dX3_moveTold_50 (by decide) h (fun c6 h => ?_) (fun c6 h => ?_)
          · refine p_iconst G rfl dX3_moveTold_57 ?_
            (cases h; exact p_iret G hR dX3_moveTold_58 rfl rfl)
          · refine p_iconst G rfl dX3_moveTold_53 ?_
            refine p_goto (tgt := 58) G dX3_moveTold_54 (by decide) ?_
            (cases h; exact p_iret G hR dX3_moveTold_58 rfl rfl)
        · refine p_iconst G rfl dX3_moveTold_42 ?_
          (cases h; exact p_iret G hR dX3_moveTold_43 rfl rfl)
      · refine p_iconst G rfl dX3_moveTold_31 ?_
        (cases h; exact p_iret G hR dX3_moveTold_32 rfl rfl)
    · refine p_iconst G rfl dX3_moveTold_20 ?_
      (cases h; exact p_iret G hR dX3_moveTold_21 rfl rfl)
  · refine p_iconst G rfl dX3_moveTold_9 ?_
    (cases h; exact p_iret G hR dX3_moveTold_10 rfl rfl)
set_option maxHeartbeats 4000000 in
set_option maxRecDepth 100000 in
theorem c_X3_readHeldCard (l : Launch) {D : va_G} {yy : Nat → ClassId} {tk tv a : Nat → Nat} {σ : Mm} {o : Mm × Int} (h : x_X3_readHeldCard σ = some o) : CT l yX3_readHeldCard cX3_readHeldCard 3 (some .int) rm_X3_readHeldCard shRM D yy tk tv a σ [.ref (a 0), .ref (a 3)] o.1 (some (.int (zJ o.2))) := by
  refine ct_of (Ar := fun a tk => [.ref (a 0), .ref (a 3)]) (by decide) (Nat.le_of_ble_eq_true rfl) (fun Γ G _ _ hR => ?_)
  have hcs := rt_cs hR
  unfold x_X3_readHeldCard at h
  refine (?_ : PT Γ 3 shRM 0 σ [(0, .ref (ga Γ 0)), (1, .ref (ga Γ 3))] [])
  refine p_aload_n G rfl 0 rfl dX3_readHeldCard_0 ?_
  refine p_iconst G rfl dX3_readHeldCard_1 ?_
  refine p_bipush G (by decide) (by decide) dX3_readHeldCard_2 ?_
  obtain ⟨⟨σ1, v2⟩, hc, h⟩ := bnd_some h
  rw [un2_mk] at h
  refine p_callV G zl_5 dX3_readHeldCard_4 lk_X3_78 (c_X3_readNumber (gl Γ) hc) (As := [.int (zJ (0 : Int)), .int (zJ (51 : Int))]) (ci := 3) rfl zk_5 (zs_x zs_5 _) rfl rfl rfl (Nat.le_of_ble_eq_true rfl) ⟨rfl, rfl, Nat.le_of_ble_eq_true rfl, Nat.le_of_ble_eq_true rfl⟩ hcs ?_
  refine p_nm h (fun σ3 h => ?_)
  refine p_istore_nU (lv' := [(2, .int (zJ v2)), (0, .ref (ga Γ 0)), (1, .ref (ga Γ 3))]) G rfl dX3_readHeldCard_7 (by decide) rfl ?_
  refine p_iload_n G rfl 0 rfl dX3_readHeldCard_8 ?_
  refine p_ifne (tgt := 36) G dX3_readHeldCard_9 (by decide) h (fun c8 h => ?_) (fun c8 h => ?_)
  · refine p_iload_n G rfl 0 rfl dX3_readHeldCard_36 ?_
    (cases h; exact p_iret G hR dX3_readHeldCard_37 rfl rfl)
  · refine p_aload_n G rfl 2 rfl dX3_readHeldCard_12 ?_
    refine p_aload_n G rfl 2 rfl dX3_readHeldCard_13 ?_
    refine p_get G dX3_readHeldCard_14 fl_X3_148 (k := 3) rfl rfl ?_
    obtain ⟨v4, hc, h⟩ := bnd_some h
    refine p_callVr G zl_7 dX3_readHeldCard_17 lk_X3_151 (c_X2_handOf (gl Γ) hc) (As := [.int (zJ (σ3 3 5))]) (ci := 2) rfl zk_7 (zs_x zs_7 _) rfl rfl rfl (Nat.le_of_ble_eq_true rfl) ⟨rfl, rfl, Nat.le_of_ble_eq_true rfl, Nat.le_of_ble_eq_true rfl⟩ hcs ?_
    refine p_aload_n G rfl 1 rfl dX3_readHeldCard_20 ?_
    refine p_get G dX3_readHeldCard_21 fl_X3_82 (k := 0) rfl rfl ?_
    obtain ⟨v5, hc, h⟩ := bnd_some h
    refine p_callS0 G dX3_readHeldCard_24 lk_X3_106 (c_X6_has (gl Γ) hc) (As := [.long v4, .int (zJ (σ3 0 5))]) rfl zk_6 rfl (Nat.le_of_ble_eq_true rfl) ⟨rfl, rfl, Nat.le_of_ble_eq_true rfl, Nat.le_of_ble_eq_true rfl⟩ hcs ?_
    refine p_ifne (tgt := 36) G dX3_readHeldCard_27 (by decide) h (fun c7 h => ?_) (fun c7 h => ?_)
    · refine p_iload_n G rfl 0 rfl dX3_readHeldCard_36 ?_
      (cases h; exact p_iret G hR dX3_readHeldCard_37 rfl rfl)
    · refine p_aload_n G rfl 1 rfl dX3_readHeldCard_30 ?_
      refine p_iconst G rfl dX3_readHeldCard_31 ?_
      obtain ⟨v6, hc, h⟩ := bnd_some h
      refine p_callVr G zl_5 dX3_readHeldCard_32 lk_X3_73 (c_X3_errorAs (gl Γ) hc) (As := [.int (zJ (3 : Int))]) (ci := 3) rfl zk_5 (zs_x zs_5 _) rfl rfl rfl (Nat.le_of_ble_eq_true rfl) ⟨rfl, rfl, Nat.le_of_ble_eq_true rfl, Nat.le_of_ble_eq_true rfl⟩ hcs ?_
      refine p_istore_nU (lv' := [(2, .int (zJ v6)), (0, .ref (ga Γ 0)), (1, .ref (ga Γ 3))]) G rfl dX3_readHeldCard_35 (by decide) rfl ?_
      refine p_iload_n G rfl 0 rfl dX3_readHeldCard_36 ?_
      (cases h; exact p_iret G hR dX3_readHeldCard_37 rfl rfl)
set_option maxHeartbeats 4000000 in
set_option maxRecDepth 100000 in
theorem c_X5_addOne (l : Launch) {D : va_G} {yy : Nat → ClassId} {tk tv a : Nat → Nat} {σ : Mm} {p1 : Int64} {o : Mm × Int} (h : x_X5_addOne σ p1 = some o) : CT l yX5_addOne cX5_addOne 5 (some .int) rm_X5_addOne shD D yy tk tv a σ [.ref (a 0), .long p1] o.1 (some (.int (zJ o.2))) := by
  refine ct_of (Ar := fun a tk => [.ref (a 0), .long p1]) (by decide) (Nat.le_of_ble_eq_true rfl) (fun Γ G _ _ hR => ?_)
  have hcs := rt_cs hR
  unfold x_X5_addOne at h
  refine (?_ : PT Γ 5 shD 0 σ [(0, .ref (ga Γ 0)), (1, .long p1)] [])
  refine p_iconst G rfl dX5_addOne_0 ?_
  refine p_istore_nU (lv' := [(3, .int (zJ (0 : Int))), (0, .ref (ga Γ 0)), (1, .long p1)]) G rfl dX5_addOne_1 (by decide) rfl ?_
  refine p_lv [1, 2, 0] rfl ?_
  obtain ⟨e15, hl2, h⟩ := bnd_some h
  have hX2_51 : ∀ (v16 : Int) (v17 : Int), (.inl (v16, v17)) = e15 → PT Γ 5 shD 51 σ [(0, .ref (ga Γ 0)), (3, .int (zJ v16)), (4, .int (zJ v17))] [] := by
    intro v16 v17 he
    subst he
    rw [zel_l] at h
    rw [un2_mk] at h
    refine p_aload_n G rfl 0 rfl dX5_addOne_51 ?_
    refine p_get G dX5_addOne_52 fl_X5_12 (k := 0) rfl rfl ?_
    refine p_iload G 2 rfl dX5_addOne_55 ?_
    refine p_iload_n G rfl 1 rfl dX5_addOne_57 ?_
    obtain ⟨σ18, hc, h⟩ := bnd_some h
    refine p_callV G zl_8 dX5_addOne_58 lk_X5_68 (c_X1_widen (gl Γ) hc) (As := [.int (zJ v17), .int (zJ v16)]) (ci := 1) rfl zk_8 (zs_x zs_8 _) rfl rfl rfl (Nat.le_of_ble_eq_true rfl) ⟨rfl, rfl, Nat.le_of_ble_eq_true rfl, Nat.le_of_ble_eq_true rfl⟩ hcs ?_
    refine p_nm h (fun σ19 h => ?_)
    refine p_iload_n G rfl 1 rfl dX5_addOne_61 ?_
    (cases h; exact p_iret G hR dX5_addOne_62 rfl rfl)
  have hX2_75 : ∀ (_ : Unit), (.inr ()) = e15 → PT Γ 5 shD 75 σ [] [] := by
    intro _ he
    subst he
    rw [zel_r] at h
    refine p_iconst G rfl dX5_addOne_75 ?_
    (cases h; exact p_iret G hR dX5_addOne_76 rfl rfl)
  refine lup_walk (s := (0 : Int)) (At := fun s : Int => PT Γ 5 shD 2 σ [(0, .ref (ga Γ 0)), (1, .long p1), (3, .int (zJ s))] []) (fun u3_2 r hf hin2 hout2 => ?_) hl2
  have h : x_X5_addOne_b2 σ p1 u3_2 = some r := hf
  clear hf
  unfold x_X5_addOne_b2 at h
  refine (?_ : PT Γ 5 shD 2 σ [(0, .ref (ga Γ 0)), (1, .long p1), (3, .int (zJ u3_2))] [])
  refine p_iload_n G rfl 2 rfl dX5_addOne_2 ?_
  refine p_bipush G (by decide) (by decide) dX5_addOne_3 ?_
  refine p_icmpge (tgt := 75) G dX5_addOne_5 (by decide) h (fun c13 h => ?_) (fun c13 h => ?_)
  · refine p_lv [] rfl ?_
    have he := hout2 _ (Option.some.inj h).symm
    subst he
    exact hX2_75 () rfl
  · refine p_iconst G rfl dX5_addOne_8 ?_
    refine p_istoreU (lv' := [(4, .int (zJ (0 : Int))), (0, .ref (ga Γ 0)), (1, .long p1), (3, .int (zJ u3_2))]) G dX5_addOne_9 (by decide) rfl ?_
    refine p_lv [1, 2, 3, 0] rfl ?_
    obtain ⟨e10, hl11, h⟩ := bnd_some h
    have hX11_51 : ∀ (v11 : Int), (.inl v11) = e10 → PT Γ 5 shD 51 σ [(0, .ref (ga Γ 0)), (3, .int (zJ u3_2)), (4, .int (zJ v11))] [] := by
      intro v11 he
      subst he
      rw [zel_l] at h
      have he := hout2 _ (Option.some.inj h).symm
      subst he
      exact hX2_51 _ _ rfl
    have hX11_69 : ∀ (_ : Unit), (.inr ()) = e10 → PT Γ 5 shD 69 σ [(0, .ref (ga Γ 0)), (1, .long p1), (3, .int (zJ u3_2))] [] := by
      intro _ he
      subst he
      rw [zel_r] at h
      refine p_iinc (lv' := fun v12 => [(3, .int (zJ v12)), (0, .ref (ga Γ 0)), (1, .long p1)]) G dX5_addOne_69 h 2 rfl (by decide) (fun _ => rfl) (fun v12 h => ?_)
      refine p_goto (tgt := 2) G dX5_addOne_72 (by decide) ?_
      refine p_lv [1, 2, 0] rfl ?_
      exact hin2 _ (Option.some.inj h).symm
    refine lup_walk (s := (0 : Int)) (At := fun s : Int => PT Γ 5 shD 11 σ [(0, .ref (ga Γ 0)), (1, .long p1), (3, .int (zJ u3_2)), (4, .int (zJ s))] []) (fun u4_11 r hf hin11 hout11 => ?_) hl11
    have h : x_X5_addOne_b11 σ p1 u3_2 u4_11 = some r := hf
    clear hf
    unfold x_X5_addOne_b11 at h
    refine (?_ : PT Γ 5 shD 11 σ [(0, .ref (ga Γ 0)), (1, .long p1), (3, .int (zJ u3_2)), (4, .int (zJ u4_11))] [])
    refine p_iload G 3 rfl dX5_addOne_11 ?_
    refine p_aload_n G rfl 0 rfl dX5_addOne_13 ?_
    refine p_get G dX5_addOne_14 fl_X5_12 (k := 0) rfl rfl ?_
    refine p_get G dX5_addOne_17 fl_X5_55 (k := 1) rfl rfl ?_
    refine p_icmpge (tgt := 69) G dX5_addOne_20 (by decide) h (fun c8 h => ?_) (fun c8 h => ?_)
    · refine p_lv [0, 1, 2] rfl ?_
      have he := hout11 _ (Option.some.inj h).symm
      subst he
      exact hX11_69 () rfl
    · refine p_lload_n G rfl 1 rfl dX5_addOne_23 ?_
      refine p_iload_n G rfl 2 rfl dX5_addOne_24 ?_
      obtain ⟨v1, hc, h⟩ := bnd_some h
      refine p_callS0 G dX5_addOne_25 lk_X5_58 (c_X6_has (gl Γ) hc) (As := [.long p1, .int (zJ u3_2)]) rfl zk_9 rfl (Nat.le_of_ble_eq_true rfl) ⟨rfl, rfl, Nat.le_of_ble_eq_true rfl, Nat.le_of_ble_eq_true rfl⟩ hcs ?_
      refine p_ifeq (tgt := 69) G dX5_addOne_28 (by decide) h (fun c7 h => ?_) (fun c7 h => ?_)
      · refine p_lv [0, 1, 2] rfl ?_
        have he := hout11 _ (Option.some.inj h).symm
        subst he
        exact hX11_69 () rfl
      · refine p_aload_n G rfl 0 rfl dX5_addOne_31 ?_
        refine p_get G dX5_addOne_32 fl_X5_12 (k := 0) rfl rfl ?_
        refine p_iload G 3 rfl dX5_addOne_35 ?_
        obtain ⟨v2, hc, h⟩ := bnd_some h
        refine p_callVr G zl_8 dX5_addOne_37 lk_X5_62 (c_X1_foundAt (gl Γ) hc) (As := [.int (zJ u4_11)]) (ci := 1) rfl zk_8 (zs_x zs_8 _) rfl rfl rfl (Nat.le_of_ble_eq_true rfl) ⟨rfl, rfl, Nat.le_of_ble_eq_true rfl, Nat.le_of_ble_eq_true rfl⟩ hcs ?_
        refine p_iload_n G rfl 2 rfl dX5_addOne_40 ?_
        obtain ⟨v3, hc, h⟩ := bnd_some h
        refine p_callS0 G dX5_addOne_41 lk_X5_43 (c_X6_bitOf (gl Γ) hc) (As := [.int (zJ u3_2)]) rfl zk_9 rfl (Nat.le_of_ble_eq_true rfl) ⟨rfl, rfl, Nat.le_of_ble_eq_true rfl, Nat.le_of_ble_eq_true rfl⟩ hcs ?_
        refine p_lor G dX5_addOne_44 ?_
        obtain ⟨v4, hc, h⟩ := bnd_some h
        refine p_callS0 G dX5_addOne_45 lk_X5_65 (c_X6_kindOf (gl Γ) hc) (As := [.long (v2 ||| v3)]) rfl zk_9 rfl (Nat.le_of_ble_eq_true rfl) ⟨rfl, rfl, Nat.le_of_ble_eq_true rfl, Nat.le_of_ble_eq_true rfl⟩ hcs ?_
        refine p_ifeq (tgt := 63) G dX5_addOne_48 (by decide) h (fun c6 h => ?_) (fun c6 h => ?_)
        · refine p_iinc (lv' := fun v5 => [(4, .int (zJ v5)), (0, .ref (ga Γ 0)), (1, .long p1), (3, .int (zJ u3_2))]) G dX5_addOne_63 h 3 rfl (by decide) (fun _ => rfl) (fun v5 h => ?_)
          refine p_goto (tgt := 11) G dX5_addOne_66 (by decide) ?_
          refine p_lv [1, 2, 3, 0] rfl ?_
          exact hin11 _ (Option.some.inj h).symm
        · refine p_lv [0, 2, 3] rfl ?_
          have he := hout11 _ (Option.some.inj h).symm
          subst he
          exact hX11_51 _ rfl
set_option maxHeartbeats 4000000 in
set_option maxRecDepth 100000 in
theorem c_X5_settle (l : Launch) {D : va_G} {yy : Nat → ClassId} {tk tv a : Nat → Nat} {σ : Mm} {p1 : Int64} {p3 : Int64} {o : Mm} (h : x_X5_settle σ p1 p3 = some o) : CT l yX5_settle cX5_settle 9 none rm_X5_settle shD D yy tk tv a σ [.ref (a 0), .long p1, .long p3] o none := by
  refine ct_of (Ar := fun a tk => [.ref (a 0), .long p1, .long p3]) (by decide) (Nat.le_of_ble_eq_true rfl) (fun Γ G _ _ hR => ?_)
  have hcs := rt_cs hR
  unfold x_X5_settle at h
  refine (?_ : PT Γ 9 shD 0 σ [(0, .ref (ga Γ 0)), (1, .long p1), (3, .long p3)] [])
  refine p_aload_n G rfl 0 rfl dX5_settle_0 ?_
  refine p_get G dX5_settle_1 fl_X5_12 (k := 0) rfl rfl ?_
  refine p_lload_n G rfl 1 rfl dX5_settle_4 ?_
  obtain ⟨σ1, hc, h⟩ := bnd_some h
  refine p_callV G zl_8 dX5_settle_5 lk_X5_21 (c_X1_lay (gl Γ) hc) (As := [.long p1]) (ci := 1) rfl zk_8 (zs_x zs_8 _) rfl rfl rfl (Nat.le_of_ble_eq_true rfl) ⟨rfl, rfl, Nat.le_of_ble_eq_true rfl, Nat.le_of_ble_eq_true rfl⟩ hcs ?_
  refine p_nm h (fun σ2 h => ?_)
  refine p_aload_n G rfl 0 rfl dX5_settle_8 ?_
  refine p_get G dX5_settle_9 fl_X5_18 (k := 0) rfl rfl ?_
  refine p_lload_n G rfl 2 rfl dX5_settle_12 ?_
  obtain ⟨σ3, hc, h⟩ := bnd_some h
  refine p_callV G zl_10 dX5_settle_13 lk_X5_21 (c_X1_lay (gl Γ) hc) (As := [.long p3]) (ci := 1) rfl zk_10 (zs_x zs_10 _) rfl rfl rfl (Nat.le_of_ble_eq_true rfl) ⟨rfl, rfl, Nat.le_of_ble_eq_true rfl, Nat.le_of_ble_eq_true rfl⟩ hcs ?_
  refine p_nm h (fun σ4 h => ?_)
  refine p_aload_n G rfl 0 rfl dX5_settle_16 ?_
  refine p_aload_n G rfl 0 rfl dX5_settle_17 ?_
  refine p_get G dX5_settle_18 fl_X5_12 (k := 0) rfl rfl ?_
  refine p_get G dX5_settle_21 fl_X5_25 (k := 1) rfl rfl ?_
  refine p_putI G dX5_settle_24 fp_X5_29 (k := 0) rfl rfl rfl rfl h (fun σ5 h => ?_)
  refine p_aload_n G rfl 0 rfl dX5_settle_27 ?_
  refine p_iconst G rfl dX5_settle_28 ?_
  refine p_putI G dX5_settle_29 fp_X5_32 (k := 0) rfl rfl rfl rfl h (fun σ6 h => ?_)
  refine p_aload_n G rfl 0 rfl dX5_settle_32 ?_
  refine p_get G dX5_settle_33 fl_X5_18 (k := 0) rfl rfl ?_
  refine p_get G dX5_settle_36 fl_X5_35 (k := 8) rfl rfl ?_
  refine p_lstore (lv' := fun v7 => [(5, .long v7), (0, .ref (ga Γ 0)), (1, .long p1), (3, .long p3)]) G dX5_settle_39 h (by decide) (fun _ => rfl) (fun v7 h => ?_)
  refine p_iconst G rfl dX5_settle_41 ?_
  refine p_istoreU (lv' := [(7, .int (zJ (0 : Int))), (5, .long v7), (0, .ref (ga Γ 0)), (1, .long p1), (3, .long p3)]) G dX5_settle_42 (by decide) rfl ?_
  refine p_lv [2, 1, 0] rfl ?_
  obtain ⟨e18, hl44, h⟩ := bnd_some h
  have hX44_72 : ∀ (σ19 : Mm) (v20 : Int64), (.inl (σ19, v20)) = e18 → PT Γ 9 shD 72 σ19 [(0, .ref (ga Γ 0)), (5, .long v20)] [] := by
    intro σ19 v20 he
    subst he
    rw [zel_l] at h
    rw [un2_mk] at h
    refine p_goto (tgt := 105) G dX5_settle_72 (by decide) ?_
    refine p_aload_n G rfl 0 rfl dX5_settle_105 ?_
    refine p_lload G 1 rfl dX5_settle_106 ?_
    obtain ⟨v21, hc, h⟩ := bnd_some h
    refine p_callS0 G dX5_settle_108 lk_X5_49 (c_X6_pointsOf (gl Γ) hc) (As := [.long v20]) rfl zk_9 rfl (Nat.le_of_ble_eq_true rfl) ⟨rfl, rfl, Nat.le_of_ble_eq_true rfl, Nat.le_of_ble_eq_true rfl⟩ hcs ?_
    refine p_putI G dX5_settle_111 fp_X5_52 (k := 0) rfl rfl rfl rfl h (fun σ22 h => ?_)
    (cases h; exact p_vret G hR dX5_settle_114 rfl rfl)
  have hX44_105 : ∀ (σ23 : Mm) (v24 : Int64), (.inr (σ23, v24)) = e18 → PT Γ 9 shD 105 σ23 [(0, .ref (ga Γ 0)), (5, .long v24)] [] := by
    intro σ23 v24 he
    subst he
    rw [zel_r] at h
    rw [un2_mk] at h
    refine p_aload_n G rfl 0 rfl dX5_settle_105 ?_
    refine p_lload G 1 rfl dX5_settle_106 ?_
    obtain ⟨v25, hc, h⟩ := bnd_some h
    refine p_callS0 G dX5_settle_108 lk_X5_49 (c_X6_pointsOf (gl Γ) hc) (As := [.long v24]) rfl zk_9 rfl (Nat.le_of_ble_eq_true rfl) ⟨rfl, rfl, Nat.le_of_ble_eq_true rfl, Nat.le_of_ble_eq_true rfl⟩ hcs ?_
    refine p_putI G dX5_settle_111 fp_X5_52 (k := 0) rfl rfl rfl rfl h (fun σ26 h => ?_)
    (cases h; exact p_vret G hR dX5_settle_114 rfl rfl)
  refine lup_walk (s := (σ6, v7, (0 : Int))) (At := fun s : Mm × Int64 × Int => PT Γ 9 shD 44 s.1 [(0, .ref (ga Γ 0)), (5, .long s.2.1), (7, .int (zJ s.2.2))] []) (fun s r hf hin44 hout44 => ?_) hl44
  obtain ⟨σ44, u5_44, u7_44⟩ := s
  have h : x_X5_settle_b44 σ44 u5_44 u7_44 = some r := hf
  clear hf
  unfold x_X5_settle_b44 at h
  refine (?_ : PT Γ 9 shD 44 σ44 [(0, .ref (ga Γ 0)), (5, .long u5_44), (7, .int (zJ u7_44))] [])
  refine p_iload G 2 rfl dX5_settle_44 ?_
  refine p_bipush G (by decide) (by decide) dX5_settle_46 ?_
  refine p_icmpge (tgt := 105) G dX5_settle_48 (by decide) h (fun c16 h => ?_) (fun c16 h => ?_)
  · refine p_lv [0, 1] rfl ?_
    have he := hout44 _ (Option.some.inj h).symm
    subst he
    exact hX44_105 _ _ rfl
  · refine p_aload_n G rfl 0 rfl dX5_settle_51 ?_
    refine p_get G dX5_settle_52 fl_X5_29 (k := 0) rfl rfl ?_
    refine p_ifle (tgt := 105) G dX5_settle_55 (by decide) h (fun c15 h => ?_) (fun c15 h => ?_)
    · refine p_lv [0, 1] rfl ?_
      have he := hout44 _ (Option.some.inj h).symm
      subst he
      exact hX44_105 _ _ rfl
    · refine p_aload_n G rfl 0 rfl dX5_settle_58 ?_
      refine p_lload G 1 rfl dX5_settle_59 ?_
      obtain ⟨⟨σ8, v9⟩, hc, h⟩ := bnd_some h
      rw [un2_mk] at h
      refine p_callVi G dX5_settle_61 lk_X5_39 (c_X5_addOne (gl Γ) hc) (As := [.long u5_44]) (ci := 5) rfl rfl rfl rfl (Nat.le_of_ble_eq_true rfl) ⟨rfl, rfl, Nat.le_of_ble_eq_true rfl, Nat.le_of_ble_eq_true rfl⟩ hcs ?_
      refine p_istoreU (lv' := [(8, .int (zJ v9)), (0, .ref (ga Γ 0)), (5, .long u5_44), (7, .int (zJ u7_44))]) G dX5_settle_64 (by decide) rfl ?_
      refine p_iload G 0 rfl dX5_settle_66 ?_
      refine p_iconst G rfl dX5_settle_68 ?_
      refine p_icmpne (tgt := 75) G dX5_settle_69 (by decide) h (fun c14 h => ?_) (fun c14 h => ?_)
      · refine p_lload G 2 rfl dX5_settle_75 ?_
        refine p_iload G 0 rfl dX5_settle_77 ?_
        obtain ⟨v10, hc, h⟩ := bnd_some h
        refine p_callS0 G dX5_settle_79 lk_X5_43 (c_X6_bitOf (gl Γ) hc) (As := [.int (zJ v9)]) rfl zk_9 rfl (Nat.le_of_ble_eq_true rfl) ⟨rfl, rfl, Nat.le_of_ble_eq_true rfl, Nat.le_of_ble_eq_true rfl⟩ hcs ?_
        refine p_ldc2 G gm_669 dX5_settle_82 ?_
        refine p_lxor G dX5_settle_85 ?_
        refine p_land G dX5_settle_86 ?_
        refine p_lstore (lv' := fun v11 => [(5, .long v11), (8, .int (zJ v9)), (0, .ref (ga Γ 0)), (7, .int (zJ u7_44))]) G dX5_settle_87 h (by decide) (fun _ => rfl) (fun v11 h => ?_)
        refine p_aload_n G rfl 2 rfl dX5_settle_89 ?_
        refine p_dup G rfl dX5_settle_90 ?_
        refine p_get G dX5_settle_91 fl_X5_32 (k := 0) rfl rfl ?_
        refine p_iconst G rfl dX5_settle_94 ?_
        refine p_iadd G dX5_settle_95 ?_
        refine p_putI G dX5_settle_96 fp_X5_32 (k := 0) rfl rfl rfl rfl h (fun σ12 h => ?_)
        refine p_iinc (lv' := fun v13 => [(7, .int (zJ v13)), (5, .long v11), (8, .int (zJ v9)), (0, .ref (ga Γ 0))]) G dX5_settle_99 h 3 rfl (by decide) (fun _ => rfl) (fun v13 h => ?_)
        refine p_goto (tgt := 44) G dX5_settle_102 (by decide) ?_
        refine p_lv [3, 1, 0] rfl ?_
        exact hin44 _ (Option.some.inj h).symm
      · refine p_lv [1, 2] rfl ?_
        have he := hout44 _ (Option.some.inj h).symm
        subst he
        exact hX44_72 _ _ rfl
set_option maxHeartbeats 4000000 in
set_option maxRecDepth 100000 in
theorem c_X5_gain (l : Launch) {D : va_G} {yy : Nat → ClassId} {tk tv a : Nat → Nat} {σ : Mm} {o : Int} (h : x_X5_gain σ = some o) : CT l yX5_gain cX5_gain 1 (some .int) rm_X5_gain shD D yy tk tv a σ [.ref (a 0)] σ (some (.int (zJ o))) := by
  refine ct_of (Ar := fun a tk => [.ref (a 0)]) (by decide) (Nat.le_of_ble_eq_true rfl) (fun Γ G _ _ hR => ?_)
  have hcs := rt_cs hR
  unfold x_X5_gain at h
  refine (?_ : PT Γ 1 shD 0 σ [(0, .ref (ga Γ 0))] [])
  refine p_aload_n G rfl 0 rfl dX5_gain_0 ?_
  refine p_get G dX5_gain_1 fl_X5_29 (k := 0) rfl rfl ?_
  refine p_ifne (tgt := 15) G dX5_gain_4 (by decide) h (fun c2 h => ?_) (fun c2 h => ?_)
  · refine p_aload_n G rfl 0 rfl dX5_gain_15 ?_
    refine p_get G dX5_gain_16 fl_X5_29 (k := 0) rfl rfl ?_
    refine p_aload_n G rfl 0 rfl dX5_gain_19 ?_
    refine p_get G dX5_gain_20 fl_X5_52 (k := 0) rfl rfl ?_
    refine p_icmpge (tgt := 38) G dX5_gain_23 (by decide) h (fun c1 h => ?_) (fun c1 h => ?_)
    · refine p_aload_n G rfl 0 rfl dX5_gain_38 ?_
      refine p_get G dX5_gain_39 fl_X5_52 (k := 0) rfl rfl ?_
      refine p_aload_n G rfl 0 rfl dX5_gain_42 ?_
      refine p_get G dX5_gain_43 fl_X5_29 (k := 0) rfl rfl ?_
      refine p_isub G dX5_gain_46 ?_
      refine p_bipush G (by decide) (by decide) dX5_gain_47 ?_
      refine p_isub G dX5_gain_49 ?_
      (cases h; exact p_iret G hR dX5_gain_50 rfl rfl)
    · refine p_aload_n G rfl 0 rfl dX5_gain_26 ?_
      refine p_get G dX5_gain_27 fl_X5_52 (k := 0) rfl rfl ?_
      refine p_aload_n G rfl 0 rfl dX5_gain_30 ?_
      refine p_get G dX5_gain_31 fl_X5_29 (k := 0) rfl rfl ?_
      refine p_isub G dX5_gain_34 ?_
      refine p_goto (tgt := 50) G dX5_gain_35 (by decide) ?_
      (cases h; exact p_iret G hR dX5_gain_50 rfl rfl)
  · refine p_aload_n G rfl 0 rfl dX5_gain_7 ?_
    refine p_get G dX5_gain_8 fl_X5_52 (k := 0) rfl rfl ?_
    refine p_bipush G (by decide) (by decide) dX5_gain_11 ?_
    refine p_iadd G dX5_gain_13 ?_
    (cases h; exact p_iret G hR dX5_gain_14 rfl rfl)
set_option maxHeartbeats 4000000 in
set_option maxRecDepth 100000 in
theorem c_X3_play (l : Launch) {D : va_G} {yy : Nat → ClassId} {tk tv a : Nat → Nat} {σ : Mm} {p1 : Int} {p2 : Int} {o : Mm × Int} (h : x_X3_play σ p1 p2 = some o) : CT l yX3_play cX3_play 5 (some .boolean) rm_X3_play shMD D yy tk tv a σ [.ref (a 0), .int (zJ p1), .int (zJ p2), .ref (a 5)] o.1 (some (.int (zJ o.2))) := by
  refine ct_of (Ar := fun a tk => [.ref (a 0), .int (zJ p1), .int (zJ p2), .ref (a 5)]) (by decide) (Nat.le_of_ble_eq_true rfl) (fun Γ G _ _ hR => ?_)
  have hcs := rt_cs hR
  unfold x_X3_play at h
  refine (?_ : PT Γ 5 shMD 0 σ [(0, .ref (ga Γ 0)), (1, .int (zJ p1)), (2, .int (zJ p2)), (3, .ref (ga Γ 5))] [])
  refine p_iload_n G rfl 1 rfl dX3_play_0 ?_
  refine zite h (fun c0_1 h => ?_) (fun c0_1 h => ?_)
  · refine p_tin (tgt := 28) (off := 27) G dX3_play_1 c0_1 (by decide) (by decide) rfl (by decide) ?_
    refine p_aload_n G rfl 0 rfl dX3_play_28 ?_
    refine p_iload_n G rfl 2 rfl dX3_play_29 ?_
    obtain ⟨v1, hc, h⟩ := bnd_some h
    refine p_callVr G zl_11 dX3_play_30 lk_X3_154 (c_X2_reasonAgainstDrop (gl Γ) hc) (As := [.int (zJ p2)]) (ci := 2) rfl zk_11 (zs_x zs_11 _) rfl rfl rfl (Nat.le_of_ble_eq_true rfl) ⟨rfl, rfl, Nat.le_of_ble_eq_true rfl, Nat.le_of_ble_eq_true rfl⟩ hcs ?_
    refine p_istoreU (lv' := [(4, .int (zJ v1)), (0, .ref (ga Γ 0)), (1, .int (zJ p1)), (2, .int (zJ p2)), (3, .ref (ga Γ 5))]) G dX3_play_33 (by decide) rfl ?_
    refine p_iload G 0 rfl dX3_play_35 ?_
    refine p_ifne (tgt := 133) G dX3_play_37 (by decide) h (fun c6 h => ?_) (fun c6 h => ?_)
    · refine p_iload G 0 rfl dX3_play_133 ?_
      refine p_ifne (tgt := 142) G dX3_play_135 (by decide) h (fun c2 h => ?_) (fun c2 h => ?_)
      · refine p_iconst G rfl dX3_play_142 ?_
        (cases h; exact p_zret G hR dX3_play_143 (by decide) rfl rfl)
      · refine p_iconst G rfl dX3_play_138 ?_
        refine p_goto (tgt := 143) G dX3_play_139 (by decide) ?_
        (cases h; exact p_zret G hR dX3_play_143 (by decide) rfl rfl)
    · refine p_aload_n G rfl 1 rfl dX3_play_40 ?_
      refine p_iload_n G rfl 3 rfl dX3_play_41 ?_
      obtain ⟨σ3, hc, h⟩ := bnd_some h
      refine p_callV G zl_11 dX3_play_42 lk_X3_157 (c_X2_endTurn (gl Γ) hc) (As := [.int (zJ p2)]) (ci := 2) rfl zk_11 (zs_x zs_11 _) rfl rfl rfl (Nat.le_of_ble_eq_true rfl) ⟨rfl, rfl, Nat.le_of_ble_eq_true rfl, Nat.le_of_ble_eq_true rfl⟩ hcs ?_
      refine p_nm h (fun σ4 h => ?_)
      refine p_goto (tgt := 133) G dX3_play_45 (by decide) ?_
      refine p_iload G 0 rfl dX3_play_133 ?_
      refine p_ifne (tgt := 142) G dX3_play_135 (by decide) h (fun c5 h => ?_) (fun c5 h => ?_)
      · refine p_iconst G rfl dX3_play_142 ?_
        (cases h; exact p_zret G hR dX3_play_143 (by decide) rfl rfl)
      · refine p_iconst G rfl dX3_play_138 ?_
        refine p_goto (tgt := 143) G dX3_play_139 (by decide) ?_
        (cases h; exact p_zret G hR dX3_play_143 (by decide) rfl rfl)
  · refine zite h (fun c1_1 h => ?_) (fun c1_1 h => ?_)
    · refine p_tin (tgt := 48) (off := 47) G dX3_play_1 c1_1 (by decide) (by decide) rfl (by decide) ?_
      refine p_aload_n G rfl 3 rfl dX3_play_48 ?_
      refine p_aload_n G rfl 0 rfl dX3_play_49 ?_
      refine p_iload_n G rfl 2 rfl dX3_play_50 ?_
      obtain ⟨v7, hc, h⟩ := bnd_some h
      refine p_callVr G zl_11 dX3_play_51 lk_X3_160 (c_X2_handWithout (gl Γ) hc) (As := [.int (zJ p2)]) (ci := 2) rfl zk_11 (zs_x zs_11 _) rfl rfl rfl (Nat.le_of_ble_eq_true rfl) ⟨rfl, rfl, Nat.le_of_ble_eq_true rfl, Nat.le_of_ble_eq_true rfl⟩ hcs ?_
      refine p_aload_n G rfl 0 rfl dX3_play_54 ?_
      obtain ⟨v8, hc, h⟩ := bnd_some h
      refine p_callVr G zl_11 dX3_play_55 lk_X3_163 (c_X2_otherHand (gl Γ) hc) (As := []) (ci := 2) rfl zk_11 (zs_x zs_11 _) rfl rfl rfl (Nat.le_of_ble_eq_true rfl) ⟨rfl, rfl, Nat.le_of_ble_eq_true rfl, Nat.le_of_ble_eq_true rfl⟩ hcs ?_
      obtain ⟨σ9, hc, h⟩ := bnd_some h
      refine p_callV G zl_12 dX3_play_58 lk_X3_167 (c_X5_settle (gl Γ) hc) (As := [.long v7, .long v8]) (ci := 5) rfl zk_12 (zs_x zs_12 _) rfl rfl rfl (Nat.le_of_ble_eq_true rfl) ⟨rfl, rfl, Nat.le_of_ble_eq_true rfl, Nat.le_of_ble_eq_true rfl⟩ hcs ?_
      refine p_nm h (fun σ10 h => ?_)
      refine p_aload_n G rfl 0 rfl dX3_play_61 ?_
      refine p_iload_n G rfl 2 rfl dX3_play_62 ?_
      refine p_aload_n G rfl 3 rfl dX3_play_63 ?_
      refine p_get G dX3_play_64 fl_X3_173 (k := 5) rfl rfl ?_
      obtain ⟨v11, hc, h⟩ := bnd_some h
      refine p_callVr G zl_11 dX3_play_67 lk_X3_176 (c_X2_reasonAgainstKnock (gl Γ) hc) (As := [.int (zJ p2), .int (zJ (σ10 5 2))]) (ci := 2) rfl zk_11 (zs_x zs_11 _) rfl rfl rfl (Nat.le_of_ble_eq_true rfl) ⟨rfl, rfl, Nat.le_of_ble_eq_true rfl, Nat.le_of_ble_eq_true rfl⟩ hcs ?_
      refine p_istoreU (lv' := [(4, .int (zJ v11)), (0, .ref (ga Γ 0)), (1, .int (zJ p1)), (2, .int (zJ p2)), (3, .ref (ga Γ 5))]) G dX3_play_70 (by decide) rfl ?_
      refine p_iload G 0 rfl dX3_play_72 ?_
      refine p_ifne (tgt := 133) G dX3_play_74 (by decide) h (fun c17 h => ?_) (fun c17 h => ?_)
      · refine p_iload G 0 rfl dX3_play_133 ?_
        refine p_ifne (tgt := 142) G dX3_play_135 (by decide) h (fun c12 h => ?_) (fun c12 h => ?_)
        · refine p_iconst G rfl dX3_play_142 ?_
          (cases h; exact p_zret G hR dX3_play_143 (by decide) rfl rfl)
        · refine p_iconst G rfl dX3_play_138 ?_
          refine p_goto (tgt := 143) G dX3_play_139 (by decide) ?_
          (cases h; exact p_zret G hR dX3_play_143 (by decide) rfl rfl)
      · refine p_aload_n G rfl 1 rfl dX3_play_77 ?_
        refine p_iload_n G rfl 3 rfl dX3_play_78 ?_
        refine p_aload_n G rfl 4 rfl dX3_play_79 ?_
        obtain ⟨v13, hc, h⟩ := bnd_some h
        refine p_callVr G zl_12 dX3_play_80 lk_X3_179 (c_X5_gain (gl Γ) hc) (As := []) (ci := 5) rfl zk_12 (zs_x zs_12 _) rfl rfl rfl (Nat.le_of_ble_eq_true rfl) ⟨rfl, rfl, Nat.le_of_ble_eq_true rfl, Nat.le_of_ble_eq_true rfl⟩ hcs ?_
        obtain ⟨σ14, hc, h⟩ := bnd_some h
        refine p_callV G zl_11 dX3_play_83 lk_X3_182 (c_X2_endRound (gl Γ) hc) (As := [.int (zJ p2), .int (zJ v13)]) (ci := 2) rfl zk_11 (zs_x zs_11 _) rfl rfl rfl (Nat.le_of_ble_eq_true rfl) ⟨rfl, rfl, Nat.le_of_ble_eq_true rfl, Nat.le_of_ble_eq_true rfl⟩ hcs ?_
        refine p_nm h (fun σ15 h => ?_)
        refine p_goto (tgt := 133) G dX3_play_86 (by decide) ?_
        refine p_iload G 0 rfl dX3_play_133 ?_
        refine p_ifne (tgt := 142) G dX3_play_135 (by decide) h (fun c16 h => ?_) (fun c16 h => ?_)
        · refine p_iconst G rfl dX3_play_142 ?_
          (cases h; exact p_zret G hR dX3_play_143 (by decide) rfl rfl)
        · refine p_iconst G rfl dX3_play_138 ?_
          refine p_goto (tgt := 143) G dX3_play_139 (by decide) ?_
          (cases h; exact p_zret G hR dX3_play_143 (by decide) rfl rfl)
    · refine zite h (fun c2_1 h => ?_) (fun c2_1 h => ?_)
      · refine p_tin (tgt := 89) (off := 88) G dX3_play_1 c2_1 (by decide) (by decide) rfl (by decide) ?_
        refine p_aload_n G rfl 0 rfl dX3_play_89 ?_
        obtain ⟨v18, hc, h⟩ := bnd_some h
        refine p_callVr G zl_11 dX3_play_90 lk_X3_186 (c_X2_reasonAgainstDeal (gl Γ) hc) (As := []) (ci := 2) rfl zk_11 (zs_x zs_11 _) rfl rfl rfl (Nat.le_of_ble_eq_true rfl) ⟨rfl, rfl, Nat.le_of_ble_eq_true rfl, Nat.le_of_ble_eq_true rfl⟩ hcs ?_
        refine p_istoreU (lv' := [(4, .int (zJ v18)), (0, .ref (ga Γ 0)), (1, .int (zJ p1)), (2, .int (zJ p2)), (3, .ref (ga Γ 5))]) G dX3_play_93 (by decide) rfl ?_
        refine p_iload G 0 rfl dX3_play_95 ?_
        refine p_ifne (tgt := 133) G dX3_play_97 (by decide) h (fun c23 h => ?_) (fun c23 h => ?_)
        · refine p_iload G 0 rfl dX3_play_133 ?_
          refine p_ifne (tgt := 142) G dX3_play_135 (by decide) h (fun c19 h => ?_) (fun c19 h => ?_)
          · refine p_iconst G rfl dX3_play_142 ?_
            (cases h; exact p_zret G hR dX3_play_143 (by decide) rfl rfl)
          · refine p_iconst G rfl dX3_play_138 ?_
            refine p_goto (tgt := 143) G dX3_play_139 (by decide) ?_
            (cases h; exact p_zret G hR dX3_play_143 (by decide) rfl rfl)
        · refine p_aload_n G rfl 1 rfl dX3_play_100 ?_
          obtain ⟨σ20, hc, h⟩ := bnd_some h
          refine p_callV G zl_11 dX3_play_101 lk_X3_189 (c_X2_beginNextRound (gl Γ) hc) (As := []) (ci := 2) rfl zk_11 (zs_x zs_11 _) rfl rfl rfl (Nat.le_of_ble_eq_true rfl) ⟨rfl, rfl, Nat.le_of_ble_eq_true rfl, Nat.le_of_ble_eq_true rfl⟩ hcs ?_
          refine p_nm h (fun σ21 h => ?_)
          refine p_goto (tgt := 133) G dX3_play_104 (by decide) ?_
          refine p_iload G 0 rfl dX3_play_133 ?_
          refine p_ifne (tgt := 142) G dX3_play_135 (by decide) h (fun c22 h => ?_) (fun c22 h => ?_)
          · refine p_iconst G rfl dX3_play_142 ?_
            (cases h; exact p_zret G hR dX3_play_143 (by decide) rfl rfl)
          · refine p_iconst G rfl dX3_play_138 ?_
            refine p_goto (tgt := 143) G dX3_play_139 (by decide) ?_
            (cases h; exact p_zret G hR dX3_play_143 (by decide) rfl rfl)
      · refine p_tout (tgt := 107) G dX3_play_1 (by omega) (by decide) ?_
        refine p_aload_n G rfl 0 rfl dX3_play_107 ?_
        obtain ⟨v24, hc, h⟩ := bnd_some h
        refine p_callVr G zl_11 dX3_play_108 lk_X3_192 (c_X2_reasonAgainstDraw (gl Γ) hc) (As := []) (ci := 2) rfl zk_11 (zs_x zs_11 _) rfl rfl rfl (Nat.le_of_ble_eq_true rfl) ⟨rfl, rfl, Nat.le_of_ble_eq_true rfl, Nat.le_of_ble_eq_true rfl⟩ hcs ?_
        refine p_istoreU (lv' := [(4, .int (zJ v24)), (0, .ref (ga Γ 0)), (1, .int (zJ p1)), (2, .int (zJ p2)), (3, .ref (ga Γ 5))]) G dX3_play_111 (by decide) rfl ?_
        refine p_iload G 0 rfl dX3_play_113 ?_
        refine p_ifne (tgt := 133) G dX3_play_115 (by decide) h (fun c35 h => ?_) (fun c35 h => ?_)
        · refine p_iload G 0 rfl dX3_play_133 ?_
          refine p_ifne (tgt := 142) G dX3_play_135 (by decide) h (fun c25 h => ?_) (fun c25 h => ?_)
          · refine p_iconst G rfl dX3_play_142 ?_
            (cases h; exact p_zret G hR dX3_play_143 (by decide) rfl rfl)
          · refine p_iconst G rfl dX3_play_138 ?_
            refine p_goto (tgt := 143) G dX3_play_139 (by decide) ?_
            (cases h; exact p_zret G hR dX3_play_143 (by decide) rfl rfl)
        · refine p_aload_n G rfl 1 rfl dX3_play_118 ?_
          refine p_iload_n G rfl 2 rfl dX3_play_119 ?_
          refine p_iconst G rfl dX3_play_120 ?_
          refine p_icmpne (tgt := 128) G dX3_play_121 (by decide) h (fun c34 h => ?_) (fun c34 h => ?_)
          · refine p_iconst G rfl dX3_play_128 ?_
            obtain ⟨⟨σ26, v27⟩, hc, h⟩ := bnd_some h
            rw [un2_mk] at h
            refine p_callV G zl_11 dX3_play_129 lk_X3_195 (c_X2_takeCard (gl Γ) hc) (As := [.int (zJ (0 : Int))]) (ci := 2) rfl zk_11 (zs_x zs_11 _) rfl rfl rfl (Nat.le_of_ble_eq_true rfl) ⟨rfl, rfl, Nat.le_of_ble_eq_true rfl, Nat.le_of_ble_eq_true rfl⟩ hcs ?_
            refine p_nm h (fun σ28 h => ?_)
            refine p_pop G rfl dX3_play_132 ?_
            refine p_iload G 0 rfl dX3_play_133 ?_
            refine p_ifne (tgt := 142) G dX3_play_135 (by decide) h (fun c29 h => ?_) (fun c29 h => ?_)
            · refine p_iconst G rfl dX3_play_142 ?_
              (cases h; exact p_zret G hR dX3_play_143 (by decide) rfl rfl)
            · refine p_iconst G rfl dX3_play_138 ?_
              refine p_goto (tgt := 143) G dX3_play_139 (by decide) ?_
              (cases h; exact p_zret G hR dX3_play_143 (by decide) rfl rfl)
          · refine p_iconst G rfl dX3_play_124 ?_
            refine p_goto (tgt := 129) G dX3_play_125 (by decide) ?_
            obtain ⟨⟨σ30, v31⟩, hc, h⟩ := bnd_some h
            rw [un2_mk] at h
            refine p_callV G zl_11 dX3_play_129 lk_X3_195 (c_X2_takeCard (gl Γ) hc) (As := [.int (zJ (1 : Int))]) (ci := 2) rfl zk_11 (zs_x zs_11 _) rfl rfl rfl (Nat.le_of_ble_eq_true rfl) ⟨rfl, rfl, Nat.le_of_ble_eq_true rfl, Nat.le_of_ble_eq_true rfl⟩ hcs ?_
            refine p_nm h (fun σ32 h => ?_)
            refine p_pop G rfl dX3_play_132 ?_
            refine p_iload G 0 rfl dX3_play_133 ?_
            refine p_ifne (tgt := 142) G dX3_play_135 (by decide) h (fun c33 h => ?_) (fun c33 h => ?_)
            · refine p_iconst G rfl dX3_play_142 ?_
              (cases h; exact p_zret G hR dX3_play_143 (by decide) rfl rfl)
            · refine p_iconst G rfl dX3_play_138 ?_
              refine p_goto (tgt := 143) G dX3_play_139 (by decide) ?_
              (cases h; exact p_zret G hR dX3_play_143 (by decide) rfl rfl)
set_option maxHeartbeats 4000000 in
set_option maxRecDepth 100000 in
theorem c_X3_readMove (l : Launch) {D : va_G} {yy : Nat → ClassId} {tk tv a : Nat → Nat} {σ : Mm} {o : Mm × Int} (h : x_X3_readMove σ = some o) : CT l yX3_readMove cX3_readMove 6 (some .int) rm_X3_readMove shRMD D yy tk tv a σ [.ref (a 0), .ref (a 3), .ref (a 8)] o.1 (some (.int (zJ o.2))) := by
  refine ct_of (Ar := fun a tk => [.ref (a 0), .ref (a 3), .ref (a 8)]) (by decide) (Nat.le_of_ble_eq_true rfl) (fun Γ G _ _ hR => ?_)
  have hcs := rt_cs hR
  unfold x_X3_readMove at h
  refine (?_ : PT Γ 6 shRMD 0 σ [(0, .ref (ga Γ 0)), (1, .ref (ga Γ 3)), (2, .ref (ga Γ 8))] [])
  have j55 : ∀ (σ_55 : Mm) (v3_55 : Int) (v4_55 : Int) (v5_55 : Int), x_X3_readMove_j55 σ_55 v3_55 v4_55 v5_55 = some o → PT Γ 6 shRMD 55 σ_55 [(0, .ref (ga Γ 0)), (1, .ref (ga Γ 3)), (2, .ref (ga Γ 8)), (3, .int (zJ v3_55)), (4, .int (zJ v4_55)), (5, .int (zJ v5_55))] [] := by
    intro σ_55 v3_55 v4_55 v5_55 h
    unfold x_X3_readMove_j55 at h
    refine p_iload G 5 rfl dX3_readMove_55 ?_
    refine p_ifeq (tgt := 63) G dX3_readMove_57 (by decide) h (fun c13 h => ?_) (fun c13 h => ?_)
    · refine p_aload_n G rfl 1 rfl dX3_readMove_63 ?_
      refine p_iload_n G rfl 3 rfl dX3_readMove_64 ?_
      refine p_iload G 4 rfl dX3_readMove_65 ?_
      refine p_aload_n G rfl 2 rfl dX3_readMove_67 ?_
      obtain ⟨⟨σ6, v7⟩, hc, h⟩ := bnd_some h
      rw [un2_mk] at h
      refine p_callS G zl_15 dX3_readMove_68 lk_X3_134 (c_X3_play (gl Γ) hc) (As := [.ref (ga Γ 3), .int (zJ v3_55), .int (zJ v4_55), .ref (ga Γ 8)]) rfl zk_15 (zs_x zs_15 _) rfl (Nat.le_of_ble_eq_true rfl) ⟨rfl, rfl, Nat.le_of_ble_eq_true rfl, Nat.le_of_ble_eq_true rfl⟩ hcs ?_
      refine p_nm h (fun σ8 h => ?_)
      refine p_ifne (tgt := 80) G dX3_readMove_71 (by decide) h (fun c12 h => ?_) (fun c12 h => ?_)
      · refine p_aload_n G rfl 0 rfl dX3_readMove_80 ?_
        obtain ⟨σ9, hc, h⟩ := bnd_some h
        refine p_callV G zl_13 dX3_readMove_81 lk_X3_64 (c_X3_advance (gl Γ) hc) (As := []) (ci := 3) rfl zk_13 (zs_x zs_13 _) rfl rfl rfl (Nat.le_of_ble_eq_true rfl) ⟨rfl, rfl, Nat.le_of_ble_eq_true rfl, Nat.le_of_ble_eq_true rfl⟩ hcs ?_
        refine p_nm h (fun σ10 h => ?_)
        refine p_iconst G rfl dX3_readMove_84 ?_
        (cases h; exact p_iret G hR dX3_readMove_85 rfl rfl)
      · refine p_aload_n G rfl 0 rfl dX3_readMove_74 ?_
        refine p_iconst G rfl dX3_readMove_75 ?_
        obtain ⟨v11, hc, h⟩ := bnd_some h
        refine p_callVr G zl_13 dX3_readMove_76 lk_X3_73 (c_X3_errorAs (gl Γ) hc) (As := [.int (zJ (4 : Int))]) (ci := 3) rfl zk_13 (zs_x zs_13 _) rfl rfl rfl (Nat.le_of_ble_eq_true rfl) ⟨rfl, rfl, Nat.le_of_ble_eq_true rfl, Nat.le_of_ble_eq_true rfl⟩ hcs ?_
        (cases h; exact p_iret G hR dX3_readMove_79 rfl rfl)
    · refine p_iload G 5 rfl dX3_readMove_60 ?_
      (cases h; exact p_iret G hR dX3_readMove_62 rfl rfl)
  have j44 : ∀ (σ_44 : Mm) (v3_44 : Int) (v4_44 : Int) (v5_44 : Int), x_X3_readMove_j44 σ_44 v3_44 v4_44 v5_44 = some o → PT Γ 6 shRMD 44 σ_44 [(0, .ref (ga Γ 0)), (1, .ref (ga Γ 3)), (2, .ref (ga Γ 8)), (3, .int (zJ v3_44)), (4, .int (zJ v4_44)), (5, .int (zJ v5_44))] [] := by
    intro σ_44 v3_44 v4_44 v5_44 h
    unfold x_X3_readMove_j44 at h
    refine p_iload G 5 rfl dX3_readMove_44 ?_
    refine p_ifne (tgt := 55) G dX3_readMove_46 (by decide) h (fun c17 h => ?_) (fun c17 h => ?_)
    · exact j55 _ _ _ _ h
    · refine p_aload_n G rfl 0 rfl dX3_readMove_49 ?_
      obtain ⟨⟨σ14, v15⟩, hc, h⟩ := bnd_some h
      rw [un2_mk] at h
      refine p_callV G zl_13 dX3_readMove_50 lk_X3_98 (c_X3_readSemicolon (gl Γ) hc) (As := []) (ci := 3) rfl zk_13 (zs_x zs_13 _) rfl rfl rfl (Nat.le_of_ble_eq_true rfl) ⟨rfl, rfl, Nat.le_of_ble_eq_true rfl, Nat.le_of_ble_eq_true rfl⟩ hcs ?_
      refine p_nm h (fun σ16 h => ?_)
      refine p_istoreU (lv' := [(5, .int (zJ v15)), (0, .ref (ga Γ 0)), (1, .ref (ga Γ 3)), (2, .ref (ga Γ 8)), (3, .int (zJ v3_44)), (4, .int (zJ v4_44))]) G dX3_readMove_53 (by decide) rfl ?_
      refine p_lv [1, 2, 3, 4, 5, 0] rfl ?_
      exact j55 _ _ _ _ h
  have j31 : ∀ (σ_31 : Mm) (v3_31 : Int), x_X3_readMove_j31 σ_31 v3_31 = some o → PT Γ 6 shRMD 31 σ_31 [(0, .ref (ga Γ 0)), (1, .ref (ga Γ 3)), (2, .ref (ga Γ 8)), (3, .int (zJ v3_31))] [] := by
    intro σ_31 v3_31 h
    unfold x_X3_readMove_j31 at h
    refine p_aload_n G rfl 0 rfl dX3_readMove_31 ?_
    refine p_aload_n G rfl 1 rfl dX3_readMove_32 ?_
    obtain ⟨⟨σ2, v3⟩, hc, h⟩ := bnd_some h
    rw [un2_mk] at h
    refine p_callV G zl_14 dX3_readMove_33 lk_X3_131 (c_X3_readHeldCard (gl Γ) hc) (As := [.ref (ga Γ 3)]) (ci := 3) rfl zk_14 (zs_x zs_14 _) rfl rfl rfl (Nat.le_of_ble_eq_true rfl) ⟨rfl, rfl, Nat.le_of_ble_eq_true rfl, Nat.le_of_ble_eq_true rfl⟩ hcs ?_
    refine p_nm h (fun σ4 h => ?_)
    refine p_istoreU (lv' := [(5, .int (zJ v3)), (0, .ref (ga Γ 0)), (1, .ref (ga Γ 3)), (2, .ref (ga Γ 8)), (3, .int (zJ v3_31))]) G dX3_readMove_36 (by decide) rfl ?_
    refine p_aload_n G rfl 1 rfl dX3_readMove_38 ?_
    refine p_get G dX3_readMove_39 fl_X3_82 (k := 0) rfl rfl ?_
    refine p_istore (lv' := fun v5 => [(4, .int (zJ v5)), (5, .int (zJ v3)), (0, .ref (ga Γ 0)), (1, .ref (ga Γ 3)), (2, .ref (ga Γ 8)), (3, .int (zJ v3_31))]) G dX3_readMove_42 h (by decide) (fun _ => rfl) (fun v5 h => ?_)
    refine p_lv [2, 3, 4, 5, 0, 1] rfl ?_
    exact j44 _ _ _ _ h
  refine p_aload_n G rfl 0 rfl dX3_readMove_0 ?_
  obtain ⟨v1, hc, h⟩ := bnd_some h
  refine p_callVr G zl_13 dX3_readMove_1 lk_X3_128 (c_X3_moveTold (gl Γ) hc) (As := []) (ci := 3) rfl zk_13 (zs_x zs_13 _) rfl rfl rfl (Nat.le_of_ble_eq_true rfl) ⟨rfl, rfl, Nat.le_of_ble_eq_true rfl, Nat.le_of_ble_eq_true rfl⟩ hcs ?_
  refine p_istore_nU (lv' := [(3, .int (zJ v1)), (0, .ref (ga Γ 0)), (1, .ref (ga Γ 3)), (2, .ref (ga Γ 8))]) G rfl dX3_readMove_4 (by decide) rfl ?_
  refine p_iload_n G rfl 0 rfl dX3_readMove_5 ?_
  refine p_ifne (tgt := 15) G dX3_readMove_6 (by decide) h (fun c21 h => ?_) (fun c21 h => ?_)
  · refine p_iconst G rfl dX3_readMove_15 ?_
    refine p_istoreU (lv' := [(4, .int (zJ (-1 : Int))), (3, .int (zJ v1)), (0, .ref (ga Γ 0)), (1, .ref (ga Γ 3)), (2, .ref (ga Γ 8))]) G dX3_readMove_16 (by decide) rfl ?_
    refine p_iconst G rfl dX3_readMove_18 ?_
    refine p_istoreU (lv' := [(5, .int (zJ (0 : Int))), (4, .int (zJ (-1 : Int))), (3, .int (zJ v1)), (0, .ref (ga Γ 0)), (1, .ref (ga Γ 3)), (2, .ref (ga Γ 8))]) G dX3_readMove_19 (by decide) rfl ?_
    refine p_iload_n G rfl 2 rfl dX3_readMove_21 ?_
    refine p_iconst G rfl dX3_readMove_22 ?_
    refine p_icmpeq (tgt := 31) G dX3_readMove_23 (by decide) h (fun c19 h => ?_) (fun c19 h => ?_)
    · refine p_lv [3, 4, 5, 2] rfl ?_
      exact j31 _ _ h
    · refine p_iload_n G rfl 2 rfl dX3_readMove_26 ?_
      refine p_iconst G rfl dX3_readMove_27 ?_
      refine p_icmpne (tgt := 44) G dX3_readMove_28 (by decide) h (fun c18 h => ?_) (fun c18 h => ?_)
      · refine p_lv [3, 4, 5, 2, 1, 0] rfl ?_
        exact j44 _ _ _ _ h
      · refine p_lv [3, 4, 5, 2] rfl ?_
        exact j31 _ _ h
  · refine p_aload_n G rfl 1 rfl dX3_readMove_9 ?_
    refine p_iconst G rfl dX3_readMove_10 ?_
    obtain ⟨v20, hc, h⟩ := bnd_some h
    refine p_callVr G zl_13 dX3_readMove_11 lk_X3_73 (c_X3_errorAs (gl Γ) hc) (As := [.int (zJ (1 : Int))]) (ci := 3) rfl zk_13 (zs_x zs_13 _) rfl rfl rfl (Nat.le_of_ble_eq_true rfl) ⟨rfl, rfl, Nat.le_of_ble_eq_true rfl, Nat.le_of_ble_eq_true rfl⟩ hcs ?_
    (cases h; exact p_iret G hR dX3_readMove_14 rfl rfl)
set_option maxHeartbeats 4000000 in
set_option maxRecDepth 100000 in
theorem c_X4_writeSign (l : Launch) {D : va_G} {yy : Nat → ClassId} {tk tv a : Nat → Nat} {σ : Mm} {p1 : Int} {o : Mm} (h : x_X4_writeSign σ p1 = some o) : CT l yX4_writeSign cX4_writeSign 2 none rm_X4_writeSign shP D yy tk tv a σ [.ref (a 0), .int (zJ p1)] o none := by
  refine ct_of (Ar := fun a tk => [.ref (a 0), .int (zJ p1)]) (by decide) (Nat.le_of_ble_eq_true rfl) (fun Γ G _ _ hR => ?_)
  have hcs := rt_cs hR
  unfold x_X4_writeSign at h
  refine (?_ : PT Γ 2 shP 0 σ [(0, .ref (ga Γ 0)), (1, .int (zJ p1))] [])
  refine p_aload_n G rfl 0 rfl dX4_writeSign_0 ?_
  refine p_get G dX4_writeSign_1 fl_X4_15 (k := 0) rfl rfl ?_
  refine p_iflt (tgt := 37) G dX4_writeSign_4 (by decide) h (fun c5 h => ?_) (fun c5 h => ?_)
  · (cases h; exact p_vret G hR dX4_writeSign_37 rfl rfl)
  · refine p_aload_n G rfl 0 rfl dX4_writeSign_7 ?_
    refine p_get G dX4_writeSign_8 fl_X4_15 (k := 0) rfl rfl ?_
    refine p_bipush G (by decide) (by decide) dX4_writeSign_11 ?_
    refine p_icmpge (tgt := 37) G dX4_writeSign_13 (by decide) h (fun c4 h => ?_) (fun c4 h => ?_)
    · (cases h; exact p_vret G hR dX4_writeSign_37 rfl rfl)
    · refine p_aload_n G rfl 0 rfl dX4_writeSign_16 ?_
      refine p_get G dX4_writeSign_17 fl_X4_11 (k := 0) rfl rfl ?_
      refine p_aload_n G rfl 0 rfl dX4_writeSign_20 ?_
      refine p_get G dX4_writeSign_21 fl_X4_15 (k := 0) rfl rfl ?_
      refine p_iload_n G rfl 1 rfl dX4_writeSign_24 ?_
      refine p_i2b G dX4_writeSign_25 ?_
      refine p_bast G dX4_writeSign_26 (k := 1) rfl (zt_c _) rfl h (fun σ1 c2 h => ?_)
      refine p_aload_n G rfl 0 rfl dX4_writeSign_27 ?_
      refine p_dup G rfl dX4_writeSign_28 ?_
      refine p_get G dX4_writeSign_29 fl_X4_15 (k := 0) rfl rfl ?_
      refine p_iconst G rfl dX4_writeSign_32 ?_
      refine p_iadd G dX4_writeSign_33 ?_
      refine p_putI G dX4_writeSign_34 fp_X4_15 (k := 0) rfl rfl rfl rfl h (fun σ3 h => ?_)
      (cases h; exact p_vret G hR dX4_writeSign_37 rfl rfl)
set_option maxHeartbeats 4000000 in
set_option maxRecDepth 100000 in
theorem c_X4_writeCard (l : Launch) {D : va_G} {yy : Nat → ClassId} {tk tv a : Nat → Nat} {σ : Mm} {p1 : Int} {o : Mm} (h : x_X4_writeCard σ p1 = some o) : CT l yX4_writeCard cX4_writeCard 4 none rm_X4_writeCard shP D yy tk tv a σ [.ref (a 0), .int (zJ p1)] o none := by
  refine ct_of (Ar := fun a tk => [.ref (a 0), .int (zJ p1)]) (by decide) (Nat.le_of_ble_eq_true rfl) (fun Γ G _ _ hR => ?_)
  have hcs := rt_cs hR
  unfold x_X4_writeCard at h
  refine (?_ : PT Γ 4 shP 0 σ [(0, .ref (ga Γ 0)), (1, .int (zJ p1))] [])
  refine p_iload_n G rfl 1 rfl dX4_writeCard_0 ?_
  refine p_bipush G (by decide) (by decide) dX4_writeCard_1 ?_
  refine p_iremK G dX4_writeCard_3 (by decide) ?_
  refine p_istore_n (lv' := fun v1 => [(2, .int (zJ v1)), (0, .ref (ga Γ 0)), (1, .int (zJ p1))]) G rfl dX4_writeCard_4 h (by decide) (fun _ => rfl) (fun v1 h => ?_)
  refine p_iload_n G rfl 2 rfl dX4_writeCard_5 ?_
  refine p_bipush G (by decide) (by decide) dX4_writeCard_6 ?_
  refine p_idivK G dX4_writeCard_8 (by decide) ?_
  refine p_istore_n (lv' := fun v2 => [(3, .int (zJ v2)), (2, .int (zJ v1)), (0, .ref (ga Γ 0)), (1, .int (zJ p1))]) G rfl dX4_writeCard_9 h (by decide) (fun _ => rfl) (fun v2 h => ?_)
  refine p_iload_n G rfl 1 rfl dX4_writeCard_10 ?_
  refine p_iflt (tgt := 56) G dX4_writeCard_11 (by decide) h (fun c12 h => ?_) (fun c12 h => ?_)
  · (cases h; exact p_vret G hR dX4_writeCard_56 rfl rfl)
  · refine p_iload_n G rfl 1 rfl dX4_writeCard_14 ?_
    refine p_ldcS G 11 (by decide) rfl rfl dX4_writeCard_15 rfl ?_
    obtain ⟨v3, hc, h⟩ := bnd_some h
    refine p_callT G (zlen_u hc) dX4_writeCard_17 lk_X4_63 (c_J_String_length (gl Γ) hc) (As := []) rfl zk_16 rfl (Nat.le_of_ble_eq_true rfl) ⟨rfl, rfl, Nat.le_of_ble_eq_true rfl, Nat.le_of_ble_eq_true rfl⟩ hcs ?_
    refine p_icmpge (tgt := 56) G dX4_writeCard_20 (by decide) h (fun c11 h => ?_) (fun c11 h => ?_)
    · (cases h; exact p_vret G hR dX4_writeCard_56 rfl rfl)
    · refine p_iload_n G rfl 0 rfl dX4_writeCard_23 ?_
      refine p_iflt (tgt := 56) G dX4_writeCard_24 (by decide) h (fun c10 h => ?_) (fun c10 h => ?_)
      · (cases h; exact p_vret G hR dX4_writeCard_56 rfl rfl)
      · refine p_iload_n G rfl 0 rfl dX4_writeCard_27 ?_
        refine p_ldcS G 12 (by decide) rfl rfl dX4_writeCard_28 rfl ?_
        obtain ⟨v4, hc, h⟩ := bnd_some h
        refine p_callT G (zlen_u hc) dX4_writeCard_30 lk_X4_63 (c_J_String_length (gl Γ) hc) (As := []) rfl zk_16 rfl (Nat.le_of_ble_eq_true rfl) ⟨rfl, rfl, Nat.le_of_ble_eq_true rfl, Nat.le_of_ble_eq_true rfl⟩ hcs ?_
        refine p_icmpge (tgt := 56) G dX4_writeCard_33 (by decide) h (fun c9 h => ?_) (fun c9 h => ?_)
        · (cases h; exact p_vret G hR dX4_writeCard_56 rfl rfl)
        · refine p_aload_n G rfl 2 rfl dX4_writeCard_36 ?_
          refine p_ldcS G 11 (by decide) rfl rfl dX4_writeCard_37 rfl ?_
          refine p_iload_n G rfl 1 rfl dX4_writeCard_39 ?_
          obtain ⟨v5, hc, h⟩ := bnd_some h
          refine p_callT G (zchr_u hc) dX4_writeCard_40 lk_X4_70 (c_J_String_charAt (gl Γ) hc) (As := [.int (zJ v1)]) rfl zk_16 rfl (Nat.le_of_ble_eq_true rfl) ⟨rfl, rfl, Nat.le_of_ble_eq_true rfl, Nat.le_of_ble_eq_true rfl⟩ hcs ?_
          obtain ⟨σ6, hc, h⟩ := bnd_some h
          refine p_callVi G dX4_writeCard_43 lk_X4_24 (c_X4_writeSign (gl Γ) hc) (As := [.int (zJ v5)]) (ci := 4) rfl rfl rfl rfl (Nat.le_of_ble_eq_true rfl) ⟨rfl, rfl, Nat.le_of_ble_eq_true rfl, Nat.le_of_ble_eq_true rfl⟩ hcs ?_
          refine p_aload_n G rfl 2 rfl dX4_writeCard_46 ?_
          refine p_ldcS G 12 (by decide) rfl rfl dX4_writeCard_47 rfl ?_
          refine p_iload_n G rfl 0 rfl dX4_writeCard_49 ?_
          obtain ⟨v7, hc, h⟩ := bnd_some h
          refine p_callT G (zchr_u hc) dX4_writeCard_50 lk_X4_70 (c_J_String_charAt (gl Γ) hc) (As := [.int (zJ v2)]) rfl zk_16 rfl (Nat.le_of_ble_eq_true rfl) ⟨rfl, rfl, Nat.le_of_ble_eq_true rfl, Nat.le_of_ble_eq_true rfl⟩ hcs ?_
          obtain ⟨σ8, hc, h⟩ := bnd_some h
          refine p_callVi G dX4_writeCard_53 lk_X4_24 (c_X4_writeSign (gl Γ) hc) (As := [.int (zJ v7)]) (ci := 4) rfl rfl rfl rfl (Nat.le_of_ble_eq_true rfl) ⟨rfl, rfl, Nat.le_of_ble_eq_true rfl, Nat.le_of_ble_eq_true rfl⟩ hcs ?_
          (cases h; exact p_vret G hR dX4_writeCard_56 rfl rfl)
set_option maxHeartbeats 4000000 in
set_option maxRecDepth 100000 in
theorem c_X4_writeCards (l : Launch) {D : va_G} {yy : Nat → ClassId} {tk tv a : Nat → Nat} {σ : Mm} {p1 : Int64} {p3 : Int} {o : Mm} (h : x_X4_writeCards σ p1 p3 = some o) : CT l yX4_writeCards cX4_writeCards 7 none rm_X4_writeCards shP D yy tk tv a σ [.ref (a 0), .long p1, .int (zJ p3)] o none := by
  refine ct_of (Ar := fun a tk => [.ref (a 0), .long p1, .int (zJ p3)]) (by decide) (Nat.le_of_ble_eq_true rfl) (fun Γ G _ _ hR => ?_)
  have hcs := rt_cs hR
  unfold x_X4_writeCards at h
  refine (?_ : PT Γ 7 shP 0 σ [(0, .ref (ga Γ 0)), (1, .long p1), (3, .int (zJ p3))] [])
  refine p_iconst G rfl dX4_writeCards_0 ?_
  refine p_istoreU (lv' := [(4, .int (zJ (0 : Int))), (0, .ref (ga Γ 0)), (1, .long p1), (3, .int (zJ p3))]) G dX4_writeCards_1 (by decide) rfl ?_
  refine p_iconst G rfl dX4_writeCards_3 ?_
  refine p_istoreU (lv' := [(5, .int (zJ (0 : Int))), (4, .int (zJ (0 : Int))), (0, .ref (ga Γ 0)), (1, .long p1), (3, .int (zJ p3))]) G dX4_writeCards_4 (by decide) rfl ?_
  refine p_lv [2, 3, 4, 1, 0] rfl ?_
  obtain ⟨e13, hl6, h⟩ := bnd_some h
  have hX6_57 : ∀ (σ14 : Mm), σ14 = e13 → PT Γ 7 shP 57 σ14 [] [] := by
    intro σ14 he
    subst he
    (cases h; exact p_vret G hR dX4_writeCards_57 rfl rfl)
  refine lup_walk (s := (σ, (0 : Int), (0 : Int))) (At := fun s : Mm × Int × Int => PT Γ 7 shP 6 s.1 [(0, .ref (ga Γ 0)), (1, .long p1), (3, .int (zJ p3)), (4, .int (zJ s.2.1)), (5, .int (zJ s.2.2))] []) (fun s r hf hin6 hout6 => ?_) hl6
  obtain ⟨σ6, u4_6, u5_6⟩ := s
  have h : x_X4_writeCards_b6 p1 p3 σ6 u4_6 u5_6 = some r := hf
  clear hf
  unfold x_X4_writeCards_b6 at h
  refine (?_ : PT Γ 7 shP 6 σ6 [(0, .ref (ga Γ 0)), (1, .long p1), (3, .int (zJ p3)), (4, .int (zJ u4_6)), (5, .int (zJ u5_6))] [])
  refine p_iload G 4 rfl dX4_writeCards_6 ?_
  refine p_bipush G (by decide) (by decide) dX4_writeCards_8 ?_
  refine p_icmpge (tgt := 57) G dX4_writeCards_10 (by decide) h (fun c11 h => ?_) (fun c11 h => ?_)
  · refine p_lv [] rfl ?_
    have he := hout6 _ (Option.some.inj h).symm
    subst he
    exact hX6_57 _ rfl
  · refine p_iload_n G rfl 2 rfl dX4_writeCards_13 ?_
    refine p_iload G 4 rfl dX4_writeCards_14 ?_
    refine p_iadd G dX4_writeCards_16 ?_
    refine p_bipush G (by decide) (by decide) dX4_writeCards_17 ?_
    refine p_iremK G dX4_writeCards_19 (by decide) ?_
    refine p_istore (lv' := fun v1 => [(6, .int (zJ v1)), (0, .ref (ga Γ 0)), (1, .long p1), (3, .int (zJ p3)), (4, .int (zJ u4_6)), (5, .int (zJ u5_6))]) G dX4_writeCards_20 h (by decide) (fun _ => rfl) (fun v1 h => ?_)
    refine p_lload_n G rfl 2 rfl dX4_writeCards_22 ?_
    refine p_iload G 0 rfl dX4_writeCards_23 ?_
    obtain ⟨v2, hc, h⟩ := bnd_some h
    refine p_callS0 G dX4_writeCards_25 lk_X4_54 (c_X6_has (gl Γ) hc) (As := [.long p1, .int (zJ v1)]) rfl zk_16 rfl (Nat.le_of_ble_eq_true rfl) ⟨rfl, rfl, Nat.le_of_ble_eq_true rfl, Nat.le_of_ble_eq_true rfl⟩ hcs ?_
    refine p_ifeq (tgt := 51) G dX4_writeCards_28 (by decide) h (fun c10 h => ?_) (fun c10 h => ?_)
    · refine p_iinc (lv' := fun v3 => [(5, .int (zJ v3)), (6, .int (zJ v1)), (0, .ref (ga Γ 0)), (1, .long p1), (3, .int (zJ p3)), (4, .int (zJ u4_6))]) G dX4_writeCards_51 h 5 rfl (by decide) (fun _ => rfl) (fun v3 h => ?_)
      refine p_goto (tgt := 6) G dX4_writeCards_54 (by decide) ?_
      refine p_lv [2, 3, 4, 5, 0] rfl ?_
      exact hin6 _ (Option.some.inj h).symm
    · refine p_iload G 4 rfl dX4_writeCards_31 ?_
      refine p_ifeq (tgt := 42) G dX4_writeCards_33 (by decide) h (fun c9 h => ?_) (fun c9 h => ?_)
      · refine p_aload_n G rfl 1 rfl dX4_writeCards_42 ?_
        refine p_iload G 0 rfl dX4_writeCards_43 ?_
        obtain ⟨σ4, hc, h⟩ := bnd_some h
        refine p_callVi G dX4_writeCards_45 lk_X4_58 (c_X4_writeCard (gl Γ) hc) (As := [.int (zJ v1)]) (ci := 4) rfl rfl rfl rfl (Nat.le_of_ble_eq_true rfl) ⟨rfl, rfl, Nat.le_of_ble_eq_true rfl, Nat.le_of_ble_eq_true rfl⟩ hcs ?_
        refine p_iconst G rfl dX4_writeCards_48 ?_
        refine p_istoreU (lv' := [(4, .int (zJ (1 : Int))), (6, .int (zJ v1)), (0, .ref (ga Γ 0)), (1, .long p1), (3, .int (zJ p3)), (5, .int (zJ u5_6))]) G dX4_writeCards_49 (by decide) rfl ?_
        refine p_iinc (lv' := fun v5 => [(5, .int (zJ v5)), (4, .int (zJ (1 : Int))), (6, .int (zJ v1)), (0, .ref (ga Γ 0)), (1, .long p1), (3, .int (zJ p3))]) G dX4_writeCards_51 h 5 rfl (by decide) (fun _ => rfl) (fun v5 h => ?_)
        refine p_goto (tgt := 6) G dX4_writeCards_54 (by decide) ?_
        refine p_lv [3, 4, 5, 1, 0] rfl ?_
        exact hin6 _ (Option.some.inj h).symm
      · refine p_aload_n G rfl 1 rfl dX4_writeCards_36 ?_
        refine p_bipush G (by decide) (by decide) dX4_writeCards_37 ?_
        obtain ⟨σ6, hc, h⟩ := bnd_some h
        refine p_callVi G dX4_writeCards_39 lk_X4_24 (c_X4_writeSign (gl Γ) hc) (As := [.int (zJ (44 : Int))]) (ci := 4) rfl rfl rfl rfl (Nat.le_of_ble_eq_true rfl) ⟨rfl, rfl, Nat.le_of_ble_eq_true rfl, Nat.le_of_ble_eq_true rfl⟩ hcs ?_
        refine p_aload_n G rfl 1 rfl dX4_writeCards_42 ?_
        refine p_iload G 0 rfl dX4_writeCards_43 ?_
        obtain ⟨σ7, hc, h⟩ := bnd_some h
        refine p_callVi G dX4_writeCards_45 lk_X4_58 (c_X4_writeCard (gl Γ) hc) (As := [.int (zJ v1)]) (ci := 4) rfl rfl rfl rfl (Nat.le_of_ble_eq_true rfl) ⟨rfl, rfl, Nat.le_of_ble_eq_true rfl, Nat.le_of_ble_eq_true rfl⟩ hcs ?_
        refine p_iconst G rfl dX4_writeCards_48 ?_
        refine p_istoreU (lv' := [(4, .int (zJ (1 : Int))), (6, .int (zJ v1)), (0, .ref (ga Γ 0)), (1, .long p1), (3, .int (zJ p3)), (5, .int (zJ u5_6))]) G dX4_writeCards_49 (by decide) rfl ?_
        refine p_iinc (lv' := fun v8 => [(5, .int (zJ v8)), (4, .int (zJ (1 : Int))), (6, .int (zJ v1)), (0, .ref (ga Γ 0)), (1, .long p1), (3, .int (zJ p3))]) G dX4_writeCards_51 h 5 rfl (by decide) (fun _ => rfl) (fun v8 h => ?_)
        refine p_goto (tgt := 6) G dX4_writeCards_54 (by decide) ?_
        refine p_lv [3, 4, 5, 1, 0] rfl ?_
        exact hin6 _ (Option.some.inj h).symm
set_option maxHeartbeats 4000000 in
set_option maxRecDepth 100000 in
theorem c_X4_writeMeld (l : Launch) {D : va_G} {yy : Nat → ClassId} {tk tv a : Nat → Nat} {σ : Mm} {p1 : Int64} {o : Mm} (h : x_X4_writeMeld σ p1 = some o) : CT l yX4_writeMeld cX4_writeMeld 3 none rm_X4_writeMeld shP D yy tk tv a σ [.ref (a 0), .long p1] o none := by
  refine ct_of (Ar := fun a tk => [.ref (a 0), .long p1]) (by decide) (Nat.le_of_ble_eq_true rfl) (fun Γ G _ _ hR => ?_)
  have hcs := rt_cs hR
  unfold x_X4_writeMeld at h
  refine (?_ : PT Γ 3 shP 0 σ [(0, .ref (ga Γ 0)), (1, .long p1)] [])
  refine p_aload_n G rfl 0 rfl dX4_writeMeld_0 ?_
  refine p_lload_n G rfl 1 rfl dX4_writeMeld_1 ?_
  refine p_lload_n G rfl 1 rfl dX4_writeMeld_2 ?_
  obtain ⟨v1, hc, h⟩ := bnd_some h
  refine p_callS0 G dX4_writeMeld_3 lk_X4_48 (c_X6_kindOf (gl Γ) hc) (As := [.long p1]) rfl zk_16 rfl (Nat.le_of_ble_eq_true rfl) ⟨rfl, rfl, Nat.le_of_ble_eq_true rfl, Nat.le_of_ble_eq_true rfl⟩ hcs ?_
  refine p_iconst G rfl dX4_writeMeld_6 ?_
  refine p_icmpne (tgt := 17) G dX4_writeMeld_7 (by decide) h (fun c6 h => ?_) (fun c6 h => ?_)
  · refine p_lload_n G rfl 1 rfl dX4_writeMeld_17 ?_
    obtain ⟨v2, hc, h⟩ := bnd_some h
    refine p_callS0 G dX4_writeMeld_18 lk_X4_40 (c_X6_lowestOf (gl Γ) hc) (As := [.long p1]) rfl zk_16 rfl (Nat.le_of_ble_eq_true rfl) ⟨rfl, rfl, Nat.le_of_ble_eq_true rfl, Nat.le_of_ble_eq_true rfl⟩ hcs ?_
    obtain ⟨σ3, hc, h⟩ := bnd_some h
    refine p_callVi G dX4_writeMeld_21 lk_X4_44 (c_X4_writeCards (gl Γ) hc) (As := [.long p1, .int (zJ v2)]) (ci := 4) rfl rfl rfl rfl (Nat.le_of_ble_eq_true rfl) ⟨rfl, rfl, Nat.le_of_ble_eq_true rfl, Nat.le_of_ble_eq_true rfl⟩ hcs ?_
    (cases h; exact p_vret G hR dX4_writeMeld_24 rfl rfl)
  · refine p_lload_n G rfl 1 rfl dX4_writeMeld_10 ?_
    obtain ⟨v4, hc, h⟩ := bnd_some h
    refine p_callS0 G dX4_writeMeld_11 lk_X4_51 (c_X6_firstOf (gl Γ) hc) (As := [.long p1]) rfl zk_16 rfl (Nat.le_of_ble_eq_true rfl) ⟨rfl, rfl, Nat.le_of_ble_eq_true rfl, Nat.le_of_ble_eq_true rfl⟩ hcs ?_
    refine p_goto (tgt := 21) G dX4_writeMeld_14 (by decide) ?_
    obtain ⟨σ5, hc, h⟩ := bnd_some h
    refine p_callVi G dX4_writeMeld_21 lk_X4_44 (c_X4_writeCards (gl Γ) hc) (As := [.long p1, .int (zJ v4)]) (ci := 4) rfl rfl rfl rfl (Nat.le_of_ble_eq_true rfl) ⟨rfl, rfl, Nat.le_of_ble_eq_true rfl, Nat.le_of_ble_eq_true rfl⟩ hcs ?_
    (cases h; exact p_vret G hR dX4_writeMeld_24 rfl rfl)
set_option maxHeartbeats 4000000 in
set_option maxRecDepth 100000 in
theorem c_X4_write (l : Launch) {D : va_G} {yy : Nat → ClassId} {tk tv a : Nat → Nat} {σ : Mm} {o : Mm} (h : x_X4_write σ = some o) : CT l yX4_write cX4_write 3 none rm_X4_write shPL D yy tk tv a σ [.ref (a 0), .ref (a 2)] o none := by
  refine ct_of (Ar := fun a tk => [.ref (a 0), .ref (a 2)]) (by decide) (Nat.le_of_ble_eq_true rfl) (fun Γ G _ _ hR => ?_)
  have hcs := rt_cs hR
  unfold x_X4_write at h
  refine (?_ : PT Γ 3 shPL 0 σ [(0, .ref (ga Γ 0)), (1, .ref (ga Γ 2))] [])
  refine p_aload_n G rfl 0 rfl dX4_write_0 ?_
  refine p_iconst G rfl dX4_write_1 ?_
  refine p_putI G dX4_write_2 fp_X4_15 (k := 0) rfl rfl rfl rfl h (fun σ1 h => ?_)
  refine p_iconst G rfl dX4_write_5 ?_
  refine p_istore_nU (lv' := [(2, .int (zJ (0 : Int))), (0, .ref (ga Γ 0)), (1, .ref (ga Γ 2))]) G rfl dX4_write_6 (by decide) rfl ?_
  refine p_lv [1, 2, 0] rfl ?_
  obtain ⟨e15, hl7, h⟩ := bnd_some h
  have hX7_40 : ∀ (σ16 : Mm), σ16 = e15 → PT Γ 3 shPL 40 σ16 [(0, .ref (ga Γ 0)), (1, .ref (ga Γ 2))] [] := by
    intro σ16 he
    subst he
    refine p_aload_n G rfl 1 rfl dX4_write_40 ?_
    refine p_get G dX4_write_41 fl_X4_36 (k := 2) rfl rfl ?_
    refine p_lconst G (v := 0) (by decide) dX4_write_44 ?_
    refine p_lcmp G dX4_write_45 ?_
    refine p_ifeq (tgt := 83) G dX4_write_46 (by decide) h (fun c30 h => ?_) (fun c30 h => ?_)
    · (cases h; exact p_vret G hR dX4_write_83 rfl rfl)
    · refine p_aload_n G rfl 0 rfl dX4_write_49 ?_
      refine p_get G dX4_write_50 fl_X4_15 (k := 0) rfl rfl ?_
      refine p_ifle (tgt := 62) G dX4_write_53 (by decide) h (fun c29 h => ?_) (fun c29 h => ?_)
      · refine p_aload_n G rfl 0 rfl dX4_write_62 ?_
        refine p_bipush G (by decide) (by decide) dX4_write_63 ?_
        obtain ⟨σ17, hc, h⟩ := bnd_some h
        refine p_callV G zl_18 dX4_write_65 lk_X4_24 (c_X4_writeSign (gl Γ) hc) (As := [.int (zJ (45 : Int))]) (ci := 4) rfl zk_18 (zs_x zs_18 _) rfl rfl rfl (Nat.le_of_ble_eq_true rfl) ⟨rfl, rfl, Nat.le_of_ble_eq_true rfl, Nat.le_of_ble_eq_true rfl⟩ hcs ?_
        refine p_nm h (fun σ18 h => ?_)
        refine p_aload_n G rfl 0 rfl dX4_write_68 ?_
        refine p_aload_n G rfl 1 rfl dX4_write_69 ?_
        refine p_get G dX4_write_70 fl_X4_36 (k := 2) rfl rfl ?_
        refine p_aload_n G rfl 1 rfl dX4_write_73 ?_
        refine p_get G dX4_write_74 fl_X4_36 (k := 2) rfl rfl ?_
        obtain ⟨v19, hc, h⟩ := bnd_some h
        refine p_callS0 G dX4_write_77 lk_X4_40 (c_X6_lowestOf (gl Γ) hc) (As := [.long (zL (σ18 2 9))]) rfl zk_19 rfl (Nat.le_of_ble_eq_true rfl) ⟨rfl, rfl, Nat.le_of_ble_eq_true rfl, Nat.le_of_ble_eq_true rfl⟩ hcs ?_
        obtain ⟨σ20, hc, h⟩ := bnd_some h
        refine p_callV G zl_18 dX4_write_80 lk_X4_44 (c_X4_writeCards (gl Γ) hc) (As := [.long (zL (σ18 2 9)), .int (zJ v19)]) (ci := 4) rfl zk_18 (zs_x zs_18 _) rfl rfl rfl (Nat.le_of_ble_eq_true rfl) ⟨rfl, rfl, Nat.le_of_ble_eq_true rfl, Nat.le_of_ble_eq_true rfl⟩ hcs ?_
        refine p_nm h (fun σ21 h => ?_)
        (cases h; exact p_vret G hR dX4_write_83 rfl rfl)
      · refine p_aload_n G rfl 0 rfl dX4_write_56 ?_
        refine p_bipush G (by decide) (by decide) dX4_write_57 ?_
        obtain ⟨σ22, hc, h⟩ := bnd_some h
        refine p_callV G zl_18 dX4_write_59 lk_X4_24 (c_X4_writeSign (gl Γ) hc) (As := [.int (zJ (32 : Int))]) (ci := 4) rfl zk_18 (zs_x zs_18 _) rfl rfl rfl (Nat.le_of_ble_eq_true rfl) ⟨rfl, rfl, Nat.le_of_ble_eq_true rfl, Nat.le_of_ble_eq_true rfl⟩ hcs ?_
        refine p_nm h (fun σ23 h => ?_)
        refine p_aload_n G rfl 0 rfl dX4_write_62 ?_
        refine p_bipush G (by decide) (by decide) dX4_write_63 ?_
        obtain ⟨σ24, hc, h⟩ := bnd_some h
        refine p_callV G zl_18 dX4_write_65 lk_X4_24 (c_X4_writeSign (gl Γ) hc) (As := [.int (zJ (45 : Int))]) (ci := 4) rfl zk_18 (zs_x zs_18 _) rfl rfl rfl (Nat.le_of_ble_eq_true rfl) ⟨rfl, rfl, Nat.le_of_ble_eq_true rfl, Nat.le_of_ble_eq_true rfl⟩ hcs ?_
        refine p_nm h (fun σ25 h => ?_)
        refine p_aload_n G rfl 0 rfl dX4_write_68 ?_
        refine p_aload_n G rfl 1 rfl dX4_write_69 ?_
        refine p_get G dX4_write_70 fl_X4_36 (k := 2) rfl rfl ?_
        refine p_aload_n G rfl 1 rfl dX4_write_73 ?_
        refine p_get G dX4_write_74 fl_X4_36 (k := 2) rfl rfl ?_
        obtain ⟨v26, hc, h⟩ := bnd_some h
        refine p_callS0 G dX4_write_77 lk_X4_40 (c_X6_lowestOf (gl Γ) hc) (As := [.long (zL (σ25 2 9))]) rfl zk_19 rfl (Nat.le_of_ble_eq_true rfl) ⟨rfl, rfl, Nat.le_of_ble_eq_true rfl, Nat.le_of_ble_eq_true rfl⟩ hcs ?_
        obtain ⟨σ27, hc, h⟩ := bnd_some h
        refine p_callV G zl_18 dX4_write_80 lk_X4_44 (c_X4_writeCards (gl Γ) hc) (As := [.long (zL (σ25 2 9)), .int (zJ v26)]) (ci := 4) rfl zk_18 (zs_x zs_18 _) rfl rfl rfl (Nat.le_of_ble_eq_true rfl) ⟨rfl, rfl, Nat.le_of_ble_eq_true rfl, Nat.le_of_ble_eq_true rfl⟩ hcs ?_
        refine p_nm h (fun σ28 h => ?_)
        (cases h; exact p_vret G hR dX4_write_83 rfl rfl)
  refine lup_walk (s := (σ1, (0 : Int))) (At := fun s : Mm × Int => PT Γ 3 shPL 7 s.1 [(0, .ref (ga Γ 0)), (1, .ref (ga Γ 2)), (2, .int (zJ s.2))] []) (fun s r hf hin7 hout7 => ?_) hl7
  obtain ⟨σ7, u2_7⟩ := s
  have h : x_X4_write_b7 σ7 u2_7 = some r := hf
  clear hf
  unfold x_X4_write_b7 at h
  refine (?_ : PT Γ 3 shPL 7 σ7 [(0, .ref (ga Γ 0)), (1, .ref (ga Γ 2)), (2, .int (zJ u2_7))] [])
  refine p_iload_n G rfl 2 rfl dX4_write_7 ?_
  refine p_aload_n G rfl 1 rfl dX4_write_8 ?_
  refine p_get G dX4_write_9 fl_X4_19 (k := 2) rfl rfl ?_
  refine p_icmpge (tgt := 40) G dX4_write_12 (by decide) h (fun c13 h => ?_) (fun c13 h => ?_)
  · refine p_lv [0, 1] rfl ?_
    have he := hout7 _ (Option.some.inj h).symm
    subst he
    exact hX7_40 _ rfl
  · refine p_iload_n G rfl 2 rfl dX4_write_15 ?_
    refine p_ifle (tgt := 25) G dX4_write_16 (by decide) h (fun c12 h => ?_) (fun c12 h => ?_)
    · refine p_aload_n G rfl 0 rfl dX4_write_25 ?_
      refine p_aload_n G rfl 1 rfl dX4_write_26 ?_
      refine p_iload_n G rfl 2 rfl dX4_write_27 ?_
      obtain ⟨v2, hc, h⟩ := bnd_some h
      refine p_callVr G zl_17 dX4_write_28 lk_X4_28 (c_X1_foundAt (gl Γ) hc) (As := [.int (zJ u2_7)]) (ci := 1) rfl zk_17 (zs_x zs_17 _) rfl rfl rfl (Nat.le_of_ble_eq_true rfl) ⟨rfl, rfl, Nat.le_of_ble_eq_true rfl, Nat.le_of_ble_eq_true rfl⟩ hcs ?_
      obtain ⟨σ3, hc, h⟩ := bnd_some h
      refine p_callV G zl_18 dX4_write_31 lk_X4_32 (c_X4_writeMeld (gl Γ) hc) (As := [.long v2]) (ci := 4) rfl zk_18 (zs_x zs_18 _) rfl rfl rfl (Nat.le_of_ble_eq_true rfl) ⟨rfl, rfl, Nat.le_of_ble_eq_true rfl, Nat.le_of_ble_eq_true rfl⟩ hcs ?_
      refine p_nm h (fun σ4 h => ?_)
      refine p_iinc (lv' := fun v5 => [(2, .int (zJ v5)), (0, .ref (ga Γ 0)), (1, .ref (ga Γ 2))]) G dX4_write_34 h 2 rfl (by decide) (fun _ => rfl) (fun v5 h => ?_)
      refine p_goto (tgt := 7) G dX4_write_37 (by decide) ?_
      refine p_lv [1, 2, 0] rfl ?_
      exact hin7 _ (Option.some.inj h).symm
    · refine p_aload_n G rfl 0 rfl dX4_write_19 ?_
      refine p_bipush G (by decide) (by decide) dX4_write_20 ?_
      obtain ⟨σ6, hc, h⟩ := bnd_some h
      refine p_callV G zl_18 dX4_write_22 lk_X4_24 (c_X4_writeSign (gl Γ) hc) (As := [.int (zJ (32 : Int))]) (ci := 4) rfl zk_18 (zs_x zs_18 _) rfl rfl rfl (Nat.le_of_ble_eq_true rfl) ⟨rfl, rfl, Nat.le_of_ble_eq_true rfl, Nat.le_of_ble_eq_true rfl⟩ hcs ?_
      refine p_nm h (fun σ7 h => ?_)
      refine p_aload_n G rfl 0 rfl dX4_write_25 ?_
      refine p_aload_n G rfl 1 rfl dX4_write_26 ?_
      refine p_iload_n G rfl 2 rfl dX4_write_27 ?_
      obtain ⟨v8, hc, h⟩ := bnd_some h
      refine p_callVr G zl_17 dX4_write_28 lk_X4_28 (c_X1_foundAt (gl Γ) hc) (As := [.int (zJ u2_7)]) (ci := 1) rfl zk_17 (zs_x zs_17 _) rfl rfl rfl (Nat.le_of_ble_eq_true rfl) ⟨rfl, rfl, Nat.le_of_ble_eq_true rfl, Nat.le_of_ble_eq_true rfl⟩ hcs ?_
      obtain ⟨σ9, hc, h⟩ := bnd_some h
      refine p_callV G zl_18 dX4_write_31 lk_X4_32 (c_X4_writeMeld (gl Γ) hc) (As := [.long v8]) (ci := 4) rfl zk_18 (zs_x zs_18 _) rfl rfl rfl (Nat.le_of_ble_eq_true rfl) ⟨rfl, rfl, Nat.le_of_ble_eq_true rfl, Nat.le_of_ble_eq_true rfl⟩ hcs ?_
      refine p_nm h (fun σ10 h => ?_)
      refine p_iinc (lv' := fun v11 => [(2, .int (zJ v11)), (0, .ref (ga Γ 0)), (1, .ref (ga Γ 2))]) G dX4_write_34 h 2 rfl (by decide) (fun _ => rfl) (fun v11 h => ?_)
      refine p_goto (tgt := 7) G dX4_write_37 (by decide) ?_
      refine p_lv [1, 2, 0] rfl ?_
      exact hin7 _ (Option.some.inj h).symm
set_option maxHeartbeats 4000000 in
set_option maxRecDepth 100000 in
theorem c_X4_signAt (l : Launch) {D : va_G} {yy : Nat → ClassId} {tk tv a : Nat → Nat} {σ : Mm} {p1 : Int} {o : Int} (h : x_X4_signAt σ p1 = some o) : CT l yX4_signAt cX4_signAt 2 (some .int) rm_X4_signAt shP D yy tk tv a σ [.ref (a 0), .int (zJ p1)] σ (some (.int (zJ o))) := by
  refine ct_of (Ar := fun a tk => [.ref (a 0), .int (zJ p1)]) (by decide) (Nat.le_of_ble_eq_true rfl) (fun Γ G _ _ hR => ?_)
  have hcs := rt_cs hR
  unfold x_X4_signAt at h
  refine (?_ : PT Γ 2 shP 0 σ [(0, .ref (ga Γ 0)), (1, .int (zJ p1))] [])
  refine p_iload_n G rfl 1 rfl dX4_signAt_0 ?_
  refine p_iflt (tgt := 27) G dX4_signAt_1 (by decide) h (fun c4 h => ?_) (fun c4 h => ?_)
  · refine p_iconst G rfl dX4_signAt_27 ?_
    (cases h; exact p_iret G hR dX4_signAt_28 rfl rfl)
  · refine p_iload_n G rfl 1 rfl dX4_signAt_4 ?_
    refine p_aload_n G rfl 0 rfl dX4_signAt_5 ?_
    refine p_get G dX4_signAt_6 fl_X4_15 (k := 0) rfl rfl ?_
    refine p_icmpge (tgt := 27) G dX4_signAt_9 (by decide) h (fun c3 h => ?_) (fun c3 h => ?_)
    · refine p_iconst G rfl dX4_signAt_27 ?_
      (cases h; exact p_iret G hR dX4_signAt_28 rfl rfl)
    · refine p_iload_n G rfl 1 rfl dX4_signAt_12 ?_
      refine p_bipush G (by decide) (by decide) dX4_signAt_13 ?_
      refine p_icmpge (tgt := 27) G dX4_signAt_15 (by decide) h (fun c2 h => ?_) (fun c2 h => ?_)
      · refine p_iconst G rfl dX4_signAt_27 ?_
        (cases h; exact p_iret G hR dX4_signAt_28 rfl rfl)
      · refine p_aload_n G rfl 0 rfl dX4_signAt_18 ?_
        refine p_get G dX4_signAt_19 fl_X4_11 (k := 0) rfl rfl ?_
        refine p_iload_n G rfl 1 rfl dX4_signAt_22 ?_
        refine p_bald G dX4_signAt_23 (k := 1) rfl (zt_c _) h (fun c1 h => ?_)
        refine p_goto (tgt := 28) G dX4_signAt_24 (by decide) ?_
        (cases h; exact p_iret G hR dX4_signAt_28 rfl rfl)
set_option maxHeartbeats 4000000 in
set_option maxRecDepth 100000 in
theorem c_X6_requireHeld (l : Launch) {D : va_G} {yy : Nat → ClassId} {tk tv a : Nat → Nat} {σ : Mm} {p1 : Int} {p2 : Int} {o : Unit} (h : x_X6_requireHeld σ p1 p2 = some (.inl o)) : CT l yX6_requireHeld cX6_requireHeld 3 none rm_X6_requireHeld shX D yy tk tv a σ [.ref (a 0), .int (zJ p1), .int (zJ p2)] σ none := by
  refine ct_of (Ar := fun a tk => [.ref (a 0), .int (zJ p1), .int (zJ p2)]) (by decide) (Nat.le_of_ble_eq_true rfl) (fun Γ G _ _ hR => ?_)
  have hcs := rt_cs hR
  unfold x_X6_requireHeld at h
  refine (?_ : PT Γ 3 shX 0 σ [(0, .ref (ga Γ 0)), (1, .int (zJ p1)), (2, .int (zJ p2))] [])
  refine p_aload_n G rfl 0 rfl dX6_requireHeld_0 ?_
  refine p_get G dX6_requireHeld_1 fl_X6_12 (k := 0) rfl rfl ?_
  refine p_iload_n G rfl 1 rfl dX6_requireHeld_4 ?_
  obtain ⟨v1, hc, h⟩ := bnd_some h
  refine p_callVr G zl_20 dX6_requireHeld_5 lk_X6_219 (c_X2_handOf (gl Γ) hc) (As := [.int (zJ p1)]) (ci := 2) rfl zk_20 (zs_x zs_20 _) rfl rfl rfl (Nat.le_of_ble_eq_true rfl) ⟨rfl, rfl, Nat.le_of_ble_eq_true rfl, Nat.le_of_ble_eq_true rfl⟩ hcs ?_
  refine p_iload_n G rfl 2 rfl dX6_requireHeld_8 ?_
  obtain ⟨v2, hc, h⟩ := bnd_some h
  refine p_callS0 G dX6_requireHeld_9 lk_X6_271 (c_X6_has (gl Γ) hc) (As := [.long v1, .int (zJ p2)]) rfl zk_21 rfl (Nat.le_of_ble_eq_true rfl) ⟨rfl, rfl, Nat.le_of_ble_eq_true rfl, Nat.le_of_ble_eq_true rfl⟩ hcs ?_
  refine p_ifne (tgt := 26) G dX6_requireHeld_12 (by decide) h (fun c3 h => ?_) (fun c3 h => ?_)
  · (cases h; exact p_vret G hR dX6_requireHeld_26 rfl rfl)
  · cases h
set_option maxHeartbeats 4000000 in
set_option maxRecDepth 100000 in
theorem c_X6_isWithin (l : Launch) {D : va_G} {yy : Nat → ClassId} {tk tv a : Nat → Nat} {σ : Mm} {p0 : Int} {p1 : Int} {p2 : Int} {o : Int} (h : x_X6_isWithin p0 p1 p2 = some o) : CT l yX6_isWithin cX6_isWithin 3 (some .boolean) rm_X6_isWithin shN D yy tk tv a σ [.int (zJ p0), .int (zJ p1), .int (zJ p2)] σ (some (.int (zJ o))) := by
  refine ct_of (Ar := fun a tk => [.int (zJ p0), .int (zJ p1), .int (zJ p2)]) (by decide) (Nat.le_of_ble_eq_true rfl) (fun Γ G _ _ hR => ?_)
  have hcs := rt_cs hR
  unfold x_X6_isWithin at h
  refine (?_ : PT Γ 3 shN 0 σ [(0, .int (zJ p0)), (1, .int (zJ p1)), (2, .int (zJ p2))] [])
  refine p_iload_n G rfl 0 rfl dX6_isWithin_0 ?_
  refine p_iload_n G rfl 1 rfl dX6_isWithin_1 ?_
  refine p_icmplt (tgt := 14) G dX6_isWithin_2 (by decide) h (fun c2 h => ?_) (fun c2 h => ?_)
  · refine p_iconst G rfl dX6_isWithin_14 ?_
    (cases h; exact p_zret G hR dX6_isWithin_15 (by decide) rfl rfl)
  · refine p_iload_n G rfl 0 rfl dX6_isWithin_5 ?_
    refine p_iload_n G rfl 2 rfl dX6_isWithin_6 ?_
    refine p_icmpgt (tgt := 14) G dX6_isWithin_7 (by decide) h (fun c1 h => ?_) (fun c1 h => ?_)
    · refine p_iconst G rfl dX6_isWithin_14 ?_
      (cases h; exact p_zret G hR dX6_isWithin_15 (by decide) rfl rfl)
    · refine p_iconst G rfl dX6_isWithin_10 ?_
      refine p_goto (tgt := 15) G dX6_isWithin_11 (by decide) ?_
      (cases h; exact p_zret G hR dX6_isWithin_15 (by decide) rfl rfl)
set_option maxHeartbeats 4000000 in
set_option maxRecDepth 100000 in
theorem c_X6_require (l : Launch) {D : va_G} {yy : Nat → ClassId} {tk tv a : Nat → Nat} {σ : Mm} {p0 : Int} {o : Unit} (h : x_X6_require p0 = some (.inl o)) : CT l yX6_require cX6_require 1 none rm_X6_require shN D yy tk tv a σ [.int (zJ p0)] σ none := by
  refine ct_of (Ar := fun a tk => [.int (zJ p0)]) (by decide) (Nat.le_of_ble_eq_true rfl) (fun Γ G _ _ hR => ?_)
  have hcs := rt_cs hR
  unfold x_X6_require at h
  refine (?_ : PT Γ 1 shN 0 σ [(0, .int (zJ p0))] [])
  refine p_iload_n G rfl 0 rfl dX6_require_0 ?_
  refine p_ifne (tgt := 15) G dX6_require_1 (by decide) h (fun c1 h => ?_) (fun c1 h => ?_)
  · (cases h; exact p_vret G hR dX6_require_15 rfl rfl)
  · cases h
set_option maxHeartbeats 4000000 in
set_option maxRecDepth 100000 in
theorem c_X6_append (l : Launch) {D : va_G} {yy : Nat → ClassId} {tk tv a : Nat → Nat} {σ : Mm} {p1 : Int} {p2 : Int} {p3 : Int} {p4 : Int} {p5 : Int} {o : Mm × Int} (h : x_X6_append σ p1 p2 p3 p4 p5 = some o) : CT l yX6_append cX6_append 6 (some .int) rm_X6_append shX D yy tk tv a σ [.ref (a 0), .int (zJ p1), .int (zJ p2), .int (zJ p3), .int (zJ p4), .int (zJ p5)] o.1 (some (.int (zJ o.2))) := by
  refine ct_of (Ar := fun a tk => [.ref (a 0), .int (zJ p1), .int (zJ p2), .int (zJ p3), .int (zJ p4), .int (zJ p5)]) (by decide) (Nat.le_of_ble_eq_true rfl) (fun Γ G _ _ hR => ?_)
  have hcs := rt_cs hR
  unfold x_X6_append at h
  refine (?_ : PT Γ 6 shX 0 σ [(0, .ref (ga Γ 0)), (1, .int (zJ p1)), (2, .int (zJ p2)), (3, .int (zJ p3)), (4, .int (zJ p4)), (5, .int (zJ p5))] [])
  refine p_aload_n G rfl 0 rfl dX6_append_0 ?_
  refine p_get G dX6_append_1 fl_X6_33 (k := 0) rfl rfl ?_
  refine p_get G dX6_append_4 fl_X6_180 (k := 74) rfl rfl ?_
  refine p_bipush G (by decide) (by decide) dX6_append_7 ?_
  refine p_iadd G dX6_append_9 ?_
  refine p_sipush G (by decide) (by decide) dX6_append_10 ?_
  refine p_icmple (tgt := 19) G dX6_append_13 (by decide) h (fun c11 h => ?_) (fun c11 h => ?_)
  · refine p_aload_n G rfl 0 rfl dX6_append_19 ?_
    refine p_get G dX6_append_20 fl_X6_33 (k := 0) rfl rfl ?_
    refine p_iload_n G rfl 1 rfl dX6_append_23 ?_
    obtain ⟨σ1, hc, h⟩ := bnd_some h
    refine p_callV G zl_22 dX6_append_24 lk_X6_183 (c_X3_writeFour (gl Γ) hc) (As := [.int (zJ p1)]) (ci := 3) rfl zk_22 (zs_x zs_22 _) rfl rfl rfl (Nat.le_of_ble_eq_true rfl) ⟨rfl, rfl, Nat.le_of_ble_eq_true rfl, Nat.le_of_ble_eq_true rfl⟩ hcs ?_
    refine p_nm h (fun σ2 h => ?_)
    refine p_aload_n G rfl 0 rfl dX6_append_27 ?_
    refine p_get G dX6_append_28 fl_X6_33 (k := 0) rfl rfl ?_
    refine p_iload_n G rfl 2 rfl dX6_append_31 ?_
    obtain ⟨σ3, hc, h⟩ := bnd_some h
    refine p_callV G zl_22 dX6_append_32 lk_X6_183 (c_X3_writeFour (gl Γ) hc) (As := [.int (zJ p2)]) (ci := 3) rfl zk_22 (zs_x zs_22 _) rfl rfl rfl (Nat.le_of_ble_eq_true rfl) ⟨rfl, rfl, Nat.le_of_ble_eq_true rfl, Nat.le_of_ble_eq_true rfl⟩ hcs ?_
    refine p_nm h (fun σ4 h => ?_)
    refine p_aload_n G rfl 0 rfl dX6_append_35 ?_
    refine p_get G dX6_append_36 fl_X6_33 (k := 0) rfl rfl ?_
    refine p_iload_n G rfl 3 rfl dX6_append_39 ?_
    obtain ⟨σ5, hc, h⟩ := bnd_some h
    refine p_callV G zl_22 dX6_append_40 lk_X6_183 (c_X3_writeFour (gl Γ) hc) (As := [.int (zJ p3)]) (ci := 3) rfl zk_22 (zs_x zs_22 _) rfl rfl rfl (Nat.le_of_ble_eq_true rfl) ⟨rfl, rfl, Nat.le_of_ble_eq_true rfl, Nat.le_of_ble_eq_true rfl⟩ hcs ?_
    refine p_nm h (fun σ6 h => ?_)
    refine p_aload_n G rfl 0 rfl dX6_append_43 ?_
    refine p_get G dX6_append_44 fl_X6_33 (k := 0) rfl rfl ?_
    refine p_iload G 4 rfl dX6_append_47 ?_
    obtain ⟨σ7, hc, h⟩ := bnd_some h
    refine p_callV G zl_22 dX6_append_49 lk_X6_183 (c_X3_writeFour (gl Γ) hc) (As := [.int (zJ p4)]) (ci := 3) rfl zk_22 (zs_x zs_22 _) rfl rfl rfl (Nat.le_of_ble_eq_true rfl) ⟨rfl, rfl, Nat.le_of_ble_eq_true rfl, Nat.le_of_ble_eq_true rfl⟩ hcs ?_
    refine p_nm h (fun σ8 h => ?_)
    refine p_aload_n G rfl 0 rfl dX6_append_52 ?_
    refine p_get G dX6_append_53 fl_X6_33 (k := 0) rfl rfl ?_
    refine p_iload G 5 rfl dX6_append_56 ?_
    obtain ⟨σ9, hc, h⟩ := bnd_some h
    refine p_callV G zl_22 dX6_append_58 lk_X6_183 (c_X3_writeFour (gl Γ) hc) (As := [.int (zJ p5)]) (ci := 3) rfl zk_22 (zs_x zs_22 _) rfl rfl rfl (Nat.le_of_ble_eq_true rfl) ⟨rfl, rfl, Nat.le_of_ble_eq_true rfl, Nat.le_of_ble_eq_true rfl⟩ hcs ?_
    refine p_nm h (fun σ10 h => ?_)
    refine p_aload_n G rfl 0 rfl dX6_append_61 ?_
    refine p_get G dX6_append_62 fl_X6_33 (k := 0) rfl rfl ?_
    refine p_get G dX6_append_65 fl_X6_180 (k := 74) rfl rfl ?_
    (cases h; exact p_iret G hR dX6_append_68 rfl rfl)
  · refine p_bipush G (by decide) (by decide) dX6_append_16 ?_
    (cases h; exact p_iret G hR dX6_append_18 rfl rfl)
set_option maxHeartbeats 4000000 in
set_option maxRecDepth 100000 in
theorem c_X6_truncate (l : Launch) {D : va_G} {yy : Nat → ClassId} {tk tv a : Nat → Nat} {σ : Mm} {p1 : Int} {o : Mm × Int} (h : x_X6_truncate σ p1 = some (.inl o)) : CT l yX6_truncate cX6_truncate 2 (some .int) rm_X6_truncate shX D yy tk tv a σ [.ref (a 0), .int (zJ p1)] o.1 (some (.int (zJ o.2))) := by
  refine ct_of (Ar := fun a tk => [.ref (a 0), .int (zJ p1)]) (by decide) (Nat.le_of_ble_eq_true rfl) (fun Γ G _ _ hR => ?_)
  have hcs := rt_cs hR
  unfold x_X6_truncate at h
  refine (?_ : PT Γ 2 shX 0 σ [(0, .ref (ga Γ 0)), (1, .int (zJ p1))] [])
  refine p_iload_n G rfl 1 rfl dX6_truncate_0 ?_
  refine p_iconst G rfl dX6_truncate_1 ?_
  refine p_aload_n G rfl 0 rfl dX6_truncate_2 ?_
  refine p_get G dX6_truncate_3 fl_X6_33 (k := 0) rfl rfl ?_
  refine p_get G dX6_truncate_6 fl_X6_180 (k := 74) rfl rfl ?_
  obtain ⟨v1, hc, h⟩ := bnd_some h
  refine p_callS0 G dX6_truncate_9 lk_X6_150 (c_X6_isWithin (gl Γ) hc) (As := [.int (zJ p1), .int (zJ (0 : Int)), .int (zJ (σ 74 1))]) rfl zk_21 rfl (Nat.le_of_ble_eq_true rfl) ⟨rfl, rfl, Nat.le_of_ble_eq_true rfl, Nat.le_of_ble_eq_true rfl⟩ hcs ?_
  obtain ⟨o_, hc, h⟩ := bthr h
  refine p_callS0 G dX6_truncate_12 lk_X6_154 (c_X6_require (gl Γ) hc) (As := [.int (zJ v1)]) rfl zk_21 rfl (Nat.le_of_ble_eq_true rfl) ⟨rfl, rfl, Nat.le_of_ble_eq_true rfl, Nat.le_of_ble_eq_true rfl⟩ hcs ?_
  refine p_aload_n G rfl 0 rfl dX6_truncate_15 ?_
  refine p_get G dX6_truncate_16 fl_X6_33 (k := 0) rfl rfl ?_
  refine p_iload_n G rfl 1 rfl dX6_truncate_19 ?_
  obtain ⟨σ2, hc, h⟩ := bnd_some h
  refine p_callV G zl_22 dX6_truncate_20 lk_X6_68 (c_X3_shorten (gl Γ) hc) (As := [.int (zJ p1)]) (ci := 3) rfl zk_22 (zs_x zs_22 _) rfl rfl rfl (Nat.le_of_ble_eq_true rfl) ⟨rfl, rfl, Nat.le_of_ble_eq_true rfl, Nat.le_of_ble_eq_true rfl⟩ hcs ?_
  refine p_nm h (fun σ3 h => ?_)
  refine p_iload_n G rfl 1 rfl dX6_truncate_23 ?_
  (cases h; exact p_iret G hR dX6_truncate_24 rfl rfl)
set_option maxHeartbeats 4000000 in
set_option maxRecDepth 100000 in
theorem c_X6_match (l : Launch) {D : va_G} {yy : Nat → ClassId} {tk tv a : Nat → Nat} {σ : Mm} {p1 : Int} {o : Int} (h : x_X6_match σ p1 = some (.inl o)) : CT l yX6_match cX6_match 2 (some .int) rm_X6_match shX D yy tk tv a σ [.ref (a 0), .int (zJ p1)] σ (some (.int (zJ o))) := by
  refine ct_of (Ar := fun a tk => [.ref (a 0), .int (zJ p1)]) (by decide) (Nat.le_of_ble_eq_true rfl) (fun Γ G _ _ hR => ?_)
  have hcs := rt_cs hR
  unfold x_X6_match at h
  refine (?_ : PT Γ 2 shX 0 σ [(0, .ref (ga Γ 0)), (1, .int (zJ p1))] [])
  refine p_iload_n G rfl 1 rfl dX6_match_0 ?_
  refine p_iconst G rfl dX6_match_1 ?_
  refine p_bipush G (by decide) (by decide) dX6_match_2 ?_
  obtain ⟨v1, hc, h⟩ := bnd_some h
  refine p_callS0 G dX6_match_4 lk_X6_150 (c_X6_isWithin (gl Γ) hc) (As := [.int (zJ p1), .int (zJ (0 : Int)), .int (zJ (16 : Int))]) rfl zk_21 rfl (Nat.le_of_ble_eq_true rfl) ⟨rfl, rfl, Nat.le_of_ble_eq_true rfl, Nat.le_of_ble_eq_true rfl⟩ hcs ?_
  obtain ⟨o_, hc, h⟩ := bthr h
  refine p_callS0 G dX6_match_7 lk_X6_154 (c_X6_require (gl Γ) hc) (As := [.int (zJ v1)]) rfl zk_21 rfl (Nat.le_of_ble_eq_true rfl) ⟨rfl, rfl, Nat.le_of_ble_eq_true rfl, Nat.le_of_ble_eq_true rfl⟩ hcs ?_
  refine p_iload_n G rfl 1 rfl dX6_match_10 ?_
  refine zite h (fun c0_11 h => ?_) (fun c0_11 h => ?_)
  · refine p_tin (tgt := 88) (off := 77) G dX6_match_11 c0_11 (by decide) (by decide) rfl (by decide) ?_
    refine p_aload_n G rfl 0 rfl dX6_match_88 ?_
    refine p_get G dX6_match_89 fl_X6_12 (k := 0) rfl rfl ?_
    refine p_get G dX6_match_92 fl_X6_87 (k := 1) rfl rfl ?_
    (cases h; exact p_iret G hR dX6_match_95 rfl rfl)
  · refine zite h (fun c1_11 h => ?_) (fun c1_11 h => ?_)
    · refine p_tin (tgt := 96) (off := 85) G dX6_match_11 c1_11 (by decide) (by decide) rfl (by decide) ?_
      refine p_aload_n G rfl 0 rfl dX6_match_96 ?_
      refine p_get G dX6_match_97 fl_X6_12 (k := 0) rfl rfl ?_
      refine p_get G dX6_match_100 fl_X6_161 (k := 1) rfl rfl ?_
      (cases h; exact p_iret G hR dX6_match_103 rfl rfl)
    · refine zite h (fun c2_11 h => ?_) (fun c2_11 h => ?_)
      · refine p_tin (tgt := 104) (off := 93) G dX6_match_11 c2_11 (by decide) (by decide) rfl (by decide) ?_
        refine p_aload_n G rfl 0 rfl dX6_match_104 ?_
        refine p_get G dX6_match_105 fl_X6_12 (k := 0) rfl rfl ?_
        refine p_get G dX6_match_108 fl_X6_158 (k := 1) rfl rfl ?_
        (cases h; exact p_iret G hR dX6_match_111 rfl rfl)
      · refine zite h (fun c3_11 h => ?_) (fun c3_11 h => ?_)
        · refine p_tin (tgt := 112) (off := 101) G dX6_match_11 c3_11 (by decide) (by decide) rfl (by decide) ?_
          refine p_aload_n G rfl 0 rfl dX6_match_112 ?_
          refine p_get G dX6_match_113 fl_X6_12 (k := 0) rfl rfl ?_
          refine p_get G dX6_match_116 fl_X6_147 (k := 1) rfl rfl ?_
          (cases h; exact p_iret G hR dX6_match_119 rfl rfl)
        · refine zite h (fun c4_11 h => ?_) (fun c4_11 h => ?_)
          · refine p_tin (tgt := 120) (off := 109) G dX6_match_11 c4_11 (by decide) (by decide) rfl (by decide) ?_
            refine p_aload_n G rfl 0 rfl dX6_match_120 ?_
            refine p_get G dX6_match_121 fl_X6_12 (k := 0) rfl rfl ?_
            refine p_get G dX6_match_124 fl_X6_99 (k := 1) rfl rfl ?_
            (cases h; exact p_iret G hR dX6_match_127 rfl rfl)
          · refine zite h (fun c5_11 h => ?_) (fun c5_11 h => ?_)
            · refine p_tin (tgt := 128) (off := 117) G dX6_match_11 c5_11 (by decide) (by decide) rfl (by decide) ?_
              refine p_aload_n G rfl 0 rfl dX6_match_128 ?_
              refine p_get G dX6_match_129 fl_X6_12 (k := 0) rfl rfl ?_
              refine p_get G dX6_match_132 fl_X6_186 (k := 1) rfl rfl ?_
              refine p_ifeq (tgt := 142) G dX6_match_135 (by decide) h (fun c2 h => ?_) (fun c2 h => ?_)
              · refine p_iconst G rfl dX6_match_142 ?_
                (cases h; exact p_iret G hR dX6_match_143 rfl rfl)
              · refine p_iconst G rfl dX6_match_138 ?_
                refine p_goto (tgt := 143) G dX6_match_139 (by decide) ?_
                (cases h; exact p_iret G hR dX6_match_143 rfl rfl)
            · refine zite h (fun c6_11 h => ?_) (fun c6_11 h => ?_)
              · refine p_tin (tgt := 144) (off := 133) G dX6_match_11 c6_11 (by decide) (by decide) rfl (by decide) ?_
                refine p_aload_n G rfl 0 rfl dX6_match_144 ?_
                refine p_get G dX6_match_145 fl_X6_12 (k := 0) rfl rfl ?_
                refine p_get G dX6_match_148 fl_X6_190 (k := 1) rfl rfl ?_
                refine p_ifeq (tgt := 158) G dX6_match_151 (by decide) h (fun c3 h => ?_) (fun c3 h => ?_)
                · refine p_iconst G rfl dX6_match_158 ?_
                  (cases h; exact p_iret G hR dX6_match_159 rfl rfl)
                · refine p_iconst G rfl dX6_match_154 ?_
                  refine p_goto (tgt := 159) G dX6_match_155 (by decide) ?_
                  (cases h; exact p_iret G hR dX6_match_159 rfl rfl)
              · refine zite h (fun c7_11 h => ?_) (fun c7_11 h => ?_)
                · refine p_tin (tgt := 160) (off := 149) G dX6_match_11 c7_11 (by decide) (by decide) rfl (by decide) ?_
                  refine p_aload_n G rfl 0 rfl dX6_match_160 ?_
                  refine p_get G dX6_match_161 fl_X6_12 (k := 0) rfl rfl ?_
                  obtain ⟨v4, hc, h⟩ := bnd_some h
                  refine p_callVr G zl_20 dX6_match_164 lk_X6_193 (c_X2_isMatchOver (gl Γ) hc) (As := []) (ci := 2) rfl zk_20 (zs_x zs_20 _) rfl rfl rfl (Nat.le_of_ble_eq_true rfl) ⟨rfl, rfl, Nat.le_of_ble_eq_true rfl, Nat.le_of_ble_eq_true rfl⟩ hcs ?_
                  refine p_ifeq (tgt := 174) G dX6_match_167 (by decide) h (fun c5 h => ?_) (fun c5 h => ?_)
                  · refine p_iconst G rfl dX6_match_174 ?_
                    (cases h; exact p_iret G hR dX6_match_175 rfl rfl)
                  · refine p_iconst G rfl dX6_match_170 ?_
                    refine p_goto (tgt := 175) G dX6_match_171 (by decide) ?_
                    (cases h; exact p_iret G hR dX6_match_175 rfl rfl)
                · refine zite h (fun c8_11 h => ?_) (fun c8_11 h => ?_)
                  · refine p_tin (tgt := 176) (off := 165) G dX6_match_11 c8_11 (by decide) (by decide) rfl (by decide) ?_
                    refine p_aload_n G rfl 0 rfl dX6_match_176 ?_
                    refine p_get G dX6_match_177 fl_X6_12 (k := 0) rfl rfl ?_
                    obtain ⟨v6, hc, h⟩ := bnd_some h
                    refine p_callVr G zl_20 dX6_match_180 lk_X6_113 (c_X2_stockCount (gl Γ) hc) (As := []) (ci := 2) rfl zk_20 (zs_x zs_20 _) rfl rfl rfl (Nat.le_of_ble_eq_true rfl) ⟨rfl, rfl, Nat.le_of_ble_eq_true rfl, Nat.le_of_ble_eq_true rfl⟩ hcs ?_
                    (cases h; exact p_iret G hR dX6_match_183 rfl rfl)
                  · refine zite h (fun c9_11 h => ?_) (fun c9_11 h => ?_)
                    · refine p_tin (tgt := 184) (off := 173) G dX6_match_11 c9_11 (by decide) (by decide) rfl (by decide) ?_
                      refine p_aload_n G rfl 0 rfl dX6_match_184 ?_
                      refine p_get G dX6_match_185 fl_X6_12 (k := 0) rfl rfl ?_
                      refine p_get G dX6_match_188 fl_X6_196 (k := 1) rfl rfl ?_
                      (cases h; exact p_iret G hR dX6_match_191 rfl rfl)
                    · refine zite h (fun c10_11 h => ?_) (fun c10_11 h => ?_)
                      · refine p_tin (tgt := 192) (off := 181) G dX6_match_11 c10_11 (by decide) (by decide) rfl (by decide) ?_
                        refine p_aload_n G rfl 0 rfl dX6_match_192 ?_
                        refine p_get G dX6_match_193 fl_X6_12 (k := 0) rfl rfl ?_
                        obtain ⟨v7, hc, h⟩ := bnd_some h
                        refine p_callVr G zl_20 dX6_match_196 lk_X6_199 (c_X2_topOfPile (gl Γ) hc) (As := []) (ci := 2) rfl zk_20 (zs_x zs_20 _) rfl rfl rfl (Nat.le_of_ble_eq_true rfl) ⟨rfl, rfl, Nat.le_of_ble_eq_true rfl, Nat.le_of_ble_eq_true rfl⟩ hcs ?_
                        (cases h; exact p_iret G hR dX6_match_199 rfl rfl)
                      · refine zite h (fun c11_11 h => ?_) (fun c11_11 h => ?_)
                        · refine p_tin (tgt := 200) (off := 189) G dX6_match_11 c11_11 (by decide) (by decide) rfl (by decide) ?_
                          refine p_aload_n G rfl 0 rfl dX6_match_200 ?_
                          refine p_get G dX6_match_201 fl_X6_12 (k := 0) rfl rfl ?_
                          refine p_iconst G rfl dX6_match_204 ?_
                          obtain ⟨v8, hc, h⟩ := bnd_some h
                          refine p_callVr G zl_20 dX6_match_205 lk_X6_202 (c_X2_score (gl Γ) hc) (As := [.int (zJ (0 : Int))]) (ci := 2) rfl zk_20 (zs_x zs_20 _) rfl rfl rfl (Nat.le_of_ble_eq_true rfl) ⟨rfl, rfl, Nat.le_of_ble_eq_true rfl, Nat.le_of_ble_eq_true rfl⟩ hcs ?_
                          (cases h; exact p_iret G hR dX6_match_208 rfl rfl)
                        · refine zite h (fun c12_11 h => ?_) (fun c12_11 h => ?_)
                          · refine p_tin (tgt := 209) (off := 198) G dX6_match_11 c12_11 (by decide) (by decide) rfl (by decide) ?_
                            refine p_aload_n G rfl 0 rfl dX6_match_209 ?_
                            refine p_get G dX6_match_210 fl_X6_12 (k := 0) rfl rfl ?_
                            refine p_iconst G rfl dX6_match_213 ?_
                            obtain ⟨v9, hc, h⟩ := bnd_some h
                            refine p_callVr G zl_20 dX6_match_214 lk_X6_202 (c_X2_score (gl Γ) hc) (As := [.int (zJ (1 : Int))]) (ci := 2) rfl zk_20 (zs_x zs_20 _) rfl rfl rfl (Nat.le_of_ble_eq_true rfl) ⟨rfl, rfl, Nat.le_of_ble_eq_true rfl, Nat.le_of_ble_eq_true rfl⟩ hcs ?_
                            (cases h; exact p_iret G hR dX6_match_217 rfl rfl)
                          · refine zite h (fun c13_11 h => ?_) (fun c13_11 h => ?_)
                            · refine p_tin (tgt := 218) (off := 207) G dX6_match_11 c13_11 (by decide) (by decide) rfl (by decide) ?_
                              refine p_aload_n G rfl 0 rfl dX6_match_218 ?_
                              refine p_get G dX6_match_219 fl_X6_12 (k := 0) rfl rfl ?_
                              refine p_get G dX6_match_222 fl_X6_205 (k := 1) rfl rfl ?_
                              (cases h; exact p_iret G hR dX6_match_225 rfl rfl)
                            · refine zite h (fun c14_11 h => ?_) (fun c14_11 h => ?_)
                              · refine p_tin (tgt := 226) (off := 215) G dX6_match_11 c14_11 (by decide) (by decide) rfl (by decide) ?_
                                refine p_aload_n G rfl 0 rfl dX6_match_226 ?_
                                refine p_get G dX6_match_227 fl_X6_12 (k := 0) rfl rfl ?_
                                refine p_get G dX6_match_230 fl_X6_208 (k := 1) rfl rfl ?_
                                (cases h; exact p_iret G hR dX6_match_233 rfl rfl)
                              · refine zite h (fun c15_11 h => ?_) (fun c15_11 h => ?_)
                                · refine p_tin (tgt := 234) (off := 223) G dX6_match_11 c15_11 (by decide) (by decide) rfl (by decide) ?_
                                  refine p_aload_n G rfl 0 rfl dX6_match_234 ?_
                                  refine p_get G dX6_match_235 fl_X6_22 (k := 0) rfl rfl ?_
                                  refine p_get G dX6_match_238 fl_X6_168 (k := 11) rfl rfl ?_
                                  (cases h; exact p_iret G hR dX6_match_241 rfl rfl)
                                · refine p_tout (tgt := 242) G dX6_match_11 (by omega) (by decide) ?_
                                  refine p_aload_n G rfl 0 rfl dX6_match_242 ?_
                                  refine p_get G dX6_match_243 fl_X6_33 (k := 0) rfl rfl ?_
                                  refine p_get G dX6_match_246 fl_X6_180 (k := 74) rfl rfl ?_
                                  (cases h; exact p_iret G hR dX6_match_249 rfl rfl)
set_option maxHeartbeats 4000000 in
set_option maxRecDepth 100000 in
theorem c_X6_number (l : Launch) {D : va_G} {yy : Nat → ClassId} {tk tv a : Nat → Nat} {σ : Mm} {o : Int64} (h : x_X6_number σ = some o) : CT l yX6_number cX6_number 1 (some .long) rm_X6_number shX D yy tk tv a σ [.ref (a 0)] σ (some (.long o)) := by
  refine ct_of (Ar := fun a tk => [.ref (a 0)]) (by decide) (Nat.le_of_ble_eq_true rfl) (fun Γ G _ _ hR => ?_)
  have hcs := rt_cs hR
  unfold x_X6_number at h
  refine (?_ : PT Γ 1 shX 0 σ [(0, .ref (ga Γ 0))] [])
  refine p_aload_n G rfl 0 rfl dX6_number_0 ?_
  refine p_get G dX6_number_1 fl_X6_12 (k := 0) rfl rfl ?_
  refine p_get G dX6_number_4 fl_X6_211 (k := 1) rfl rfl ?_
  (cases h; exact p_lret G hR dX6_number_7 rfl rfl)
set_option maxHeartbeats 4000000 in
set_option maxRecDepth 100000 in
theorem c_X6_isPlayer (l : Launch) {D : va_G} {yy : Nat → ClassId} {tk tv a : Nat → Nat} {σ : Mm} {p0 : Int} {o : Int} (h : x_X6_isPlayer p0 = some o) : CT l yX6_isPlayer cX6_isPlayer 1 (some .boolean) rm_X6_isPlayer shN D yy tk tv a σ [.int (zJ p0)] σ (some (.int (zJ o))) := by
  refine ct_of (Ar := fun a tk => [.int (zJ p0)]) (by decide) (Nat.le_of_ble_eq_true rfl) (fun Γ G _ _ hR => ?_)
  have hcs := rt_cs hR
  unfold x_X6_isPlayer at h
  refine (?_ : PT Γ 1 shN 0 σ [(0, .int (zJ p0))] [])
  refine p_iload_n G rfl 0 rfl dX6_isPlayer_0 ?_
  refine p_iflt (tgt := 13) G dX6_isPlayer_1 (by decide) h (fun c2 h => ?_) (fun c2 h => ?_)
  · refine p_iconst G rfl dX6_isPlayer_13 ?_
    (cases h; exact p_zret G hR dX6_isPlayer_14 (by decide) rfl rfl)
  · refine p_iload_n G rfl 0 rfl dX6_isPlayer_4 ?_
    refine p_iconst G rfl dX6_isPlayer_5 ?_
    refine p_icmpge (tgt := 13) G dX6_isPlayer_6 (by decide) h (fun c1 h => ?_) (fun c1 h => ?_)
    · refine p_iconst G rfl dX6_isPlayer_13 ?_
      (cases h; exact p_zret G hR dX6_isPlayer_14 (by decide) rfl rfl)
    · refine p_iconst G rfl dX6_isPlayer_9 ?_
      refine p_goto (tgt := 14) G dX6_isPlayer_10 (by decide) ?_
      (cases h; exact p_zret G hR dX6_isPlayer_14 (by decide) rfl rfl)
set_option maxHeartbeats 4000000 in
set_option maxRecDepth 100000 in
theorem c_X6_player (l : Launch) {D : va_G} {yy : Nat → ClassId} {tk tv a : Nat → Nat} {σ : Mm} {p1 : Int} {p2 : Int} {o : Mm × Int} (h : x_X6_player σ p1 p2 = some (.inl o)) : CT l yX6_player cX6_player 5 (some .int) rm_X6_player shX D yy tk tv a σ [.ref (a 0), .int (zJ p1), .int (zJ p2)] o.1 (some (.int (zJ o.2))) := by
  refine ct_of (Ar := fun a tk => [.ref (a 0), .int (zJ p1), .int (zJ p2)]) (by decide) (Nat.le_of_ble_eq_true rfl) (fun Γ G _ _ hR => ?_)
  have hcs := rt_cs hR
  unfold x_X6_player at h
  refine (?_ : PT Γ 5 shX 0 σ [(0, .ref (ga Γ 0)), (1, .int (zJ p1)), (2, .int (zJ p2))] [])
  have j22 : ∀ (σ_22 : Mm) (v1_22 : Int) (v2_22 : Int) (w0_22 : Int), x_X6_player_j22 σ_22 v1_22 v2_22 w0_22 = some (.inl o) → PT Γ 5 shX 22 σ_22 [(0, .ref (ga Γ 0)), (1, .int (zJ v1_22)), (2, .int (zJ v2_22))] [.int (zJ w0_22)] := by
    intro σ_22 v1_22 v2_22 w0_22 h
    unfold x_X6_player_j22 at h
    obtain ⟨o_, hc, h⟩ := bthr h
    refine p_callS0 G dX6_player_22 lk_X6_154 (c_X6_require (gl Γ) hc) (As := [.int (zJ w0_22)]) rfl zk_21 rfl (Nat.le_of_ble_eq_true rfl) ⟨rfl, rfl, Nat.le_of_ble_eq_true rfl, Nat.le_of_ble_eq_true rfl⟩ hcs ?_
    refine p_aload_n G rfl 0 rfl dX6_player_25 ?_
    refine p_get G dX6_player_26 fl_X6_12 (k := 0) rfl rfl ?_
    refine p_iload_n G rfl 1 rfl dX6_player_29 ?_
    obtain ⟨v2, hc, h⟩ := bnd_some h
    refine p_callVr G zl_20 dX6_player_30 lk_X6_219 (c_X2_handOf (gl Γ) hc) (As := [.int (zJ v1_22)]) (ci := 2) rfl zk_20 (zs_x zs_20 _) rfl rfl rfl (Nat.le_of_ble_eq_true rfl) ⟨rfl, rfl, Nat.le_of_ble_eq_true rfl, Nat.le_of_ble_eq_true rfl⟩ hcs ?_
    refine p_lstore_nU (lv' := [(3, .long v2), (0, .ref (ga Γ 0)), (1, .int (zJ v1_22)), (2, .int (zJ v2_22))]) G rfl dX6_player_33 (by decide) rfl ?_
    refine p_aload_n G rfl 1 rfl dX6_player_34 ?_
    refine p_get G dX6_player_35 fl_X6_40 (k := 0) rfl rfl ?_
    refine p_lload_n G rfl 0 rfl dX6_player_38 ?_
    obtain ⟨σ3, hc, h⟩ := bnd_some h
    refine p_callV G zl_23 dX6_player_39 lk_X6_222 (c_X1_lay (gl Γ) hc) (As := [.long v2]) (ci := 1) rfl zk_23 (zs_x zs_23 _) rfl rfl rfl (Nat.le_of_ble_eq_true rfl) ⟨rfl, rfl, Nat.le_of_ble_eq_true rfl, Nat.le_of_ble_eq_true rfl⟩ hcs ?_
    refine p_nm h (fun σ4 h => ?_)
    refine p_iload_n G rfl 3 rfl dX6_player_42 ?_
    refine zite h (fun c0_43 h => ?_) (fun c0_43 h => ?_)
    · refine p_tin (tgt := 84) (off := 41) G dX6_player_43 c0_43 (by decide) (by decide) rfl (by decide) ?_
      refine p_lload_n G rfl 0 rfl dX6_player_84 ?_
      obtain ⟨v5, hc, h⟩ := bnd_some h
      refine p_callS0 G dX6_player_85 lk_X6_226 (c_J_Long_bitCount (gl Γ) hc) (As := [.long v2]) rfl zk_21 rfl (Nat.le_of_ble_eq_true rfl) ⟨rfl, rfl, Nat.le_of_ble_eq_true rfl, Nat.le_of_ble_eq_true rfl⟩ hcs ?_
      (cases h; exact p_iret G hR dX6_player_88 rfl rfl)
    · refine zite h (fun c1_43 h => ?_) (fun c1_43 h => ?_)
      · refine p_tin (tgt := 89) (off := 46) G dX6_player_43 c1_43 (by decide) (by decide) rfl (by decide) ?_
        refine p_aload_n G rfl 1 rfl dX6_player_89 ?_
        refine p_get G dX6_player_90 fl_X6_40 (k := 0) rfl rfl ?_
        refine p_get G dX6_player_93 fl_X6_232 (k := 77) rfl rfl ?_
        (cases h; exact p_iret G hR dX6_player_96 rfl rfl)
      · refine zite h (fun c2_43 h => ?_) (fun c2_43 h => ?_)
        · refine p_tin (tgt := 97) (off := 54) G dX6_player_43 c2_43 (by decide) (by decide) rfl (by decide) ?_
          refine p_aload_n G rfl 1 rfl dX6_player_97 ?_
          refine p_get G dX6_player_98 fl_X6_40 (k := 0) rfl rfl ?_
          refine p_get G dX6_player_101 fl_X6_235 (k := 77) rfl rfl ?_
          (cases h; exact p_iret G hR dX6_player_104 rfl rfl)
        · refine zite h (fun c3_43 h => ?_) (fun c3_43 h => ?_)
          · refine p_tin (tgt := 105) (off := 62) G dX6_player_43 c3_43 (by decide) (by decide) rfl (by decide) ?_
            refine p_aload_n G rfl 1 rfl dX6_player_105 ?_
            refine p_get G dX6_player_106 fl_X6_40 (k := 0) rfl rfl ?_
            refine p_get G dX6_player_109 fl_X6_238 (k := 77) rfl rfl ?_
            obtain ⟨v6, hc, h⟩ := bnd_some h
            refine p_callS0 G dX6_player_112 lk_X6_226 (c_J_Long_bitCount (gl Γ) hc) (As := [.long (zL (σ4 77 9))]) rfl zk_21 rfl (Nat.le_of_ble_eq_true rfl) ⟨rfl, rfl, Nat.le_of_ble_eq_true rfl, Nat.le_of_ble_eq_true rfl⟩ hcs ?_
            (cases h; exact p_iret G hR dX6_player_115 rfl rfl)
          · refine zite h (fun c4_43 h => ?_) (fun c4_43 h => ?_)
            · refine p_tin (tgt := 116) (off := 73) G dX6_player_43 c4_43 (by decide) (by decide) rfl (by decide) ?_
              refine p_aload_n G rfl 1 rfl dX6_player_116 ?_
              refine p_get G dX6_player_117 fl_X6_40 (k := 0) rfl rfl ?_
              refine p_iconst G rfl dX6_player_120 ?_
              obtain ⟨v7, hc, h⟩ := bnd_some h
              refine p_callVr G zl_23 dX6_player_121 lk_X6_241 (c_X1_countKind (gl Γ) hc) (As := [.int (zJ (1 : Int))]) (ci := 1) rfl zk_23 (zs_x zs_23 _) rfl rfl rfl (Nat.le_of_ble_eq_true rfl) ⟨rfl, rfl, Nat.le_of_ble_eq_true rfl, Nat.le_of_ble_eq_true rfl⟩ hcs ?_
              (cases h; exact p_iret G hR dX6_player_124 rfl rfl)
            · refine zite h (fun c5_43 h => ?_) (fun c5_43 h => ?_)
              · refine p_tin (tgt := 125) (off := 82) G dX6_player_43 c5_43 (by decide) (by decide) rfl (by decide) ?_
                refine p_aload_n G rfl 1 rfl dX6_player_125 ?_
                refine p_get G dX6_player_126 fl_X6_40 (k := 0) rfl rfl ?_
                refine p_iconst G rfl dX6_player_129 ?_
                obtain ⟨v8, hc, h⟩ := bnd_some h
                refine p_callVr G zl_23 dX6_player_130 lk_X6_241 (c_X1_countKind (gl Γ) hc) (As := [.int (zJ (2 : Int))]) (ci := 1) rfl zk_23 (zs_x zs_23 _) rfl rfl rfl (Nat.le_of_ble_eq_true rfl) ⟨rfl, rfl, Nat.le_of_ble_eq_true rfl, Nat.le_of_ble_eq_true rfl⟩ hcs ?_
                (cases h; exact p_iret G hR dX6_player_133 rfl rfl)
              · refine zite h (fun c6_43 h => ?_) (fun c6_43 h => ?_)
                · refine p_tin (tgt := 134) (off := 91) G dX6_player_43 c6_43 (by decide) (by decide) rfl (by decide) ?_
                  refine p_lload_n G rfl 0 rfl dX6_player_134 ?_
                  obtain ⟨v9, hc, h⟩ := bnd_some h
                  refine p_callS0 G dX6_player_135 lk_X6_244 (c_X6_pointsOf (gl Γ) hc) (As := [.long v2]) rfl zk_21 rfl (Nat.le_of_ble_eq_true rfl) ⟨rfl, rfl, Nat.le_of_ble_eq_true rfl, Nat.le_of_ble_eq_true rfl⟩ hcs ?_
                  (cases h; exact p_iret G hR dX6_player_138 rfl rfl)
                · refine p_tout (tgt := 139) G dX6_player_43 (by omega) (by decide) ?_
                  refine p_aload_n G rfl 1 rfl dX6_player_139 ?_
                  refine p_get G dX6_player_140 fl_X6_40 (k := 0) rfl rfl ?_
                  obtain ⟨v10, hc, h⟩ := bnd_some h
                  refine p_callVr G zl_23 dX6_player_143 lk_X6_247 (c_X1_countWrapped (gl Γ) hc) (As := []) (ci := 1) rfl zk_23 (zs_x zs_23 _) rfl rfl rfl (Nat.le_of_ble_eq_true rfl) ⟨rfl, rfl, Nat.le_of_ble_eq_true rfl, Nat.le_of_ble_eq_true rfl⟩ hcs ?_
                  (cases h; exact p_iret G hR dX6_player_146 rfl rfl)
  have j21 : ∀ (σ_21 : Mm) (v1_21 : Int) (v2_21 : Int), x_X6_player_j21 σ_21 v1_21 v2_21 = some (.inl o) → PT Γ 5 shX 21 σ_21 [(0, .ref (ga Γ 0)), (1, .int (zJ v1_21)), (2, .int (zJ v2_21))] [] := by
    intro σ_21 v1_21 v2_21 h
    unfold x_X6_player_j21 at h
    refine p_iconst G rfl dX6_player_21 ?_
    exact j22 _ _ _ _ h
  refine p_iload_n G rfl 1 rfl dX6_player_0 ?_
  obtain ⟨v1, hc, h⟩ := bnd_some h
  refine p_callS0 G dX6_player_1 lk_X6_215 (c_X6_isPlayer (gl Γ) hc) (As := [.int (zJ p1)]) rfl zk_21 rfl (Nat.le_of_ble_eq_true rfl) ⟨rfl, rfl, Nat.le_of_ble_eq_true rfl, Nat.le_of_ble_eq_true rfl⟩ hcs ?_
  refine p_ifeq (tgt := 21) G dX6_player_4 (by decide) h (fun c13 h => ?_) (fun c13 h => ?_)
  · exact j21 _ _ _ h
  · refine p_iload_n G rfl 2 rfl dX6_player_7 ?_
    refine p_iconst G rfl dX6_player_8 ?_
    refine p_bipush G (by decide) (by decide) dX6_player_9 ?_
    obtain ⟨v11, hc, h⟩ := bnd_some h
    refine p_callS0 G dX6_player_11 lk_X6_150 (c_X6_isWithin (gl Γ) hc) (As := [.int (zJ p2), .int (zJ (0 : Int)), .int (zJ (7 : Int))]) rfl zk_21 rfl (Nat.le_of_ble_eq_true rfl) ⟨rfl, rfl, Nat.le_of_ble_eq_true rfl, Nat.le_of_ble_eq_true rfl⟩ hcs ?_
    refine p_ifeq (tgt := 21) G dX6_player_14 (by decide) h (fun c12 h => ?_) (fun c12 h => ?_)
    · exact j21 _ _ _ h
    · refine p_iconst G rfl dX6_player_17 ?_
      refine p_goto (tgt := 22) G dX6_player_18 (by decide) ?_
      exact j22 _ _ _ _ h
set_option maxHeartbeats 4000000 in
set_option maxRecDepth 100000 in
theorem c_X6_card (l : Launch) {D : va_G} {yy : Nat → ClassId} {tk tv a : Nat → Nat} {σ : Mm} {p1 : Int} {p2 : Int} {o : Int} (h : x_X6_card σ p1 p2 = some (.inl o)) : CT l yX6_card cX6_card 6 (some .int) rm_X6_card shX D yy tk tv a σ [.ref (a 0), .int (zJ p1), .int (zJ p2)] σ (some (.int (zJ o))) := by
  refine ct_of (Ar := fun a tk => [.ref (a 0), .int (zJ p1), .int (zJ p2)]) (by decide) (Nat.le_of_ble_eq_true rfl) (fun Γ G _ _ hR => ?_)
  have hcs := rt_cs hR
  unfold x_X6_card at h
  refine (?_ : PT Γ 6 shX 0 σ [(0, .ref (ga Γ 0)), (1, .int (zJ p1)), (2, .int (zJ p2))] [])
  refine p_iload_n G rfl 1 rfl dX6_card_0 ?_
  obtain ⟨v1, hc, h⟩ := bnd_some h
  refine p_callS0 G dX6_card_1 lk_X6_215 (c_X6_isPlayer (gl Γ) hc) (As := [.int (zJ p1)]) rfl zk_21 rfl (Nat.le_of_ble_eq_true rfl) ⟨rfl, rfl, Nat.le_of_ble_eq_true rfl, Nat.le_of_ble_eq_true rfl⟩ hcs ?_
  obtain ⟨o_, hc, h⟩ := bthr h
  refine p_callS0 G dX6_card_4 lk_X6_154 (c_X6_require (gl Γ) hc) (As := [.int (zJ v1)]) rfl zk_21 rfl (Nat.le_of_ble_eq_true rfl) ⟨rfl, rfl, Nat.le_of_ble_eq_true rfl, Nat.le_of_ble_eq_true rfl⟩ hcs ?_
  refine p_aload_n G rfl 0 rfl dX6_card_7 ?_
  refine p_get G dX6_card_8 fl_X6_12 (k := 0) rfl rfl ?_
  refine p_iload_n G rfl 1 rfl dX6_card_11 ?_
  obtain ⟨v2, hc, h⟩ := bnd_some h
  refine p_callVr G zl_20 dX6_card_12 lk_X6_219 (c_X2_handOf (gl Γ) hc) (As := [.int (zJ p1)]) (ci := 2) rfl zk_20 (zs_x zs_20 _) rfl rfl rfl (Nat.le_of_ble_eq_true rfl) ⟨rfl, rfl, Nat.le_of_ble_eq_true rfl, Nat.le_of_ble_eq_true rfl⟩ hcs ?_
  refine p_lstore_nU (lv' := [(3, .long v2), (0, .ref (ga Γ 0)), (1, .int (zJ p1)), (2, .int (zJ p2))]) G rfl dX6_card_15 (by decide) rfl ?_
  refine p_iload_n G rfl 3 rfl dX6_card_16 ?_
  refine p_iflt (tgt := 28) G dX6_card_17 (by decide) h (fun c13 h => ?_) (fun c13 h => ?_)
  · refine p_iconst G rfl dX6_card_28 ?_
    (cases h; exact p_iret G hR dX6_card_29 rfl rfl)
  · refine p_iload_n G rfl 3 rfl dX6_card_20 ?_
    refine p_lload_n G rfl 0 rfl dX6_card_21 ?_
    obtain ⟨v3, hc, h⟩ := bnd_some h
    refine p_callS0 G dX6_card_22 lk_X6_226 (c_J_Long_bitCount (gl Γ) hc) (As := [.long v2]) rfl zk_21 rfl (Nat.le_of_ble_eq_true rfl) ⟨rfl, rfl, Nat.le_of_ble_eq_true rfl, Nat.le_of_ble_eq_true rfl⟩ hcs ?_
    refine p_icmplt (tgt := 30) G dX6_card_25 (by decide) h (fun c12 h => ?_) (fun c12 h => ?_)
    · refine p_iconst G rfl dX6_card_30 ?_
      refine p_istoreU (lv' := [(5, .int (zJ (0 : Int))), (3, .long v2), (0, .ref (ga Γ 0)), (1, .int (zJ p1)), (2, .int (zJ p2))]) G dX6_card_31 (by decide) rfl ?_
      refine p_lv [4, 1, 0] rfl ?_
      obtain ⟨e9, hl33, h⟩ := bnd_some h
      have hX33_58 : ∀ (v10 : Int64), v10 = e9 → PT Γ 6 shX 58 σ [(3, .long v10)] [] := by
        intro v10 he
        subst he
        refine p_lload_n G rfl 0 rfl dX6_card_58 ?_
        obtain ⟨v11, hc, h⟩ := bnd_some h
        refine p_callS0 G dX6_card_59 lk_X6_250 (c_X6_lowestOf (gl Γ) hc) (As := [.long v10]) rfl zk_21 rfl (Nat.le_of_ble_eq_true rfl) ⟨rfl, rfl, Nat.le_of_ble_eq_true rfl, Nat.le_of_ble_eq_true rfl⟩ hcs ?_
        (cases h; exact p_iret G hR dX6_card_62 rfl rfl)
      refine lup_walk (s := (v2, (0 : Int))) (At := fun s : Int64 × Int => PT Γ 6 shX 33 σ [(2, .int (zJ p2)), (3, .long s.1), (5, .int (zJ s.2))] []) (fun s r hf hin33 hout33 => ?_) hl33
      obtain ⟨u3_33, u5_33⟩ := s
      have h : x_X6_card_b33 σ p2 u3_33 u5_33 = some r := hf
      clear hf
      unfold x_X6_card_b33 at h
      refine (?_ : PT Γ 6 shX 33 σ [(2, .int (zJ p2)), (3, .long u3_33), (5, .int (zJ u5_33))] [])
      refine p_iload G 2 rfl dX6_card_33 ?_
      refine p_iload_n G rfl 0 rfl dX6_card_35 ?_
      refine p_icmpge (tgt := 58) G dX6_card_36 (by decide) h (fun c7 h => ?_) (fun c7 h => ?_)
      · refine p_lv [1] rfl ?_
        have he := hout33 _ (Option.some.inj h).symm
        subst he
        exact hX33_58 _ rfl
      · refine p_iload G 2 rfl dX6_card_39 ?_
        refine p_bipush G (by decide) (by decide) dX6_card_41 ?_
        refine p_icmpge (tgt := 58) G dX6_card_43 (by decide) h (fun c6 h => ?_) (fun c6 h => ?_)
        · refine p_lv [1] rfl ?_
          have he := hout33 _ (Option.some.inj h).symm
          subst he
          exact hX33_58 _ rfl
        · refine p_lload_n G rfl 1 rfl dX6_card_46 ?_
          refine p_lload_n G rfl 1 rfl dX6_card_47 ?_
          refine p_lconst G (v := 1) (by decide) dX6_card_48 ?_
          refine p_lsub G dX6_card_49 ?_
          refine p_land G dX6_card_50 ?_
          refine p_lstore_n (lv' := fun v4 => [(3, .long v4), (2, .int (zJ p2)), (5, .int (zJ u5_33))]) G rfl dX6_card_51 h (by decide) (fun _ => rfl) (fun v4 h => ?_)
          refine p_iinc (lv' := fun v5 => [(5, .int (zJ v5)), (3, .long v4), (2, .int (zJ p2))]) G dX6_card_52 h 2 rfl (by decide) (fun _ => rfl) (fun v5 h => ?_)
          refine p_goto (tgt := 33) G dX6_card_55 (by decide) ?_
          refine p_lv [2, 1, 0] rfl ?_
          exact hin33 _ (Option.some.inj h).symm
    · refine p_iconst G rfl dX6_card_28 ?_
      (cases h; exact p_iret G hR dX6_card_29 rfl rfl)
set_option maxHeartbeats 4000000 in
set_option maxRecDepth 100000 in
theorem c_X6_where (l : Launch) {D : va_G} {yy : Nat → ClassId} {tk tv a : Nat → Nat} {σ : Mm} {p1 : Int} {o : Int} (h : x_X6_where σ p1 = some (.inl o)) : CT l yX6_where cX6_where 2 (some .int) rm_X6_where shX D yy tk tv a σ [.ref (a 0), .int (zJ p1)] σ (some (.int (zJ o))) := by
  refine ct_of (Ar := fun a tk => [.ref (a 0), .int (zJ p1)]) (by decide) (Nat.le_of_ble_eq_true rfl) (fun Γ G _ _ hR => ?_)
  have hcs := rt_cs hR
  unfold x_X6_where at h
  refine (?_ : PT Γ 2 shX 0 σ [(0, .ref (ga Γ 0)), (1, .int (zJ p1))] [])
  refine p_iload_n G rfl 1 rfl dX6_where_0 ?_
  refine p_iconst G rfl dX6_where_1 ?_
  refine p_bipush G (by decide) (by decide) dX6_where_2 ?_
  obtain ⟨v1, hc, h⟩ := bnd_some h
  refine p_callS0 G dX6_where_4 lk_X6_150 (c_X6_isWithin (gl Γ) hc) (As := [.int (zJ p1), .int (zJ (0 : Int)), .int (zJ (51 : Int))]) rfl zk_21 rfl (Nat.le_of_ble_eq_true rfl) ⟨rfl, rfl, Nat.le_of_ble_eq_true rfl, Nat.le_of_ble_eq_true rfl⟩ hcs ?_
  obtain ⟨o_, hc, h⟩ := bthr h
  refine p_callS0 G dX6_where_7 lk_X6_154 (c_X6_require (gl Γ) hc) (As := [.int (zJ v1)]) rfl zk_21 rfl (Nat.le_of_ble_eq_true rfl) ⟨rfl, rfl, Nat.le_of_ble_eq_true rfl, Nat.le_of_ble_eq_true rfl⟩ hcs ?_
  refine p_aload_n G rfl 0 rfl dX6_where_10 ?_
  refine p_get G dX6_where_11 fl_X6_12 (k := 0) rfl rfl ?_
  refine p_iload_n G rfl 1 rfl dX6_where_14 ?_
  obtain ⟨v2, hc, h⟩ := bnd_some h
  refine p_callVr G zl_20 dX6_where_15 lk_X6_253 (c_X2_placeOf (gl Γ) hc) (As := [.int (zJ p1)]) (ci := 2) rfl zk_20 (zs_x zs_20 _) rfl rfl rfl (Nat.le_of_ble_eq_true rfl) ⟨rfl, rfl, Nat.le_of_ble_eq_true rfl, Nat.le_of_ble_eq_true rfl⟩ hcs ?_
  (cases h; exact p_iret G hR dX6_where_18 rfl rfl)
set_option maxHeartbeats 4000000 in
set_option maxRecDepth 100000 in
theorem c_X6_meldOf (l : Launch) {D : va_G} {yy : Nat → ClassId} {tk tv a : Nat → Nat} {σ : Mm} {p1 : Int} {p2 : Int} {o : Mm × Int} (h : x_X6_meldOf σ p1 p2 = some (.inl o)) : CT l yX6_meldOf cX6_meldOf 3 (some .int) rm_X6_meldOf shX D yy tk tv a σ [.ref (a 0), .int (zJ p1), .int (zJ p2)] o.1 (some (.int (zJ o.2))) := by
  refine ct_of (Ar := fun a tk => [.ref (a 0), .int (zJ p1), .int (zJ p2)]) (by decide) (Nat.le_of_ble_eq_true rfl) (fun Γ G _ _ hR => ?_)
  have hcs := rt_cs hR
  unfold x_X6_meldOf at h
  refine (?_ : PT Γ 3 shX 0 σ [(0, .ref (ga Γ 0)), (1, .int (zJ p1)), (2, .int (zJ p2))] [])
  refine p_iload_n G rfl 1 rfl dX6_meldOf_0 ?_
  obtain ⟨v1, hc, h⟩ := bnd_some h
  refine p_callS0 G dX6_meldOf_1 lk_X6_215 (c_X6_isPlayer (gl Γ) hc) (As := [.int (zJ p1)]) rfl zk_21 rfl (Nat.le_of_ble_eq_true rfl) ⟨rfl, rfl, Nat.le_of_ble_eq_true rfl, Nat.le_of_ble_eq_true rfl⟩ hcs ?_
  obtain ⟨o_, hc, h⟩ := bthr h
  refine p_callS0 G dX6_meldOf_4 lk_X6_154 (c_X6_require (gl Γ) hc) (As := [.int (zJ v1)]) rfl zk_21 rfl (Nat.le_of_ble_eq_true rfl) ⟨rfl, rfl, Nat.le_of_ble_eq_true rfl, Nat.le_of_ble_eq_true rfl⟩ hcs ?_
  refine p_aload_n G rfl 0 rfl dX6_meldOf_7 ?_
  refine p_iload_n G rfl 1 rfl dX6_meldOf_8 ?_
  refine p_iload_n G rfl 2 rfl dX6_meldOf_9 ?_
  obtain ⟨o_, hc, h⟩ := bthr h
  refine p_callVi G dX6_meldOf_10 lk_X6_102 (c_X6_requireHeld (gl Γ) hc) (As := [.int (zJ p1), .int (zJ p2)]) (ci := 6) rfl rfl rfl rfl (Nat.le_of_ble_eq_true rfl) ⟨rfl, rfl, Nat.le_of_ble_eq_true rfl, Nat.le_of_ble_eq_true rfl⟩ hcs ?_
  refine p_aload_n G rfl 0 rfl dX6_meldOf_13 ?_
  refine p_get G dX6_meldOf_14 fl_X6_40 (k := 0) rfl rfl ?_
  refine p_aload_n G rfl 0 rfl dX6_meldOf_17 ?_
  refine p_get G dX6_meldOf_18 fl_X6_12 (k := 0) rfl rfl ?_
  refine p_iload_n G rfl 1 rfl dX6_meldOf_21 ?_
  obtain ⟨v2, hc, h⟩ := bnd_some h
  refine p_callVr G zl_20 dX6_meldOf_22 lk_X6_219 (c_X2_handOf (gl Γ) hc) (As := [.int (zJ p1)]) (ci := 2) rfl zk_20 (zs_x zs_20 _) rfl rfl rfl (Nat.le_of_ble_eq_true rfl) ⟨rfl, rfl, Nat.le_of_ble_eq_true rfl, Nat.le_of_ble_eq_true rfl⟩ hcs ?_
  obtain ⟨σ3, hc, h⟩ := bnd_some h
  refine p_callV G zl_23 dX6_meldOf_25 lk_X6_222 (c_X1_lay (gl Γ) hc) (As := [.long v2]) (ci := 1) rfl zk_23 (zs_x zs_23 _) rfl rfl rfl (Nat.le_of_ble_eq_true rfl) ⟨rfl, rfl, Nat.le_of_ble_eq_true rfl, Nat.le_of_ble_eq_true rfl⟩ hcs ?_
  refine p_nm h (fun σ4 h => ?_)
  refine p_aload_n G rfl 0 rfl dX6_meldOf_28 ?_
  refine p_get G dX6_meldOf_29 fl_X6_40 (k := 0) rfl rfl ?_
  refine p_iload_n G rfl 2 rfl dX6_meldOf_32 ?_
  obtain ⟨v5, hc, h⟩ := bnd_some h
  refine p_callVr G zl_23 dX6_meldOf_33 lk_X6_256 (c_X1_indexOf (gl Γ) hc) (As := [.int (zJ p2)]) (ci := 1) rfl zk_23 (zs_x zs_23 _) rfl rfl rfl (Nat.le_of_ble_eq_true rfl) ⟨rfl, rfl, Nat.le_of_ble_eq_true rfl, Nat.le_of_ble_eq_true rfl⟩ hcs ?_
  (cases h; exact p_iret G hR dX6_meldOf_36 rfl rfl)
set_option maxHeartbeats 4000000 in
set_option maxRecDepth 100000 in
theorem c_X6_meld (l : Launch) {D : va_G} {yy : Nat → ClassId} {tk tv a : Nat → Nat} {σ : Mm} {p1 : Int} {p2 : Int} {p3 : Int} {o : Mm × Int} (h : x_X6_meld σ p1 p2 p3 = some (.inl o)) : CT l yX6_meld cX6_meld 7 (some .int) rm_X6_meld shX D yy tk tv a σ [.ref (a 0), .int (zJ p1), .int (zJ p2), .int (zJ p3)] o.1 (some (.int (zJ o.2))) := by
  refine ct_of (Ar := fun a tk => [.ref (a 0), .int (zJ p1), .int (zJ p2), .int (zJ p3)]) (by decide) (Nat.le_of_ble_eq_true rfl) (fun Γ G _ _ hR => ?_)
  have hcs := rt_cs hR
  unfold x_X6_meld at h
  refine (?_ : PT Γ 7 shX 0 σ [(0, .ref (ga Γ 0)), (1, .int (zJ p1)), (2, .int (zJ p2)), (3, .int (zJ p3))] [])
  have j80 : ∀ (σ_80 : Mm) (v3_80 : Int) (v4_80 : Int64) (w0_80 : Int), x_X6_meld_j80 σ_80 v3_80 v4_80 w0_80 = some (.inl o) → PT Γ 7 shX 80 σ_80 [(3, .int (zJ v3_80)), (4, .long v4_80)] [.int (zJ w0_80)] := by
    intro σ_80 v3_80 v4_80 w0_80 h
    unfold x_X6_meld_j80 at h
    refine p_istoreU (lv' := [(6, .int (zJ w0_80)), (3, .int (zJ v3_80)), (4, .long v4_80)]) G dX6_meld_80 (by decide) rfl ?_
    refine p_iload_n G rfl 1 rfl dX6_meld_82 ?_
    refine zite h (fun c0_83 h => ?_) (fun c0_83 h => ?_)
    · refine p_tin (tgt := 108) (off := 25) G dX6_meld_83 c0_83 (by decide) (by decide) rfl (by decide) ?_
      refine p_lload G 2 rfl dX6_meld_108 ?_
      obtain ⟨v7, hc, h⟩ := bnd_some h
      refine p_callS0 G dX6_meld_110 lk_X6_226 (c_J_Long_bitCount (gl Γ) hc) (As := [.long v4_80]) rfl zk_21 rfl (Nat.le_of_ble_eq_true rfl) ⟨rfl, rfl, Nat.le_of_ble_eq_true rfl, Nat.le_of_ble_eq_true rfl⟩ hcs ?_
      (cases h; exact p_iret G hR dX6_meld_113 rfl rfl)
    · refine zite h (fun c1_83 h => ?_) (fun c1_83 h => ?_)
      · refine p_tin (tgt := 114) (off := 31) G dX6_meld_83 c1_83 (by decide) (by decide) rfl (by decide) ?_
        refine p_iload G 0 rfl dX6_meld_114 ?_
        refine p_ifeq (tgt := 123) G dX6_meld_116 (by decide) h (fun c8 h => ?_) (fun c8 h => ?_)
        · refine p_iconst G rfl dX6_meld_123 ?_
          (cases h; exact p_iret G hR dX6_meld_124 rfl rfl)
        · refine p_iconst G rfl dX6_meld_119 ?_
          refine p_goto (tgt := 124) G dX6_meld_120 (by decide) ?_
          (cases h; exact p_iret G hR dX6_meld_124 rfl rfl)
      · refine zite h (fun c2_83 h => ?_) (fun c2_83 h => ?_)
        · refine p_tin (tgt := 125) (off := 42) G dX6_meld_83 c2_83 (by decide) (by decide) rfl (by decide) ?_
          refine p_iload G 0 rfl dX6_meld_125 ?_
          refine p_ifeq (tgt := 138) G dX6_meld_127 (by decide) h (fun c11 h => ?_) (fun c11 h => ?_)
          · refine p_lload G 2 rfl dX6_meld_138 ?_
            obtain ⟨v9, hc, h⟩ := bnd_some h
            refine p_callS0 G dX6_meld_140 lk_X6_250 (c_X6_lowestOf (gl Γ) hc) (As := [.long v4_80]) rfl zk_21 rfl (Nat.le_of_ble_eq_true rfl) ⟨rfl, rfl, Nat.le_of_ble_eq_true rfl, Nat.le_of_ble_eq_true rfl⟩ hcs ?_
            refine p_bipush G (by decide) (by decide) dX6_meld_143 ?_
            refine p_iremK G dX6_meld_145 (by decide) ?_
            (cases h; exact p_iret G hR dX6_meld_146 rfl rfl)
          · refine p_lload G 2 rfl dX6_meld_130 ?_
            obtain ⟨v10, hc, h⟩ := bnd_some h
            refine p_callS0 G dX6_meld_132 lk_X6_265 (c_X6_firstOf (gl Γ) hc) (As := [.long v4_80]) rfl zk_21 rfl (Nat.le_of_ble_eq_true rfl) ⟨rfl, rfl, Nat.le_of_ble_eq_true rfl, Nat.le_of_ble_eq_true rfl⟩ hcs ?_
            refine p_goto (tgt := 146) G dX6_meld_135 (by decide) ?_
            (cases h; exact p_iret G hR dX6_meld_146 rfl rfl)
        · refine p_tout (tgt := 147) G dX6_meld_83 (by omega) (by decide) ?_
          refine p_lload G 2 rfl dX6_meld_147 ?_
          obtain ⟨v12, hc, h⟩ := bnd_some h
          refine p_callS0 G dX6_meld_149 lk_X6_244 (c_X6_pointsOf (gl Γ) hc) (As := [.long v4_80]) rfl zk_21 rfl (Nat.le_of_ble_eq_true rfl) ⟨rfl, rfl, Nat.le_of_ble_eq_true rfl, Nat.le_of_ble_eq_true rfl⟩ hcs ?_
          (cases h; exact p_iret G hR dX6_meld_152 rfl rfl)
  have j21 : ∀ (σ_21 : Mm) (v1_21 : Int) (v2_21 : Int) (v3_21 : Int) (w0_21 : Int), x_X6_meld_j21 σ_21 v1_21 v2_21 v3_21 w0_21 = some (.inl o) → PT Γ 7 shX 21 σ_21 [(0, .ref (ga Γ 0)), (1, .int (zJ v1_21)), (2, .int (zJ v2_21)), (3, .int (zJ v3_21))] [.int (zJ w0_21)] := by
    intro σ_21 v1_21 v2_21 v3_21 w0_21 h
    unfold x_X6_meld_j21 at h
    obtain ⟨o_, hc, h⟩ := bthr h
    refine p_callS0 G dX6_meld_21 lk_X6_154 (c_X6_require (gl Γ) hc) (As := [.int (zJ w0_21)]) rfl zk_21 rfl (Nat.le_of_ble_eq_true rfl) ⟨rfl, rfl, Nat.le_of_ble_eq_true rfl, Nat.le_of_ble_eq_true rfl⟩ hcs ?_
    refine p_aload_n G rfl 0 rfl dX6_meld_24 ?_
    refine p_get G dX6_meld_25 fl_X6_40 (k := 0) rfl rfl ?_
    refine p_aload_n G rfl 0 rfl dX6_meld_28 ?_
    refine p_get G dX6_meld_29 fl_X6_12 (k := 0) rfl rfl ?_
    refine p_iload_n G rfl 1 rfl dX6_meld_32 ?_
    obtain ⟨v2, hc, h⟩ := bnd_some h
    refine p_callVr G zl_20 dX6_meld_33 lk_X6_219 (c_X2_handOf (gl Γ) hc) (As := [.int (zJ v1_21)]) (ci := 2) rfl zk_20 (zs_x zs_20 _) rfl rfl rfl (Nat.le_of_ble_eq_true rfl) ⟨rfl, rfl, Nat.le_of_ble_eq_true rfl, Nat.le_of_ble_eq_true rfl⟩ hcs ?_
    obtain ⟨σ3, hc, h⟩ := bnd_some h
    refine p_callV G zl_23 dX6_meld_36 lk_X6_222 (c_X1_lay (gl Γ) hc) (As := [.long v2]) (ci := 1) rfl zk_23 (zs_x zs_23 _) rfl rfl rfl (Nat.le_of_ble_eq_true rfl) ⟨rfl, rfl, Nat.le_of_ble_eq_true rfl, Nat.le_of_ble_eq_true rfl⟩ hcs ?_
    refine p_nm h (fun σ4 h => ?_)
    refine p_iload_n G rfl 2 rfl dX6_meld_39 ?_
    refine p_iflt (tgt := 54) G dX6_meld_40 (by decide) h (fun c15 h => ?_) (fun c15 h => ?_)
    · refine p_iconst G rfl dX6_meld_54 ?_
      (cases h; exact p_iret G hR dX6_meld_55 rfl rfl)
    · refine p_iload_n G rfl 2 rfl dX6_meld_43 ?_
      refine p_aload_n G rfl 0 rfl dX6_meld_44 ?_
      refine p_get G dX6_meld_45 fl_X6_40 (k := 0) rfl rfl ?_
      refine p_get G dX6_meld_48 fl_X6_235 (k := 77) rfl rfl ?_
      refine p_icmplt (tgt := 56) G dX6_meld_51 (by decide) h (fun c14 h => ?_) (fun c14 h => ?_)
      · refine p_aload_n G rfl 0 rfl dX6_meld_56 ?_
        refine p_get G dX6_meld_57 fl_X6_40 (k := 0) rfl rfl ?_
        refine p_iload_n G rfl 2 rfl dX6_meld_60 ?_
        obtain ⟨v5, hc, h⟩ := bnd_some h
        refine p_callVr G zl_23 dX6_meld_61 lk_X6_259 (c_X1_foundAt (gl Γ) hc) (As := [.int (zJ v2_21)]) (ci := 1) rfl zk_23 (zs_x zs_23 _) rfl rfl rfl (Nat.le_of_ble_eq_true rfl) ⟨rfl, rfl, Nat.le_of_ble_eq_true rfl, Nat.le_of_ble_eq_true rfl⟩ hcs ?_
        refine p_lstoreU (lv' := [(4, .long v5), (0, .ref (ga Γ 0)), (1, .int (zJ v1_21)), (2, .int (zJ v2_21)), (3, .int (zJ v3_21))]) G dX6_meld_64 (by decide) rfl ?_
        refine p_lload G 0 rfl dX6_meld_66 ?_
        obtain ⟨v6, hc, h⟩ := bnd_some h
        refine p_callS0 G dX6_meld_68 lk_X6_262 (c_X6_kindOf (gl Γ) hc) (As := [.long v5]) rfl zk_21 rfl (Nat.le_of_ble_eq_true rfl) ⟨rfl, rfl, Nat.le_of_ble_eq_true rfl, Nat.le_of_ble_eq_true rfl⟩ hcs ?_
        refine p_iconst G rfl dX6_meld_71 ?_
        refine p_icmpne (tgt := 79) G dX6_meld_72 (by decide) h (fun c13 h => ?_) (fun c13 h => ?_)
        · refine p_iconst G rfl dX6_meld_79 ?_
          refine p_lv [4, 0] rfl ?_
          exact j80 _ _ _ _ h
        · refine p_iconst G rfl dX6_meld_75 ?_
          refine p_goto (tgt := 80) G dX6_meld_76 (by decide) ?_
          refine p_lv [4, 0] rfl ?_
          exact j80 _ _ _ _ h
      · refine p_iconst G rfl dX6_meld_54 ?_
        (cases h; exact p_iret G hR dX6_meld_55 rfl rfl)
  have j20 : ∀ (σ_20 : Mm) (v1_20 : Int) (v2_20 : Int) (v3_20 : Int), x_X6_meld_j20 σ_20 v1_20 v2_20 v3_20 = some (.inl o) → PT Γ 7 shX 20 σ_20 [(0, .ref (ga Γ 0)), (1, .int (zJ v1_20)), (2, .int (zJ v2_20)), (3, .int (zJ v3_20))] [] := by
    intro σ_20 v1_20 v2_20 v3_20 h
    unfold x_X6_meld_j20 at h
    refine p_iconst G rfl dX6_meld_20 ?_
    exact j21 _ _ _ _ _ h
  refine p_iload_n G rfl 1 rfl dX6_meld_0 ?_
  obtain ⟨v1, hc, h⟩ := bnd_some h
  refine p_callS0 G dX6_meld_1 lk_X6_215 (c_X6_isPlayer (gl Γ) hc) (As := [.int (zJ p1)]) rfl zk_21 rfl (Nat.le_of_ble_eq_true rfl) ⟨rfl, rfl, Nat.le_of_ble_eq_true rfl, Nat.le_of_ble_eq_true rfl⟩ hcs ?_
  refine p_ifeq (tgt := 20) G dX6_meld_4 (by decide) h (fun c18 h => ?_) (fun c18 h => ?_)
  · exact j20 _ _ _ _ h
  · refine p_iload_n G rfl 3 rfl dX6_meld_7 ?_
    refine p_iconst G rfl dX6_meld_8 ?_
    refine p_iconst G rfl dX6_meld_9 ?_
    obtain ⟨v16, hc, h⟩ := bnd_some h
    refine p_callS0 G dX6_meld_10 lk_X6_150 (c_X6_isWithin (gl Γ) hc) (As := [.int (zJ p3), .int (zJ (0 : Int)), .int (zJ (3 : Int))]) rfl zk_21 rfl (Nat.le_of_ble_eq_true rfl) ⟨rfl, rfl, Nat.le_of_ble_eq_true rfl, Nat.le_of_ble_eq_true rfl⟩ hcs ?_
    refine p_ifeq (tgt := 20) G dX6_meld_13 (by decide) h (fun c17 h => ?_) (fun c17 h => ?_)
    · exact j20 _ _ _ _ h
    · refine p_iconst G rfl dX6_meld_16 ?_
      refine p_goto (tgt := 21) G dX6_meld_17 (by decide) ?_
      exact j21 _ _ _ _ _ h
set_option maxHeartbeats 4000000 in
set_option maxRecDepth 100000 in
theorem c_X6_restWithout (l : Launch) {D : va_G} {yy : Nat → ClassId} {tk tv a : Nat → Nat} {σ : Mm} {p1 : Int} {o : Mm × Int} (h : x_X6_restWithout σ p1 = some (.inl o)) : CT l yX6_restWithout cX6_restWithout 2 (some .int) rm_X6_restWithout shX D yy tk tv a σ [.ref (a 0), .int (zJ p1)] o.1 (some (.int (zJ o.2))) := by
  refine ct_of (Ar := fun a tk => [.ref (a 0), .int (zJ p1)]) (by decide) (Nat.le_of_ble_eq_true rfl) (fun Γ G _ _ hR => ?_)
  have hcs := rt_cs hR
  unfold x_X6_restWithout at h
  refine (?_ : PT Γ 2 shX 0 σ [(0, .ref (ga Γ 0)), (1, .int (zJ p1))] [])
  refine p_aload_n G rfl 0 rfl dX6_restWithout_0 ?_
  refine p_aload_n G rfl 0 rfl dX6_restWithout_1 ?_
  refine p_get G dX6_restWithout_2 fl_X6_12 (k := 0) rfl rfl ?_
  refine p_get G dX6_restWithout_5 fl_X6_99 (k := 1) rfl rfl ?_
  refine p_iload_n G rfl 1 rfl dX6_restWithout_8 ?_
  obtain ⟨o_, hc, h⟩ := bthr h
  refine p_callVi G dX6_restWithout_9 lk_X6_102 (c_X6_requireHeld (gl Γ) hc) (As := [.int (zJ (σ 1 5)), .int (zJ p1)]) (ci := 6) rfl rfl rfl rfl (Nat.le_of_ble_eq_true rfl) ⟨rfl, rfl, Nat.le_of_ble_eq_true rfl, Nat.le_of_ble_eq_true rfl⟩ hcs ?_
  refine p_aload_n G rfl 0 rfl dX6_restWithout_12 ?_
  refine p_get G dX6_restWithout_13 fl_X6_40 (k := 0) rfl rfl ?_
  refine p_aload_n G rfl 0 rfl dX6_restWithout_16 ?_
  refine p_get G dX6_restWithout_17 fl_X6_12 (k := 0) rfl rfl ?_
  refine p_iload_n G rfl 1 rfl dX6_restWithout_20 ?_
  obtain ⟨v1, hc, h⟩ := bnd_some h
  refine p_callVr G zl_20 dX6_restWithout_21 lk_X6_116 (c_X2_handWithout (gl Γ) hc) (As := [.int (zJ p1)]) (ci := 2) rfl zk_20 (zs_x zs_20 _) rfl rfl rfl (Nat.le_of_ble_eq_true rfl) ⟨rfl, rfl, Nat.le_of_ble_eq_true rfl, Nat.le_of_ble_eq_true rfl⟩ hcs ?_
  obtain ⟨σ2, hc, h⟩ := bnd_some h
  refine p_callV G zl_23 dX6_restWithout_24 lk_X6_222 (c_X1_lay (gl Γ) hc) (As := [.long v1]) (ci := 1) rfl zk_23 (zs_x zs_23 _) rfl rfl rfl (Nat.le_of_ble_eq_true rfl) ⟨rfl, rfl, Nat.le_of_ble_eq_true rfl, Nat.le_of_ble_eq_true rfl⟩ hcs ?_
  refine p_nm h (fun σ3 h => ?_)
  refine p_aload_n G rfl 0 rfl dX6_restWithout_27 ?_
  refine p_get G dX6_restWithout_28 fl_X6_40 (k := 0) rfl rfl ?_
  refine p_get G dX6_restWithout_31 fl_X6_232 (k := 77) rfl rfl ?_
  (cases h; exact p_iret G hR dX6_restWithout_34 rfl rfl)
set_option maxHeartbeats 4000000 in
set_option maxRecDepth 100000 in
theorem c_X6_bestDrop (l : Launch) {D : va_G} {yy : Nat → ClassId} {tk tv a : Nat → Nat} {σ : Mm} {o : Mm × Int} (h : x_X6_bestDrop σ = some o) : CT l yX6_bestDrop cX6_bestDrop 5 (some .int) rm_X6_bestDrop shX D yy tk tv a σ [.ref (a 0)] o.1 (some (.int (zJ o.2))) := by
  refine ct_of (Ar := fun a tk => [.ref (a 0)]) (by decide) (Nat.le_of_ble_eq_true rfl) (fun Γ G _ _ hR => ?_)
  have hcs := rt_cs hR
  unfold x_X6_bestDrop at h
  refine (?_ : PT Γ 5 shX 0 σ [(0, .ref (ga Γ 0))] [])
  refine p_aload_n G rfl 0 rfl dX6_bestDrop_0 ?_
  refine p_get G dX6_bestDrop_1 fl_X6_12 (k := 0) rfl rfl ?_
  obtain ⟨v1, hc, h⟩ := bnd_some h
  refine p_callVr G zl_20 dX6_bestDrop_4 lk_X6_268 (c_X2_isDropDue (gl Γ) hc) (As := []) (ci := 2) rfl zk_20 (zs_x zs_20 _) rfl rfl rfl (Nat.le_of_ble_eq_true rfl) ⟨rfl, rfl, Nat.le_of_ble_eq_true rfl, Nat.le_of_ble_eq_true rfl⟩ hcs ?_
  refine p_ifne (tgt := 12) G dX6_bestDrop_7 (by decide) h (fun c35 h => ?_) (fun c35 h => ?_)
  · refine p_iconst G rfl dX6_bestDrop_12 ?_
    refine p_istore_nU (lv' := [(1, .int (zJ (-1 : Int))), (0, .ref (ga Γ 0))]) G rfl dX6_bestDrop_13 (by decide) rfl ?_
    refine p_iconst G rfl dX6_bestDrop_14 ?_
    refine p_istore_nU (lv' := [(2, .int (zJ (0 : Int))), (1, .int (zJ (-1 : Int))), (0, .ref (ga Γ 0))]) G rfl dX6_bestDrop_15 (by decide) rfl ?_
    refine p_iconst G rfl dX6_bestDrop_16 ?_
    refine p_istore_nU (lv' := [(3, .int (zJ (0 : Int))), (2, .int (zJ (0 : Int))), (1, .int (zJ (-1 : Int))), (0, .ref (ga Γ 0))]) G rfl dX6_bestDrop_17 (by decide) rfl ?_
    refine p_lv [3, 2, 1, 0] rfl ?_
    obtain ⟨e32, hl18, h⟩ := bnd_some h
    have hX18_140 : ∀ (σ33 : Mm) (v34 : Int), (σ33, v34) = e32 → PT Γ 5 shX 140 σ33 [(1, .int (zJ v34))] [] := by
      intro σ33 v34 he
      subst he
      rw [un2_mk] at h
      refine p_iload_n G rfl 0 rfl dX6_bestDrop_140 ?_
      (cases h; exact p_iret G hR dX6_bestDrop_141 rfl rfl)
    refine lup_walk (s := (σ, (-1 : Int), (0 : Int), (0 : Int))) (At := fun s : Mm × Int × Int × Int => PT Γ 5 shX 18 s.1 [(0, .ref (ga Γ 0)), (1, .int (zJ s.2.1)), (2, .int (zJ s.2.2.1)), (3, .int (zJ s.2.2.2))] []) (fun s r hf hin18 hout18 => ?_) hl18
    obtain ⟨σ18, u1_18, u2_18, u3_18⟩ := s
    have h : x_X6_bestDrop_b18 σ18 u1_18 u2_18 u3_18 = some r := hf
    clear hf
    have j107 : ∀ (σ_107 : Mm) (v1_107 : Int) (v2_107 : Int) (v3_107 : Int), x_X6_bestDrop_j107_18 σ_107 v1_107 v2_107 v3_107 = some r → PT Γ 5 shX 107 σ_107 [(0, .ref (ga Γ 0)), (1, .int (zJ v1_107)), (2, .int (zJ v2_107)), (3, .int (zJ v3_107))] [] := by
      intro σ_107 v1_107 v2_107 v3_107 h
      unfold x_X6_bestDrop_j107_18 at h
      refine p_iconst G rfl dX6_bestDrop_107 ?_
      refine p_goto (tgt := 112) G dX6_bestDrop_108 (by decide) ?_
      refine p_istoreU (lv' := [(4, .int (zJ (1 : Int))), (0, .ref (ga Γ 0)), (1, .int (zJ v1_107)), (2, .int (zJ v2_107)), (3, .int (zJ v3_107))]) G dX6_bestDrop_112 (by decide) rfl ?_
      refine p_iload_n G rfl 2 rfl dX6_bestDrop_114 ?_
      refine p_iconst G rfl dX6_bestDrop_115 ?_
      refine p_icmpeq (tgt := 124) G dX6_bestDrop_116 (by decide) h (fun c14 h => ?_) (fun c14 h => ?_)
      · refine p_iload_n G rfl 4 rfl dX6_bestDrop_124 ?_
        refine p_istore_nU (lv' := [(1, .int (zJ v3_107)), (4, .int (zJ (1 : Int))), (0, .ref (ga Γ 0)), (2, .int (zJ v2_107)), (3, .int (zJ v3_107))]) G rfl dX6_bestDrop_125 (by decide) rfl ?_
        refine p_aload_n G rfl 2 rfl dX6_bestDrop_126 ?_
        refine p_get G dX6_bestDrop_127 fl_X6_40 (k := 0) rfl rfl ?_
        refine p_get G dX6_bestDrop_130 fl_X6_232 (k := 77) rfl rfl ?_
        refine p_istore_n (lv' := fun v8 => [(2, .int (zJ v8)), (1, .int (zJ v3_107)), (4, .int (zJ (1 : Int))), (0, .ref (ga Γ 0)), (3, .int (zJ v3_107))]) G rfl dX6_bestDrop_133 h (by decide) (fun _ => rfl) (fun v8 h => ?_)
        refine p_iinc (lv' := fun v9 => [(3, .int (zJ v9)), (2, .int (zJ v8)), (1, .int (zJ v3_107)), (4, .int (zJ (1 : Int))), (0, .ref (ga Γ 0))]) G dX6_bestDrop_134 h 4 rfl (by decide) (fun _ => rfl) (fun v9 h => ?_)
        refine p_goto (tgt := 18) G dX6_bestDrop_137 (by decide) ?_
        refine p_lv [4, 2, 1, 0] rfl ?_
        exact hin18 _ (Option.some.inj h).symm
      · refine p_iload G 0 rfl dX6_bestDrop_119 ?_
        refine p_ifeq (tgt := 134) G dX6_bestDrop_121 (by decide) h (fun c13 h => ?_) (fun c13 h => ?_)
        · refine p_iinc (lv' := fun v10 => [(3, .int (zJ v10)), (4, .int (zJ (1 : Int))), (0, .ref (ga Γ 0)), (1, .int (zJ v1_107)), (2, .int (zJ v2_107))]) G dX6_bestDrop_134 h 4 rfl (by decide) (fun _ => rfl) (fun v10 h => ?_)
          refine p_goto (tgt := 18) G dX6_bestDrop_137 (by decide) ?_
          refine p_lv [2, 3, 4, 0] rfl ?_
          exact hin18 _ (Option.some.inj h).symm
        · refine p_iload_n G rfl 4 rfl dX6_bestDrop_124 ?_
          refine p_istore_nU (lv' := [(1, .int (zJ v3_107)), (4, .int (zJ (1 : Int))), (0, .ref (ga Γ 0)), (2, .int (zJ v2_107)), (3, .int (zJ v3_107))]) G rfl dX6_bestDrop_125 (by decide) rfl ?_
          refine p_aload_n G rfl 2 rfl dX6_bestDrop_126 ?_
          refine p_get G dX6_bestDrop_127 fl_X6_40 (k := 0) rfl rfl ?_
          refine p_get G dX6_bestDrop_130 fl_X6_232 (k := 77) rfl rfl ?_
          refine p_istore_n (lv' := fun v11 => [(2, .int (zJ v11)), (1, .int (zJ v3_107)), (4, .int (zJ (1 : Int))), (0, .ref (ga Γ 0)), (3, .int (zJ v3_107))]) G rfl dX6_bestDrop_133 h (by decide) (fun _ => rfl) (fun v11 h => ?_)
          refine p_iinc (lv' := fun v12 => [(3, .int (zJ v12)), (2, .int (zJ v11)), (1, .int (zJ v3_107)), (4, .int (zJ (1 : Int))), (0, .ref (ga Γ 0))]) G dX6_bestDrop_134 h 4 rfl (by decide) (fun _ => rfl) (fun v12 h => ?_)
          refine p_goto (tgt := 18) G dX6_bestDrop_137 (by decide) ?_
          refine p_lv [4, 2, 1, 0] rfl ?_
          exact hin18 _ (Option.some.inj h).symm
    have j111 : ∀ (σ_111 : Mm) (v1_111 : Int) (v2_111 : Int) (v3_111 : Int), x_X6_bestDrop_j111_18 σ_111 v1_111 v2_111 v3_111 = some r → PT Γ 5 shX 111 σ_111 [(0, .ref (ga Γ 0)), (1, .int (zJ v1_111)), (2, .int (zJ v2_111)), (3, .int (zJ v3_111))] [] := by
      intro σ_111 v1_111 v2_111 v3_111 h
      unfold x_X6_bestDrop_j111_18 at h
      refine p_iconst G rfl dX6_bestDrop_111 ?_
      refine p_istoreU (lv' := [(4, .int (zJ (0 : Int))), (0, .ref (ga Γ 0)), (1, .int (zJ v1_111)), (2, .int (zJ v2_111)), (3, .int (zJ v3_111))]) G dX6_bestDrop_112 (by decide) rfl ?_
      refine p_iload_n G rfl 2 rfl dX6_bestDrop_114 ?_
      refine p_iconst G rfl dX6_bestDrop_115 ?_
      refine p_icmpeq (tgt := 124) G dX6_bestDrop_116 (by decide) h (fun c21 h => ?_) (fun c21 h => ?_)
      · refine p_iload_n G rfl 4 rfl dX6_bestDrop_124 ?_
        refine p_istore_nU (lv' := [(1, .int (zJ v3_111)), (4, .int (zJ (0 : Int))), (0, .ref (ga Γ 0)), (2, .int (zJ v2_111)), (3, .int (zJ v3_111))]) G rfl dX6_bestDrop_125 (by decide) rfl ?_
        refine p_aload_n G rfl 2 rfl dX6_bestDrop_126 ?_
        refine p_get G dX6_bestDrop_127 fl_X6_40 (k := 0) rfl rfl ?_
        refine p_get G dX6_bestDrop_130 fl_X6_232 (k := 77) rfl rfl ?_
        refine p_istore_n (lv' := fun v15 => [(2, .int (zJ v15)), (1, .int (zJ v3_111)), (4, .int (zJ (0 : Int))), (0, .ref (ga Γ 0)), (3, .int (zJ v3_111))]) G rfl dX6_bestDrop_133 h (by decide) (fun _ => rfl) (fun v15 h => ?_)
        refine p_iinc (lv' := fun v16 => [(3, .int (zJ v16)), (2, .int (zJ v15)), (1, .int (zJ v3_111)), (4, .int (zJ (0 : Int))), (0, .ref (ga Γ 0))]) G dX6_bestDrop_134 h 4 rfl (by decide) (fun _ => rfl) (fun v16 h => ?_)
        refine p_goto (tgt := 18) G dX6_bestDrop_137 (by decide) ?_
        refine p_lv [4, 2, 1, 0] rfl ?_
        exact hin18 _ (Option.some.inj h).symm
      · refine p_iload G 0 rfl dX6_bestDrop_119 ?_
        refine p_ifeq (tgt := 134) G dX6_bestDrop_121 (by decide) h (fun c20 h => ?_) (fun c20 h => ?_)
        · refine p_iinc (lv' := fun v17 => [(3, .int (zJ v17)), (4, .int (zJ (0 : Int))), (0, .ref (ga Γ 0)), (1, .int (zJ v1_111)), (2, .int (zJ v2_111))]) G dX6_bestDrop_134 h 4 rfl (by decide) (fun _ => rfl) (fun v17 h => ?_)
          refine p_goto (tgt := 18) G dX6_bestDrop_137 (by decide) ?_
          refine p_lv [2, 3, 4, 0] rfl ?_
          exact hin18 _ (Option.some.inj h).symm
        · refine p_iload_n G rfl 4 rfl dX6_bestDrop_124 ?_
          refine p_istore_nU (lv' := [(1, .int (zJ v3_111)), (4, .int (zJ (0 : Int))), (0, .ref (ga Γ 0)), (2, .int (zJ v2_111)), (3, .int (zJ v3_111))]) G rfl dX6_bestDrop_125 (by decide) rfl ?_
          refine p_aload_n G rfl 2 rfl dX6_bestDrop_126 ?_
          refine p_get G dX6_bestDrop_127 fl_X6_40 (k := 0) rfl rfl ?_
          refine p_get G dX6_bestDrop_130 fl_X6_232 (k := 77) rfl rfl ?_
          refine p_istore_n (lv' := fun v18 => [(2, .int (zJ v18)), (1, .int (zJ v3_111)), (4, .int (zJ (0 : Int))), (0, .ref (ga Γ 0)), (3, .int (zJ v3_111))]) G rfl dX6_bestDrop_133 h (by decide) (fun _ => rfl) (fun v18 h => ?_)
          refine p_iinc (lv' := fun v19 => [(3, .int (zJ v19)), (2, .int (zJ v18)), (1, .int (zJ v3_111)), (4, .int (zJ (0 : Int))), (0, .ref (ga Γ 0))]) G dX6_bestDrop_134 h 4 rfl (by decide) (fun _ => rfl) (fun v19 h => ?_)
          refine p_goto (tgt := 18) G dX6_bestDrop_137 (by decide) ?_
          refine p_lv [4, 2, 1, 0] rfl ?_
          exact hin18 _ (Option.some.inj h).symm
    unfold x_X6_bestDrop_b18 at h
    refine (?_ : PT Γ 5 shX 18 σ18 [(0, .ref (ga Γ 0)), (1, .int (zJ u1_18)), (2, .int (zJ u2_18)), (3, .int (zJ u3_18))] [])
    refine p_iload_n G rfl 3 rfl dX6_bestDrop_18 ?_
    refine p_bipush G (by decide) (by decide) dX6_bestDrop_19 ?_
    refine p_icmpge (tgt := 140) G dX6_bestDrop_21 (by decide) h (fun c30 h => ?_) (fun c30 h => ?_)
    · refine p_lv [1] rfl ?_
      have he := hout18 _ (Option.some.inj h).symm
      subst he
      exact hX18_140 _ _ rfl
    · refine p_aload_n G rfl 0 rfl dX6_bestDrop_24 ?_
      refine p_get G dX6_bestDrop_25 fl_X6_12 (k := 0) rfl rfl ?_
      refine p_aload_n G rfl 0 rfl dX6_bestDrop_28 ?_
      refine p_get G dX6_bestDrop_29 fl_X6_12 (k := 0) rfl rfl ?_
      refine p_get G dX6_bestDrop_32 fl_X6_99 (k := 1) rfl rfl ?_
      obtain ⟨v2, hc, h⟩ := bnd_some h
      refine p_callVr G zl_20 dX6_bestDrop_35 lk_X6_219 (c_X2_handOf (gl Γ) hc) (As := [.int (zJ (σ18 1 5))]) (ci := 2) rfl zk_20 (zs_x zs_20 _) rfl rfl rfl (Nat.le_of_ble_eq_true rfl) ⟨rfl, rfl, Nat.le_of_ble_eq_true rfl, Nat.le_of_ble_eq_true rfl⟩ hcs ?_
      refine p_iload_n G rfl 3 rfl dX6_bestDrop_38 ?_
      obtain ⟨v3, hc, h⟩ := bnd_some h
      refine p_callS0 G dX6_bestDrop_39 lk_X6_271 (c_X6_has (gl Γ) hc) (As := [.long v2, .int (zJ u3_18)]) rfl zk_21 rfl (Nat.le_of_ble_eq_true rfl) ⟨rfl, rfl, Nat.le_of_ble_eq_true rfl, Nat.le_of_ble_eq_true rfl⟩ hcs ?_
      refine p_ifeq (tgt := 134) G dX6_bestDrop_42 (by decide) h (fun c29 h => ?_) (fun c29 h => ?_)
      · refine p_iinc (lv' := fun v4 => [(3, .int (zJ v4)), (0, .ref (ga Γ 0)), (1, .int (zJ u1_18)), (2, .int (zJ u2_18))]) G dX6_bestDrop_134 h 3 rfl (by decide) (fun _ => rfl) (fun v4 h => ?_)
        refine p_goto (tgt := 18) G dX6_bestDrop_137 (by decide) ?_
        refine p_lv [1, 2, 3, 0] rfl ?_
        exact hin18 _ (Option.some.inj h).symm
      · refine p_iload_n G rfl 3 rfl dX6_bestDrop_45 ?_
        refine p_aload_n G rfl 0 rfl dX6_bestDrop_46 ?_
        refine p_get G dX6_bestDrop_47 fl_X6_12 (k := 0) rfl rfl ?_
        refine p_get G dX6_bestDrop_50 fl_X6_275 (k := 1) rfl rfl ?_
        refine p_icmpne (tgt := 59) G dX6_bestDrop_53 (by decide) h (fun c28 h => ?_) (fun c28 h => ?_)
        · refine p_aload_n G rfl 0 rfl dX6_bestDrop_59 ?_
          refine p_get G dX6_bestDrop_60 fl_X6_40 (k := 0) rfl rfl ?_
          refine p_aload_n G rfl 0 rfl dX6_bestDrop_63 ?_
          refine p_get G dX6_bestDrop_64 fl_X6_12 (k := 0) rfl rfl ?_
          refine p_iload_n G rfl 3 rfl dX6_bestDrop_67 ?_
          obtain ⟨v5, hc, h⟩ := bnd_some h
          refine p_callVr G zl_20 dX6_bestDrop_68 lk_X6_116 (c_X2_handWithout (gl Γ) hc) (As := [.int (zJ u3_18)]) (ci := 2) rfl zk_20 (zs_x zs_20 _) rfl rfl rfl (Nat.le_of_ble_eq_true rfl) ⟨rfl, rfl, Nat.le_of_ble_eq_true rfl, Nat.le_of_ble_eq_true rfl⟩ hcs ?_
          obtain ⟨σ6, hc, h⟩ := bnd_some h
          refine p_callV G zl_23 dX6_bestDrop_71 lk_X6_222 (c_X1_lay (gl Γ) hc) (As := [.long v5]) (ci := 1) rfl zk_23 (zs_x zs_23 _) rfl rfl rfl (Nat.le_of_ble_eq_true rfl) ⟨rfl, rfl, Nat.le_of_ble_eq_true rfl, Nat.le_of_ble_eq_true rfl⟩ hcs ?_
          refine p_nm h (fun σ7 h => ?_)
          refine p_aload_n G rfl 0 rfl dX6_bestDrop_74 ?_
          refine p_get G dX6_bestDrop_75 fl_X6_40 (k := 0) rfl rfl ?_
          refine p_get G dX6_bestDrop_78 fl_X6_232 (k := 77) rfl rfl ?_
          refine p_iload_n G rfl 2 rfl dX6_bestDrop_81 ?_
          refine p_icmplt (tgt := 107) G dX6_bestDrop_82 (by decide) h (fun c26 h => ?_) (fun c26 h => ?_)
          · exact j107 _ _ _ _ h
          · refine p_aload_n G rfl 0 rfl dX6_bestDrop_85 ?_
            refine p_get G dX6_bestDrop_86 fl_X6_40 (k := 0) rfl rfl ?_
            refine p_get G dX6_bestDrop_89 fl_X6_232 (k := 77) rfl rfl ?_
            refine p_iload_n G rfl 2 rfl dX6_bestDrop_92 ?_
            refine p_icmpne (tgt := 111) G dX6_bestDrop_93 (by decide) h (fun c25 h => ?_) (fun c25 h => ?_)
            · exact j111 _ _ _ _ h
            · refine p_iload_n G rfl 3 rfl dX6_bestDrop_96 ?_
              obtain ⟨v22, hc, h⟩ := bnd_some h
              refine p_callS0 G dX6_bestDrop_97 lk_X6_278 (c_X6_pointsFor (gl Γ) hc) (As := [.int (zJ u3_18)]) rfl zk_21 rfl (Nat.le_of_ble_eq_true rfl) ⟨rfl, rfl, Nat.le_of_ble_eq_true rfl, Nat.le_of_ble_eq_true rfl⟩ hcs ?_
              refine p_iload_n G rfl 1 rfl dX6_bestDrop_100 ?_
              obtain ⟨v23, hc, h⟩ := bnd_some h
              refine p_callS0 G dX6_bestDrop_101 lk_X6_278 (c_X6_pointsFor (gl Γ) hc) (As := [.int (zJ u1_18)]) rfl zk_21 rfl (Nat.le_of_ble_eq_true rfl) ⟨rfl, rfl, Nat.le_of_ble_eq_true rfl, Nat.le_of_ble_eq_true rfl⟩ hcs ?_
              refine p_icmple (tgt := 111) G dX6_bestDrop_104 (by decide) h (fun c24 h => ?_) (fun c24 h => ?_)
              · exact j111 _ _ _ _ h
              · exact j107 _ _ _ _ h
        · refine p_goto (tgt := 134) G dX6_bestDrop_56 (by decide) ?_
          refine p_iinc (lv' := fun v27 => [(3, .int (zJ v27)), (0, .ref (ga Γ 0)), (1, .int (zJ u1_18)), (2, .int (zJ u2_18))]) G dX6_bestDrop_134 h 3 rfl (by decide) (fun _ => rfl) (fun v27 h => ?_)
          refine p_goto (tgt := 18) G dX6_bestDrop_137 (by decide) ?_
          refine p_lv [1, 2, 3, 0] rfl ?_
          exact hin18 _ (Option.some.inj h).symm
  · refine p_iconst G rfl dX6_bestDrop_10 ?_
    (cases h; exact p_iret G hR dX6_bestDrop_11 rfl rfl)
set_option maxHeartbeats 4000000 in
set_option maxRecDepth 100000 in
theorem c_X6_restByPile (l : Launch) {D : va_G} {yy : Nat → ClassId} {tk tv a : Nat → Nat} {σ : Mm} {o : Mm × Int} (h : x_X6_restByPile σ = some o) : CT l yX6_restByPile cX6_restByPile 2 (some .int) rm_X6_restByPile shX D yy tk tv a σ [.ref (a 0)] o.1 (some (.int (zJ o.2))) := by
  refine ct_of (Ar := fun a tk => [.ref (a 0)]) (by decide) (Nat.le_of_ble_eq_true rfl) (fun Γ G _ _ hR => ?_)
  have hcs := rt_cs hR
  unfold x_X6_restByPile at h
  refine (?_ : PT Γ 2 shX 0 σ [(0, .ref (ga Γ 0))] [])
  refine p_aload_n G rfl 0 rfl dX6_restByPile_0 ?_
  refine p_get G dX6_restByPile_1 fl_X6_12 (k := 0) rfl rfl ?_
  obtain ⟨v1, hc, h⟩ := bnd_some h
  refine p_callVr G zl_20 dX6_restByPile_4 lk_X6_199 (c_X2_topOfPile (gl Γ) hc) (As := []) (ci := 2) rfl zk_20 (zs_x zs_20 _) rfl rfl rfl (Nat.le_of_ble_eq_true rfl) ⟨rfl, rfl, Nat.le_of_ble_eq_true rfl, Nat.le_of_ble_eq_true rfl⟩ hcs ?_
  refine p_istore_nU (lv' := [(1, .int (zJ v1)), (0, .ref (ga Γ 0))]) G rfl dX6_restByPile_7 (by decide) rfl ?_
  refine p_aload_n G rfl 1 rfl dX6_restByPile_8 ?_
  refine p_get G dX6_restByPile_9 fl_X6_12 (k := 0) rfl rfl ?_
  refine p_get G dX6_restByPile_12 fl_X6_186 (k := 1) rfl rfl ?_
  refine p_ifne (tgt := 33) G dX6_restByPile_15 (by decide) h (fun c9 h => ?_) (fun c9 h => ?_)
  · refine p_iconst G rfl dX6_restByPile_33 ?_
    (cases h; exact p_iret G hR dX6_restByPile_34 rfl rfl)
  · refine p_aload_n G rfl 1 rfl dX6_restByPile_18 ?_
    refine p_get G dX6_restByPile_19 fl_X6_12 (k := 0) rfl rfl ?_
    refine p_get G dX6_restByPile_22 fl_X6_190 (k := 1) rfl rfl ?_
    refine p_ifne (tgt := 33) G dX6_restByPile_25 (by decide) h (fun c8 h => ?_) (fun c8 h => ?_)
    · refine p_iconst G rfl dX6_restByPile_33 ?_
      (cases h; exact p_iret G hR dX6_restByPile_34 rfl rfl)
    · refine p_iload_n G rfl 0 rfl dX6_restByPile_28 ?_
      refine p_iconst G rfl dX6_restByPile_29 ?_
      refine p_icmpne (tgt := 35) G dX6_restByPile_30 (by decide) h (fun c7 h => ?_) (fun c7 h => ?_)
      · refine p_aload_n G rfl 1 rfl dX6_restByPile_35 ?_
        refine p_get G dX6_restByPile_36 fl_X6_40 (k := 0) rfl rfl ?_
        refine p_aload_n G rfl 1 rfl dX6_restByPile_39 ?_
        refine p_get G dX6_restByPile_40 fl_X6_12 (k := 0) rfl rfl ?_
        refine p_aload_n G rfl 1 rfl dX6_restByPile_43 ?_
        refine p_get G dX6_restByPile_44 fl_X6_12 (k := 0) rfl rfl ?_
        refine p_get G dX6_restByPile_47 fl_X6_99 (k := 1) rfl rfl ?_
        obtain ⟨v2, hc, h⟩ := bnd_some h
        refine p_callVr G zl_20 dX6_restByPile_50 lk_X6_219 (c_X2_handOf (gl Γ) hc) (As := [.int (zJ (σ 1 5))]) (ci := 2) rfl zk_20 (zs_x zs_20 _) rfl rfl rfl (Nat.le_of_ble_eq_true rfl) ⟨rfl, rfl, Nat.le_of_ble_eq_true rfl, Nat.le_of_ble_eq_true rfl⟩ hcs ?_
        refine p_iload_n G rfl 0 rfl dX6_restByPile_53 ?_
        obtain ⟨v3, hc, h⟩ := bnd_some h
        refine p_callS0 G dX6_restByPile_54 lk_X6_281 (c_X6_bitOf (gl Γ) hc) (As := [.int (zJ v1)]) rfl zk_21 rfl (Nat.le_of_ble_eq_true rfl) ⟨rfl, rfl, Nat.le_of_ble_eq_true rfl, Nat.le_of_ble_eq_true rfl⟩ hcs ?_
        refine p_lor G dX6_restByPile_57 ?_
        refine p_iload_n G rfl 0 rfl dX6_restByPile_58 ?_
        obtain ⟨⟨σ4, v5⟩, hc, h⟩ := bnd_some h
        rw [un2_mk] at h
        refine p_callV G zl_23 dX6_restByPile_59 lk_X6_284 (c_X1_restBehindDrop (gl Γ) hc) (As := [.long (v2 ||| v3), .int (zJ v1)]) (ci := 1) rfl zk_23 (zs_x zs_23 _) rfl rfl rfl (Nat.le_of_ble_eq_true rfl) ⟨rfl, rfl, Nat.le_of_ble_eq_true rfl, Nat.le_of_ble_eq_true rfl⟩ hcs ?_
        refine p_nm h (fun σ6 h => ?_)
        (cases h; exact p_iret G hR dX6_restByPile_62 rfl rfl)
      · refine p_iconst G rfl dX6_restByPile_33 ?_
        (cases h; exact p_iret G hR dX6_restByPile_34 rfl rfl)
set_option maxHeartbeats 4000000 in
set_option maxRecDepth 100000 in
theorem c_X6_helping (l : Launch) {D : va_G} {yy : Nat → ClassId} {tk tv a : Nat → Nat} {σ : Mm} {p1 : Int} {o : Mm × Int} (h : x_X6_helping σ p1 = some (.inl o)) : CT l yX6_helping cX6_helping 7 (some .int) rm_X6_helping shX D yy tk tv a σ [.ref (a 0), .int (zJ p1)] o.1 (some (.int (zJ o.2))) := by
  refine ct_of (Ar := fun a tk => [.ref (a 0), .int (zJ p1)]) (by decide) (Nat.le_of_ble_eq_true rfl) (fun Γ G _ _ hR => ?_)
  have hcs := rt_cs hR
  unfold x_X6_helping at h
  refine (?_ : PT Γ 7 shX 0 σ [(0, .ref (ga Γ 0)), (1, .int (zJ p1))] [])
  refine p_iload_n G rfl 1 rfl dX6_helping_0 ?_
  obtain ⟨v1, hc, h⟩ := bnd_some h
  refine p_callS0 G dX6_helping_1 lk_X6_215 (c_X6_isPlayer (gl Γ) hc) (As := [.int (zJ p1)]) rfl zk_21 rfl (Nat.le_of_ble_eq_true rfl) ⟨rfl, rfl, Nat.le_of_ble_eq_true rfl, Nat.le_of_ble_eq_true rfl⟩ hcs ?_
  obtain ⟨o_, hc, h⟩ := bthr h
  refine p_callS0 G dX6_helping_4 lk_X6_154 (c_X6_require (gl Γ) hc) (As := [.int (zJ v1)]) rfl zk_21 rfl (Nat.le_of_ble_eq_true rfl) ⟨rfl, rfl, Nat.le_of_ble_eq_true rfl, Nat.le_of_ble_eq_true rfl⟩ hcs ?_
  refine p_aload_n G rfl 0 rfl dX6_helping_7 ?_
  refine p_get G dX6_helping_8 fl_X6_12 (k := 0) rfl rfl ?_
  refine p_iload_n G rfl 1 rfl dX6_helping_11 ?_
  obtain ⟨v2, hc, h⟩ := bnd_some h
  refine p_callVr G zl_20 dX6_helping_12 lk_X6_219 (c_X2_handOf (gl Γ) hc) (As := [.int (zJ p1)]) (ci := 2) rfl zk_20 (zs_x zs_20 _) rfl rfl rfl (Nat.le_of_ble_eq_true rfl) ⟨rfl, rfl, Nat.le_of_ble_eq_true rfl, Nat.le_of_ble_eq_true rfl⟩ hcs ?_
  refine p_lstore_nU (lv' := [(2, .long v2), (0, .ref (ga Γ 0)), (1, .int (zJ p1))]) G rfl dX6_helping_15 (by decide) rfl ?_
  refine p_lload_n G rfl 0 rfl dX6_helping_16 ?_
  obtain ⟨v3, hc, h⟩ := bnd_some h
  refine p_callS0 G dX6_helping_17 lk_X6_226 (c_J_Long_bitCount (gl Γ) hc) (As := [.long v2]) rfl zk_21 rfl (Nat.le_of_ble_eq_true rfl) ⟨rfl, rfl, Nat.le_of_ble_eq_true rfl, Nat.le_of_ble_eq_true rfl⟩ hcs ?_
  refine p_aload_n G rfl 1 rfl dX6_helping_20 ?_
  refine p_get G dX6_helping_21 fl_X6_12 (k := 0) rfl rfl ?_
  refine p_get G dX6_helping_24 fl_X6_87 (k := 1) rfl rfl ?_
  refine p_icmpeq (tgt := 32) G dX6_helping_27 (by decide) h (fun c23 h => ?_) (fun c23 h => ?_)
  · refine p_aload_n G rfl 1 rfl dX6_helping_32 ?_
    refine p_get G dX6_helping_33 fl_X6_40 (k := 0) rfl rfl ?_
    refine p_lload_n G rfl 0 rfl dX6_helping_36 ?_
    obtain ⟨σ4, hc, h⟩ := bnd_some h
    refine p_callV G zl_23 dX6_helping_37 lk_X6_222 (c_X1_lay (gl Γ) hc) (As := [.long v2]) (ci := 1) rfl zk_23 (zs_x zs_23 _) rfl rfl rfl (Nat.le_of_ble_eq_true rfl) ⟨rfl, rfl, Nat.le_of_ble_eq_true rfl, Nat.le_of_ble_eq_true rfl⟩ hcs ?_
    refine p_nm h (fun σ5 h => ?_)
    refine p_aload_n G rfl 1 rfl dX6_helping_40 ?_
    refine p_get G dX6_helping_41 fl_X6_40 (k := 0) rfl rfl ?_
    refine p_get G dX6_helping_44 fl_X6_232 (k := 77) rfl rfl ?_
    refine p_istore (lv' := fun v6 => [(4, .int (zJ v6)), (2, .long v2), (0, .ref (ga Γ 0)), (1, .int (zJ p1))]) G dX6_helping_47 h (by decide) (fun _ => rfl) (fun v6 h => ?_)
    refine p_iconst G rfl dX6_helping_49 ?_
    refine p_istoreU (lv' := [(5, .int (zJ (0 : Int))), (4, .int (zJ v6)), (2, .long v2), (0, .ref (ga Γ 0)), (1, .int (zJ p1))]) G dX6_helping_50 (by decide) rfl ?_
    refine p_iconst G rfl dX6_helping_52 ?_
    refine p_istoreU (lv' := [(6, .int (zJ (0 : Int))), (5, .int (zJ (0 : Int))), (4, .int (zJ v6)), (2, .long v2), (0, .ref (ga Γ 0)), (1, .int (zJ p1))]) G dX6_helping_53 (by decide) rfl ?_
    refine p_lv [4, 3, 2, 1, 0] rfl ?_
    obtain ⟨e20, hl55, h⟩ := bnd_some h
    have hX55_101 : ∀ (σ21 : Mm) (v22 : Int), (σ21, v22) = e20 → PT Γ 7 shX 101 σ21 [(5, .int (zJ v22))] [] := by
      intro σ21 v22 he
      subst he
      rw [un2_mk] at h
      refine p_iload G 0 rfl dX6_helping_101 ?_
      (cases h; exact p_iret G hR dX6_helping_103 rfl rfl)
    refine lup_walk (s := (σ5, (0 : Int), (0 : Int))) (At := fun s : Mm × Int × Int => PT Γ 7 shX 55 s.1 [(0, .ref (ga Γ 0)), (2, .long v2), (4, .int (zJ v6)), (5, .int (zJ s.2.1)), (6, .int (zJ s.2.2))] []) (fun s r hf hin55 hout55 => ?_) hl55
    obtain ⟨σ55, u5_55, u6_55⟩ := s
    have h : x_X6_helping_b55 v2 v6 σ55 u5_55 u6_55 = some r := hf
    clear hf
    unfold x_X6_helping_b55 at h
    refine (?_ : PT Γ 7 shX 55 σ55 [(0, .ref (ga Γ 0)), (2, .long v2), (4, .int (zJ v6)), (5, .int (zJ u5_55)), (6, .int (zJ u6_55))] [])
    refine p_iload G 4 rfl dX6_helping_55 ?_
    refine p_bipush G (by decide) (by decide) dX6_helping_57 ?_
    refine p_icmpge (tgt := 101) G dX6_helping_59 (by decide) h (fun c18 h => ?_) (fun c18 h => ?_)
    · refine p_lv [3] rfl ?_
      have he := hout55 _ (Option.some.inj h).symm
      subst he
      exact hX55_101 _ _ rfl
    · refine p_lload_n G rfl 1 rfl dX6_helping_62 ?_
      refine p_iload G 4 rfl dX6_helping_63 ?_
      obtain ⟨v7, hc, h⟩ := bnd_some h
      refine p_callS0 G dX6_helping_65 lk_X6_271 (c_X6_has (gl Γ) hc) (As := [.long v2, .int (zJ u6_55)]) rfl zk_21 rfl (Nat.le_of_ble_eq_true rfl) ⟨rfl, rfl, Nat.le_of_ble_eq_true rfl, Nat.le_of_ble_eq_true rfl⟩ hcs ?_
      refine p_ifne (tgt := 95) G dX6_helping_68 (by decide) h (fun c17 h => ?_) (fun c17 h => ?_)
      · refine p_iinc (lv' := fun v8 => [(6, .int (zJ v8)), (0, .ref (ga Γ 0)), (2, .long v2), (4, .int (zJ v6)), (5, .int (zJ u5_55))]) G dX6_helping_95 h 4 rfl (by decide) (fun _ => rfl) (fun v8 h => ?_)
        refine p_goto (tgt := 55) G dX6_helping_98 (by decide) ?_
        refine p_lv [1, 2, 3, 4, 0] rfl ?_
        exact hin55 _ (Option.some.inj h).symm
      · refine p_aload_n G rfl 0 rfl dX6_helping_71 ?_
        refine p_get G dX6_helping_72 fl_X6_40 (k := 0) rfl rfl ?_
        refine p_lload_n G rfl 1 rfl dX6_helping_75 ?_
        refine p_iload G 4 rfl dX6_helping_76 ?_
        obtain ⟨v9, hc, h⟩ := bnd_some h
        refine p_callS0 G dX6_helping_78 lk_X6_281 (c_X6_bitOf (gl Γ) hc) (As := [.int (zJ u6_55)]) rfl zk_21 rfl (Nat.le_of_ble_eq_true rfl) ⟨rfl, rfl, Nat.le_of_ble_eq_true rfl, Nat.le_of_ble_eq_true rfl⟩ hcs ?_
        refine p_lor G dX6_helping_81 ?_
        refine p_iload G 4 rfl dX6_helping_82 ?_
        obtain ⟨⟨σ10, v11⟩, hc, h⟩ := bnd_some h
        rw [un2_mk] at h
        refine p_callV G zl_23 dX6_helping_84 lk_X6_284 (c_X1_restBehindDrop (gl Γ) hc) (As := [.long (v2 ||| v9), .int (zJ u6_55)]) (ci := 1) rfl zk_23 (zs_x zs_23 _) rfl rfl rfl (Nat.le_of_ble_eq_true rfl) ⟨rfl, rfl, Nat.le_of_ble_eq_true rfl, Nat.le_of_ble_eq_true rfl⟩ hcs ?_
        refine p_nm h (fun σ12 h => ?_)
        refine p_iload G 2 rfl dX6_helping_87 ?_
        refine p_icmpge (tgt := 95) G dX6_helping_89 (by decide) h (fun c16 h => ?_) (fun c16 h => ?_)
        · refine p_iinc (lv' := fun v13 => [(6, .int (zJ v13)), (0, .ref (ga Γ 0)), (2, .long v2), (4, .int (zJ v6)), (5, .int (zJ u5_55))]) G dX6_helping_95 h 4 rfl (by decide) (fun _ => rfl) (fun v13 h => ?_)
          refine p_goto (tgt := 55) G dX6_helping_98 (by decide) ?_
          refine p_lv [1, 2, 3, 4, 0] rfl ?_
          exact hin55 _ (Option.some.inj h).symm
        · refine p_iinc (lv' := fun v14 => [(5, .int (zJ v14)), (0, .ref (ga Γ 0)), (2, .long v2), (4, .int (zJ v6)), (6, .int (zJ u6_55))]) G dX6_helping_92 h 3 rfl (by decide) (fun _ => rfl) (fun v14 h => ?_)
          refine p_iinc (lv' := fun v15 => [(6, .int (zJ v15)), (5, .int (zJ v14)), (0, .ref (ga Γ 0)), (2, .long v2), (4, .int (zJ v6))]) G dX6_helping_95 h 4 rfl (by decide) (fun _ => rfl) (fun v15 h => ?_)
          refine p_goto (tgt := 55) G dX6_helping_98 (by decide) ?_
          refine p_lv [2, 3, 4, 1, 0] rfl ?_
          exact hin55 _ (Option.some.inj h).symm
  · refine p_iconst G rfl dX6_helping_30 ?_
    (cases h; exact p_iret G hR dX6_helping_31 rfl rfl)
set_option maxHeartbeats 4000000 in
set_option maxRecDepth 100000 in
theorem c_X6_ifKnock (l : Launch) {D : va_G} {yy : Nat → ClassId} {tk tv a : Nat → Nat} {σ : Mm} {p1 : Int} {p2 : Int} {o : Mm × Int} (h : x_X6_ifKnock σ p1 p2 = some (.inl o)) : CT l yX6_ifKnock cX6_ifKnock 3 (some .int) rm_X6_ifKnock shX D yy tk tv a σ [.ref (a 0), .int (zJ p1), .int (zJ p2)] o.1 (some (.int (zJ o.2))) := by
  refine ct_of (Ar := fun a tk => [.ref (a 0), .int (zJ p1), .int (zJ p2)]) (by decide) (Nat.le_of_ble_eq_true rfl) (fun Γ G _ _ hR => ?_)
  have hcs := rt_cs hR
  unfold x_X6_ifKnock at h
  refine (?_ : PT Γ 3 shX 0 σ [(0, .ref (ga Γ 0)), (1, .int (zJ p1)), (2, .int (zJ p2))] [])
  refine p_aload_n G rfl 0 rfl dX6_ifKnock_0 ?_
  refine p_aload_n G rfl 0 rfl dX6_ifKnock_1 ?_
  refine p_get G dX6_ifKnock_2 fl_X6_12 (k := 0) rfl rfl ?_
  refine p_get G dX6_ifKnock_5 fl_X6_99 (k := 1) rfl rfl ?_
  refine p_iload_n G rfl 1 rfl dX6_ifKnock_8 ?_
  obtain ⟨o_, hc, h⟩ := bthr h
  refine p_callVi G dX6_ifKnock_9 lk_X6_102 (c_X6_requireHeld (gl Γ) hc) (As := [.int (zJ (σ 1 5)), .int (zJ p1)]) (ci := 6) rfl rfl rfl rfl (Nat.le_of_ble_eq_true rfl) ⟨rfl, rfl, Nat.le_of_ble_eq_true rfl, Nat.le_of_ble_eq_true rfl⟩ hcs ?_
  refine p_iload_n G rfl 2 rfl dX6_ifKnock_12 ?_
  refine p_iconst G rfl dX6_ifKnock_13 ?_
  refine p_iconst G rfl dX6_ifKnock_14 ?_
  obtain ⟨v1, hc, h⟩ := bnd_some h
  refine p_callS0 G dX6_ifKnock_15 lk_X6_150 (c_X6_isWithin (gl Γ) hc) (As := [.int (zJ p2), .int (zJ (0 : Int)), .int (zJ (3 : Int))]) rfl zk_21 rfl (Nat.le_of_ble_eq_true rfl) ⟨rfl, rfl, Nat.le_of_ble_eq_true rfl, Nat.le_of_ble_eq_true rfl⟩ hcs ?_
  obtain ⟨o_, hc, h⟩ := bthr h
  refine p_callS0 G dX6_ifKnock_18 lk_X6_154 (c_X6_require (gl Γ) hc) (As := [.int (zJ v1)]) rfl zk_21 rfl (Nat.le_of_ble_eq_true rfl) ⟨rfl, rfl, Nat.le_of_ble_eq_true rfl, Nat.le_of_ble_eq_true rfl⟩ hcs ?_
  refine p_aload_n G rfl 0 rfl dX6_ifKnock_21 ?_
  refine p_get G dX6_ifKnock_22 fl_X6_47 (k := 0) rfl rfl ?_
  refine p_aload_n G rfl 0 rfl dX6_ifKnock_25 ?_
  refine p_get G dX6_ifKnock_26 fl_X6_12 (k := 0) rfl rfl ?_
  refine p_iload_n G rfl 1 rfl dX6_ifKnock_29 ?_
  obtain ⟨v2, hc, h⟩ := bnd_some h
  refine p_callVr G zl_20 dX6_ifKnock_30 lk_X6_116 (c_X2_handWithout (gl Γ) hc) (As := [.int (zJ p1)]) (ci := 2) rfl zk_20 (zs_x zs_20 _) rfl rfl rfl (Nat.le_of_ble_eq_true rfl) ⟨rfl, rfl, Nat.le_of_ble_eq_true rfl, Nat.le_of_ble_eq_true rfl⟩ hcs ?_
  refine p_aload_n G rfl 0 rfl dX6_ifKnock_33 ?_
  refine p_get G dX6_ifKnock_34 fl_X6_12 (k := 0) rfl rfl ?_
  obtain ⟨v3, hc, h⟩ := bnd_some h
  refine p_callVr G zl_20 dX6_ifKnock_37 lk_X6_120 (c_X2_otherHand (gl Γ) hc) (As := []) (ci := 2) rfl zk_20 (zs_x zs_20 _) rfl rfl rfl (Nat.le_of_ble_eq_true rfl) ⟨rfl, rfl, Nat.le_of_ble_eq_true rfl, Nat.le_of_ble_eq_true rfl⟩ hcs ?_
  obtain ⟨σ4, hc, h⟩ := bnd_some h
  refine p_callV G zl_24 dX6_ifKnock_40 lk_X6_124 (c_X5_settle (gl Γ) hc) (As := [.long v2, .long v3]) (ci := 5) rfl zk_24 (zs_x zs_24 _) rfl rfl rfl (Nat.le_of_ble_eq_true rfl) ⟨rfl, rfl, Nat.le_of_ble_eq_true rfl, Nat.le_of_ble_eq_true rfl⟩ hcs ?_
  refine p_nm h (fun σ5 h => ?_)
  refine p_iload_n G rfl 2 rfl dX6_ifKnock_43 ?_
  refine p_ifne (tgt := 63) G dX6_ifKnock_44 (by decide) h (fun c9 h => ?_) (fun c9 h => ?_)
  · refine p_aload_n G rfl 0 rfl dX6_ifKnock_63 ?_
    refine p_get G dX6_ifKnock_64 fl_X6_12 (k := 0) rfl rfl ?_
    obtain ⟨v6, hc, h⟩ := bnd_some h
    refine p_callVr G zl_20 dX6_ifKnock_67 lk_X6_268 (c_X2_isDropDue (gl Γ) hc) (As := []) (ci := 2) rfl zk_20 (zs_x zs_20 _) rfl rfl rfl (Nat.le_of_ble_eq_true rfl) ⟨rfl, rfl, Nat.le_of_ble_eq_true rfl, Nat.le_of_ble_eq_true rfl⟩ hcs ?_
    refine p_ifne (tgt := 75) G dX6_ifKnock_70 (by decide) h (fun c7 h => ?_) (fun c7 h => ?_)
    · refine p_iload_n G rfl 2 rfl dX6_ifKnock_75 ?_
      refine zite h (fun c0_76 h => ?_) (fun c0_76 h => ?_)
      · refine p_lsw (tgt := 104) (off := 28) G dX6_ifKnock_76 rfl (by rw [c0_76]; rfl) (by decide) ?_
        refine p_aload_n G rfl 0 rfl dX6_ifKnock_104 ?_
        refine p_get G dX6_ifKnock_105 fl_X6_47 (k := 0) rfl rfl ?_
        refine p_get G dX6_ifKnock_108 fl_X6_128 (k := 84) rfl rfl ?_
        (cases h; exact p_iret G hR dX6_ifKnock_111 rfl rfl)
      · refine zite h (fun c1_76 h => ?_) (fun c1_76 h => ?_)
        · refine p_lsw (tgt := 112) (off := 36) G dX6_ifKnock_76 rfl (by rw [c1_76]; rfl) (by decide) ?_
          refine p_aload_n G rfl 0 rfl dX6_ifKnock_112 ?_
          refine p_get G dX6_ifKnock_113 fl_X6_47 (k := 0) rfl rfl ?_
          refine p_get G dX6_ifKnock_116 fl_X6_288 (k := 84) rfl rfl ?_
          (cases h; exact p_iret G hR dX6_ifKnock_119 rfl rfl)
        · refine p_lsw (tgt := 120) (off := 44) G dX6_ifKnock_76 rfl (zlk_d [1, 2] rfl (List.forall_mem_cons.mpr ⟨c0_76, (List.forall_mem_cons.mpr ⟨c1_76, (fun _ h => absurd h List.not_mem_nil)⟩)⟩)) (by decide) ?_
          refine p_aload_n G rfl 0 rfl dX6_ifKnock_120 ?_
          refine p_get G dX6_ifKnock_121 fl_X6_47 (k := 0) rfl rfl ?_
          refine p_get G dX6_ifKnock_124 fl_X6_291 (k := 84) rfl rfl ?_
          (cases h; exact p_iret G hR dX6_ifKnock_127 rfl rfl)
    · refine p_iconst G rfl dX6_ifKnock_73 ?_
      (cases h; exact p_iret G hR dX6_ifKnock_74 rfl rfl)
  · refine p_aload_n G rfl 0 rfl dX6_ifKnock_47 ?_
    refine p_get G dX6_ifKnock_48 fl_X6_12 (k := 0) rfl rfl ?_
    refine p_iload_n G rfl 1 rfl dX6_ifKnock_51 ?_
    refine p_aload_n G rfl 0 rfl dX6_ifKnock_52 ?_
    refine p_get G dX6_ifKnock_53 fl_X6_47 (k := 0) rfl rfl ?_
    refine p_get G dX6_ifKnock_56 fl_X6_128 (k := 84) rfl rfl ?_
    obtain ⟨v8, hc, h⟩ := bnd_some h
    refine p_callVr G zl_20 dX6_ifKnock_59 lk_X6_131 (c_X2_reasonAgainstKnock (gl Γ) hc) (As := [.int (zJ p1), .int (zJ (σ5 84 2))]) (ci := 2) rfl zk_20 (zs_x zs_20 _) rfl rfl rfl (Nat.le_of_ble_eq_true rfl) ⟨rfl, rfl, Nat.le_of_ble_eq_true rfl, Nat.le_of_ble_eq_true rfl⟩ hcs ?_
    (cases h; exact p_iret G hR dX6_ifKnock_62 rfl rfl)
set_option maxHeartbeats 4000000 in
set_option maxRecDepth 100000 in
theorem c_X6_needed (l : Launch) {D : va_G} {yy : Nat → ClassId} {tk tv a : Nat → Nat} {σ : Mm} {o : Mm × Int} (h : x_X6_needed σ = some o) : CT l yX6_needed cX6_needed 1 (some .int) rm_X6_needed shX D yy tk tv a σ [.ref (a 0)] o.1 (some (.int (zJ o.2))) := by
  refine ct_of (Ar := fun a tk => [.ref (a 0)]) (by decide) (Nat.le_of_ble_eq_true rfl) (fun Γ G _ _ hR => ?_)
  have hcs := rt_cs hR
  unfold x_X6_needed at h
  refine (?_ : PT Γ 1 shX 0 σ [(0, .ref (ga Γ 0))] [])
  refine p_aload_n G rfl 0 rfl dX6_needed_0 ?_
  refine p_get G dX6_needed_1 fl_X6_12 (k := 0) rfl rfl ?_
  obtain ⟨v1, hc, h⟩ := bnd_some h
  refine p_callVr G zl_20 dX6_needed_4 lk_X6_268 (c_X2_isDropDue (gl Γ) hc) (As := []) (ci := 2) rfl zk_20 (zs_x zs_20 _) rfl rfl rfl (Nat.le_of_ble_eq_true rfl) ⟨rfl, rfl, Nat.le_of_ble_eq_true rfl, Nat.le_of_ble_eq_true rfl⟩ hcs ?_
  refine p_ifeq (tgt := 41) G dX6_needed_7 (by decide) h (fun c6 h => ?_) (fun c6 h => ?_)
  · refine p_iconst G rfl dX6_needed_41 ?_
    (cases h; exact p_iret G hR dX6_needed_42 rfl rfl)
  · refine p_aload_n G rfl 0 rfl dX6_needed_10 ?_
    refine p_get G dX6_needed_11 fl_X6_40 (k := 0) rfl rfl ?_
    refine p_aload_n G rfl 0 rfl dX6_needed_14 ?_
    refine p_get G dX6_needed_15 fl_X6_12 (k := 0) rfl rfl ?_
    refine p_aload_n G rfl 0 rfl dX6_needed_18 ?_
    refine p_get G dX6_needed_19 fl_X6_12 (k := 0) rfl rfl ?_
    refine p_get G dX6_needed_22 fl_X6_99 (k := 1) rfl rfl ?_
    obtain ⟨v2, hc, h⟩ := bnd_some h
    refine p_callVr G zl_20 dX6_needed_25 lk_X6_219 (c_X2_handOf (gl Γ) hc) (As := [.int (zJ (σ 1 5))]) (ci := 2) rfl zk_20 (zs_x zs_20 _) rfl rfl rfl (Nat.le_of_ble_eq_true rfl) ⟨rfl, rfl, Nat.le_of_ble_eq_true rfl, Nat.le_of_ble_eq_true rfl⟩ hcs ?_
    refine p_aload_n G rfl 0 rfl dX6_needed_28 ?_
    refine p_get G dX6_needed_29 fl_X6_12 (k := 0) rfl rfl ?_
    refine p_get G dX6_needed_32 fl_X6_275 (k := 1) rfl rfl ?_
    obtain ⟨⟨σ3, v4⟩, hc, h⟩ := bnd_some h
    rw [un2_mk] at h
    refine p_callV G zl_23 dX6_needed_35 lk_X6_284 (c_X1_restBehindDrop (gl Γ) hc) (As := [.long v2, .int (zJ (σ 1 7))]) (ci := 1) rfl zk_23 (zs_x zs_23 _) rfl rfl rfl (Nat.le_of_ble_eq_true rfl) ⟨rfl, rfl, Nat.le_of_ble_eq_true rfl, Nat.le_of_ble_eq_true rfl⟩ hcs ?_
    refine p_nm h (fun σ5 h => ?_)
    refine p_goto (tgt := 42) G dX6_needed_38 (by decide) ?_
    (cases h; exact p_iret G hR dX6_needed_42 rfl rfl)
set_option maxHeartbeats 4000000 in
set_option maxRecDepth 100000 in
theorem c_X6_kind (l : Launch) {D : va_G} {yy : Nat → ClassId} {tk tv a : Nat → Nat} {σ : Mm} {p1 : Int64} {o : Int} (h : x_X6_kind σ p1 = some (.inl o)) : CT l yX6_kind cX6_kind 3 (some .int) rm_X6_kind shX D yy tk tv a σ [.ref (a 0), .long p1] σ (some (.int (zJ o))) := by
  refine ct_of (Ar := fun a tk => [.ref (a 0), .long p1]) (by decide) (Nat.le_of_ble_eq_true rfl) (fun Γ G _ _ hR => ?_)
  have hcs := rt_cs hR
  unfold x_X6_kind at h
  refine (?_ : PT Γ 3 shX 0 σ [(0, .ref (ga Γ 0)), (1, .long p1)] [])
  refine p_lload_n G rfl 1 rfl dX6_kind_0 ?_
  refine p_lconst G (v := 0) (by decide) dX6_kind_1 ?_
  refine p_lcmp G dX6_kind_2 ?_
  refine p_iflt (tgt := 18) G dX6_kind_3 (by decide) h (fun c5 h => ?_) (fun c5 h => ?_)
  · refine p_iconst G rfl dX6_kind_18 ?_
    obtain ⟨o_, hc, h⟩ := bthr h
    refine p_callS0 G dX6_kind_19 lk_X6_154 (c_X6_require (gl Γ) hc) (As := [.int (zJ (0 : Int))]) rfl zk_21 rfl (Nat.le_of_ble_eq_true rfl) ⟨rfl, rfl, Nat.le_of_ble_eq_true rfl, Nat.le_of_ble_eq_true rfl⟩ hcs ?_
    refine p_lload_n G rfl 1 rfl dX6_kind_22 ?_
    obtain ⟨v1, hc, h⟩ := bnd_some h
    refine p_callS0 G dX6_kind_23 lk_X6_262 (c_X6_kindOf (gl Γ) hc) (As := [.long p1]) rfl zk_21 rfl (Nat.le_of_ble_eq_true rfl) ⟨rfl, rfl, Nat.le_of_ble_eq_true rfl, Nat.le_of_ble_eq_true rfl⟩ hcs ?_
    (cases h; exact p_iret G hR dX6_kind_26 rfl rfl)
  · refine p_lload_n G rfl 1 rfl dX6_kind_6 ?_
    refine p_ldc2 G gm_1086 dX6_kind_7 ?_
    refine p_lcmp G dX6_kind_10 ?_
    refine p_ifgt (tgt := 18) G dX6_kind_11 (by decide) h (fun c4 h => ?_) (fun c4 h => ?_)
    · refine p_iconst G rfl dX6_kind_18 ?_
      obtain ⟨o_, hc, h⟩ := bthr h
      refine p_callS0 G dX6_kind_19 lk_X6_154 (c_X6_require (gl Γ) hc) (As := [.int (zJ (0 : Int))]) rfl zk_21 rfl (Nat.le_of_ble_eq_true rfl) ⟨rfl, rfl, Nat.le_of_ble_eq_true rfl, Nat.le_of_ble_eq_true rfl⟩ hcs ?_
      refine p_lload_n G rfl 1 rfl dX6_kind_22 ?_
      obtain ⟨v2, hc, h⟩ := bnd_some h
      refine p_callS0 G dX6_kind_23 lk_X6_262 (c_X6_kindOf (gl Γ) hc) (As := [.long p1]) rfl zk_21 rfl (Nat.le_of_ble_eq_true rfl) ⟨rfl, rfl, Nat.le_of_ble_eq_true rfl, Nat.le_of_ble_eq_true rfl⟩ hcs ?_
      (cases h; exact p_iret G hR dX6_kind_26 rfl rfl)
    · refine p_iconst G rfl dX6_kind_14 ?_
      refine p_goto (tgt := 19) G dX6_kind_15 (by decide) ?_
      obtain ⟨o_, hc, h⟩ := bthr h
      refine p_callS0 G dX6_kind_19 lk_X6_154 (c_X6_require (gl Γ) hc) (As := [.int (zJ (1 : Int))]) rfl zk_21 rfl (Nat.le_of_ble_eq_true rfl) ⟨rfl, rfl, Nat.le_of_ble_eq_true rfl, Nat.le_of_ble_eq_true rfl⟩ hcs ?_
      refine p_lload_n G rfl 1 rfl dX6_kind_22 ?_
      obtain ⟨v3, hc, h⟩ := bnd_some h
      refine p_callS0 G dX6_kind_23 lk_X6_262 (c_X6_kindOf (gl Γ) hc) (As := [.long p1]) rfl zk_21 rfl (Nat.le_of_ble_eq_true rfl) ⟨rfl, rfl, Nat.le_of_ble_eq_true rfl, Nat.le_of_ble_eq_true rfl⟩ hcs ?_
      (cases h; exact p_iret G hR dX6_kind_26 rfl rfl)
set_option maxHeartbeats 4000000 in
set_option maxRecDepth 100000 in
theorem c_X6_gap (l : Launch) {D : va_G} {yy : Nat → ClassId} {tk tv a : Nat → Nat} {σ : Mm} {o : Mm × Int} (h : x_X6_gap σ = some o) : CT l yX6_gap cX6_gap 4 (some .int) rm_X6_gap shX D yy tk tv a σ [.ref (a 0)] o.1 (some (.int (zJ o.2))) := by
  refine ct_of (Ar := fun a tk => [.ref (a 0)]) (by decide) (Nat.le_of_ble_eq_true rfl) (fun Γ G _ _ hR => ?_)
  have hcs := rt_cs hR
  unfold x_X6_gap at h
  refine (?_ : PT Γ 4 shX 0 σ [(0, .ref (ga Γ 0))] [])
  refine p_aload_n G rfl 0 rfl dX6_gap_0 ?_
  refine p_get G dX6_gap_1 fl_X6_12 (k := 0) rfl rfl ?_
  refine p_iconst G rfl dX6_gap_4 ?_
  obtain ⟨v1, hc, h⟩ := bnd_some h
  refine p_callVr G zl_20 dX6_gap_5 lk_X6_219 (c_X2_handOf (gl Γ) hc) (As := [.int (zJ (0 : Int))]) (ci := 2) rfl zk_20 (zs_x zs_20 _) rfl rfl rfl (Nat.le_of_ble_eq_true rfl) ⟨rfl, rfl, Nat.le_of_ble_eq_true rfl, Nat.le_of_ble_eq_true rfl⟩ hcs ?_
  obtain ⟨v2, hc, h⟩ := bnd_some h
  refine p_callS0 G dX6_gap_8 lk_X6_226 (c_J_Long_bitCount (gl Γ) hc) (As := [.long v1]) rfl zk_21 rfl (Nat.le_of_ble_eq_true rfl) ⟨rfl, rfl, Nat.le_of_ble_eq_true rfl, Nat.le_of_ble_eq_true rfl⟩ hcs ?_
  refine p_aload_n G rfl 0 rfl dX6_gap_11 ?_
  refine p_get G dX6_gap_12 fl_X6_12 (k := 0) rfl rfl ?_
  refine p_iconst G rfl dX6_gap_15 ?_
  obtain ⟨v3, hc, h⟩ := bnd_some h
  refine p_callVr G zl_20 dX6_gap_16 lk_X6_219 (c_X2_handOf (gl Γ) hc) (As := [.int (zJ (1 : Int))]) (ci := 2) rfl zk_20 (zs_x zs_20 _) rfl rfl rfl (Nat.le_of_ble_eq_true rfl) ⟨rfl, rfl, Nat.le_of_ble_eq_true rfl, Nat.le_of_ble_eq_true rfl⟩ hcs ?_
  obtain ⟨v4, hc, h⟩ := bnd_some h
  refine p_callS0 G dX6_gap_19 lk_X6_226 (c_J_Long_bitCount (gl Γ) hc) (As := [.long v3]) rfl zk_21 rfl (Nat.le_of_ble_eq_true rfl) ⟨rfl, rfl, Nat.le_of_ble_eq_true rfl, Nat.le_of_ble_eq_true rfl⟩ hcs ?_
  refine p_iadd G dX6_gap_22 ?_
  refine p_istore_n (lv' := fun v5 => [(1, .int (zJ v5)), (0, .ref (ga Γ 0))]) G rfl dX6_gap_23 h (by decide) (fun _ => rfl) (fun v5 h => ?_)
  refine p_bipush G (by decide) (by decide) dX6_gap_24 ?_
  refine p_iload_n G rfl 0 rfl dX6_gap_26 ?_
  refine p_isub G dX6_gap_27 ?_
  refine p_aload_n G rfl 1 rfl dX6_gap_28 ?_
  refine p_get G dX6_gap_29 fl_X6_12 (k := 0) rfl rfl ?_
  obtain ⟨v6, hc, h⟩ := bnd_some h
  refine p_callVr G zl_20 dX6_gap_32 lk_X6_113 (c_X2_stockCount (gl Γ) hc) (As := []) (ci := 2) rfl zk_20 (zs_x zs_20 _) rfl rfl rfl (Nat.le_of_ble_eq_true rfl) ⟨rfl, rfl, Nat.le_of_ble_eq_true rfl, Nat.le_of_ble_eq_true rfl⟩ hcs ?_
  refine p_isub G dX6_gap_35 ?_
  refine p_aload_n G rfl 1 rfl dX6_gap_36 ?_
  refine p_get G dX6_gap_37 fl_X6_12 (k := 0) rfl rfl ?_
  refine p_get G dX6_gap_40 fl_X6_196 (k := 1) rfl rfl ?_
  refine p_isub G dX6_gap_43 ?_
  refine p_zabs G gm_798 gm_685 gm_103 gm_686 (by decide) (by decide) hcs dX6_gap_44 ?_
  refine p_istore_n (lv' := fun v7 => [(2, .int (zJ v7)), (1, .int (zJ v5)), (0, .ref (ga Γ 0))]) G rfl dX6_gap_47 h (by decide) (fun _ => rfl) (fun v7 h => ?_)
  refine p_iconst G rfl dX6_gap_48 ?_
  refine p_istore_nU (lv' := [(3, .int (zJ (0 : Int))), (2, .int (zJ v7)), (1, .int (zJ v5)), (0, .ref (ga Γ 0))]) G rfl dX6_gap_49 (by decide) rfl ?_
  refine p_lv [3, 1, 0] rfl ?_
  obtain ⟨e20, hl50, h⟩ := bnd_some h
  have hX50_120 : ∀ (σ21 : Mm) (v22 : Int), (σ21, v22) = e20 → PT Γ 4 shX 120 σ21 [(2, .int (zJ v22))] [] := by
    intro σ21 v22 he
    subst he
    rw [un2_mk] at h
    refine p_iload_n G rfl 0 rfl dX6_gap_120 ?_
    (cases h; exact p_iret G hR dX6_gap_121 rfl rfl)
  refine lup_walk (s := (σ, v7, (0 : Int))) (At := fun s : Mm × Int × Int => PT Γ 4 shX 50 s.1 [(0, .ref (ga Γ 0)), (2, .int (zJ s.2.1)), (3, .int (zJ s.2.2))] []) (fun s r hf hin50 hout50 => ?_) hl50
  obtain ⟨σ50, u2_50, u3_50⟩ := s
  have h : x_X6_gap_b50 σ50 u2_50 u3_50 = some r := hf
  clear hf
  unfold x_X6_gap_b50 at h
  refine (?_ : PT Γ 4 shX 50 σ50 [(0, .ref (ga Γ 0)), (2, .int (zJ u2_50)), (3, .int (zJ u3_50))] [])
  refine p_iload_n G rfl 2 rfl dX6_gap_50 ?_
  refine p_iconst G rfl dX6_gap_51 ?_
  refine p_icmpge (tgt := 120) G dX6_gap_52 (by decide) h (fun c18 h => ?_) (fun c18 h => ?_)
  · refine p_lv [1] rfl ?_
    have he := hout50 _ (Option.some.inj h).symm
    subst he
    exact hX50_120 _ _ rfl
  · refine p_aload_n G rfl 0 rfl dX6_gap_55 ?_
    refine p_get G dX6_gap_56 fl_X6_40 (k := 0) rfl rfl ?_
    refine p_aload_n G rfl 0 rfl dX6_gap_59 ?_
    refine p_get G dX6_gap_60 fl_X6_12 (k := 0) rfl rfl ?_
    refine p_iload_n G rfl 2 rfl dX6_gap_63 ?_
    obtain ⟨v8, hc, h⟩ := bnd_some h
    refine p_callVr G zl_20 dX6_gap_64 lk_X6_219 (c_X2_handOf (gl Γ) hc) (As := [.int (zJ u3_50)]) (ci := 2) rfl zk_20 (zs_x zs_20 _) rfl rfl rfl (Nat.le_of_ble_eq_true rfl) ⟨rfl, rfl, Nat.le_of_ble_eq_true rfl, Nat.le_of_ble_eq_true rfl⟩ hcs ?_
    obtain ⟨σ9, hc, h⟩ := bnd_some h
    refine p_callV G zl_23 dX6_gap_67 lk_X6_222 (c_X1_lay (gl Γ) hc) (As := [.long v8]) (ci := 1) rfl zk_23 (zs_x zs_23 _) rfl rfl rfl (Nat.le_of_ble_eq_true rfl) ⟨rfl, rfl, Nat.le_of_ble_eq_true rfl, Nat.le_of_ble_eq_true rfl⟩ hcs ?_
    refine p_nm h (fun σ10 h => ?_)
    refine p_iload_n G rfl 1 rfl dX6_gap_70 ?_
    refine p_aload_n G rfl 0 rfl dX6_gap_71 ?_
    refine p_get G dX6_gap_72 fl_X6_40 (k := 0) rfl rfl ?_
    obtain ⟨v11, hc, h⟩ := bnd_some h
    refine p_callVr G zl_23 dX6_gap_75 lk_X6_301 (c_X1_foundPoints (gl Γ) hc) (As := []) (ci := 1) rfl zk_23 (zs_x zs_23 _) rfl rfl rfl (Nat.le_of_ble_eq_true rfl) ⟨rfl, rfl, Nat.le_of_ble_eq_true rfl, Nat.le_of_ble_eq_true rfl⟩ hcs ?_
    refine p_aload_n G rfl 0 rfl dX6_gap_78 ?_
    refine p_get G dX6_gap_79 fl_X6_40 (k := 0) rfl rfl ?_
    refine p_get G dX6_gap_82 fl_X6_232 (k := 77) rfl rfl ?_
    refine p_iadd G dX6_gap_85 ?_
    refine p_aload_n G rfl 0 rfl dX6_gap_86 ?_
    refine p_get G dX6_gap_87 fl_X6_12 (k := 0) rfl rfl ?_
    refine p_iload_n G rfl 2 rfl dX6_gap_90 ?_
    obtain ⟨v12, hc, h⟩ := bnd_some h
    refine p_callVr G zl_20 dX6_gap_91 lk_X6_219 (c_X2_handOf (gl Γ) hc) (As := [.int (zJ u3_50)]) (ci := 2) rfl zk_20 (zs_x zs_20 _) rfl rfl rfl (Nat.le_of_ble_eq_true rfl) ⟨rfl, rfl, Nat.le_of_ble_eq_true rfl, Nat.le_of_ble_eq_true rfl⟩ hcs ?_
    obtain ⟨v13, hc, h⟩ := bnd_some h
    refine p_callS0 G dX6_gap_94 lk_X6_244 (c_X6_pointsOf (gl Γ) hc) (As := [.long v12]) rfl zk_21 rfl (Nat.le_of_ble_eq_true rfl) ⟨rfl, rfl, Nat.le_of_ble_eq_true rfl, Nat.le_of_ble_eq_true rfl⟩ hcs ?_
    refine p_isub G dX6_gap_97 ?_
    refine p_zabs G gm_798 gm_685 gm_103 gm_686 (by decide) (by decide) hcs dX6_gap_98 ?_
    refine p_iadd G dX6_gap_101 ?_
    refine p_istore_n (lv' := fun v14 => [(2, .int (zJ v14)), (0, .ref (ga Γ 0)), (3, .int (zJ u3_50))]) G rfl dX6_gap_102 h (by decide) (fun _ => rfl) (fun v14 h => ?_)
    refine p_iload_n G rfl 0 rfl dX6_gap_103 ?_
    refine p_aload_n G rfl 1 rfl dX6_gap_104 ?_
    refine p_get G dX6_gap_105 fl_X6_40 (k := 0) rfl rfl ?_
    refine p_iconst G rfl dX6_gap_108 ?_
    obtain ⟨v15, hc, h⟩ := bnd_some h
    refine p_callVr G zl_23 dX6_gap_109 lk_X6_241 (c_X1_countKind (gl Γ) hc) (As := [.int (zJ (0 : Int))]) (ci := 1) rfl zk_23 (zs_x zs_23 _) rfl rfl rfl (Nat.le_of_ble_eq_true rfl) ⟨rfl, rfl, Nat.le_of_ble_eq_true rfl, Nat.le_of_ble_eq_true rfl⟩ hcs ?_
    refine p_iadd G dX6_gap_112 ?_
    refine p_istore_n (lv' := fun v16 => [(2, .int (zJ v16)), (0, .ref (ga Γ 0)), (3, .int (zJ u3_50))]) G rfl dX6_gap_113 h (by decide) (fun _ => rfl) (fun v16 h => ?_)
    refine p_iinc (lv' := fun v17 => [(3, .int (zJ v17)), (2, .int (zJ v16)), (0, .ref (ga Γ 0))]) G dX6_gap_114 h 2 rfl (by decide) (fun _ => rfl) (fun v17 h => ?_)
    refine p_goto (tgt := 50) G dX6_gap_117 (by decide) ?_
    refine p_lv [2, 1, 0] rfl ?_
    exact hin50 _ (Option.some.inj h).symm
set_option maxHeartbeats 4000000 in
set_option maxRecDepth 100000 in
theorem c_X6_writeLaying (l : Launch) {D : va_G} {yy : Nat → ClassId} {tk tv a : Nat → Nat} {σ : Mm} {p1 : Int} {o : Mm × Int} (h : x_X6_writeLaying σ p1 = some (.inl o)) : CT l yX6_writeLaying cX6_writeLaying 2 (some .int) rm_X6_writeLaying shX D yy tk tv a σ [.ref (a 0), .int (zJ p1)] o.1 (some (.int (zJ o.2))) := by
  refine ct_of (Ar := fun a tk => [.ref (a 0), .int (zJ p1)]) (by decide) (Nat.le_of_ble_eq_true rfl) (fun Γ G _ _ hR => ?_)
  have hcs := rt_cs hR
  unfold x_X6_writeLaying at h
  refine (?_ : PT Γ 2 shX 0 σ [(0, .ref (ga Γ 0)), (1, .int (zJ p1))] [])
  refine p_iload_n G rfl 1 rfl dX6_writeLaying_0 ?_
  obtain ⟨v1, hc, h⟩ := bnd_some h
  refine p_callS0 G dX6_writeLaying_1 lk_X6_215 (c_X6_isPlayer (gl Γ) hc) (As := [.int (zJ p1)]) rfl zk_21 rfl (Nat.le_of_ble_eq_true rfl) ⟨rfl, rfl, Nat.le_of_ble_eq_true rfl, Nat.le_of_ble_eq_true rfl⟩ hcs ?_
  obtain ⟨o_, hc, h⟩ := bthr h
  refine p_callS0 G dX6_writeLaying_4 lk_X6_154 (c_X6_require (gl Γ) hc) (As := [.int (zJ v1)]) rfl zk_21 rfl (Nat.le_of_ble_eq_true rfl) ⟨rfl, rfl, Nat.le_of_ble_eq_true rfl, Nat.le_of_ble_eq_true rfl⟩ hcs ?_
  refine p_aload_n G rfl 0 rfl dX6_writeLaying_7 ?_
  refine p_get G dX6_writeLaying_8 fl_X6_40 (k := 0) rfl rfl ?_
  refine p_aload_n G rfl 0 rfl dX6_writeLaying_11 ?_
  refine p_get G dX6_writeLaying_12 fl_X6_12 (k := 0) rfl rfl ?_
  refine p_iload_n G rfl 1 rfl dX6_writeLaying_15 ?_
  obtain ⟨v2, hc, h⟩ := bnd_some h
  refine p_callVr G zl_20 dX6_writeLaying_16 lk_X6_219 (c_X2_handOf (gl Γ) hc) (As := [.int (zJ p1)]) (ci := 2) rfl zk_20 (zs_x zs_20 _) rfl rfl rfl (Nat.le_of_ble_eq_true rfl) ⟨rfl, rfl, Nat.le_of_ble_eq_true rfl, Nat.le_of_ble_eq_true rfl⟩ hcs ?_
  obtain ⟨σ3, hc, h⟩ := bnd_some h
  refine p_callV G zl_23 dX6_writeLaying_19 lk_X6_222 (c_X1_lay (gl Γ) hc) (As := [.long v2]) (ci := 1) rfl zk_23 (zs_x zs_23 _) rfl rfl rfl (Nat.le_of_ble_eq_true rfl) ⟨rfl, rfl, Nat.le_of_ble_eq_true rfl, Nat.le_of_ble_eq_true rfl⟩ hcs ?_
  refine p_nm h (fun σ4 h => ?_)
  refine p_aload_n G rfl 0 rfl dX6_writeLaying_22 ?_
  refine p_get G dX6_writeLaying_23 fl_X6_54 (k := 0) rfl rfl ?_
  refine p_aload_n G rfl 0 rfl dX6_writeLaying_26 ?_
  refine p_get G dX6_writeLaying_27 fl_X6_40 (k := 0) rfl rfl ?_
  obtain ⟨σ5, hc, h⟩ := bnd_some h
  refine p_callV G zl_25 dX6_writeLaying_30 lk_X6_306 (c_X4_write (gl Γ) hc) (As := [.ref (ga Γ 77)]) (ci := 4) rfl zk_25 (zs_x zs_25 _) rfl rfl rfl (Nat.le_of_ble_eq_true rfl) ⟨rfl, rfl, Nat.le_of_ble_eq_true rfl, Nat.le_of_ble_eq_true rfl⟩ hcs ?_
  refine p_nm h (fun σ6 h => ?_)
  refine p_aload_n G rfl 0 rfl dX6_writeLaying_33 ?_
  refine p_get G dX6_writeLaying_34 fl_X6_54 (k := 0) rfl rfl ?_
  refine p_get G dX6_writeLaying_37 fl_X6_309 (k := 99) rfl rfl ?_
  (cases h; exact p_iret G hR dX6_writeLaying_40 rfl rfl)
set_option maxHeartbeats 4000000 in
set_option maxRecDepth 100000 in
theorem c_X6_reportByte (l : Launch) {D : va_G} {yy : Nat → ClassId} {tk tv a : Nat → Nat} {σ : Mm} {p1 : Int} {o : Int} (h : x_X6_reportByte σ p1 = some o) : CT l yX6_reportByte cX6_reportByte 2 (some .int) rm_X6_reportByte shX D yy tk tv a σ [.ref (a 0), .int (zJ p1)] σ (some (.int (zJ o))) := by
  refine ct_of (Ar := fun a tk => [.ref (a 0), .int (zJ p1)]) (by decide) (Nat.le_of_ble_eq_true rfl) (fun Γ G _ _ hR => ?_)
  have hcs := rt_cs hR
  unfold x_X6_reportByte at h
  refine (?_ : PT Γ 2 shX 0 σ [(0, .ref (ga Γ 0)), (1, .int (zJ p1))] [])
  refine p_aload_n G rfl 0 rfl dX6_reportByte_0 ?_
  refine p_get G dX6_reportByte_1 fl_X6_54 (k := 0) rfl rfl ?_
  refine p_iload_n G rfl 1 rfl dX6_reportByte_4 ?_
  obtain ⟨v1, hc, h⟩ := bnd_some h
  refine p_callVr G zl_26 dX6_reportByte_5 lk_X6_310 (c_X4_signAt (gl Γ) hc) (As := [.int (zJ p1)]) (ci := 4) rfl zk_26 (zs_x zs_26 _) rfl rfl rfl (Nat.le_of_ble_eq_true rfl) ⟨rfl, rfl, Nat.le_of_ble_eq_true rfl, Nat.le_of_ble_eq_true rfl⟩ hcs ?_
  (cases h; exact p_iret G hR dX6_reportByte_8 rfl rfl)
set_option maxHeartbeats 4000000 in
set_option maxRecDepth 100000 in
theorem c_X7_thrown (l : Launch) {D : va_G} {yy : Nat → ClassId} {tk tv a : Nat → Nat} {σ : Mm} {o : Int} (h : x_X7_thrown σ = some o) : CT l yX7_thrown cX7_thrown 1 (some .int) rm_X7_thrown shW D yy tk tv a σ [.ref (a 0)] σ (some (.int (zJ o))) := by
  refine ct_of (Ar := fun a tk => [.ref (a 0)]) (by decide) (Nat.le_of_ble_eq_true rfl) (fun Γ G _ _ hR => ?_)
  have hcs := rt_cs hR
  unfold x_X7_thrown at h
  refine (?_ : PT Γ 1 shW 0 σ [(0, .ref (ga Γ 0))] [])
  refine p_aload_n G rfl 0 rfl dX7_thrown_0 ?_
  refine p_get G dX7_thrown_1 fl_X7_62 (k := 0) rfl rfl ?_
  (cases h; exact p_iret G hR dX7_thrown_4 rfl rfl)
set_option maxHeartbeats 4000000 in
set_option maxRecDepth 100000 in
theorem c_X7_copy (l : Launch) {D : va_G} {yy : Nat → ClassId} {tk tv a : Nat → Nat} {σ : Mm} {o : Mm} (h : x_X7_copy σ = some o) : CT l yX7_copy cX7_copy 3 none rm_X7_copy shC D yy tk tv a σ [.ref (a 0), .ref (a 1)] o none := by
  refine ct_of (Ar := fun a tk => [.ref (a 0), .ref (a 1)]) (by decide) (Nat.le_of_ble_eq_true rfl) (fun Γ G _ _ hR => ?_)
  have hcs := rt_cs hR
  unfold x_X7_copy at h
  refine (?_ : PT Γ 3 shC 0 σ [(0, .ref (ga Γ 0)), (1, .ref (ga Γ 1))] [])
  refine p_iconst G rfl dX7_copy_0 ?_
  refine p_istore_nU (lv' := [(2, .int (zJ (0 : Int))), (0, .ref (ga Γ 0)), (1, .ref (ga Γ 1))]) G rfl dX7_copy_1 (by decide) rfl ?_
  refine p_lv [1, 2, 0] rfl ?_
  obtain ⟨e7, hl2, h⟩ := bnd_some h
  have hX2_21 : ∀ (σ8 : Mm), σ8 = e7 → PT Γ 3 shC 21 σ8 [] [] := by
    intro σ8 he
    subst he
    (cases h; exact p_vret G hR dX7_copy_21 rfl rfl)
  refine lup_walk (s := (σ, (0 : Int))) (At := fun s : Mm × Int => PT Γ 3 shC 2 s.1 [(0, .ref (ga Γ 0)), (1, .ref (ga Γ 1)), (2, .int (zJ s.2))] []) (fun s r hf hin2 hout2 => ?_) hl2
  obtain ⟨σ2, u2_2⟩ := s
  have h : x_X7_copy_b2 σ2 u2_2 = some r := hf
  clear hf
  unfold x_X7_copy_b2 at h
  refine (?_ : PT Γ 3 shC 2 σ2 [(0, .ref (ga Γ 0)), (1, .ref (ga Γ 1)), (2, .int (zJ u2_2))] [])
  refine p_iload_n G rfl 2 rfl dX7_copy_2 ?_
  refine p_sipush G (by decide) (by decide) dX7_copy_3 ?_
  refine p_icmpge (tgt := 21) G dX7_copy_6 (by decide) h (fun c5 h => ?_) (fun c5 h => ?_)
  · refine p_lv [] rfl ?_
    have he := hout2 _ (Option.some.inj h).symm
    subst he
    exact hX2_21 _ rfl
  · refine p_aload_n G rfl 1 rfl dX7_copy_9 ?_
    refine p_iload_n G rfl 2 rfl dX7_copy_10 ?_
    refine p_aload_n G rfl 0 rfl dX7_copy_11 ?_
    refine p_iload_n G rfl 2 rfl dX7_copy_12 ?_
    refine p_iald G dX7_copy_13 (k := 0) rfl (zt_c _) h (fun c1 h => ?_)
    refine p_iast G dX7_copy_14 (k := 1) rfl (zt_c _) rfl h (fun σ2 c3 h => ?_)
    refine p_iinc (lv' := fun v4 => [(2, .int (zJ v4)), (0, .ref (ga Γ 0)), (1, .ref (ga Γ 1))]) G dX7_copy_15 h 2 rfl (by decide) (fun _ => rfl) (fun v4 h => ?_)
    refine p_goto (tgt := 2) G dX7_copy_18 (by decide) ?_
    refine p_lv [1, 2, 0] rfl ?_
    exact hin2 _ (Option.some.inj h).symm
set_option maxHeartbeats 4000000 in
set_option maxRecDepth 100000 in
theorem c_X7_keepPast_w (l : Launch) {D : va_G} {yy : Nat → ClassId} {tk tv a : Nat → Nat} {σ : Mm} {o : Mm} (h : x_X7_keepPast_w σ = some o) : CT l yX7_keepPast cX7_keepPast 4 none rm_X7_keepPast_w shW D yy tk tv a σ [.ref (a 0), .ref (a 1)] o none := by
  refine ct_of (Ar := fun a tk => [.ref (a 0), .ref (a 1)]) (by decide) (Nat.le_of_ble_eq_true rfl) (fun Γ G _ _ hR => ?_)
  have hcs := rt_cs hR
  unfold x_X7_keepPast_w at h
  refine (?_ : PT Γ 4 shW 0 σ [(0, .ref (ga Γ 0)), (1, .ref (ga Γ 1))] [])
  refine p_aload_n G rfl 0 rfl dX7_keepPast_0 ?_
  refine p_get G dX7_keepPast_1 fl_X7_65 (k := 0) rfl rfl ?_
  refine p_bipush G (by decide) (by decide) dX7_keepPast_4 ?_
  refine p_icmpne (tgt := 62) G dX7_keepPast_6 (by decide) h (fun c23 h => ?_) (fun c23 h => ?_)
  · refine p_aload_n G rfl 1 rfl dX7_keepPast_62 ?_
    refine p_aload_n G rfl 0 rfl dX7_keepPast_63 ?_
    refine p_get G dX7_keepPast_64 fl_X7_15 (k := 0) rfl rfl ?_
    refine p_aload_n G rfl 0 rfl dX7_keepPast_67 ?_
    refine p_get G dX7_keepPast_68 fl_X7_65 (k := 0) rfl rfl ?_
    refine p_aaldA (lo := 3) (hi := 13) G dX7_keepPast_71 (k := 2) rfl (zt_c _) (by decide) h (fun c5 c5a c5b h => ?_)
    refine zift h (fun c4 h => ?_)
    obtain ⟨σ1, hc, h⟩ := bnd_some h
    have c4z := zk_27 (Int.toNat (σ 2 (zix (σ 0 3)))) (by omega) (by omega)
    refine p_callS G [1, (Int.toNat (σ 2 (zix (σ 0 3))))] dX7_keepPast_72 lk_X7_68 (c_X7_copy (gl Γ) hc) (As := [.ref (ga Γ 1), .ref (ga Γ (Int.toNat (σ 2 (zix (σ 0 3)))))]) rfl c4z.1 (zs_x c4z.2 _) rfl (Nat.le_of_ble_eq_true rfl) ⟨rfl, rfl, Nat.le_of_ble_eq_true rfl, Nat.le_of_ble_eq_true rfl⟩ hcs ?_
    refine p_nm h (fun σ2 h => ?_)
    refine p_aload_n G rfl 0 rfl dX7_keepPast_75 ?_
    refine p_dup G rfl dX7_keepPast_76 ?_
    refine p_get G dX7_keepPast_77 fl_X7_65 (k := 0) rfl rfl ?_
    refine p_iconst G rfl dX7_keepPast_80 ?_
    refine p_iadd G dX7_keepPast_81 ?_
    refine p_putI G dX7_keepPast_82 fp_X7_65 (k := 0) rfl rfl rfl rfl h (fun σ3 h => ?_)
    (cases h; exact p_vret G hR dX7_keepPast_85 rfl rfl)
  · refine p_aload_n G rfl 0 rfl dX7_keepPast_9 ?_
    refine p_get G dX7_keepPast_10 fl_X7_15 (k := 0) rfl rfl ?_
    refine p_iconst G rfl dX7_keepPast_13 ?_
    refine p_aaldA (lo := 3) (hi := 13) G dX7_keepPast_14 (k := 2) rfl (zt_c _) (by decide) h (fun c22 c22a c22b h => ?_)
    refine p_astore_n (lv' := [(2, .ref (ga Γ (Int.toNat (σ 2 (zix (0 : Int)))))), (0, .ref (ga Γ 0)), (1, .ref (ga Γ 1))]) G rfl dX7_keepPast_15 (by decide) rfl ?_
    refine p_iconst G rfl dX7_keepPast_16 ?_
    refine p_istore_nU (lv' := [(3, .int (zJ (1 : Int))), (2, .ref (ga Γ (Int.toNat (σ 2 (zix (0 : Int)))))), (0, .ref (ga Γ 0)), (1, .ref (ga Γ 1))]) G rfl dX7_keepPast_17 (by decide) rfl ?_
    refine p_lv [2, 3, 1, 0] rfl ?_
    obtain ⟨e12, hl18, h⟩ := bnd_some h
    have hX18_44 : ∀ (σ13 : Mm), σ13 = e12 → PT Γ 4 shW 44 σ13 [(0, .ref (ga Γ 0)), (1, .ref (ga Γ 1)), (2, .ref (ga Γ (Int.toNat (σ 2 (zix (0 : Int))))))] [] := by
      intro σ13 he
      subst he
      refine p_aload_n G rfl 0 rfl dX7_keepPast_44 ?_
      refine p_get G dX7_keepPast_45 fl_X7_15 (k := 0) rfl rfl ?_
      refine p_bipush G (by decide) (by decide) dX7_keepPast_48 ?_
      refine p_aload_n G rfl 2 rfl dX7_keepPast_50 ?_
      refine p_aastA (lo := 3) (hi := 13) (m := 171) (t0 := ([], 0, 0)) G dX7_keepPast_51 (k := 2) rfl (zt_c _) (by decide) (zr0_at (by decide +kernel)) rfl h (fun σ14 c15 c15a c15b h => ?_)
      refine p_aload_n G rfl 0 rfl dX7_keepPast_52 ?_
      refine p_dup G rfl dX7_keepPast_53 ?_
      refine p_get G dX7_keepPast_54 fl_X7_65 (k := 0) rfl rfl ?_
      refine p_iconst G rfl dX7_keepPast_57 ?_
      refine p_isub G dX7_keepPast_58 ?_
      refine p_putI G dX7_keepPast_59 fp_X7_65 (k := 0) rfl rfl rfl rfl h (fun σ16 h => ?_)
      refine p_aload_n G rfl 1 rfl dX7_keepPast_62 ?_
      refine p_aload_n G rfl 0 rfl dX7_keepPast_63 ?_
      refine p_get G dX7_keepPast_64 fl_X7_15 (k := 0) rfl rfl ?_
      refine p_aload_n G rfl 0 rfl dX7_keepPast_67 ?_
      refine p_get G dX7_keepPast_68 fl_X7_65 (k := 0) rfl rfl ?_
      refine p_aaldA (lo := 3) (hi := 13) G dX7_keepPast_71 (k := 2) rfl (zt_c _) (by decide) h (fun c21 c21a c21b h => ?_)
      refine zift h (fun c20 h => ?_)
      obtain ⟨σ17, hc, h⟩ := bnd_some h
      have c20z := zk_27 (Int.toNat (σ16 2 (zix (σ16 0 3)))) (by omega) (by omega)
      refine p_callS G [1, (Int.toNat (σ16 2 (zix (σ16 0 3))))] dX7_keepPast_72 lk_X7_68 (c_X7_copy (gl Γ) hc) (As := [.ref (ga Γ 1), .ref (ga Γ (Int.toNat (σ16 2 (zix (σ16 0 3)))))]) rfl c20z.1 (zs_x c20z.2 _) rfl (Nat.le_of_ble_eq_true rfl) ⟨rfl, rfl, Nat.le_of_ble_eq_true rfl, Nat.le_of_ble_eq_true rfl⟩ hcs ?_
      refine p_nm h (fun σ18 h => ?_)
      refine p_aload_n G rfl 0 rfl dX7_keepPast_75 ?_
      refine p_dup G rfl dX7_keepPast_76 ?_
      refine p_get G dX7_keepPast_77 fl_X7_65 (k := 0) rfl rfl ?_
      refine p_iconst G rfl dX7_keepPast_80 ?_
      refine p_iadd G dX7_keepPast_81 ?_
      refine p_putI G dX7_keepPast_82 fp_X7_65 (k := 0) rfl rfl rfl rfl h (fun σ19 h => ?_)
      (cases h; exact p_vret G hR dX7_keepPast_85 rfl rfl)
    refine lup_walk (s := (σ, (1 : Int))) (At := fun s : Mm × Int => PT Γ 4 shW 18 s.1 [(0, .ref (ga Γ 0)), (1, .ref (ga Γ 1)), (2, .ref (ga Γ (Int.toNat (σ 2 (zix (0 : Int)))))), (3, .int (zJ s.2))] []) (fun s r hf hin18 hout18 => ?_) hl18
    obtain ⟨σ18, u3_18⟩ := s
    have h : x_X7_keepPast_w_b18 σ18 u3_18 = some r := hf
    clear hf
    unfold x_X7_keepPast_w_b18 at h
    refine (?_ : PT Γ 4 shW 18 σ18 [(0, .ref (ga Γ 0)), (1, .ref (ga Γ 1)), (2, .ref (ga Γ (Int.toNat (σ 2 (zix (0 : Int)))))), (3, .int (zJ u3_18))] [])
    refine p_iload_n G rfl 3 rfl dX7_keepPast_18 ?_
    refine p_bipush G (by decide) (by decide) dX7_keepPast_19 ?_
    refine p_icmpge (tgt := 44) G dX7_keepPast_21 (by decide) h (fun c10 h => ?_) (fun c10 h => ?_)
    · refine p_lv [0, 1, 2] rfl ?_
      have he := hout18 _ (Option.some.inj h).symm
      subst he
      exact hX18_44 _ rfl
    · refine p_aload_n G rfl 0 rfl dX7_keepPast_24 ?_
      refine p_get G dX7_keepPast_25 fl_X7_15 (k := 0) rfl rfl ?_
      refine p_iload_n G rfl 3 rfl dX7_keepPast_28 ?_
      refine p_iconst G rfl dX7_keepPast_29 ?_
      refine p_isub G dX7_keepPast_30 ?_
      refine p_aload_n G rfl 0 rfl dX7_keepPast_31 ?_
      refine p_get G dX7_keepPast_32 fl_X7_15 (k := 0) rfl rfl ?_
      refine p_iload_n G rfl 3 rfl dX7_keepPast_35 ?_
      refine p_aaldA (lo := 3) (hi := 13) G dX7_keepPast_36 (k := 2) rfl (zt_c _) (by decide) h (fun c9 c9a c9b h => ?_)
      refine p_aastA (lo := 3) (hi := 13) (m := 171) (t0 := ([], 0, 0)) G dX7_keepPast_37 (k := 2) rfl (zt_c _) (by decide) (zr0_at (by decide +kernel)) rfl h (fun σ6 c7 c7a c7b h => ?_)
      refine p_iinc (lv' := fun v8 => [(3, .int (zJ v8)), (0, .ref (ga Γ 0)), (1, .ref (ga Γ 1)), (2, .ref (ga Γ (Int.toNat (σ 2 (zix (0 : Int))))))]) G dX7_keepPast_38 h 3 rfl (by decide) (fun _ => rfl) (fun v8 h => ?_)
      refine p_goto (tgt := 18) G dX7_keepPast_41 (by decide) ?_
      refine p_lv [1, 2, 3, 0] rfl ?_
      exact hin18 _ (Option.some.inj h).symm
set_option maxHeartbeats 4000000 in
set_option maxRecDepth 100000 in
theorem c_X7_keepPast_b (l : Launch) {D : va_G} {yy : Nat → ClassId} {tk tv a : Nat → Nat} {σ : Mm} {o : Mm} (h : x_X7_keepPast_b σ = some o) : CT l yX7_keepPast cX7_keepPast 4 none rm_X7_keepPast_b shW D yy tk tv a σ [.ref (a 0), .ref (a 17)] o none := by
  refine ct_of (Ar := fun a tk => [.ref (a 0), .ref (a 17)]) (by decide) (Nat.le_of_ble_eq_true rfl) (fun Γ G _ _ hR => ?_)
  have hcs := rt_cs hR
  unfold x_X7_keepPast_b at h
  refine (?_ : PT Γ 4 shW 0 σ [(0, .ref (ga Γ 0)), (1, .ref (ga Γ 17))] [])
  refine p_aload_n G rfl 0 rfl dX7_keepPast_0 ?_
  refine p_get G dX7_keepPast_1 fl_X7_65 (k := 0) rfl rfl ?_
  refine p_bipush G (by decide) (by decide) dX7_keepPast_4 ?_
  refine p_icmpne (tgt := 62) G dX7_keepPast_6 (by decide) h (fun c23 h => ?_) (fun c23 h => ?_)
  · refine p_aload_n G rfl 1 rfl dX7_keepPast_62 ?_
    refine p_aload_n G rfl 0 rfl dX7_keepPast_63 ?_
    refine p_get G dX7_keepPast_64 fl_X7_15 (k := 0) rfl rfl ?_
    refine p_aload_n G rfl 0 rfl dX7_keepPast_67 ?_
    refine p_get G dX7_keepPast_68 fl_X7_65 (k := 0) rfl rfl ?_
    refine p_aaldA (lo := 3) (hi := 13) G dX7_keepPast_71 (k := 2) rfl (zt_c _) (by decide) h (fun c5 c5a c5b h => ?_)
    refine zift h (fun c4 h => ?_)
    obtain ⟨σ1, hc, h⟩ := bnd_some h
    have c4z := zk_28 (Int.toNat (σ 2 (zix (σ 0 3)))) (by omega) (by omega)
    refine p_callS G [17, (Int.toNat (σ 2 (zix (σ 0 3))))] dX7_keepPast_72 lk_X7_68 (c_X7_copy (gl Γ) hc) (As := [.ref (ga Γ 17), .ref (ga Γ (Int.toNat (σ 2 (zix (σ 0 3)))))]) rfl c4z.1 (zs_x c4z.2 _) rfl (Nat.le_of_ble_eq_true rfl) ⟨rfl, rfl, Nat.le_of_ble_eq_true rfl, Nat.le_of_ble_eq_true rfl⟩ hcs ?_
    refine p_nm h (fun σ2 h => ?_)
    refine p_aload_n G rfl 0 rfl dX7_keepPast_75 ?_
    refine p_dup G rfl dX7_keepPast_76 ?_
    refine p_get G dX7_keepPast_77 fl_X7_65 (k := 0) rfl rfl ?_
    refine p_iconst G rfl dX7_keepPast_80 ?_
    refine p_iadd G dX7_keepPast_81 ?_
    refine p_putI G dX7_keepPast_82 fp_X7_65 (k := 0) rfl rfl rfl rfl h (fun σ3 h => ?_)
    (cases h; exact p_vret G hR dX7_keepPast_85 rfl rfl)
  · refine p_aload_n G rfl 0 rfl dX7_keepPast_9 ?_
    refine p_get G dX7_keepPast_10 fl_X7_15 (k := 0) rfl rfl ?_
    refine p_iconst G rfl dX7_keepPast_13 ?_
    refine p_aaldA (lo := 3) (hi := 13) G dX7_keepPast_14 (k := 2) rfl (zt_c _) (by decide) h (fun c22 c22a c22b h => ?_)
    refine p_astore_n (lv' := [(2, .ref (ga Γ (Int.toNat (σ 2 (zix (0 : Int)))))), (0, .ref (ga Γ 0)), (1, .ref (ga Γ 17))]) G rfl dX7_keepPast_15 (by decide) rfl ?_
    refine p_iconst G rfl dX7_keepPast_16 ?_
    refine p_istore_nU (lv' := [(3, .int (zJ (1 : Int))), (2, .ref (ga Γ (Int.toNat (σ 2 (zix (0 : Int)))))), (0, .ref (ga Γ 0)), (1, .ref (ga Γ 17))]) G rfl dX7_keepPast_17 (by decide) rfl ?_
    refine p_lv [2, 3, 1, 0] rfl ?_
    obtain ⟨e12, hl18, h⟩ := bnd_some h
    have hX18_44 : ∀ (σ13 : Mm), σ13 = e12 → PT Γ 4 shW 44 σ13 [(0, .ref (ga Γ 0)), (1, .ref (ga Γ 17)), (2, .ref (ga Γ (Int.toNat (σ 2 (zix (0 : Int))))))] [] := by
      intro σ13 he
      subst he
      refine p_aload_n G rfl 0 rfl dX7_keepPast_44 ?_
      refine p_get G dX7_keepPast_45 fl_X7_15 (k := 0) rfl rfl ?_
      refine p_bipush G (by decide) (by decide) dX7_keepPast_48 ?_
      refine p_aload_n G rfl 2 rfl dX7_keepPast_50 ?_
      refine p_aastA (lo := 3) (hi := 13) (m := 171) (t0 := ([], 0, 0)) G dX7_keepPast_51 (k := 2) rfl (zt_c _) (by decide) (zr0_at (by decide +kernel)) rfl h (fun σ14 c15 c15a c15b h => ?_)
      refine p_aload_n G rfl 0 rfl dX7_keepPast_52 ?_
      refine p_dup G rfl dX7_keepPast_53 ?_
      refine p_get G dX7_keepPast_54 fl_X7_65 (k := 0) rfl rfl ?_
      refine p_iconst G rfl dX7_keepPast_57 ?_
      refine p_isub G dX7_keepPast_58 ?_
      refine p_putI G dX7_keepPast_59 fp_X7_65 (k := 0) rfl rfl rfl rfl h (fun σ16 h => ?_)
      refine p_aload_n G rfl 1 rfl dX7_keepPast_62 ?_
      refine p_aload_n G rfl 0 rfl dX7_keepPast_63 ?_
      refine p_get G dX7_keepPast_64 fl_X7_15 (k := 0) rfl rfl ?_
      refine p_aload_n G rfl 0 rfl dX7_keepPast_67 ?_
      refine p_get G dX7_keepPast_68 fl_X7_65 (k := 0) rfl rfl ?_
      refine p_aaldA (lo := 3) (hi := 13) G dX7_keepPast_71 (k := 2) rfl (zt_c _) (by decide) h (fun c21 c21a c21b h => ?_)
      refine zift h (fun c20 h => ?_)
      obtain ⟨σ17, hc, h⟩ := bnd_some h
      have c20z := zk_28 (Int.toNat (σ16 2 (zix (σ16 0 3)))) (by omega) (by omega)
      refine p_callS G [17, (Int.toNat (σ16 2 (zix (σ16 0 3))))] dX7_keepPast_72 lk_X7_68 (c_X7_copy (gl Γ) hc) (As := [.ref (ga Γ 17), .ref (ga Γ (Int.toNat (σ16 2 (zix (σ16 0 3)))))]) rfl c20z.1 (zs_x c20z.2 _) rfl (Nat.le_of_ble_eq_true rfl) ⟨rfl, rfl, Nat.le_of_ble_eq_true rfl, Nat.le_of_ble_eq_true rfl⟩ hcs ?_
      refine p_nm h (fun σ18 h => ?_)
      refine p_aload_n G rfl 0 rfl dX7_keepPast_75 ?_
      refine p_dup G rfl dX7_keepPast_76 ?_
      refine p_get G dX7_keepPast_77 fl_X7_65 (k := 0) rfl rfl ?_
      refine p_iconst G rfl dX7_keepPast_80 ?_
      refine p_iadd G dX7_keepPast_81 ?_
      refine p_putI G dX7_keepPast_82 fp_X7_65 (k := 0) rfl rfl rfl rfl h (fun σ19 h => ?_)
      (cases h; exact p_vret G hR dX7_keepPast_85 rfl rfl)
    refine lup_walk (s := (σ, (1 : Int))) (At := fun s : Mm × Int => PT Γ 4 shW 18 s.1 [(0, .ref (ga Γ 0)), (1, .ref (ga Γ 17)), (2, .ref (ga Γ (Int.toNat (σ 2 (zix (0 : Int)))))), (3, .int (zJ s.2))] []) (fun s r hf hin18 hout18 => ?_) hl18
    obtain ⟨σ18, u3_18⟩ := s
    have h : x_X7_keepPast_b_b18 σ18 u3_18 = some r := hf
    clear hf
    unfold x_X7_keepPast_b_b18 at h
    refine (?_ : PT Γ 4 shW 18 σ18 [(0, .ref (ga Γ 0)), (1, .ref (ga Γ 17)), (2, .ref (ga Γ (Int.toNat (σ 2 (zix (0 : Int)))))), (3, .int (zJ u3_18))] [])
    refine p_iload_n G rfl 3 rfl dX7_keepPast_18 ?_
    refine p_bipush G (by decide) (by decide) dX7_keepPast_19 ?_
    refine p_icmpge (tgt := 44) G dX7_keepPast_21 (by decide) h (fun c10 h => ?_) (fun c10 h => ?_)
    · refine p_lv [0, 1, 2] rfl ?_
      have he := hout18 _ (Option.some.inj h).symm
      subst he
      exact hX18_44 _ rfl
    · refine p_aload_n G rfl 0 rfl dX7_keepPast_24 ?_
      refine p_get G dX7_keepPast_25 fl_X7_15 (k := 0) rfl rfl ?_
      refine p_iload_n G rfl 3 rfl dX7_keepPast_28 ?_
      refine p_iconst G rfl dX7_keepPast_29 ?_
      refine p_isub G dX7_keepPast_30 ?_
      refine p_aload_n G rfl 0 rfl dX7_keepPast_31 ?_
      refine p_get G dX7_keepPast_32 fl_X7_15 (k := 0) rfl rfl ?_
      refine p_iload_n G rfl 3 rfl dX7_keepPast_35 ?_
      refine p_aaldA (lo := 3) (hi := 13) G dX7_keepPast_36 (k := 2) rfl (zt_c _) (by decide) h (fun c9 c9a c9b h => ?_)
      refine p_aastA (lo := 3) (hi := 13) (m := 171) (t0 := ([], 0, 0)) G dX7_keepPast_37 (k := 2) rfl (zt_c _) (by decide) (zr0_at (by decide +kernel)) rfl h (fun σ6 c7 c7a c7b h => ?_)
      refine p_iinc (lv' := fun v8 => [(3, .int (zJ v8)), (0, .ref (ga Γ 0)), (1, .ref (ga Γ 17)), (2, .ref (ga Γ (Int.toNat (σ 2 (zix (0 : Int))))))]) G dX7_keepPast_38 h 3 rfl (by decide) (fun _ => rfl) (fun v8 h => ?_)
      refine p_goto (tgt := 18) G dX7_keepPast_41 (by decide) ?_
      refine p_lv [1, 2, 3, 0] rfl ?_
      exact hin18 _ (Option.some.inj h).symm
set_option maxHeartbeats 4000000 in
set_option maxRecDepth 100000 in
theorem c_X7_bad (l : Launch) {D : va_G} {yy : Nat → ClassId} {tk tv a : Nat → Nat} {σ : Mm} {p1 : Int64} {p3 : Int64} {p5 : Int64} {p7 : Int} {o : Mm × Int} (h : x_X7_bad σ p1 p3 p5 p7 = some o) : CT l yX7_bad cX7_bad 8 (some .boolean) rm_X7_bad shW D yy tk tv a σ [.ref (a 0), .long p1, .long p3, .long p5, .int (zJ p7)] o.1 (some (.int (zJ o.2))) := by
  refine ct_of (Ar := fun a tk => [.ref (a 0), .long p1, .long p3, .long p5, .int (zJ p7)]) (by decide) (Nat.le_of_ble_eq_true rfl) (fun Γ G _ _ hR => ?_)
  have hcs := rt_cs hR
  unfold x_X7_bad at h
  refine (?_ : PT Γ 8 shW 0 σ [(0, .ref (ga Γ 0)), (1, .long p1), (3, .long p3), (5, .long p5), (7, .int (zJ p7))] [])
  refine p_lload_n G rfl 1 rfl dX7_bad_0 ?_
  refine p_lload_n G rfl 2 rfl dX7_bad_1 ?_
  refine p_lcmp G dX7_bad_2 ?_
  refine p_iflt (tgt := 13) G dX7_bad_3 (by decide) h (fun c4 h => ?_) (fun c4 h => ?_)
  · refine p_aload_n G rfl 0 rfl dX7_bad_13 ?_
    refine p_iload G 4 rfl dX7_bad_14 ?_
    refine p_putI G dX7_bad_16 fp_X7_62 (k := 0) rfl rfl rfl rfl h (fun σ1 h => ?_)
    refine p_iconst G rfl dX7_bad_19 ?_
    (cases h; exact p_zret G hR dX7_bad_20 (by decide) rfl rfl)
  · refine p_lload_n G rfl 1 rfl dX7_bad_6 ?_
    refine p_lload G 3 rfl dX7_bad_7 ?_
    refine p_lcmp G dX7_bad_9 ?_
    refine p_ifle (tgt := 21) G dX7_bad_10 (by decide) h (fun c3 h => ?_) (fun c3 h => ?_)
    · refine p_iconst G rfl dX7_bad_21 ?_
      (cases h; exact p_zret G hR dX7_bad_22 (by decide) rfl rfl)
    · refine p_aload_n G rfl 0 rfl dX7_bad_13 ?_
      refine p_iload G 4 rfl dX7_bad_14 ?_
      refine p_putI G dX7_bad_16 fp_X7_62 (k := 0) rfl rfl rfl rfl h (fun σ2 h => ?_)
      refine p_iconst G rfl dX7_bad_19 ?_
      (cases h; exact p_zret G hR dX7_bad_20 (by decide) rfl rfl)
set_option maxHeartbeats 4000000 in
set_option maxRecDepth 100000 in
theorem c_X7_noPlayer (l : Launch) {D : va_G} {yy : Nat → ClassId} {tk tv a : Nat → Nat} {σ : Mm} {p1 : Int} {o : Mm × Int} (h : x_X7_noPlayer σ p1 = some o) : CT l yX7_noPlayer cX7_noPlayer 2 (some .boolean) rm_X7_noPlayer shW D yy tk tv a σ [.ref (a 0), .int (zJ p1)] o.1 (some (.int (zJ o.2))) := by
  refine ct_of (Ar := fun a tk => [.ref (a 0), .int (zJ p1)]) (by decide) (Nat.le_of_ble_eq_true rfl) (fun Γ G _ _ hR => ?_)
  have hcs := rt_cs hR
  unfold x_X7_noPlayer at h
  refine (?_ : PT Γ 2 shW 0 σ [(0, .ref (ga Γ 0)), (1, .int (zJ p1))] [])
  refine p_aload_n G rfl 0 rfl dX7_noPlayer_0 ?_
  refine p_iload_n G rfl 1 rfl dX7_noPlayer_1 ?_
  refine p_i2l G dX7_noPlayer_2 ?_
  refine p_lconst G (v := 0) (by decide) dX7_noPlayer_3 ?_
  refine p_lconst G (v := 1) (by decide) dX7_noPlayer_4 ?_
  refine p_iconst G rfl dX7_noPlayer_5 ?_
  obtain ⟨⟨σ1, v2⟩, hc, h⟩ := bnd_some h
  rw [un2_mk] at h
  refine p_callVi G dX7_noPlayer_6 lk_X7_72 (c_X7_bad (gl Γ) hc) (As := [.long (zi2l p1), .long (0 : Int64), .long (1 : Int64), .int (zJ (1 : Int))]) (ci := 7) rfl rfl rfl rfl (Nat.le_of_ble_eq_true rfl) ⟨rfl, rfl, Nat.le_of_ble_eq_true rfl, Nat.le_of_ble_eq_true rfl⟩ hcs ?_
  refine zift h (fun hb h => ?_)
  (cases h; exact p_zret G hR dX7_noPlayer_9 (zb_01 hb).1 rfl rfl)
set_option maxHeartbeats 4000000 in
set_option maxRecDepth 100000 in
theorem c_X7_owns (l : Launch) {D : va_G} {yy : Nat → ClassId} {tk tv a : Nat → Nat} {σ : Mm} {p1 : Int} {p2 : Int} {o : Int} (h : x_X7_owns σ p1 p2 = some o) : CT l yX7_owns cX7_owns 3 (some .boolean) rm_X7_owns shW D yy tk tv a σ [.ref (a 0), .int (zJ p1), .int (zJ p2)] σ (some (.int (zJ o))) := by
  refine ct_of (Ar := fun a tk => [.ref (a 0), .int (zJ p1), .int (zJ p2)]) (by decide) (Nat.le_of_ble_eq_true rfl) (fun Γ G _ _ hR => ?_)
  have hcs := rt_cs hR
  unfold x_X7_owns at h
  refine (?_ : PT Γ 3 shW 0 σ [(0, .ref (ga Γ 0)), (1, .int (zJ p1)), (2, .int (zJ p2))] [])
  refine p_iload_n G rfl 2 rfl dX7_owns_0 ?_
  refine p_iflt (tgt := 27) G dX7_owns_1 (by decide) h (fun c4 h => ?_) (fun c4 h => ?_)
  · refine p_iconst G rfl dX7_owns_27 ?_
    (cases h; exact p_zret G hR dX7_owns_28 (by decide) rfl rfl)
  · refine p_iload_n G rfl 2 rfl dX7_owns_4 ?_
    refine p_bipush G (by decide) (by decide) dX7_owns_5 ?_
    refine p_icmpge (tgt := 27) G dX7_owns_7 (by decide) h (fun c3 h => ?_) (fun c3 h => ?_)
    · refine p_iconst G rfl dX7_owns_27 ?_
      (cases h; exact p_zret G hR dX7_owns_28 (by decide) rfl rfl)
    · refine p_aload_n G rfl 0 rfl dX7_owns_10 ?_
      refine p_get G dX7_owns_11 fl_X7_9 (k := 0) rfl rfl ?_
      refine p_bipush G (by decide) (by decide) dX7_owns_14 ?_
      refine p_iload_n G rfl 2 rfl dX7_owns_16 ?_
      refine p_iadd G dX7_owns_17 ?_
      refine p_iald G dX7_owns_18 (k := 1) rfl (zt_c _) h (fun c1 h => ?_)
      refine p_iload_n G rfl 1 rfl dX7_owns_19 ?_
      refine p_icmpne (tgt := 27) G dX7_owns_20 (by decide) h (fun c2 h => ?_) (fun c2 h => ?_)
      · refine p_iconst G rfl dX7_owns_27 ?_
        (cases h; exact p_zret G hR dX7_owns_28 (by decide) rfl rfl)
      · refine p_iconst G rfl dX7_owns_23 ?_
        refine p_goto (tgt := 28) G dX7_owns_24 (by decide) ?_
        (cases h; exact p_zret G hR dX7_owns_28 (by decide) rfl rfl)
set_option maxHeartbeats 4000000 in
set_option maxRecDepth 100000 in
theorem c_X7_noCard (l : Launch) {D : va_G} {yy : Nat → ClassId} {tk tv a : Nat → Nat} {σ : Mm} {p1 : Int} {o : Mm × Int} (h : x_X7_noCard σ p1 = some o) : CT l yX7_noCard cX7_noCard 2 (some .boolean) rm_X7_noCard shW D yy tk tv a σ [.ref (a 0), .int (zJ p1)] o.1 (some (.int (zJ o.2))) := by
  refine ct_of (Ar := fun a tk => [.ref (a 0), .int (zJ p1)]) (by decide) (Nat.le_of_ble_eq_true rfl) (fun Γ G _ _ hR => ?_)
  have hcs := rt_cs hR
  unfold x_X7_noCard at h
  refine (?_ : PT Γ 2 shW 0 σ [(0, .ref (ga Γ 0)), (1, .int (zJ p1))] [])
  refine p_aload_n G rfl 0 rfl dX7_noCard_0 ?_
  refine p_aload_n G rfl 0 rfl dX7_noCard_1 ?_
  refine p_get G dX7_noCard_2 fl_X7_9 (k := 0) rfl rfl ?_
  refine p_iconst G rfl dX7_noCard_5 ?_
  refine p_iald G dX7_noCard_6 (k := 1) rfl (zt_c _) h (fun c1 h => ?_)
  refine p_iload_n G rfl 1 rfl dX7_noCard_7 ?_
  obtain ⟨v2, hc, h⟩ := bnd_some h
  refine p_callVi G dX7_noCard_8 lk_X7_76 (c_X7_owns (gl Γ) hc) (As := [.int (zJ (σ 1 (zix (4 : Int)))), .int (zJ p1)]) (ci := 7) rfl rfl rfl rfl (Nat.le_of_ble_eq_true rfl) ⟨rfl, rfl, Nat.le_of_ble_eq_true rfl, Nat.le_of_ble_eq_true rfl⟩ hcs ?_
  refine p_ifne (tgt := 21) G dX7_noCard_11 (by decide) h (fun c4 h => ?_) (fun c4 h => ?_)
  · refine p_iconst G rfl dX7_noCard_21 ?_
    (cases h; exact p_zret G hR dX7_noCard_22 (by decide) rfl rfl)
  · refine p_aload_n G rfl 0 rfl dX7_noCard_14 ?_
    refine p_iconst G rfl dX7_noCard_15 ?_
    refine p_putI G dX7_noCard_16 fp_X7_62 (k := 0) rfl rfl rfl rfl h (fun σ3 h => ?_)
    refine p_iconst G rfl dX7_noCard_19 ?_
    (cases h; exact p_zret G hR dX7_noCard_20 (by decide) rfl rfl)
set_option maxHeartbeats 4000000 in
set_option maxRecDepth 100000 in
theorem c_X7_points (l : Launch) {D : va_G} {yy : Nat → ClassId} {tk tv a : Nat → Nat} {σ : Mm} {p0 : Int} {o : Int} (h : x_X7_points p0 = some o) : CT l yX7_points cX7_points 2 (some .int) rm_X7_points shN D yy tk tv a σ [.int (zJ p0)] σ (some (.int (zJ o))) := by
  refine ct_of (Ar := fun a tk => [.int (zJ p0)]) (by decide) (Nat.le_of_ble_eq_true rfl) (fun Γ G _ _ hR => ?_)
  have hcs := rt_cs hR
  unfold x_X7_points at h
  refine (?_ : PT Γ 2 shN 0 σ [(0, .int (zJ p0))] [])
  refine p_iload_n G rfl 0 rfl dX7_points_0 ?_
  refine p_bipush G (by decide) (by decide) dX7_points_1 ?_
  refine p_iremK G dX7_points_3 (by decide) ?_
  refine p_istore_n (lv' := fun v1 => [(1, .int (zJ v1)), (0, .int (zJ p0))]) G rfl dX7_points_4 h (by decide) (fun _ => rfl) (fun v1 h => ?_)
  refine p_iload_n G rfl 0 rfl dX7_points_5 ?_
  refine p_bipush G (by decide) (by decide) dX7_points_6 ?_
  refine p_icmple (tgt := 16) G dX7_points_8 (by decide) h (fun c2 h => ?_) (fun c2 h => ?_)
  · refine p_iload_n G rfl 0 rfl dX7_points_16 ?_
    refine p_iconst G rfl dX7_points_17 ?_
    refine p_iadd G dX7_points_18 ?_
    (cases h; exact p_iret G hR dX7_points_19 rfl rfl)
  · refine p_bipush G (by decide) (by decide) dX7_points_11 ?_
    refine p_goto (tgt := 19) G dX7_points_13 (by decide) ?_
    (cases h; exact p_iret G hR dX7_points_19 rfl rfl)
set_option maxHeartbeats 4000000 in
set_option maxRecDepth 100000 in
theorem c_X7_pointsOf (l : Launch) {D : va_G} {yy : Nat → ClassId} {tk tv a : Nat → Nat} {σ : Mm} {p0 : Int64} {o : Int} (h : x_X7_pointsOf p0 = some o) : CT l yX7_pointsOf cX7_pointsOf 4 (some .int) rm_X7_pointsOf shN D yy tk tv a σ [.long p0] σ (some (.int (zJ o))) := by
  refine ct_of (Ar := fun a tk => [.long p0]) (by decide) (Nat.le_of_ble_eq_true rfl) (fun Γ G _ _ hR => ?_)
  have hcs := rt_cs hR
  unfold x_X7_pointsOf at h
  refine (?_ : PT Γ 4 shN 0 σ [(0, .long p0)] [])
  refine p_iconst G rfl dX7_pointsOf_0 ?_
  refine p_istore_nU (lv' := [(2, .int (zJ (0 : Int))), (0, .long p0)]) G rfl dX7_pointsOf_1 (by decide) rfl ?_
  refine p_iconst G rfl dX7_pointsOf_2 ?_
  refine p_istore_nU (lv' := [(3, .int (zJ (0 : Int))), (2, .int (zJ (0 : Int))), (0, .long p0)]) G rfl dX7_pointsOf_3 (by decide) rfl ?_
  refine p_lv [2, 1, 0] rfl ?_
  obtain ⟨e9, hl4, h⟩ := bnd_some h
  have hX4_37 : ∀ (v10 : Int), v10 = e9 → PT Γ 4 shN 37 σ [(2, .int (zJ v10))] [] := by
    intro v10 he
    subst he
    refine p_iload_n G rfl 0 rfl dX7_pointsOf_37 ?_
    (cases h; exact p_iret G hR dX7_pointsOf_38 rfl rfl)
  refine lup_walk (s := ((0 : Int), (0 : Int))) (At := fun s : Int × Int => PT Γ 4 shN 4 σ [(0, .long p0), (2, .int (zJ s.1)), (3, .int (zJ s.2))] []) (fun s r hf hin4 hout4 => ?_) hl4
  obtain ⟨u2_4, u3_4⟩ := s
  have h : x_X7_pointsOf_b4 p0 u2_4 u3_4 = some r := hf
  clear hf
  unfold x_X7_pointsOf_b4 at h
  refine (?_ : PT Γ 4 shN 4 σ [(0, .long p0), (2, .int (zJ u2_4)), (3, .int (zJ u3_4))] [])
  refine p_iload_n G rfl 2 rfl dX7_pointsOf_4 ?_
  refine p_bipush G (by decide) (by decide) dX7_pointsOf_5 ?_
  refine p_icmpge (tgt := 37) G dX7_pointsOf_7 (by decide) h (fun c7 h => ?_) (fun c7 h => ?_)
  · refine p_lv [1] rfl ?_
    have he := hout4 _ (Option.some.inj h).symm
    subst he
    exact hX4_37 _ rfl
  · refine p_iload_n G rfl 1 rfl dX7_pointsOf_10 ?_
    refine p_lload_n G rfl 0 rfl dX7_pointsOf_11 ?_
    refine p_iload_n G rfl 2 rfl dX7_pointsOf_12 ?_
    refine p_lshr G dX7_pointsOf_13 ?_
    refine p_lconst G (v := 1) (by decide) dX7_pointsOf_14 ?_
    refine p_land G dX7_pointsOf_15 ?_
    refine p_lconst G (v := 1) (by decide) dX7_pointsOf_16 ?_
    refine p_lcmp G dX7_pointsOf_17 ?_
    refine p_ifne (tgt := 28) G dX7_pointsOf_18 (by decide) h (fun c6 h => ?_) (fun c6 h => ?_)
    · refine p_iconst G rfl dX7_pointsOf_28 ?_
      refine p_iadd G dX7_pointsOf_29 ?_
      refine p_istore_n (lv' := fun v1 => [(2, .int (zJ v1)), (0, .long p0), (3, .int (zJ u3_4))]) G rfl dX7_pointsOf_30 h (by decide) (fun _ => rfl) (fun v1 h => ?_)
      refine p_iinc (lv' := fun v2 => [(3, .int (zJ v2)), (2, .int (zJ v1)), (0, .long p0)]) G dX7_pointsOf_31 h 2 rfl (by decide) (fun _ => rfl) (fun v2 h => ?_)
      refine p_goto (tgt := 4) G dX7_pointsOf_34 (by decide) ?_
      refine p_lv [2, 1, 0] rfl ?_
      exact hin4 _ (Option.some.inj h).symm
    · refine p_iload_n G rfl 2 rfl dX7_pointsOf_21 ?_
      obtain ⟨v3, hc, h⟩ := bnd_some h
      refine p_callS0 G dX7_pointsOf_22 lk_X7_80 (c_X7_points (gl Γ) hc) (As := [.int (zJ u3_4)]) rfl zk_1 rfl (Nat.le_of_ble_eq_true rfl) ⟨rfl, rfl, Nat.le_of_ble_eq_true rfl, Nat.le_of_ble_eq_true rfl⟩ hcs ?_
      refine p_goto (tgt := 29) G dX7_pointsOf_25 (by decide) ?_
      refine p_iadd G dX7_pointsOf_29 ?_
      refine p_istore_n (lv' := fun v4 => [(2, .int (zJ v4)), (0, .long p0), (3, .int (zJ u3_4))]) G rfl dX7_pointsOf_30 h (by decide) (fun _ => rfl) (fun v4 h => ?_)
      refine p_iinc (lv' := fun v5 => [(3, .int (zJ v5)), (2, .int (zJ v4)), (0, .long p0)]) G dX7_pointsOf_31 h 2 rfl (by decide) (fun _ => rfl) (fun v5 h => ?_)
      refine p_goto (tgt := 4) G dX7_pointsOf_34 (by decide) ?_
      refine p_lv [2, 1, 0] rfl ?_
      exact hin4 _ (Option.some.inj h).symm
set_option maxHeartbeats 4000000 in
set_option maxRecDepth 100000 in
theorem c_X7_ones (l : Launch) {D : va_G} {yy : Nat → ClassId} {tk tv a : Nat → Nat} {σ : Mm} {p0 : Int64} {o : Int} (h : x_X7_ones p0 = some o) : CT l yX7_ones cX7_ones 5 (some .int) rm_X7_ones shN D yy tk tv a σ [.long p0] σ (some (.int (zJ o))) := by
  refine ct_of (Ar := fun a tk => [.long p0]) (by decide) (Nat.le_of_ble_eq_true rfl) (fun Γ G _ _ hR => ?_)
  have hcs := rt_cs hR
  unfold x_X7_ones at h
  refine (?_ : PT Γ 5 shN 0 σ [(0, .long p0)] [])
  refine p_iconst G rfl dX7_ones_0 ?_
  refine p_istore_nU (lv' := [(2, .int (zJ (0 : Int))), (0, .long p0)]) G rfl dX7_ones_1 (by decide) rfl ?_
  refine p_lload_n G rfl 1 rfl dX7_ones_2 ?_
  refine p_lstore_nU (lv' := [(3, .long p0), (2, .int (zJ (0 : Int))), (0, .long p0)]) G rfl dX7_ones_3 (by decide) rfl ?_
  refine p_lv [1, 0] rfl ?_
  obtain ⟨e5, hl4, h⟩ := bnd_some h
  have hX4_22 : ∀ (v6 : Int), v6 = e5 → PT Γ 5 shN 22 σ [(2, .int (zJ v6))] [] := by
    intro v6 he
    subst he
    refine p_iload_n G rfl 0 rfl dX7_ones_22 ?_
    (cases h; exact p_iret G hR dX7_ones_23 rfl rfl)
  refine lup_walk (s := ((0 : Int), p0)) (At := fun s : Int × Int64 => PT Γ 5 shN 4 σ [(2, .int (zJ s.1)), (3, .long s.2)] []) (fun s r hf hin4 hout4 => ?_) hl4
  obtain ⟨u2_4, u3_4⟩ := s
  have h : x_X7_ones_b4 u2_4 u3_4 = some r := hf
  clear hf
  unfold x_X7_ones_b4 at h
  refine (?_ : PT Γ 5 shN 4 σ [(2, .int (zJ u2_4)), (3, .long u3_4)] [])
  refine p_lload_n G rfl 1 rfl dX7_ones_4 ?_
  refine p_lconst G (v := 0) (by decide) dX7_ones_5 ?_
  refine p_lcmp G dX7_ones_6 ?_
  refine p_ifeq (tgt := 22) G dX7_ones_7 (by decide) h (fun c3 h => ?_) (fun c3 h => ?_)
  · refine p_lv [0] rfl ?_
    have he := hout4 _ (Option.some.inj h).symm
    subst he
    exact hX4_22 _ rfl
  · refine p_iinc (lv' := fun v1 => [(2, .int (zJ v1)), (3, .long u3_4)]) G dX7_ones_10 h 0 rfl (by decide) (fun _ => rfl) (fun v1 h => ?_)
    refine p_lload_n G rfl 1 rfl dX7_ones_13 ?_
    refine p_lload_n G rfl 1 rfl dX7_ones_14 ?_
    refine p_lconst G (v := 1) (by decide) dX7_ones_15 ?_
    refine p_lsub G dX7_ones_16 ?_
    refine p_land G dX7_ones_17 ?_
    refine p_lstore_n (lv' := fun v2 => [(3, .long v2), (2, .int (zJ v1))]) G rfl dX7_ones_18 h (by decide) (fun _ => rfl) (fun v2 h => ?_)
    refine p_goto (tgt := 4) G dX7_ones_19 (by decide) ?_
    refine p_lv [1, 0] rfl ?_
    exact hin4 _ (Option.some.inj h).symm
set_option maxHeartbeats 4000000 in
set_option maxRecDepth 100000 in
theorem c_X7_shuffle (l : Launch) {D : va_G} {yy : Nat → ClassId} {tk tv a : Nat → Nat} {σ : Mm} {o : Mm} (h : x_X7_shuffle σ = some o) : CT l yX7_shuffle cX7_shuffle 4 none rm_X7_shuffle shW D yy tk tv a σ [.ref (a 0)] o none := by
  refine ct_of (Ar := fun a tk => [.ref (a 0)]) (by decide) (Nat.le_of_ble_eq_true rfl) (fun Γ G _ _ hR => ?_)
  have hcs := rt_cs hR
  unfold x_X7_shuffle at h
  refine (?_ : PT Γ 4 shW 0 σ [(0, .ref (ga Γ 0))] [])
  refine p_iconst G rfl dX7_shuffle_0 ?_
  refine p_istore_nU (lv' := [(1, .int (zJ (0 : Int))), (0, .ref (ga Γ 0))]) G rfl dX7_shuffle_1 (by decide) rfl ?_
  refine p_lv [1, 0] rfl ?_
  obtain ⟨e6, hl2, h⟩ := bnd_some h
  have hX2_24 : ∀ (σ7 : Mm), σ7 = e6 → PT Γ 4 shW 24 σ7 [(0, .ref (ga Γ 0))] [] := by
    intro σ7 he
    subst he
    refine p_bipush G (by decide) (by decide) dX7_shuffle_24 ?_
    refine p_istore_nU (lv' := [(1, .int (zJ (51 : Int))), (0, .ref (ga Γ 0))]) G rfl dX7_shuffle_26 (by decide) rfl ?_
    refine p_lv [1, 0] rfl ?_
    obtain ⟨e23, hl27, h⟩ := bnd_some h
    have hX27_118 : ∀ (σ24 : Mm), σ24 = e23 → PT Γ 4 shW 118 σ24 [] [] := by
      intro σ24 he
      subst he
      (cases h; exact p_vret G hR dX7_shuffle_118 rfl rfl)
    refine lup_walk (s := (σ7, (51 : Int))) (At := fun s : Mm × Int => PT Γ 4 shW 27 s.1 [(0, .ref (ga Γ 0)), (1, .int (zJ s.2))] []) (fun s r hf hin27 hout27 => ?_) hl27
    obtain ⟨σ27, u1_27⟩ := s
    have h : x_X7_shuffle_b27 σ27 u1_27 = some r := hf
    clear hf
    unfold x_X7_shuffle_b27 at h
    refine (?_ : PT Γ 4 shW 27 σ27 [(0, .ref (ga Γ 0)), (1, .int (zJ u1_27))] [])
    refine p_iload_n G rfl 1 rfl dX7_shuffle_27 ?_
    refine p_ifle (tgt := 118) G dX7_shuffle_28 (by decide) h (fun c21 h => ?_) (fun c21 h => ?_)
    · refine p_lv [] rfl ?_
      have he := hout27 _ (Option.some.inj h).symm
      subst he
      exact hX27_118 _ rfl
    · refine p_aload_n G rfl 0 rfl dX7_shuffle_31 ?_
      refine p_get G dX7_shuffle_32 fl_X7_9 (k := 0) rfl rfl ?_
      refine p_bipush G (by decide) (by decide) dX7_shuffle_35 ?_
      refine p_aload_n G rfl 0 rfl dX7_shuffle_37 ?_
      refine p_get G dX7_shuffle_38 fl_X7_9 (k := 0) rfl rfl ?_
      refine p_bipush G (by decide) (by decide) dX7_shuffle_41 ?_
      refine p_iald G dX7_shuffle_43 (k := 1) rfl (zt_c _) h (fun c8 h => ?_)
      refine p_i2l G dX7_shuffle_44 ?_
      refine p_ldc2 G gm_1146 dX7_shuffle_45 ?_
      refine p_lmul G dX7_shuffle_48 ?_
      refine p_ldc2 G gm_1147 dX7_shuffle_49 ?_
      refine p_ladd G dX7_shuffle_52 ?_
      refine p_ldc2 G gm_1148 dX7_shuffle_53 ?_
      refine p_lremK G (by decide) dX7_shuffle_56 ?_
      refine p_l2i G dX7_shuffle_57 ?_
      refine p_iast G dX7_shuffle_58 (k := 1) rfl (zt_c _) rfl h (fun σ9 c10 h => ?_)
      refine p_aload_n G rfl 0 rfl dX7_shuffle_59 ?_
      refine p_get G dX7_shuffle_60 fl_X7_9 (k := 0) rfl rfl ?_
      refine p_bipush G (by decide) (by decide) dX7_shuffle_63 ?_
      refine p_iald G dX7_shuffle_65 (k := 1) rfl (zt_c _) h (fun c11 h => ?_)
      refine p_ldc (x := 65536) G gm_1149 (by decide) dX7_shuffle_66 ?_
      refine p_idivK G dX7_shuffle_68 (by decide) ?_
      refine p_iload_n G rfl 1 rfl dX7_shuffle_69 ?_
      refine p_iconst G rfl dX7_shuffle_70 ?_
      refine p_iadd G dX7_shuffle_71 ?_
      refine p_irem G dX7_shuffle_72 h (fun h => ?_)
      refine p_istore_n (lv' := fun v12 => [(2, .int (zJ v12)), (0, .ref (ga Γ 0)), (1, .int (zJ u1_27))]) G rfl dX7_shuffle_73 h (by decide) (fun _ => rfl) (fun v12 h => ?_)
      refine p_aload_n G rfl 1 rfl dX7_shuffle_74 ?_
      refine p_get G dX7_shuffle_75 fl_X7_9 (k := 0) rfl rfl ?_
      refine p_bipush G (by decide) (by decide) dX7_shuffle_78 ?_
      refine p_iload_n G rfl 2 rfl dX7_shuffle_80 ?_
      refine p_iadd G dX7_shuffle_81 ?_
      refine p_iald G dX7_shuffle_82 (k := 1) rfl (zt_c _) h (fun c13 h => ?_)
      refine p_istore_n (lv' := fun v14 => [(3, .int (zJ v14)), (2, .int (zJ v12)), (0, .ref (ga Γ 0)), (1, .int (zJ u1_27))]) G rfl dX7_shuffle_83 h (by decide) (fun _ => rfl) (fun v14 h => ?_)
      refine p_aload_n G rfl 2 rfl dX7_shuffle_84 ?_
      refine p_get G dX7_shuffle_85 fl_X7_9 (k := 0) rfl rfl ?_
      refine p_bipush G (by decide) (by decide) dX7_shuffle_88 ?_
      refine p_iload_n G rfl 3 rfl dX7_shuffle_90 ?_
      refine p_iadd G dX7_shuffle_91 ?_
      refine p_aload_n G rfl 2 rfl dX7_shuffle_92 ?_
      refine p_get G dX7_shuffle_93 fl_X7_9 (k := 0) rfl rfl ?_
      refine p_bipush G (by decide) (by decide) dX7_shuffle_96 ?_
      refine p_iload_n G rfl 1 rfl dX7_shuffle_98 ?_
      refine p_iadd G dX7_shuffle_99 ?_
      refine p_iald G dX7_shuffle_100 (k := 1) rfl (zt_c _) h (fun c15 h => ?_)
      refine p_iast G dX7_shuffle_101 (k := 1) rfl (zt_c _) rfl h (fun σ16 c17 h => ?_)
      refine p_aload_n G rfl 2 rfl dX7_shuffle_102 ?_
      refine p_get G dX7_shuffle_103 fl_X7_9 (k := 0) rfl rfl ?_
      refine p_bipush G (by decide) (by decide) dX7_shuffle_106 ?_
      refine p_iload_n G rfl 1 rfl dX7_shuffle_108 ?_
      refine p_iadd G dX7_shuffle_109 ?_
      refine p_iload_n G rfl 0 rfl dX7_shuffle_110 ?_
      refine p_iast G dX7_shuffle_111 (k := 1) rfl (zt_c _) rfl h (fun σ18 c19 h => ?_)
      refine p_iinc (lv' := fun v20 => [(1, .int (zJ v20)), (3, .int (zJ v14)), (2, .int (zJ v12)), (0, .ref (ga Γ 0))]) G dX7_shuffle_112 h 3 rfl (by decide) (fun _ => rfl) (fun v20 h => ?_)
      refine p_goto (tgt := 27) G dX7_shuffle_115 (by decide) ?_
      refine p_lv [3, 0] rfl ?_
      exact hin27 _ (Option.some.inj h).symm
  refine lup_walk (s := (σ, (0 : Int))) (At := fun s : Mm × Int => PT Γ 4 shW 2 s.1 [(0, .ref (ga Γ 0)), (1, .int (zJ s.2))] []) (fun s r hf hin2 hout2 => ?_) hl2
  obtain ⟨σ2, u1_2⟩ := s
  have h : x_X7_shuffle_b2 σ2 u1_2 = some r := hf
  clear hf
  unfold x_X7_shuffle_b2 at h
  refine (?_ : PT Γ 4 shW 2 σ2 [(0, .ref (ga Γ 0)), (1, .int (zJ u1_2))] [])
  refine p_iload_n G rfl 1 rfl dX7_shuffle_2 ?_
  refine p_bipush G (by decide) (by decide) dX7_shuffle_3 ?_
  refine p_icmpge (tgt := 24) G dX7_shuffle_5 (by decide) h (fun c4 h => ?_) (fun c4 h => ?_)
  · refine p_lv [0] rfl ?_
    have he := hout2 _ (Option.some.inj h).symm
    subst he
    exact hX2_24 _ rfl
  · refine p_aload_n G rfl 0 rfl dX7_shuffle_8 ?_
    refine p_get G dX7_shuffle_9 fl_X7_9 (k := 0) rfl rfl ?_
    refine p_bipush G (by decide) (by decide) dX7_shuffle_12 ?_
    refine p_iload_n G rfl 1 rfl dX7_shuffle_14 ?_
    refine p_iadd G dX7_shuffle_15 ?_
    refine p_iload_n G rfl 1 rfl dX7_shuffle_16 ?_
    refine p_iast G dX7_shuffle_17 (k := 1) rfl (zt_c _) rfl h (fun σ1 c2 h => ?_)
    refine p_iinc (lv' := fun v3 => [(1, .int (zJ v3)), (0, .ref (ga Γ 0))]) G dX7_shuffle_18 h 1 rfl (by decide) (fun _ => rfl) (fun v3 h => ?_)
    refine p_goto (tgt := 2) G dX7_shuffle_21 (by decide) ?_
    refine p_lv [1, 0] rfl ?_
    exact hin2 _ (Option.some.inj h).symm
set_option maxHeartbeats 4000000 in
set_option maxRecDepth 100000 in
theorem c_X7_putFirst (l : Launch) {D : va_G} {yy : Nat → ClassId} {tk tv a : Nat → Nat} {σ : Mm} {o : Mm} (h : x_X7_putFirst σ = some o) : CT l yX7_putFirst cX7_putFirst 3 none rm_X7_putFirst shW D yy tk tv a σ [.ref (a 0)] o none := by
  refine ct_of (Ar := fun a tk => [.ref (a 0)]) (by decide) (Nat.le_of_ble_eq_true rfl) (fun Γ G _ _ hR => ?_)
  have hcs := rt_cs hR
  unfold x_X7_putFirst at h
  refine (?_ : PT Γ 3 shW 0 σ [(0, .ref (ga Γ 0))] [])
  refine p_aload_n G rfl 0 rfl dX7_putFirst_0 ?_
  refine p_get G dX7_putFirst_1 fl_X7_54 (k := 0) rfl rfl ?_
  refine p_iconst G rfl dX7_putFirst_4 ?_
  refine p_isub G dX7_putFirst_5 ?_
  refine p_istore_n (lv' := fun v1 => [(1, .int (zJ v1)), (0, .ref (ga Γ 0))]) G rfl dX7_putFirst_6 h (by decide) (fun _ => rfl) (fun v1 h => ?_)
  refine p_lv [1, 0] rfl ?_
  obtain ⟨e23, hl7, h⟩ := bnd_some h
  have hX7_86 : ∀ (σ24 : Mm), σ24 = e23 → PT Γ 3 shW 86 σ24 [] [] := by
    intro σ24 he
    subst he
    (cases h; exact p_vret G hR dX7_putFirst_86 rfl rfl)
  refine lup_walk (s := (σ, v1)) (At := fun s : Mm × Int => PT Γ 3 shW 7 s.1 [(0, .ref (ga Γ 0)), (1, .int (zJ s.2))] []) (fun s r hf hin7 hout7 => ?_) hl7
  obtain ⟨σ7, u1_7⟩ := s
  have h : x_X7_putFirst_b7 σ7 u1_7 = some r := hf
  clear hf
  unfold x_X7_putFirst_b7 at h
  refine (?_ : PT Γ 3 shW 7 σ7 [(0, .ref (ga Γ 0)), (1, .int (zJ u1_7))] [])
  refine p_iload_n G rfl 1 rfl dX7_putFirst_7 ?_
  refine p_iflt (tgt := 86) G dX7_putFirst_8 (by decide) h (fun c21 h => ?_) (fun c21 h => ?_)
  · refine p_lv [] rfl ?_
    have he := hout7 _ (Option.some.inj h).symm
    subst he
    exact hX7_86 _ rfl
  · refine p_iconst G rfl dX7_putFirst_11 ?_
    refine p_istore_nU (lv' := [(2, .int (zJ (0 : Int))), (0, .ref (ga Γ 0)), (1, .int (zJ u1_7))]) G rfl dX7_putFirst_12 (by decide) rfl ?_
    refine p_lv [1, 2, 0] rfl ?_
    obtain ⟨e7, hl13, h⟩ := bnd_some h
    have hX13_37 : ∀ (v8 : Int), v8 = e7 → PT Γ 3 shW 37 σ7 [(0, .ref (ga Γ 0)), (1, .int (zJ u1_7)), (2, .int (zJ v8))] [] := by
      intro v8 he
      subst he
      obtain ⟨e15, hl37, h⟩ := bnd_some h
      have hX37_67 : ∀ (σ16 : Mm), σ16 = e15 → PT Γ 3 shW 67 σ16 [(0, .ref (ga Γ 0)), (1, .int (zJ u1_7))] [] := by
        intro σ16 he
        subst he
        refine p_aload_n G rfl 0 rfl dX7_putFirst_67 ?_
        refine p_get G dX7_putFirst_68 fl_X7_9 (k := 0) rfl rfl ?_
        refine p_bipush G (by decide) (by decide) dX7_putFirst_71 ?_
        refine p_aload_n G rfl 0 rfl dX7_putFirst_73 ?_
        refine p_get G dX7_putFirst_74 fl_X7_51 (k := 0) rfl rfl ?_
        refine p_iload_n G rfl 1 rfl dX7_putFirst_77 ?_
        refine p_iald G dX7_putFirst_78 (k := 25) rfl (zt_c _) h (fun c17 h => ?_)
        refine p_iast G dX7_putFirst_79 (k := 1) rfl (zt_c _) rfl h (fun σ18 c19 h => ?_)
        refine p_iinc (lv' := fun v20 => [(1, .int (zJ v20)), (0, .ref (ga Γ 0))]) G dX7_putFirst_80 h 1 rfl (by decide) (fun _ => rfl) (fun v20 h => ?_)
        refine p_goto (tgt := 7) G dX7_putFirst_83 (by decide) ?_
        refine p_lv [1, 0] rfl ?_
        exact hin7 _ (Option.some.inj h).symm
      refine lup_walk (s := (σ7, v8)) (At := fun s : Mm × Int => PT Γ 3 shW 37 s.1 [(0, .ref (ga Γ 0)), (1, .int (zJ u1_7)), (2, .int (zJ s.2))] []) (fun s r hf hin37 hout37 => ?_) hl37
      obtain ⟨σ37, u2_37⟩ := s
      have h : x_X7_putFirst_b37 u1_7 σ37 u2_37 = some r := hf
      clear hf
      unfold x_X7_putFirst_b37 at h
      refine (?_ : PT Γ 3 shW 37 σ37 [(0, .ref (ga Γ 0)), (1, .int (zJ u1_7)), (2, .int (zJ u2_37))] [])
      refine p_iload_n G rfl 2 rfl dX7_putFirst_37 ?_
      refine p_ifle (tgt := 67) G dX7_putFirst_38 (by decide) h (fun c13 h => ?_) (fun c13 h => ?_)
      · refine p_lv [0, 1] rfl ?_
        have he := hout37 _ (Option.some.inj h).symm
        subst he
        exact hX37_67 _ rfl
      · refine p_aload_n G rfl 0 rfl dX7_putFirst_41 ?_
        refine p_get G dX7_putFirst_42 fl_X7_9 (k := 0) rfl rfl ?_
        refine p_bipush G (by decide) (by decide) dX7_putFirst_45 ?_
        refine p_iload_n G rfl 2 rfl dX7_putFirst_47 ?_
        refine p_iadd G dX7_putFirst_48 ?_
        refine p_aload_n G rfl 0 rfl dX7_putFirst_49 ?_
        refine p_get G dX7_putFirst_50 fl_X7_9 (k := 0) rfl rfl ?_
        refine p_bipush G (by decide) (by decide) dX7_putFirst_53 ?_
        refine p_iload_n G rfl 2 rfl dX7_putFirst_55 ?_
        refine p_iadd G dX7_putFirst_56 ?_
        refine p_iconst G rfl dX7_putFirst_57 ?_
        refine p_isub G dX7_putFirst_58 ?_
        refine p_iald G dX7_putFirst_59 (k := 1) rfl (zt_c _) h (fun c9 h => ?_)
        refine p_iast G dX7_putFirst_60 (k := 1) rfl (zt_c _) rfl h (fun σ10 c11 h => ?_)
        refine p_iinc (lv' := fun v12 => [(2, .int (zJ v12)), (0, .ref (ga Γ 0)), (1, .int (zJ u1_7))]) G dX7_putFirst_61 h 2 rfl (by decide) (fun _ => rfl) (fun v12 h => ?_)
        refine p_goto (tgt := 37) G dX7_putFirst_64 (by decide) ?_
        refine p_lv [1, 2, 0] rfl ?_
        exact hin37 _ (Option.some.inj h).symm
    refine lup_walk (s := (0 : Int)) (At := fun s : Int => PT Γ 3 shW 13 σ7 [(0, .ref (ga Γ 0)), (1, .int (zJ u1_7)), (2, .int (zJ s))] []) (fun u2_13 r hf hin13 hout13 => ?_) hl13
    have h : x_X7_putFirst_b13 σ7 u1_7 u2_13 = some r := hf
    clear hf
    unfold x_X7_putFirst_b13 at h
    refine (?_ : PT Γ 3 shW 13 σ7 [(0, .ref (ga Γ 0)), (1, .int (zJ u1_7)), (2, .int (zJ u2_13))] [])
    refine p_aload_n G rfl 0 rfl dX7_putFirst_13 ?_
    refine p_get G dX7_putFirst_14 fl_X7_9 (k := 0) rfl rfl ?_
    refine p_bipush G (by decide) (by decide) dX7_putFirst_17 ?_
    refine p_iload_n G rfl 2 rfl dX7_putFirst_19 ?_
    refine p_iadd G dX7_putFirst_20 ?_
    refine p_iald G dX7_putFirst_21 (k := 1) rfl (zt_c _) h (fun c2 h => ?_)
    refine p_aload_n G rfl 0 rfl dX7_putFirst_22 ?_
    refine p_get G dX7_putFirst_23 fl_X7_51 (k := 0) rfl rfl ?_
    refine p_iload_n G rfl 1 rfl dX7_putFirst_26 ?_
    refine p_iald G dX7_putFirst_27 (k := 25) rfl (zt_c _) h (fun c3 h => ?_)
    refine p_icmpeq (tgt := 37) G dX7_putFirst_28 (by decide) h (fun c5 h => ?_) (fun c5 h => ?_)
    · have he := hout13 _ (Option.some.inj h).symm
      subst he
      exact hX13_37 _ rfl
    · refine p_iinc (lv' := fun v4 => [(2, .int (zJ v4)), (0, .ref (ga Γ 0)), (1, .int (zJ u1_7))]) G dX7_putFirst_31 h 2 rfl (by decide) (fun _ => rfl) (fun v4 h => ?_)
      refine p_goto (tgt := 13) G dX7_putFirst_34 (by decide) ?_
      refine p_lv [1, 2, 0] rfl ?_
      exact hin13 _ (Option.some.inj h).symm
set_option maxHeartbeats 4000000 in
set_option maxRecDepth 100000 in
theorem c_X7_dealOut (l : Launch) {D : va_G} {yy : Nat → ClassId} {tk tv a : Nat → Nat} {σ : Mm} {o : Mm} (h : x_X7_dealOut σ = some o) : CT l yX7_dealOut cX7_dealOut 4 none rm_X7_dealOut shW D yy tk tv a σ [.ref (a 0)] o none := by
  refine ct_of (Ar := fun a tk => [.ref (a 0)]) (by decide) (Nat.le_of_ble_eq_true rfl) (fun Γ G _ _ hR => ?_)
  have hcs := rt_cs hR
  unfold x_X7_dealOut at h
  refine (?_ : PT Γ 4 shW 0 σ [(0, .ref (ga Γ 0))] [])
  refine p_aload_n G rfl 0 rfl dX7_dealOut_0 ?_
  refine p_get G dX7_dealOut_1 fl_X7_9 (k := 0) rfl rfl ?_
  refine p_iconst G rfl dX7_dealOut_4 ?_
  refine p_iald G dX7_dealOut_5 (k := 1) rfl (zt_c _) h (fun c1 h => ?_)
  refine p_istore_n (lv' := fun v2 => [(1, .int (zJ v2)), (0, .ref (ga Γ 0))]) G rfl dX7_dealOut_6 h (by decide) (fun _ => rfl) (fun v2 h => ?_)
  refine p_iconst G rfl dX7_dealOut_7 ?_
  refine p_istore_nU (lv' := [(2, .int (zJ (0 : Int))), (1, .int (zJ v2)), (0, .ref (ga Γ 0))]) G rfl dX7_dealOut_8 (by decide) rfl ?_
  refine p_lv [2, 1, 0] rfl ?_
  obtain ⟨e12, hl9, h⟩ := bnd_some h
  have hX9_72 : ∀ (σ13 : Mm), σ13 = e12 → PT Γ 4 shW 72 σ13 [(0, .ref (ga Γ 0)), (1, .int (zJ v2))] [] := by
    intro σ13 he
    subst he
    refine p_aload_n G rfl 0 rfl dX7_dealOut_72 ?_
    refine p_get G dX7_dealOut_73 fl_X7_9 (k := 0) rfl rfl ?_
    refine p_bipush G (by decide) (by decide) dX7_dealOut_76 ?_
    refine p_aload_n G rfl 0 rfl dX7_dealOut_78 ?_
    refine p_get G dX7_dealOut_79 fl_X7_9 (k := 0) rfl rfl ?_
    refine p_bipush G (by decide) (by decide) dX7_dealOut_82 ?_
    refine p_iconst G rfl dX7_dealOut_84 ?_
    refine p_iload_n G rfl 1 rfl dX7_dealOut_85 ?_
    refine p_imul G dX7_dealOut_86 ?_
    refine p_iadd G dX7_dealOut_87 ?_
    refine p_iald G dX7_dealOut_88 (k := 1) rfl (zt_c _) h (fun c14 h => ?_)
    refine p_iast G dX7_dealOut_89 (k := 1) rfl (zt_c _) rfl h (fun σ15 c16 h => ?_)
    refine p_aload_n G rfl 0 rfl dX7_dealOut_90 ?_
    refine p_get G dX7_dealOut_91 fl_X7_9 (k := 0) rfl rfl ?_
    refine p_bipush G (by decide) (by decide) dX7_dealOut_94 ?_
    refine p_iconst G rfl dX7_dealOut_96 ?_
    refine p_iast G dX7_dealOut_97 (k := 1) rfl (zt_c _) rfl h (fun σ17 c18 h => ?_)
    refine p_aload_n G rfl 0 rfl dX7_dealOut_98 ?_
    refine p_get G dX7_dealOut_99 fl_X7_9 (k := 0) rfl rfl ?_
    refine p_bipush G (by decide) (by decide) dX7_dealOut_102 ?_
    refine p_iconst G rfl dX7_dealOut_104 ?_
    refine p_iload_n G rfl 1 rfl dX7_dealOut_105 ?_
    refine p_imul G dX7_dealOut_106 ?_
    refine p_iconst G rfl dX7_dealOut_107 ?_
    refine p_iadd G dX7_dealOut_108 ?_
    refine p_iast G dX7_dealOut_109 (k := 1) rfl (zt_c _) rfl h (fun σ19 c20 h => ?_)
    refine p_aload_n G rfl 0 rfl dX7_dealOut_110 ?_
    refine p_get G dX7_dealOut_111 fl_X7_9 (k := 0) rfl rfl ?_
    refine p_iconst G rfl dX7_dealOut_114 ?_
    refine p_aload_n G rfl 0 rfl dX7_dealOut_115 ?_
    refine p_get G dX7_dealOut_116 fl_X7_9 (k := 0) rfl rfl ?_
    refine p_iconst G rfl dX7_dealOut_119 ?_
    refine p_iald G dX7_dealOut_120 (k := 1) rfl (zt_c _) h (fun c21 h => ?_)
    refine p_iconst G rfl dX7_dealOut_121 ?_
    refine p_iremK G dX7_dealOut_122 (by decide) ?_
    refine p_iast G dX7_dealOut_123 (k := 1) rfl (zt_c _) rfl h (fun σ22 c23 h => ?_)
    refine p_aload_n G rfl 0 rfl dX7_dealOut_124 ?_
    refine p_get G dX7_dealOut_125 fl_X7_9 (k := 0) rfl rfl ?_
    refine p_iconst G rfl dX7_dealOut_128 ?_
    refine p_iconst G rfl dX7_dealOut_129 ?_
    refine p_iast G dX7_dealOut_130 (k := 1) rfl (zt_c _) rfl h (fun σ24 c25 h => ?_)
    refine p_aload_n G rfl 0 rfl dX7_dealOut_131 ?_
    refine p_get G dX7_dealOut_132 fl_X7_9 (k := 0) rfl rfl ?_
    refine p_bipush G (by decide) (by decide) dX7_dealOut_135 ?_
    refine p_iconst G rfl dX7_dealOut_137 ?_
    refine p_iast G dX7_dealOut_138 (k := 1) rfl (zt_c _) rfl h (fun σ26 c27 h => ?_)
    refine p_aload_n G rfl 0 rfl dX7_dealOut_139 ?_
    refine p_get G dX7_dealOut_140 fl_X7_9 (k := 0) rfl rfl ?_
    refine p_bipush G (by decide) (by decide) dX7_dealOut_143 ?_
    refine p_iconst G rfl dX7_dealOut_145 ?_
    refine p_iast G dX7_dealOut_146 (k := 1) rfl (zt_c _) rfl h (fun σ28 c29 h => ?_)
    (cases h; exact p_vret G hR dX7_dealOut_147 rfl rfl)
  refine lup_walk (s := (σ, (0 : Int))) (At := fun s : Mm × Int => PT Γ 4 shW 9 s.1 [(0, .ref (ga Γ 0)), (1, .int (zJ v2)), (2, .int (zJ s.2))] []) (fun s r hf hin9 hout9 => ?_) hl9
  obtain ⟨σ9, u2_9⟩ := s
  have h : x_X7_dealOut_b9 v2 σ9 u2_9 = some r := hf
  clear hf
  have j47 : ∀ (σ_47 : Mm) (v2_47 : Int) (w0_47 : Int), x_X7_dealOut_j47_9 v2 σ_47 v2_47 w0_47 = some r → PT Γ 4 shW 47 σ_47 [(0, .ref (ga Γ 0)), (1, .int (zJ v2)), (2, .int (zJ v2_47))] [.int (zJ w0_47)] := by
    intro σ_47 v2_47 w0_47 h
    unfold x_X7_dealOut_j47_9 at h
    refine p_istore_nU (lv' := [(3, .int (zJ w0_47)), (0, .ref (ga Γ 0)), (1, .int (zJ v2)), (2, .int (zJ v2_47))]) G rfl dX7_dealOut_47 (by decide) rfl ?_
    refine p_aload_n G rfl 1 rfl dX7_dealOut_48 ?_
    refine p_get G dX7_dealOut_49 fl_X7_9 (k := 0) rfl rfl ?_
    refine p_bipush G (by decide) (by decide) dX7_dealOut_52 ?_
    refine p_aload_n G rfl 1 rfl dX7_dealOut_54 ?_
    refine p_get G dX7_dealOut_55 fl_X7_9 (k := 0) rfl rfl ?_
    refine p_bipush G (by decide) (by decide) dX7_dealOut_58 ?_
    refine p_iload_n G rfl 3 rfl dX7_dealOut_60 ?_
    refine p_iadd G dX7_dealOut_61 ?_
    refine p_iald G dX7_dealOut_62 (k := 1) rfl (zt_c _) h (fun c3 h => ?_)
    refine p_iadd G dX7_dealOut_63 ?_
    refine p_iload_n G rfl 0 rfl dX7_dealOut_64 ?_
    refine p_iast G dX7_dealOut_65 (k := 1) rfl (zt_c _) rfl h (fun σ4 c5 h => ?_)
    refine p_iinc (lv' := fun v6 => [(2, .int (zJ v6)), (3, .int (zJ w0_47)), (0, .ref (ga Γ 0)), (1, .int (zJ v2))]) G dX7_dealOut_66 h 3 rfl (by decide) (fun _ => rfl) (fun v6 h => ?_)
    refine p_goto (tgt := 9) G dX7_dealOut_69 (by decide) ?_
    refine p_lv [2, 3, 0] rfl ?_
    exact hin9 _ (Option.some.inj h).symm
  unfold x_X7_dealOut_b9 at h
  refine (?_ : PT Γ 4 shW 9 σ9 [(0, .ref (ga Γ 0)), (1, .int (zJ v2)), (2, .int (zJ u2_9))] [])
  refine p_iload_n G rfl 2 rfl dX7_dealOut_9 ?_
  refine p_bipush G (by decide) (by decide) dX7_dealOut_10 ?_
  refine p_icmpge (tgt := 72) G dX7_dealOut_12 (by decide) h (fun c10 h => ?_) (fun c10 h => ?_)
  · refine p_lv [0, 1] rfl ?_
    have he := hout9 _ (Option.some.inj h).symm
    subst he
    exact hX9_72 _ rfl
  · refine p_iload_n G rfl 2 rfl dX7_dealOut_15 ?_
    refine p_iload_n G rfl 1 rfl dX7_dealOut_16 ?_
    refine p_icmpge (tgt := 24) G dX7_dealOut_17 (by decide) h (fun c9 h => ?_) (fun c9 h => ?_)
    · refine p_iload_n G rfl 2 rfl dX7_dealOut_24 ?_
      refine p_iconst G rfl dX7_dealOut_25 ?_
      refine p_iload_n G rfl 1 rfl dX7_dealOut_26 ?_
      refine p_imul G dX7_dealOut_27 ?_
      refine p_icmpge (tgt := 35) G dX7_dealOut_28 (by decide) h (fun c8 h => ?_) (fun c8 h => ?_)
      · refine p_iload_n G rfl 2 rfl dX7_dealOut_35 ?_
        refine p_iconst G rfl dX7_dealOut_36 ?_
        refine p_iload_n G rfl 1 rfl dX7_dealOut_37 ?_
        refine p_imul G dX7_dealOut_38 ?_
        refine p_icmpne (tgt := 46) G dX7_dealOut_39 (by decide) h (fun c7 h => ?_) (fun c7 h => ?_)
        · refine p_iconst G rfl dX7_dealOut_46 ?_
          exact j47 _ _ _ h
        · refine p_iconst G rfl dX7_dealOut_42 ?_
          refine p_goto (tgt := 47) G dX7_dealOut_43 (by decide) ?_
          exact j47 _ _ _ h
      · refine p_iconst G rfl dX7_dealOut_31 ?_
        refine p_goto (tgt := 47) G dX7_dealOut_32 (by decide) ?_
        exact j47 _ _ _ h
    · refine p_iconst G rfl dX7_dealOut_20 ?_
      refine p_goto (tgt := 47) G dX7_dealOut_21 (by decide) ?_
      exact j47 _ _ _ h
set_option maxHeartbeats 4000000 in
set_option maxRecDepth 100000 in
theorem c_X7_begin (l : Launch) {D : va_G} {yy : Nat → ClassId} {tk tv a : Nat → Nat} {σ : Mm} {p1 : Int} {p2 : Int} {p3 : Int} {p4 : Int} {o : Mm} (h : x_X7_begin σ p1 p2 p3 p4 = some o) : CT l yX7_begin cX7_begin 6 none rm_X7_begin shW D yy tk tv a σ [.ref (a 0), .int (zJ p1), .int (zJ p2), .int (zJ p3), .int (zJ p4)] o none := by
  refine ct_of (Ar := fun a tk => [.ref (a 0), .int (zJ p1), .int (zJ p2), .int (zJ p3), .int (zJ p4)]) (by decide) (Nat.le_of_ble_eq_true rfl) (fun Γ G _ _ hR => ?_)
  have hcs := rt_cs hR
  unfold x_X7_begin at h
  refine (?_ : PT Γ 6 shW 0 σ [(0, .ref (ga Γ 0)), (1, .int (zJ p1)), (2, .int (zJ p2)), (3, .int (zJ p3)), (4, .int (zJ p4))] [])
  refine p_iconst G rfl dX7_begin_0 ?_
  refine p_istoreU (lv' := [(5, .int (zJ (0 : Int))), (0, .ref (ga Γ 0)), (1, .int (zJ p1)), (2, .int (zJ p2)), (3, .int (zJ p3)), (4, .int (zJ p4))]) G dX7_begin_1 (by decide) rfl ?_
  refine p_lv [1, 2, 3, 4, 5, 0] rfl ?_
  obtain ⟨e6, hl3, h⟩ := bnd_some h
  have hX3_25 : ∀ (σ7 : Mm), σ7 = e6 → PT Γ 6 shW 25 σ7 [(0, .ref (ga Γ 0)), (1, .int (zJ p1)), (2, .int (zJ p2)), (3, .int (zJ p3)), (4, .int (zJ p4))] [] := by
    intro σ7 he
    subst he
    refine p_aload_n G rfl 0 rfl dX7_begin_25 ?_
    refine p_get G dX7_begin_26 fl_X7_9 (k := 0) rfl rfl ?_
    refine p_iconst G rfl dX7_begin_29 ?_
    refine p_iload_n G rfl 2 rfl dX7_begin_30 ?_
    refine p_iast G dX7_begin_31 (k := 1) rfl (zt_c _) rfl h (fun σ8 c9 h => ?_)
    refine p_aload_n G rfl 0 rfl dX7_begin_32 ?_
    refine p_get G dX7_begin_33 fl_X7_9 (k := 0) rfl rfl ?_
    refine p_iconst G rfl dX7_begin_36 ?_
    refine p_iload_n G rfl 3 rfl dX7_begin_37 ?_
    refine p_iast G dX7_begin_38 (k := 1) rfl (zt_c _) rfl h (fun σ10 c11 h => ?_)
    refine p_aload_n G rfl 0 rfl dX7_begin_39 ?_
    refine p_get G dX7_begin_40 fl_X7_9 (k := 0) rfl rfl ?_
    refine p_iconst G rfl dX7_begin_43 ?_
    refine p_iload G 4 rfl dX7_begin_44 ?_
    refine p_iast G dX7_begin_46 (k := 1) rfl (zt_c _) rfl h (fun σ12 c13 h => ?_)
    refine p_aload_n G rfl 0 rfl dX7_begin_47 ?_
    refine p_get G dX7_begin_48 fl_X7_9 (k := 0) rfl rfl ?_
    refine p_bipush G (by decide) (by decide) dX7_begin_51 ?_
    refine p_iload_n G rfl 1 rfl dX7_begin_53 ?_
    refine p_iast G dX7_begin_54 (k := 1) rfl (zt_c _) rfl h (fun σ14 c15 h => ?_)
    refine p_aload_n G rfl 0 rfl dX7_begin_55 ?_
    refine p_get G dX7_begin_56 fl_X7_9 (k := 0) rfl rfl ?_
    refine p_bipush G (by decide) (by decide) dX7_begin_59 ?_
    refine p_iconst G rfl dX7_begin_61 ?_
    refine p_iast G dX7_begin_62 (k := 1) rfl (zt_c _) rfl h (fun σ16 c17 h => ?_)
    refine p_aload_n G rfl 0 rfl dX7_begin_63 ?_
    obtain ⟨σ18, hc, h⟩ := bnd_some h
    refine p_callVi G dX7_begin_64 lk_X7_84 (c_X7_shuffle (gl Γ) hc) (As := []) (ci := 7) rfl rfl rfl rfl (Nat.le_of_ble_eq_true rfl) ⟨rfl, rfl, Nat.le_of_ble_eq_true rfl, Nat.le_of_ble_eq_true rfl⟩ hcs ?_
    refine p_aload_n G rfl 0 rfl dX7_begin_67 ?_
    obtain ⟨σ19, hc, h⟩ := bnd_some h
    refine p_callVi G dX7_begin_68 lk_X7_87 (c_X7_putFirst (gl Γ) hc) (As := []) (ci := 7) rfl rfl rfl rfl (Nat.le_of_ble_eq_true rfl) ⟨rfl, rfl, Nat.le_of_ble_eq_true rfl, Nat.le_of_ble_eq_true rfl⟩ hcs ?_
    refine p_aload_n G rfl 0 rfl dX7_begin_71 ?_
    obtain ⟨σ20, hc, h⟩ := bnd_some h
    refine p_callVi G dX7_begin_72 lk_X7_90 (c_X7_dealOut (gl Γ) hc) (As := []) (ci := 7) rfl rfl rfl rfl (Nat.le_of_ble_eq_true rfl) ⟨rfl, rfl, Nat.le_of_ble_eq_true rfl, Nat.le_of_ble_eq_true rfl⟩ hcs ?_
    (cases h; exact p_vret G hR dX7_begin_75 rfl rfl)
  refine lup_walk (s := (σ, (0 : Int))) (At := fun s : Mm × Int => PT Γ 6 shW 3 s.1 [(0, .ref (ga Γ 0)), (1, .int (zJ p1)), (2, .int (zJ p2)), (3, .int (zJ p3)), (4, .int (zJ p4)), (5, .int (zJ s.2))] []) (fun s r hf hin3 hout3 => ?_) hl3
  obtain ⟨σ3, u5_3⟩ := s
  have h : x_X7_begin_b3 p1 p2 p3 p4 σ3 u5_3 = some r := hf
  clear hf
  unfold x_X7_begin_b3 at h
  refine (?_ : PT Γ 6 shW 3 σ3 [(0, .ref (ga Γ 0)), (1, .int (zJ p1)), (2, .int (zJ p2)), (3, .int (zJ p3)), (4, .int (zJ p4)), (5, .int (zJ u5_3))] [])
  refine p_iload G 5 rfl dX7_begin_3 ?_
  refine p_sipush G (by decide) (by decide) dX7_begin_5 ?_
  refine p_icmpge (tgt := 25) G dX7_begin_8 (by decide) h (fun c4 h => ?_) (fun c4 h => ?_)
  · refine p_lv [0, 1, 2, 3, 4] rfl ?_
    have he := hout3 _ (Option.some.inj h).symm
    subst he
    exact hX3_25 _ rfl
  · refine p_aload_n G rfl 0 rfl dX7_begin_11 ?_
    refine p_get G dX7_begin_12 fl_X7_9 (k := 0) rfl rfl ?_
    refine p_iload G 5 rfl dX7_begin_15 ?_
    refine p_iconst G rfl dX7_begin_17 ?_
    refine p_iast G dX7_begin_18 (k := 1) rfl (zt_c _) rfl h (fun σ1 c2 h => ?_)
    refine p_iinc (lv' := fun v3 => [(5, .int (zJ v3)), (0, .ref (ga Γ 0)), (1, .int (zJ p1)), (2, .int (zJ p2)), (3, .int (zJ p3)), (4, .int (zJ p4))]) G dX7_begin_19 h 5 rfl (by decide) (fun _ => rfl) (fun v3 h => ?_)
    refine p_goto (tgt := 3) G dX7_begin_22 (by decide) ?_
    refine p_lv [1, 2, 3, 4, 5, 0] rfl ?_
    exact hin3 _ (Option.some.inj h).symm
set_option maxHeartbeats 4000000 in
set_option maxRecDepth 100000 in
theorem c_X7_stocked (l : Launch) {D : va_G} {yy : Nat → ClassId} {tk tv a : Nat → Nat} {σ : Mm} {o : Int} (h : x_X7_stocked σ = some o) : CT l yX7_stocked cX7_stocked 1 (some .int) rm_X7_stocked shW D yy tk tv a σ [.ref (a 0)] σ (some (.int (zJ o))) := by
  refine ct_of (Ar := fun a tk => [.ref (a 0)]) (by decide) (Nat.le_of_ble_eq_true rfl) (fun Γ G _ _ hR => ?_)
  have hcs := rt_cs hR
  unfold x_X7_stocked at h
  refine (?_ : PT Γ 1 shW 0 σ [(0, .ref (ga Γ 0))] [])
  refine p_bipush G (by decide) (by decide) dX7_stocked_0 ?_
  refine p_aload_n G rfl 0 rfl dX7_stocked_2 ?_
  refine p_get G dX7_stocked_3 fl_X7_9 (k := 0) rfl rfl ?_
  refine p_bipush G (by decide) (by decide) dX7_stocked_6 ?_
  refine p_iald G dX7_stocked_8 (k := 1) rfl (zt_c _) h (fun c1 h => ?_)
  refine p_isub G dX7_stocked_9 ?_
  (cases h; exact p_iret G hR dX7_stocked_10 rfl rfl)
set_option maxHeartbeats 4000000 in
set_option maxRecDepth 100000 in
theorem c_X7_topOfPile (l : Launch) {D : va_G} {yy : Nat → ClassId} {tk tv a : Nat → Nat} {σ : Mm} {o : Int} (h : x_X7_topOfPile σ = some o) : CT l yX7_topOfPile cX7_topOfPile 1 (some .int) rm_X7_topOfPile shW D yy tk tv a σ [.ref (a 0)] σ (some (.int (zJ o))) := by
  refine ct_of (Ar := fun a tk => [.ref (a 0)]) (by decide) (Nat.le_of_ble_eq_true rfl) (fun Γ G _ _ hR => ?_)
  have hcs := rt_cs hR
  unfold x_X7_topOfPile at h
  refine (?_ : PT Γ 1 shW 0 σ [(0, .ref (ga Γ 0))] [])
  refine p_aload_n G rfl 0 rfl dX7_topOfPile_0 ?_
  refine p_get G dX7_topOfPile_1 fl_X7_9 (k := 0) rfl rfl ?_
  refine p_bipush G (by decide) (by decide) dX7_topOfPile_4 ?_
  refine p_iald G dX7_topOfPile_6 (k := 1) rfl (zt_c _) h (fun c1 h => ?_)
  refine p_ifne (tgt := 14) G dX7_topOfPile_7 (by decide) h (fun c4 h => ?_) (fun c4 h => ?_)
  · refine p_aload_n G rfl 0 rfl dX7_topOfPile_14 ?_
    refine p_get G dX7_topOfPile_15 fl_X7_9 (k := 0) rfl rfl ?_
    refine p_bipush G (by decide) (by decide) dX7_topOfPile_18 ?_
    refine p_aload_n G rfl 0 rfl dX7_topOfPile_20 ?_
    refine p_get G dX7_topOfPile_21 fl_X7_9 (k := 0) rfl rfl ?_
    refine p_bipush G (by decide) (by decide) dX7_topOfPile_24 ?_
    refine p_iald G dX7_topOfPile_26 (k := 1) rfl (zt_c _) h (fun c2 h => ?_)
    refine p_iadd G dX7_topOfPile_27 ?_
    refine p_iconst G rfl dX7_topOfPile_28 ?_
    refine p_isub G dX7_topOfPile_29 ?_
    refine p_iald G dX7_topOfPile_30 (k := 1) rfl (zt_c _) h (fun c3 h => ?_)
    (cases h; exact p_iret G hR dX7_topOfPile_31 rfl rfl)
  · refine p_iconst G rfl dX7_topOfPile_10 ?_
    refine p_goto (tgt := 31) G dX7_topOfPile_11 (by decide) ?_
    (cases h; exact p_iret G hR dX7_topOfPile_31 rfl rfl)
set_option maxHeartbeats 4000000 in
set_option maxRecDepth 100000 in
theorem c_X7_takeHand (l : Launch) {D : va_G} {yy : Nat → ClassId} {tk tv a : Nat → Nat} {σ : Mm} {p1 : Int} {p2 : Int} {p3 : Int} {o : Mm} (h : x_X7_takeHand σ p1 p2 p3 = some o) : CT l yX7_takeHand cX7_takeHand 5 none rm_X7_takeHand shW D yy tk tv a σ [.ref (a 0), .int (zJ p1), .int (zJ p2), .int (zJ p3)] o none := by
  refine ct_of (Ar := fun a tk => [.ref (a 0), .int (zJ p1), .int (zJ p2), .int (zJ p3)]) (by decide) (Nat.le_of_ble_eq_true rfl) (fun Γ G _ _ hR => ?_)
  have hcs := rt_cs hR
  unfold x_X7_takeHand at h
  refine (?_ : PT Γ 5 shW 0 σ [(0, .ref (ga Γ 0)), (1, .int (zJ p1)), (2, .int (zJ p2)), (3, .int (zJ p3))] [])
  refine p_aload_n G rfl 0 rfl dX7_takeHand_0 ?_
  refine p_iconst G rfl dX7_takeHand_1 ?_
  refine p_putI G dX7_takeHand_2 fp_X7_100 (k := 0) rfl rfl rfl rfl h (fun σ1 h => ?_)
  refine p_iconst G rfl dX7_takeHand_5 ?_
  refine p_istoreU (lv' := [(4, .int (zJ (0 : Int))), (0, .ref (ga Γ 0)), (1, .int (zJ p1)), (2, .int (zJ p2)), (3, .int (zJ p3))]) G dX7_takeHand_6 (by decide) rfl ?_
  refine p_lv [1, 2, 3, 4, 0] rfl ?_
  obtain ⟨e18, hl8, h⟩ := bnd_some h
  have hX8_64 : ∀ (σ19 : Mm), σ19 = e18 → PT Γ 5 shW 64 σ19 [] [] := by
    intro σ19 he
    subst he
    (cases h; exact p_vret G hR dX7_takeHand_64 rfl rfl)
  refine lup_walk (s := (σ1, (0 : Int))) (At := fun s : Mm × Int => PT Γ 5 shW 8 s.1 [(0, .ref (ga Γ 0)), (1, .int (zJ p1)), (2, .int (zJ p2)), (3, .int (zJ p3)), (4, .int (zJ s.2))] []) (fun s r hf hin8 hout8 => ?_) hl8
  obtain ⟨σ8, u4_8⟩ := s
  have h : x_X7_takeHand_b8 p1 p2 p3 σ8 u4_8 = some r := hf
  clear hf
  unfold x_X7_takeHand_b8 at h
  refine (?_ : PT Γ 5 shW 8 σ8 [(0, .ref (ga Γ 0)), (1, .int (zJ p1)), (2, .int (zJ p2)), (3, .int (zJ p3)), (4, .int (zJ u4_8))] [])
  refine p_iload G 4 rfl dX7_takeHand_8 ?_
  refine p_bipush G (by decide) (by decide) dX7_takeHand_10 ?_
  refine p_icmpge (tgt := 64) G dX7_takeHand_12 (by decide) h (fun c16 h => ?_) (fun c16 h => ?_)
  · refine p_lv [] rfl ?_
    have he := hout8 _ (Option.some.inj h).symm
    subst he
    exact hX8_64 _ rfl
  · refine p_iload G 4 rfl dX7_takeHand_15 ?_
    refine p_iload_n G rfl 2 rfl dX7_takeHand_17 ?_
    refine p_icmpeq (tgt := 58) G dX7_takeHand_18 (by decide) h (fun c15 h => ?_) (fun c15 h => ?_)
    · refine p_iinc (lv' := fun v2 => [(4, .int (zJ v2)), (0, .ref (ga Γ 0)), (1, .int (zJ p1)), (2, .int (zJ p2)), (3, .int (zJ p3))]) G dX7_takeHand_58 h 4 rfl (by decide) (fun _ => rfl) (fun v2 h => ?_)
      refine p_goto (tgt := 8) G dX7_takeHand_61 (by decide) ?_
      refine p_lv [1, 2, 3, 4, 0] rfl ?_
      exact hin8 _ (Option.some.inj h).symm
    · refine p_aload_n G rfl 0 rfl dX7_takeHand_21 ?_
      refine p_iload_n G rfl 1 rfl dX7_takeHand_22 ?_
      refine p_iload G 4 rfl dX7_takeHand_23 ?_
      obtain ⟨v3, hc, h⟩ := bnd_some h
      refine p_callVi G dX7_takeHand_25 lk_X7_76 (c_X7_owns (gl Γ) hc) (As := [.int (zJ p1), .int (zJ u4_8)]) (ci := 7) rfl rfl rfl rfl (Nat.le_of_ble_eq_true rfl) ⟨rfl, rfl, Nat.le_of_ble_eq_true rfl, Nat.le_of_ble_eq_true rfl⟩ hcs ?_
      refine p_ifne (tgt := 37) G dX7_takeHand_28 (by decide) h (fun c14 h => ?_) (fun c14 h => ?_)
      · refine p_aload_n G rfl 0 rfl dX7_takeHand_37 ?_
        refine p_get G dX7_takeHand_38 fl_X7_35 (k := 0) rfl rfl ?_
        refine p_aload_n G rfl 0 rfl dX7_takeHand_41 ?_
        refine p_get G dX7_takeHand_42 fl_X7_100 (k := 0) rfl rfl ?_
        refine p_iload G 4 rfl dX7_takeHand_45 ?_
        refine p_iast G dX7_takeHand_47 (k := 20) rfl (zt_c _) rfl h (fun σ4 c5 h => ?_)
        refine p_aload_n G rfl 0 rfl dX7_takeHand_48 ?_
        refine p_dup G rfl dX7_takeHand_49 ?_
        refine p_get G dX7_takeHand_50 fl_X7_100 (k := 0) rfl rfl ?_
        refine p_iconst G rfl dX7_takeHand_53 ?_
        refine p_iadd G dX7_takeHand_54 ?_
        refine p_putI G dX7_takeHand_55 fp_X7_100 (k := 0) rfl rfl rfl rfl h (fun σ6 h => ?_)
        refine p_iinc (lv' := fun v7 => [(4, .int (zJ v7)), (0, .ref (ga Γ 0)), (1, .int (zJ p1)), (2, .int (zJ p2)), (3, .int (zJ p3))]) G dX7_takeHand_58 h 4 rfl (by decide) (fun _ => rfl) (fun v7 h => ?_)
        refine p_goto (tgt := 8) G dX7_takeHand_61 (by decide) ?_
        refine p_lv [1, 2, 3, 4, 0] rfl ?_
        exact hin8 _ (Option.some.inj h).symm
      · refine p_iload G 4 rfl dX7_takeHand_31 ?_
        refine p_iload_n G rfl 3 rfl dX7_takeHand_33 ?_
        refine p_icmpne (tgt := 58) G dX7_takeHand_34 (by decide) h (fun c13 h => ?_) (fun c13 h => ?_)
        · refine p_iinc (lv' := fun v8 => [(4, .int (zJ v8)), (0, .ref (ga Γ 0)), (1, .int (zJ p1)), (2, .int (zJ p2)), (3, .int (zJ p3))]) G dX7_takeHand_58 h 4 rfl (by decide) (fun _ => rfl) (fun v8 h => ?_)
          refine p_goto (tgt := 8) G dX7_takeHand_61 (by decide) ?_
          refine p_lv [1, 2, 3, 4, 0] rfl ?_
          exact hin8 _ (Option.some.inj h).symm
        · refine p_aload_n G rfl 0 rfl dX7_takeHand_37 ?_
          refine p_get G dX7_takeHand_38 fl_X7_35 (k := 0) rfl rfl ?_
          refine p_aload_n G rfl 0 rfl dX7_takeHand_41 ?_
          refine p_get G dX7_takeHand_42 fl_X7_100 (k := 0) rfl rfl ?_
          refine p_iload G 4 rfl dX7_takeHand_45 ?_
          refine p_iast G dX7_takeHand_47 (k := 20) rfl (zt_c _) rfl h (fun σ9 c10 h => ?_)
          refine p_aload_n G rfl 0 rfl dX7_takeHand_48 ?_
          refine p_dup G rfl dX7_takeHand_49 ?_
          refine p_get G dX7_takeHand_50 fl_X7_100 (k := 0) rfl rfl ?_
          refine p_iconst G rfl dX7_takeHand_53 ?_
          refine p_iadd G dX7_takeHand_54 ?_
          refine p_putI G dX7_takeHand_55 fp_X7_100 (k := 0) rfl rfl rfl rfl h (fun σ11 h => ?_)
          refine p_iinc (lv' := fun v12 => [(4, .int (zJ v12)), (0, .ref (ga Γ 0)), (1, .int (zJ p1)), (2, .int (zJ p2)), (3, .int (zJ p3))]) G dX7_takeHand_58 h 4 rfl (by decide) (fun _ => rfl) (fun v12 h => ?_)
          refine p_goto (tgt := 8) G dX7_takeHand_61 (by decide) ?_
          refine p_lv [1, 2, 3, 4, 0] rfl ?_
          exact hin8 _ (Option.some.inj h).symm
set_option maxHeartbeats 4000000 in
set_option maxRecDepth 100000 in
theorem c_X7_placeOf (l : Launch) {D : va_G} {yy : Nat → ClassId} {tk tv a : Nat → Nat} {σ : Mm} {p1 : Int} {o : Int} (h : x_X7_placeOf σ p1 = some o) : CT l yX7_placeOf cX7_placeOf 3 (some .int) rm_X7_placeOf shW D yy tk tv a σ [.ref (a 0), .int (zJ p1)] σ (some (.int (zJ o))) := by
  refine ct_of (Ar := fun a tk => [.ref (a 0), .int (zJ p1)]) (by decide) (Nat.le_of_ble_eq_true rfl) (fun Γ G _ _ hR => ?_)
  have hcs := rt_cs hR
  unfold x_X7_placeOf at h
  refine (?_ : PT Γ 3 shW 0 σ [(0, .ref (ga Γ 0)), (1, .int (zJ p1))] [])
  refine p_iconst G rfl dX7_placeOf_0 ?_
  refine p_istore_nU (lv' := [(2, .int (zJ (0 : Int))), (0, .ref (ga Γ 0)), (1, .int (zJ p1))]) G rfl dX7_placeOf_1 (by decide) rfl ?_
  refine p_lv [1, 2, 0] rfl ?_
  obtain ⟨e6, hl2, h⟩ := bnd_some h
  have hX2_20 : ∀ (v7 : Int), (.inl v7) = e6 → PT Γ 3 shW 20 σ [(2, .int (zJ v7))] [] := by
    intro v7 he
    subst he
    rw [zel_l] at h
    refine p_iload_n G rfl 0 rfl dX7_placeOf_20 ?_
    (cases h; exact p_iret G hR dX7_placeOf_21 rfl rfl)
  have hX2_28 : ∀ (_ : Unit), (.inr ()) = e6 → PT Γ 3 shW 28 σ [] [] := by
    intro _ he
    subst he
    rw [zel_r] at h
    refine p_iconst G rfl dX7_placeOf_28 ?_
    (cases h; exact p_iret G hR dX7_placeOf_29 rfl rfl)
  refine lup_walk (s := (0 : Int)) (At := fun s : Int => PT Γ 3 shW 2 σ [(0, .ref (ga Γ 0)), (1, .int (zJ p1)), (2, .int (zJ s))] []) (fun u2_2 r hf hin2 hout2 => ?_) hl2
  have h : x_X7_placeOf_b2 σ p1 u2_2 = some r := hf
  clear hf
  unfold x_X7_placeOf_b2 at h
  refine (?_ : PT Γ 3 shW 2 σ [(0, .ref (ga Γ 0)), (1, .int (zJ p1)), (2, .int (zJ u2_2))] [])
  refine p_iload_n G rfl 2 rfl dX7_placeOf_2 ?_
  refine p_aload_n G rfl 0 rfl dX7_placeOf_3 ?_
  refine p_get G dX7_placeOf_4 fl_X7_100 (k := 0) rfl rfl ?_
  refine p_icmpge (tgt := 28) G dX7_placeOf_7 (by decide) h (fun c4 h => ?_) (fun c4 h => ?_)
  · refine p_lv [] rfl ?_
    have he := hout2 _ (Option.some.inj h).symm
    subst he
    exact hX2_28 () rfl
  · refine p_aload_n G rfl 0 rfl dX7_placeOf_10 ?_
    refine p_get G dX7_placeOf_11 fl_X7_35 (k := 0) rfl rfl ?_
    refine p_iload_n G rfl 2 rfl dX7_placeOf_14 ?_
    refine p_iald G dX7_placeOf_15 (k := 20) rfl (zt_c _) h (fun c1 h => ?_)
    refine p_iload_n G rfl 1 rfl dX7_placeOf_16 ?_
    refine p_icmpne (tgt := 22) G dX7_placeOf_17 (by decide) h (fun c3 h => ?_) (fun c3 h => ?_)
    · refine p_iinc (lv' := fun v2 => [(2, .int (zJ v2)), (0, .ref (ga Γ 0)), (1, .int (zJ p1))]) G dX7_placeOf_22 h 2 rfl (by decide) (fun _ => rfl) (fun v2 h => ?_)
      refine p_goto (tgt := 2) G dX7_placeOf_25 (by decide) ?_
      refine p_lv [1, 2, 0] rfl ?_
      exact hin2 _ (Option.some.inj h).symm
    · refine p_lv [2] rfl ?_
      have he := hout2 _ (Option.some.inj h).symm
      subst he
      exact hX2_20 _ rfl
set_option maxHeartbeats 4000000 in
set_option maxRecDepth 100000 in
theorem c_X7_isSet (l : Launch) {D : va_G} {yy : Nat → ClassId} {tk tv a : Nat → Nat} {σ : Mm} {p1 : Int} {o : Int} (h : x_X7_isSet σ p1 = some o) : CT l yX7_isSet cX7_isSet 5 (some .boolean) rm_X7_isSet shW D yy tk tv a σ [.ref (a 0), .int (zJ p1)] σ (some (.int (zJ o))) := by
  refine ct_of (Ar := fun a tk => [.ref (a 0), .int (zJ p1)]) (by decide) (Nat.le_of_ble_eq_true rfl) (fun Γ G _ _ hR => ?_)
  have hcs := rt_cs hR
  unfold x_X7_isSet at h
  refine (?_ : PT Γ 5 shW 0 σ [(0, .ref (ga Γ 0)), (1, .int (zJ p1))] [])
  refine p_iconst G rfl dX7_isSet_0 ?_
  refine p_istore_nU (lv' := [(2, .int (zJ (-1 : Int))), (0, .ref (ga Γ 0)), (1, .int (zJ p1))]) G rfl dX7_isSet_1 (by decide) rfl ?_
  refine p_iconst G rfl dX7_isSet_2 ?_
  refine p_istore_nU (lv' := [(3, .int (zJ (1 : Int))), (2, .int (zJ (-1 : Int))), (0, .ref (ga Γ 0)), (1, .int (zJ p1))]) G rfl dX7_isSet_3 (by decide) rfl ?_
  refine p_iconst G rfl dX7_isSet_4 ?_
  refine p_istoreU (lv' := [(4, .int (zJ (0 : Int))), (3, .int (zJ (1 : Int))), (2, .int (zJ (-1 : Int))), (0, .ref (ga Γ 0)), (1, .int (zJ p1))]) G dX7_isSet_5 (by decide) rfl ?_
  refine p_lv [3, 4, 2, 1, 0] rfl ?_
  obtain ⟨e21, hl7, h⟩ := bnd_some h
  have hX7_72 : ∀ (v22 : Int), v22 = e21 → PT Γ 5 shW 72 σ [(3, .int (zJ v22))] [] := by
    intro v22 he
    subst he
    refine p_iload_n G rfl 0 rfl dX7_isSet_72 ?_
    refine zift h (fun hb h => ?_)
    (cases h; exact p_zret G hR dX7_isSet_73 (zb_01 hb).1 rfl rfl)
  refine lup_walk (s := ((-1 : Int), (1 : Int), (0 : Int))) (At := fun s : Int × Int × Int => PT Γ 5 shW 7 σ [(0, .ref (ga Γ 0)), (1, .int (zJ p1)), (2, .int (zJ s.1)), (3, .int (zJ s.2.1)), (4, .int (zJ s.2.2))] []) (fun s r hf hin7 hout7 => ?_) hl7
  obtain ⟨u2_7, u3_7, u4_7⟩ := s
  have h : x_X7_isSet_b7 σ p1 u2_7 u3_7 u4_7 = some r := hf
  clear hf
  unfold x_X7_isSet_b7 at h
  refine (?_ : PT Γ 5 shW 7 σ [(0, .ref (ga Γ 0)), (1, .int (zJ p1)), (2, .int (zJ u2_7)), (3, .int (zJ u3_7)), (4, .int (zJ u4_7))] [])
  refine p_iload G 4 rfl dX7_isSet_7 ?_
  refine p_aload_n G rfl 0 rfl dX7_isSet_9 ?_
  refine p_get G dX7_isSet_10 fl_X7_100 (k := 0) rfl rfl ?_
  refine p_icmpge (tgt := 72) G dX7_isSet_13 (by decide) h (fun c19 h => ?_) (fun c19 h => ?_)
  · refine p_lv [3] rfl ?_
    have he := hout7 _ (Option.some.inj h).symm
    subst he
    exact hX7_72 _ rfl
  · refine p_iload_n G rfl 1 rfl dX7_isSet_16 ?_
    refine p_iload G 4 rfl dX7_isSet_17 ?_
    refine p_ishr G dX7_isSet_19 ?_
    refine p_iconst G rfl dX7_isSet_20 ?_
    refine p_iand G dX7_isSet_21 ?_
    refine p_iconst G rfl dX7_isSet_22 ?_
    refine p_icmpne (tgt := 66) G dX7_isSet_23 (by decide) h (fun c18 h => ?_) (fun c18 h => ?_)
    · refine p_iinc (lv' := fun v1 => [(4, .int (zJ v1)), (0, .ref (ga Γ 0)), (1, .int (zJ p1)), (2, .int (zJ u2_7)), (3, .int (zJ u3_7))]) G dX7_isSet_66 h 4 rfl (by decide) (fun _ => rfl) (fun v1 h => ?_)
      refine p_goto (tgt := 7) G dX7_isSet_69 (by decide) ?_
      refine p_lv [1, 2, 3, 4, 0] rfl ?_
      exact hin7 _ (Option.some.inj h).symm
    · refine p_iload_n G rfl 3 rfl dX7_isSet_26 ?_
      refine p_ifeq (tgt := 53) G dX7_isSet_27 (by decide) h (fun c17 h => ?_) (fun c17 h => ?_)
      · refine p_iconst G rfl dX7_isSet_53 ?_
        refine p_istore_nU (lv' := [(3, .int (zJ (0 : Int))), (0, .ref (ga Γ 0)), (1, .int (zJ p1)), (2, .int (zJ u2_7)), (4, .int (zJ u4_7))]) G rfl dX7_isSet_54 (by decide) rfl ?_
        refine p_aload_n G rfl 1 rfl dX7_isSet_55 ?_
        refine p_get G dX7_isSet_56 fl_X7_35 (k := 0) rfl rfl ?_
        refine p_iload G 4 rfl dX7_isSet_59 ?_
        refine p_iald G dX7_isSet_61 (k := 20) rfl (zt_c _) h (fun c2 h => ?_)
        refine p_bipush G (by decide) (by decide) dX7_isSet_62 ?_
        refine p_iremK G dX7_isSet_64 (by decide) ?_
        refine p_istore_n (lv' := fun v3 => [(2, .int (zJ v3)), (3, .int (zJ (0 : Int))), (0, .ref (ga Γ 0)), (1, .int (zJ p1)), (4, .int (zJ u4_7))]) G rfl dX7_isSet_65 h (by decide) (fun _ => rfl) (fun v3 h => ?_)
        refine p_iinc (lv' := fun v4 => [(4, .int (zJ v4)), (2, .int (zJ v3)), (3, .int (zJ (0 : Int))), (0, .ref (ga Γ 0)), (1, .int (zJ p1))]) G dX7_isSet_66 h 4 rfl (by decide) (fun _ => rfl) (fun v4 h => ?_)
        refine p_goto (tgt := 7) G dX7_isSet_69 (by decide) ?_
        refine p_lv [3, 4, 1, 2, 0] rfl ?_
        exact hin7 _ (Option.some.inj h).symm
      · refine p_iload_n G rfl 2 rfl dX7_isSet_30 ?_
        refine p_iconst G rfl dX7_isSet_31 ?_
        refine p_icmpeq (tgt := 49) G dX7_isSet_32 (by decide) h (fun c16 h => ?_) (fun c16 h => ?_)
        · refine p_iconst G rfl dX7_isSet_49 ?_
          refine p_goto (tgt := 54) G dX7_isSet_50 (by decide) ?_
          refine p_istore_nU (lv' := [(3, .int (zJ (1 : Int))), (0, .ref (ga Γ 0)), (1, .int (zJ p1)), (2, .int (zJ u2_7)), (4, .int (zJ u4_7))]) G rfl dX7_isSet_54 (by decide) rfl ?_
          refine p_aload_n G rfl 1 rfl dX7_isSet_55 ?_
          refine p_get G dX7_isSet_56 fl_X7_35 (k := 0) rfl rfl ?_
          refine p_iload G 4 rfl dX7_isSet_59 ?_
          refine p_iald G dX7_isSet_61 (k := 20) rfl (zt_c _) h (fun c5 h => ?_)
          refine p_bipush G (by decide) (by decide) dX7_isSet_62 ?_
          refine p_iremK G dX7_isSet_64 (by decide) ?_
          refine p_istore_n (lv' := fun v6 => [(2, .int (zJ v6)), (3, .int (zJ (1 : Int))), (0, .ref (ga Γ 0)), (1, .int (zJ p1)), (4, .int (zJ u4_7))]) G rfl dX7_isSet_65 h (by decide) (fun _ => rfl) (fun v6 h => ?_)
          refine p_iinc (lv' := fun v7 => [(4, .int (zJ v7)), (2, .int (zJ v6)), (3, .int (zJ (1 : Int))), (0, .ref (ga Γ 0)), (1, .int (zJ p1))]) G dX7_isSet_66 h 4 rfl (by decide) (fun _ => rfl) (fun v7 h => ?_)
          refine p_goto (tgt := 7) G dX7_isSet_69 (by decide) ?_
          refine p_lv [3, 4, 1, 2, 0] rfl ?_
          exact hin7 _ (Option.some.inj h).symm
        · refine p_aload_n G rfl 0 rfl dX7_isSet_35 ?_
          refine p_get G dX7_isSet_36 fl_X7_35 (k := 0) rfl rfl ?_
          refine p_iload G 4 rfl dX7_isSet_39 ?_
          refine p_iald G dX7_isSet_41 (k := 20) rfl (zt_c _) h (fun c8 h => ?_)
          refine p_bipush G (by decide) (by decide) dX7_isSet_42 ?_
          refine p_iremK G dX7_isSet_44 (by decide) ?_
          refine p_iload_n G rfl 2 rfl dX7_isSet_45 ?_
          refine p_icmpne (tgt := 53) G dX7_isSet_46 (by decide) h (fun c15 h => ?_) (fun c15 h => ?_)
          · refine p_iconst G rfl dX7_isSet_53 ?_
            refine p_istore_nU (lv' := [(3, .int (zJ (0 : Int))), (0, .ref (ga Γ 0)), (1, .int (zJ p1)), (2, .int (zJ u2_7)), (4, .int (zJ u4_7))]) G rfl dX7_isSet_54 (by decide) rfl ?_
            refine p_aload_n G rfl 1 rfl dX7_isSet_55 ?_
            refine p_get G dX7_isSet_56 fl_X7_35 (k := 0) rfl rfl ?_
            refine p_iload G 4 rfl dX7_isSet_59 ?_
            refine p_iald G dX7_isSet_61 (k := 20) rfl (zt_c _) h (fun c9 h => ?_)
            refine p_bipush G (by decide) (by decide) dX7_isSet_62 ?_
            refine p_iremK G dX7_isSet_64 (by decide) ?_
            refine p_istore_n (lv' := fun v10 => [(2, .int (zJ v10)), (3, .int (zJ (0 : Int))), (0, .ref (ga Γ 0)), (1, .int (zJ p1)), (4, .int (zJ u4_7))]) G rfl dX7_isSet_65 h (by decide) (fun _ => rfl) (fun v10 h => ?_)
            refine p_iinc (lv' := fun v11 => [(4, .int (zJ v11)), (2, .int (zJ v10)), (3, .int (zJ (0 : Int))), (0, .ref (ga Γ 0)), (1, .int (zJ p1))]) G dX7_isSet_66 h 4 rfl (by decide) (fun _ => rfl) (fun v11 h => ?_)
            refine p_goto (tgt := 7) G dX7_isSet_69 (by decide) ?_
            refine p_lv [3, 4, 1, 2, 0] rfl ?_
            exact hin7 _ (Option.some.inj h).symm
          · refine p_iconst G rfl dX7_isSet_49 ?_
            refine p_goto (tgt := 54) G dX7_isSet_50 (by decide) ?_
            refine p_istore_nU (lv' := [(3, .int (zJ (1 : Int))), (0, .ref (ga Γ 0)), (1, .int (zJ p1)), (2, .int (zJ u2_7)), (4, .int (zJ u4_7))]) G rfl dX7_isSet_54 (by decide) rfl ?_
            refine p_aload_n G rfl 1 rfl dX7_isSet_55 ?_
            refine p_get G dX7_isSet_56 fl_X7_35 (k := 0) rfl rfl ?_
            refine p_iload G 4 rfl dX7_isSet_59 ?_
            refine p_iald G dX7_isSet_61 (k := 20) rfl (zt_c _) h (fun c12 h => ?_)
            refine p_bipush G (by decide) (by decide) dX7_isSet_62 ?_
            refine p_iremK G dX7_isSet_64 (by decide) ?_
            refine p_istore_n (lv' := fun v13 => [(2, .int (zJ v13)), (3, .int (zJ (1 : Int))), (0, .ref (ga Γ 0)), (1, .int (zJ p1)), (4, .int (zJ u4_7))]) G rfl dX7_isSet_65 h (by decide) (fun _ => rfl) (fun v13 h => ?_)
            refine p_iinc (lv' := fun v14 => [(4, .int (zJ v14)), (2, .int (zJ v13)), (3, .int (zJ (1 : Int))), (0, .ref (ga Γ 0)), (1, .int (zJ p1))]) G dX7_isSet_66 h 4 rfl (by decide) (fun _ => rfl) (fun v14 h => ?_)
            refine p_goto (tgt := 7) G dX7_isSet_69 (by decide) ?_
            refine p_lv [3, 4, 1, 2, 0] rfl ?_
            exact hin7 _ (Option.some.inj h).symm
set_option maxHeartbeats 4000000 in
set_option maxRecDepth 100000 in
theorem c_X7_isAhead (l : Launch) {D : va_G} {yy : Nat → ClassId} {tk tv a : Nat → Nat} {σ : Mm} {p1 : Int} {p2 : Int} {o : Int} (h : x_X7_isAhead σ p1 p2 = some o) : CT l yX7_isAhead cX7_isAhead 6 (some .boolean) rm_X7_isAhead shW D yy tk tv a σ [.ref (a 0), .int (zJ p1), .int (zJ p2)] σ (some (.int (zJ o))) := by
  refine ct_of (Ar := fun a tk => [.ref (a 0), .int (zJ p1), .int (zJ p2)]) (by decide) (Nat.le_of_ble_eq_true rfl) (fun Γ G _ _ hR => ?_)
  have hcs := rt_cs hR
  unfold x_X7_isAhead at h
  refine (?_ : PT Γ 6 shW 0 σ [(0, .ref (ga Γ 0)), (1, .int (zJ p1)), (2, .int (zJ p2))] [])
  refine p_iload_n G rfl 1 rfl dX7_isAhead_0 ?_
  refine p_i2l G dX7_isAhead_1 ?_
  obtain ⟨v1, hc, h⟩ := bnd_some h
  refine p_callS0 G dX7_isAhead_2 lk_X7_103 (c_X7_ones (gl Γ) hc) (As := [.long (zi2l p1)]) rfl zk_29 rfl (Nat.le_of_ble_eq_true rfl) ⟨rfl, rfl, Nat.le_of_ble_eq_true rfl, Nat.le_of_ble_eq_true rfl⟩ hcs ?_
  refine p_istore_nU (lv' := [(3, .int (zJ v1)), (0, .ref (ga Γ 0)), (1, .int (zJ p1)), (2, .int (zJ p2))]) G rfl dX7_isAhead_5 (by decide) rfl ?_
  refine p_iload_n G rfl 3 rfl dX7_isAhead_6 ?_
  refine p_i2l G dX7_isAhead_7 ?_
  obtain ⟨v2, hc, h⟩ := bnd_some h
  refine p_callS0 G dX7_isAhead_8 lk_X7_103 (c_X7_ones (gl Γ) hc) (As := [.long (zi2l p2)]) rfl zk_29 rfl (Nat.le_of_ble_eq_true rfl) ⟨rfl, rfl, Nat.le_of_ble_eq_true rfl, Nat.le_of_ble_eq_true rfl⟩ hcs ?_
  refine p_istoreU (lv' := [(4, .int (zJ v2)), (3, .int (zJ v1)), (0, .ref (ga Γ 0)), (1, .int (zJ p1)), (2, .int (zJ p2))]) G dX7_isAhead_11 (by decide) rfl ?_
  refine p_iload_n G rfl 1 rfl dX7_isAhead_13 ?_
  refine p_iload G 0 rfl dX7_isAhead_14 ?_
  refine p_icmpeq (tgt := 31) G dX7_isAhead_16 (by decide) h (fun c10 h => ?_) (fun c10 h => ?_)
  · refine p_aload_n G rfl 2 rfl dX7_isAhead_31 ?_
    refine p_iload_n G rfl 3 rfl dX7_isAhead_32 ?_
    obtain ⟨v3, hc, h⟩ := bnd_some h
    refine p_callVi G dX7_isAhead_33 lk_X7_107 (c_X7_isSet (gl Γ) hc) (As := [.int (zJ p1)]) (ci := 7) rfl rfl rfl rfl (Nat.le_of_ble_eq_true rfl) ⟨rfl, rfl, Nat.le_of_ble_eq_true rfl, Nat.le_of_ble_eq_true rfl⟩ hcs ?_
    refine p_aload_n G rfl 2 rfl dX7_isAhead_36 ?_
    refine p_iload_n G rfl 4 rfl dX7_isAhead_37 ?_
    obtain ⟨v4, hc, h⟩ := bnd_some h
    refine p_callVi G dX7_isAhead_38 lk_X7_107 (c_X7_isSet (gl Γ) hc) (As := [.int (zJ p2)]) (ci := 7) rfl rfl rfl rfl (Nat.le_of_ble_eq_true rfl) ⟨rfl, rfl, Nat.le_of_ble_eq_true rfl, Nat.le_of_ble_eq_true rfl⟩ hcs ?_
    refine p_icmpeq (tgt := 50) G dX7_isAhead_41 (by decide) h (fun c8 h => ?_) (fun c8 h => ?_)
    · refine p_iload_n G rfl 3 rfl dX7_isAhead_50 ?_
      refine p_iload_n G rfl 4 rfl dX7_isAhead_51 ?_
      refine p_ixor G dX7_isAhead_52 ?_
      refine p_istore (lv' := fun v5 => [(5, .int (zJ v5)), (4, .int (zJ v2)), (3, .int (zJ v1)), (0, .ref (ga Γ 0)), (1, .int (zJ p1)), (2, .int (zJ p2))]) G dX7_isAhead_53 h (by decide) (fun _ => rfl) (fun v5 h => ?_)
      refine p_iload_n G rfl 4 rfl dX7_isAhead_55 ?_
      refine p_iload G 0 rfl dX7_isAhead_56 ?_
      refine p_iand G dX7_isAhead_58 ?_
      refine p_iload G 0 rfl dX7_isAhead_59 ?_
      refine p_ineg G dX7_isAhead_61 ?_
      refine p_iand G dX7_isAhead_62 ?_
      refine p_ifeq (tgt := 70) G dX7_isAhead_63 (by decide) h (fun c6 h => ?_) (fun c6 h => ?_)
      · refine p_iconst G rfl dX7_isAhead_70 ?_
        (cases h; exact p_zret G hR dX7_isAhead_71 (by decide) rfl rfl)
      · refine p_iconst G rfl dX7_isAhead_66 ?_
        refine p_goto (tgt := 71) G dX7_isAhead_67 (by decide) ?_
        (cases h; exact p_zret G hR dX7_isAhead_71 (by decide) rfl rfl)
    · refine p_aload_n G rfl 2 rfl dX7_isAhead_44 ?_
      refine p_iload_n G rfl 3 rfl dX7_isAhead_45 ?_
      obtain ⟨v7, hc, h⟩ := bnd_some h
      refine p_callVi G dX7_isAhead_46 lk_X7_107 (c_X7_isSet (gl Γ) hc) (As := [.int (zJ p1)]) (ci := 7) rfl rfl rfl rfl (Nat.le_of_ble_eq_true rfl) ⟨rfl, rfl, Nat.le_of_ble_eq_true rfl, Nat.le_of_ble_eq_true rfl⟩ hcs ?_
      refine zift h (fun hb h => ?_)
      (cases h; exact p_zret G hR dX7_isAhead_49 (zb_01 hb).1 rfl rfl)
  · refine p_iload_n G rfl 1 rfl dX7_isAhead_19 ?_
    refine p_iload G 0 rfl dX7_isAhead_20 ?_
    refine p_icmpge (tgt := 29) G dX7_isAhead_22 (by decide) h (fun c9 h => ?_) (fun c9 h => ?_)
    · refine p_iconst G rfl dX7_isAhead_29 ?_
      (cases h; exact p_zret G hR dX7_isAhead_30 (by decide) rfl rfl)
    · refine p_iconst G rfl dX7_isAhead_25 ?_
      refine p_goto (tgt := 30) G dX7_isAhead_26 (by decide) ?_
      (cases h; exact p_zret G hR dX7_isAhead_30 (by decide) rfl rfl)
set_option maxHeartbeats 4000000 in
set_option maxRecDepth 100000 in
theorem c_X7_addMeld (l : Launch) {D : va_G} {yy : Nat → ClassId} {tk tv a : Nat → Nat} {σ : Mm} {p1 : Int} {o : Mm} (h : x_X7_addMeld σ p1 = some o) : CT l yX7_addMeld cX7_addMeld 3 none rm_X7_addMeld shW D yy tk tv a σ [.ref (a 0), .int (zJ p1)] o none := by
  refine ct_of (Ar := fun a tk => [.ref (a 0), .int (zJ p1)]) (by decide) (Nat.le_of_ble_eq_true rfl) (fun Γ G _ _ hR => ?_)
  have hcs := rt_cs hR
  unfold x_X7_addMeld at h
  refine (?_ : PT Γ 3 shW 0 σ [(0, .ref (ga Γ 0)), (1, .int (zJ p1))] [])
  refine p_aload_n G rfl 0 rfl dX7_addMeld_0 ?_
  refine p_get G dX7_addMeld_1 fl_X7_111 (k := 0) rfl rfl ?_
  refine p_istore_n (lv' := fun v1 => [(2, .int (zJ v1)), (0, .ref (ga Γ 0)), (1, .int (zJ p1))]) G rfl dX7_addMeld_4 h (by decide) (fun _ => rfl) (fun v1 h => ?_)
  refine p_lv [1, 2, 0] rfl ?_
  obtain ⟨e11, hl5, h⟩ := bnd_some h
  have hX5_45 : ∀ (σ12 : Mm) (v13 : Int), (σ12, v13) = e11 → PT Γ 3 shW 45 σ12 [(0, .ref (ga Γ 0)), (1, .int (zJ p1)), (2, .int (zJ v13))] [] := by
    intro σ12 v13 he
    subst he
    rw [un2_mk] at h
    refine p_aload_n G rfl 0 rfl dX7_addMeld_45 ?_
    refine p_get G dX7_addMeld_46 fl_X7_38 (k := 0) rfl rfl ?_
    refine p_iload_n G rfl 2 rfl dX7_addMeld_49 ?_
    refine p_iload_n G rfl 1 rfl dX7_addMeld_50 ?_
    refine p_iast G dX7_addMeld_51 (k := 21) rfl (zt_c _) rfl h (fun σ14 c15 h => ?_)
    refine p_aload_n G rfl 0 rfl dX7_addMeld_52 ?_
    refine p_dup G rfl dX7_addMeld_53 ?_
    refine p_get G dX7_addMeld_54 fl_X7_111 (k := 0) rfl rfl ?_
    refine p_iconst G rfl dX7_addMeld_57 ?_
    refine p_iadd G dX7_addMeld_58 ?_
    refine p_putI G dX7_addMeld_59 fp_X7_111 (k := 0) rfl rfl rfl rfl h (fun σ16 h => ?_)
    (cases h; exact p_vret G hR dX7_addMeld_62 rfl rfl)
  refine lup_walk (s := (σ, v1)) (At := fun s : Mm × Int => PT Γ 3 shW 5 s.1 [(0, .ref (ga Γ 0)), (1, .int (zJ p1)), (2, .int (zJ s.2))] []) (fun s r hf hin5 hout5 => ?_) hl5
  obtain ⟨σ5, u2_5⟩ := s
  have h : x_X7_addMeld_b5 p1 σ5 u2_5 = some r := hf
  clear hf
  unfold x_X7_addMeld_b5 at h
  refine (?_ : PT Γ 3 shW 5 σ5 [(0, .ref (ga Γ 0)), (1, .int (zJ p1)), (2, .int (zJ u2_5))] [])
  refine p_iload_n G rfl 2 rfl dX7_addMeld_5 ?_
  refine p_ifle (tgt := 45) G dX7_addMeld_6 (by decide) h (fun c9 h => ?_) (fun c9 h => ?_)
  · have he := hout5 _ (Option.some.inj h).symm
    subst he
    exact hX5_45 _ _ rfl
  · refine p_aload_n G rfl 0 rfl dX7_addMeld_9 ?_
    refine p_iload_n G rfl 1 rfl dX7_addMeld_10 ?_
    refine p_aload_n G rfl 0 rfl dX7_addMeld_11 ?_
    refine p_get G dX7_addMeld_12 fl_X7_38 (k := 0) rfl rfl ?_
    refine p_iload_n G rfl 2 rfl dX7_addMeld_15 ?_
    refine p_iconst G rfl dX7_addMeld_16 ?_
    refine p_isub G dX7_addMeld_17 ?_
    refine p_iald G dX7_addMeld_18 (k := 21) rfl (zt_c _) h (fun c2 h => ?_)
    obtain ⟨v3, hc, h⟩ := bnd_some h
    refine p_callVi G dX7_addMeld_19 lk_X7_114 (c_X7_isAhead (gl Γ) hc) (As := [.int (zJ p1), .int (zJ (σ5 21 (zix (u2_5 - (1 : Int)))))]) (ci := 7) rfl rfl rfl rfl (Nat.le_of_ble_eq_true rfl) ⟨rfl, rfl, Nat.le_of_ble_eq_true rfl, Nat.le_of_ble_eq_true rfl⟩ hcs ?_
    refine p_ifeq (tgt := 45) G dX7_addMeld_22 (by decide) h (fun c8 h => ?_) (fun c8 h => ?_)
    · have he := hout5 _ (Option.some.inj h).symm
      subst he
      exact hX5_45 _ _ rfl
    · refine p_aload_n G rfl 0 rfl dX7_addMeld_25 ?_
      refine p_get G dX7_addMeld_26 fl_X7_38 (k := 0) rfl rfl ?_
      refine p_iload_n G rfl 2 rfl dX7_addMeld_29 ?_
      refine p_aload_n G rfl 0 rfl dX7_addMeld_30 ?_
      refine p_get G dX7_addMeld_31 fl_X7_38 (k := 0) rfl rfl ?_
      refine p_iload_n G rfl 2 rfl dX7_addMeld_34 ?_
      refine p_iconst G rfl dX7_addMeld_35 ?_
      refine p_isub G dX7_addMeld_36 ?_
      refine p_iald G dX7_addMeld_37 (k := 21) rfl (zt_c _) h (fun c4 h => ?_)
      refine p_iast G dX7_addMeld_38 (k := 21) rfl (zt_c _) rfl h (fun σ5 c6 h => ?_)
      refine p_iinc (lv' := fun v7 => [(2, .int (zJ v7)), (0, .ref (ga Γ 0)), (1, .int (zJ p1))]) G dX7_addMeld_39 h 2 rfl (by decide) (fun _ => rfl) (fun v7 h => ?_)
      refine p_goto (tgt := 5) G dX7_addMeld_42 (by decide) ?_
      refine p_lv [1, 2, 0] rfl ?_
      exact hin5 _ (Option.some.inj h).symm
set_option maxHeartbeats 4000000 in
set_option maxRecDepth 100000 in
theorem c_X7_findSets (l : Launch) {D : va_G} {yy : Nat → ClassId} {tk tv a : Nat → Nat} {σ : Mm} {o : Mm} (h : x_X7_findSets σ = some o) : CT l yX7_findSets cX7_findSets 4 none rm_X7_findSets shW D yy tk tv a σ [.ref (a 0)] o none := by
  refine ct_of (Ar := fun a tk => [.ref (a 0)]) (by decide) (Nat.le_of_ble_eq_true rfl) (fun Γ G _ _ hR => ?_)
  have hcs := rt_cs hR
  unfold x_X7_findSets at h
  refine (?_ : PT Γ 4 shW 0 σ [(0, .ref (ga Γ 0))] [])
  refine p_iconst G rfl dX7_findSets_0 ?_
  refine p_istore_nU (lv' := [(1, .int (zJ (0 : Int))), (0, .ref (ga Γ 0))]) G rfl dX7_findSets_1 (by decide) rfl ?_
  refine p_lv [1, 0] rfl ?_
  obtain ⟨e27, hl2, h⟩ := bnd_some h
  have hX2_114 : ∀ (σ28 : Mm), σ28 = e27 → PT Γ 4 shW 114 σ28 [] [] := by
    intro σ28 he
    subst he
    (cases h; exact p_vret G hR dX7_findSets_114 rfl rfl)
  refine lup_walk (s := (σ, (0 : Int))) (At := fun s : Mm × Int => PT Γ 4 shW 2 s.1 [(0, .ref (ga Γ 0)), (1, .int (zJ s.2))] []) (fun s r hf hin2 hout2 => ?_) hl2
  obtain ⟨σ2, u1_2⟩ := s
  have h : x_X7_findSets_b2 σ2 u1_2 = some r := hf
  clear hf
  have j63 : ∀ (σ_63 : Mm) (v1_63 : Int) (v2_63 : Int), x_X7_findSets_j63_2 σ_63 v1_63 v2_63 = some r → PT Γ 4 shW 63 σ_63 [(0, .ref (ga Γ 0)), (1, .int (zJ v1_63)), (2, .int (zJ v2_63))] [] := by
    intro σ_63 v1_63 v2_63 h
    unfold x_X7_findSets_j63_2 at h
    refine p_iconst G rfl dX7_findSets_63 ?_
    refine p_istore_nU (lv' := [(3, .int (zJ (0 : Int))), (0, .ref (ga Γ 0)), (1, .int (zJ v1_63)), (2, .int (zJ v2_63))]) G rfl dX7_findSets_64 (by decide) rfl ?_
    refine p_lv [1, 2, 3, 0] rfl ?_
    obtain ⟨e20, hl65, h⟩ := bnd_some h
    have hX65_108 : ∀ (σ21 : Mm), σ21 = e20 → PT Γ 4 shW 108 σ21 [(0, .ref (ga Γ 0)), (1, .int (zJ v1_63))] [] := by
      intro σ21 he
      subst he
      refine p_iinc (lv' := fun v22 => [(1, .int (zJ v22)), (0, .ref (ga Γ 0))]) G dX7_findSets_108 h 1 rfl (by decide) (fun _ => rfl) (fun v22 h => ?_)
      refine p_goto (tgt := 2) G dX7_findSets_111 (by decide) ?_
      refine p_lv [1, 0] rfl ?_
      exact hin2 _ (Option.some.inj h).symm
    refine lup_walk (s := (σ_63, (0 : Int))) (At := fun s : Mm × Int => PT Γ 4 shW 65 s.1 [(0, .ref (ga Γ 0)), (1, .int (zJ v1_63)), (2, .int (zJ v2_63)), (3, .int (zJ s.2))] []) (fun s r hf hin65 hout65 => ?_) hl65
    obtain ⟨σ65, u3_65⟩ := s
    have h : x_X7_findSets_b65 v1_63 v2_63 σ65 u3_65 = some r := hf
    clear hf
    unfold x_X7_findSets_b65 at h
    refine (?_ : PT Γ 4 shW 65 σ65 [(0, .ref (ga Γ 0)), (1, .int (zJ v1_63)), (2, .int (zJ v2_63)), (3, .int (zJ u3_65))] [])
    refine p_iload_n G rfl 3 rfl dX7_findSets_65 ?_
    refine p_aload_n G rfl 0 rfl dX7_findSets_66 ?_
    refine p_get G dX7_findSets_67 fl_X7_100 (k := 0) rfl rfl ?_
    refine p_icmpge (tgt := 108) G dX7_findSets_70 (by decide) h (fun c18 h => ?_) (fun c18 h => ?_)
    · refine p_lv [0, 1] rfl ?_
      have he := hout65 _ (Option.some.inj h).symm
      subst he
      exact hX65_108 _ rfl
    · refine p_iload_n G rfl 2 rfl dX7_findSets_73 ?_
      refine p_i2l G dX7_findSets_74 ?_
      obtain ⟨v12, hc, h⟩ := bnd_some h
      refine p_callS0 G dX7_findSets_75 lk_X7_103 (c_X7_ones (gl Γ) hc) (As := [.long (zi2l v2_63)]) rfl zk_29 rfl (Nat.le_of_ble_eq_true rfl) ⟨rfl, rfl, Nat.le_of_ble_eq_true rfl, Nat.le_of_ble_eq_true rfl⟩ hcs ?_
      refine p_iconst G rfl dX7_findSets_78 ?_
      refine p_icmpne (tgt := 108) G dX7_findSets_79 (by decide) h (fun c17 h => ?_) (fun c17 h => ?_)
      · refine p_lv [0, 1] rfl ?_
        have he := hout65 _ (Option.some.inj h).symm
        subst he
        exact hX65_108 _ rfl
      · refine p_iload_n G rfl 2 rfl dX7_findSets_82 ?_
        refine p_iload_n G rfl 3 rfl dX7_findSets_83 ?_
        refine p_ishr G dX7_findSets_84 ?_
        refine p_iconst G rfl dX7_findSets_85 ?_
        refine p_iand G dX7_findSets_86 ?_
        refine p_iconst G rfl dX7_findSets_87 ?_
        refine p_icmpne (tgt := 102) G dX7_findSets_88 (by decide) h (fun c16 h => ?_) (fun c16 h => ?_)
        · refine p_iinc (lv' := fun v13 => [(3, .int (zJ v13)), (0, .ref (ga Γ 0)), (1, .int (zJ v1_63)), (2, .int (zJ v2_63))]) G dX7_findSets_102 h 3 rfl (by decide) (fun _ => rfl) (fun v13 h => ?_)
          refine p_goto (tgt := 65) G dX7_findSets_105 (by decide) ?_
          refine p_lv [1, 2, 3, 0] rfl ?_
          exact hin65 _ (Option.some.inj h).symm
        · refine p_aload_n G rfl 0 rfl dX7_findSets_91 ?_
          refine p_iload_n G rfl 2 rfl dX7_findSets_92 ?_
          refine p_iconst G rfl dX7_findSets_93 ?_
          refine p_iload_n G rfl 3 rfl dX7_findSets_94 ?_
          refine p_ishl G dX7_findSets_95 ?_
          refine p_iconst G rfl dX7_findSets_96 ?_
          refine p_ixor G dX7_findSets_97 ?_
          refine p_iand G dX7_findSets_98 ?_
          obtain ⟨σ14, hc, h⟩ := bnd_some h
          refine p_callVi G dX7_findSets_99 lk_X7_117 (c_X7_addMeld (gl Γ) hc) (As := [.int (zJ (zand v2_63 (zxor (zshl (1 : Int) u3_65) (-1 : Int))))]) (ci := 7) rfl rfl rfl rfl (Nat.le_of_ble_eq_true rfl) ⟨rfl, rfl, Nat.le_of_ble_eq_true rfl, Nat.le_of_ble_eq_true rfl⟩ hcs ?_
          refine p_iinc (lv' := fun v15 => [(3, .int (zJ v15)), (0, .ref (ga Γ 0)), (1, .int (zJ v1_63)), (2, .int (zJ v2_63))]) G dX7_findSets_102 h 3 rfl (by decide) (fun _ => rfl) (fun v15 h => ?_)
          refine p_goto (tgt := 65) G dX7_findSets_105 (by decide) ?_
          refine p_lv [1, 2, 3, 0] rfl ?_
          exact hin65 _ (Option.some.inj h).symm
  unfold x_X7_findSets_b2 at h
  refine (?_ : PT Γ 4 shW 2 σ2 [(0, .ref (ga Γ 0)), (1, .int (zJ u1_2))] [])
  refine p_iload_n G rfl 1 rfl dX7_findSets_2 ?_
  refine p_bipush G (by decide) (by decide) dX7_findSets_3 ?_
  refine p_icmpge (tgt := 114) G dX7_findSets_5 (by decide) h (fun c25 h => ?_) (fun c25 h => ?_)
  · refine p_lv [] rfl ?_
    have he := hout2 _ (Option.some.inj h).symm
    subst he
    exact hX2_114 _ rfl
  · refine p_iconst G rfl dX7_findSets_8 ?_
    refine p_istore_nU (lv' := [(2, .int (zJ (0 : Int))), (0, .ref (ga Γ 0)), (1, .int (zJ u1_2))]) G rfl dX7_findSets_9 (by decide) rfl ?_
    refine p_iconst G rfl dX7_findSets_10 ?_
    refine p_istore_nU (lv' := [(3, .int (zJ (0 : Int))), (2, .int (zJ (0 : Int))), (0, .ref (ga Γ 0)), (1, .int (zJ u1_2))]) G rfl dX7_findSets_11 (by decide) rfl ?_
    refine p_lv [2, 3, 1, 0] rfl ?_
    obtain ⟨e9, hl12, h⟩ := bnd_some h
    have hX12_49 : ∀ (v10 : Int), v10 = e9 → PT Γ 4 shW 49 σ2 [(0, .ref (ga Γ 0)), (1, .int (zJ u1_2)), (2, .int (zJ v10))] [] := by
      intro v10 he
      subst he
      refine p_iload_n G rfl 2 rfl dX7_findSets_49 ?_
      refine p_i2l G dX7_findSets_50 ?_
      obtain ⟨v11, hc, h⟩ := bnd_some h
      refine p_callS0 G dX7_findSets_51 lk_X7_103 (c_X7_ones (gl Γ) hc) (As := [.long (zi2l v10)]) rfl zk_29 rfl (Nat.le_of_ble_eq_true rfl) ⟨rfl, rfl, Nat.le_of_ble_eq_true rfl, Nat.le_of_ble_eq_true rfl⟩ hcs ?_
      refine p_iconst G rfl dX7_findSets_54 ?_
      refine p_icmplt (tgt := 63) G dX7_findSets_55 (by decide) h (fun c24 h => ?_) (fun c24 h => ?_)
      · exact j63 _ _ _ h
      · refine p_aload_n G rfl 0 rfl dX7_findSets_58 ?_
        refine p_iload_n G rfl 2 rfl dX7_findSets_59 ?_
        obtain ⟨σ23, hc, h⟩ := bnd_some h
        refine p_callVi G dX7_findSets_60 lk_X7_117 (c_X7_addMeld (gl Γ) hc) (As := [.int (zJ v10)]) (ci := 7) rfl rfl rfl rfl (Nat.le_of_ble_eq_true rfl) ⟨rfl, rfl, Nat.le_of_ble_eq_true rfl, Nat.le_of_ble_eq_true rfl⟩ hcs ?_
        exact j63 _ _ _ h
    refine lup_walk (s := ((0 : Int), (0 : Int))) (At := fun s : Int × Int => PT Γ 4 shW 12 σ2 [(0, .ref (ga Γ 0)), (1, .int (zJ u1_2)), (2, .int (zJ s.1)), (3, .int (zJ s.2))] []) (fun s r hf hin12 hout12 => ?_) hl12
    obtain ⟨u2_12, u3_12⟩ := s
    have h : x_X7_findSets_b12 σ2 u1_2 u2_12 u3_12 = some r := hf
    clear hf
    unfold x_X7_findSets_b12 at h
    refine (?_ : PT Γ 4 shW 12 σ2 [(0, .ref (ga Γ 0)), (1, .int (zJ u1_2)), (2, .int (zJ u2_12)), (3, .int (zJ u3_12))] [])
    refine p_iload_n G rfl 3 rfl dX7_findSets_12 ?_
    refine p_aload_n G rfl 0 rfl dX7_findSets_13 ?_
    refine p_get G dX7_findSets_14 fl_X7_100 (k := 0) rfl rfl ?_
    refine p_icmpge (tgt := 49) G dX7_findSets_17 (by decide) h (fun c7 h => ?_) (fun c7 h => ?_)
    · refine p_lv [0, 1, 2] rfl ?_
      have he := hout12 _ (Option.some.inj h).symm
      subst he
      exact hX12_49 _ rfl
    · refine p_iload_n G rfl 2 rfl dX7_findSets_20 ?_
      refine p_aload_n G rfl 0 rfl dX7_findSets_21 ?_
      refine p_get G dX7_findSets_22 fl_X7_35 (k := 0) rfl rfl ?_
      refine p_iload_n G rfl 3 rfl dX7_findSets_25 ?_
      refine p_iald G dX7_findSets_26 (k := 20) rfl (zt_c _) h (fun c1 h => ?_)
      refine p_bipush G (by decide) (by decide) dX7_findSets_27 ?_
      refine p_iremK G dX7_findSets_29 (by decide) ?_
      refine p_iload_n G rfl 1 rfl dX7_findSets_30 ?_
      refine p_icmpne (tgt := 40) G dX7_findSets_31 (by decide) h (fun c6 h => ?_) (fun c6 h => ?_)
      · refine p_iconst G rfl dX7_findSets_40 ?_
        refine p_ior G dX7_findSets_41 ?_
        refine p_istore_n (lv' := fun v2 => [(2, .int (zJ v2)), (0, .ref (ga Γ 0)), (1, .int (zJ u1_2)), (3, .int (zJ u3_12))]) G rfl dX7_findSets_42 h (by decide) (fun _ => rfl) (fun v2 h => ?_)
        refine p_iinc (lv' := fun v3 => [(3, .int (zJ v3)), (2, .int (zJ v2)), (0, .ref (ga Γ 0)), (1, .int (zJ u1_2))]) G dX7_findSets_43 h 3 rfl (by decide) (fun _ => rfl) (fun v3 h => ?_)
        refine p_goto (tgt := 12) G dX7_findSets_46 (by decide) ?_
        refine p_lv [2, 3, 1, 0] rfl ?_
        exact hin12 _ (Option.some.inj h).symm
      · refine p_iconst G rfl dX7_findSets_34 ?_
        refine p_iload_n G rfl 3 rfl dX7_findSets_35 ?_
        refine p_ishl G dX7_findSets_36 ?_
        refine p_goto (tgt := 41) G dX7_findSets_37 (by decide) ?_
        refine p_ior G dX7_findSets_41 ?_
        refine p_istore_n (lv' := fun v4 => [(2, .int (zJ v4)), (0, .ref (ga Γ 0)), (1, .int (zJ u1_2)), (3, .int (zJ u3_12))]) G rfl dX7_findSets_42 h (by decide) (fun _ => rfl) (fun v4 h => ?_)
        refine p_iinc (lv' := fun v5 => [(3, .int (zJ v5)), (2, .int (zJ v4)), (0, .ref (ga Γ 0)), (1, .int (zJ u1_2))]) G dX7_findSets_43 h 3 rfl (by decide) (fun _ => rfl) (fun v5 h => ?_)
        refine p_goto (tgt := 12) G dX7_findSets_46 (by decide) ?_
        refine p_lv [2, 3, 1, 0] rfl ?_
        exact hin12 _ (Option.some.inj h).symm
set_option maxHeartbeats 4000000 in
set_option maxRecDepth 100000 in
theorem c_X7_findRuns (l : Launch) {D : va_G} {yy : Nat → ClassId} {tk tv a : Nat → Nat} {σ : Mm} {o : Mm} (h : x_X7_findRuns σ = some o) : CT l yX7_findRuns cX7_findRuns 8 none rm_X7_findRuns shW D yy tk tv a σ [.ref (a 0)] o none := by
  refine ct_of (Ar := fun a tk => [.ref (a 0)]) (by decide) (Nat.le_of_ble_eq_true rfl) (fun Γ G _ _ hR => ?_)
  have hcs := rt_cs hR
  unfold x_X7_findRuns at h
  refine (?_ : PT Γ 8 shW 0 σ [(0, .ref (ga Γ 0))] [])
  refine p_iconst G rfl dX7_findRuns_0 ?_
  refine p_istore_nU (lv' := [(1, .int (zJ (0 : Int))), (0, .ref (ga Γ 0))]) G rfl dX7_findRuns_1 (by decide) rfl ?_
  refine p_lv [1, 0] rfl ?_
  obtain ⟨e30, hl2, h⟩ := bnd_some h
  have hX2_133 : ∀ (σ31 : Mm), σ31 = e30 → PT Γ 8 shW 133 σ31 [] [] := by
    intro σ31 he
    subst he
    (cases h; exact p_vret G hR dX7_findRuns_133 rfl rfl)
  refine lup_walk (s := (σ, (0 : Int))) (At := fun s : Mm × Int => PT Γ 8 shW 2 s.1 [(0, .ref (ga Γ 0)), (1, .int (zJ s.2))] []) (fun s r hf hin2 hout2 => ?_) hl2
  obtain ⟨σ2, u1_2⟩ := s
  have h : x_X7_findRuns_b2 σ2 u1_2 = some r := hf
  clear hf
  unfold x_X7_findRuns_b2 at h
  refine (?_ : PT Γ 8 shW 2 σ2 [(0, .ref (ga Γ 0)), (1, .int (zJ u1_2))] [])
  refine p_iload_n G rfl 1 rfl dX7_findRuns_2 ?_
  refine p_aload_n G rfl 0 rfl dX7_findRuns_3 ?_
  refine p_get G dX7_findRuns_4 fl_X7_100 (k := 0) rfl rfl ?_
  refine p_icmpge (tgt := 133) G dX7_findRuns_7 (by decide) h (fun c28 h => ?_) (fun c28 h => ?_)
  · refine p_lv [] rfl ?_
    have he := hout2 _ (Option.some.inj h).symm
    subst he
    exact hX2_133 _ rfl
  · refine p_aload_n G rfl 0 rfl dX7_findRuns_10 ?_
    refine p_get G dX7_findRuns_11 fl_X7_35 (k := 0) rfl rfl ?_
    refine p_iload_n G rfl 1 rfl dX7_findRuns_14 ?_
    refine p_iald G dX7_findRuns_15 (k := 20) rfl (zt_c _) h (fun c1 h => ?_)
    refine p_bipush G (by decide) (by decide) dX7_findRuns_16 ?_
    refine p_idivK G dX7_findRuns_18 (by decide) ?_
    refine p_bipush G (by decide) (by decide) dX7_findRuns_19 ?_
    refine p_imul G dX7_findRuns_21 ?_
    refine p_istore_n (lv' := fun v2 => [(2, .int (zJ v2)), (0, .ref (ga Γ 0)), (1, .int (zJ u1_2))]) G rfl dX7_findRuns_22 h (by decide) (fun _ => rfl) (fun v2 h => ?_)
    refine p_aload_n G rfl 1 rfl dX7_findRuns_23 ?_
    refine p_get G dX7_findRuns_24 fl_X7_35 (k := 0) rfl rfl ?_
    refine p_iload_n G rfl 2 rfl dX7_findRuns_27 ?_
    refine p_iald G dX7_findRuns_28 (k := 20) rfl (zt_c _) h (fun c3 h => ?_)
    refine p_bipush G (by decide) (by decide) dX7_findRuns_29 ?_
    refine p_iremK G dX7_findRuns_31 (by decide) ?_
    refine p_istore_n (lv' := fun v4 => [(3, .int (zJ v4)), (2, .int (zJ v2)), (0, .ref (ga Γ 0)), (1, .int (zJ u1_2))]) G rfl dX7_findRuns_32 h (by decide) (fun _ => rfl) (fun v4 h => ?_)
    refine p_iconst G rfl dX7_findRuns_33 ?_
    refine p_istoreU (lv' := [(4, .int (zJ (0 : Int))), (3, .int (zJ v4)), (2, .int (zJ v2)), (0, .ref (ga Γ 0)), (1, .int (zJ u1_2))]) G dX7_findRuns_34 (by decide) rfl ?_
    refine p_iconst G rfl dX7_findRuns_36 ?_
    refine p_istoreU (lv' := [(5, .int (zJ (1 : Int))), (4, .int (zJ (0 : Int))), (3, .int (zJ v4)), (2, .int (zJ v2)), (0, .ref (ga Γ 0)), (1, .int (zJ u1_2))]) G dX7_findRuns_37 (by decide) rfl ?_
    refine p_iconst G rfl dX7_findRuns_39 ?_
    refine p_istoreU (lv' := [(6, .int (zJ (1 : Int))), (5, .int (zJ (1 : Int))), (4, .int (zJ (0 : Int))), (3, .int (zJ v4)), (2, .int (zJ v2)), (0, .ref (ga Γ 0)), (1, .int (zJ u1_2))]) G dX7_findRuns_40 (by decide) rfl ?_
    refine p_lv [5, 6, 4, 3, 2, 1, 0] rfl ?_
    obtain ⟨e25, hl42, h⟩ := bnd_some h
    have hX42_127 : ∀ (σ26 : Mm), σ26 = e25 → PT Γ 8 shW 127 σ26 [(0, .ref (ga Γ 0)), (1, .int (zJ u1_2))] [] := by
      intro σ26 he
      subst he
      refine p_iinc (lv' := fun v27 => [(1, .int (zJ v27)), (0, .ref (ga Γ 0))]) G dX7_findRuns_127 h 1 rfl (by decide) (fun _ => rfl) (fun v27 h => ?_)
      refine p_goto (tgt := 2) G dX7_findRuns_130 (by decide) ?_
      refine p_lv [1, 0] rfl ?_
      exact hin2 _ (Option.some.inj h).symm
    refine lup_walk (s := (σ2, (0 : Int), (1 : Int), (1 : Int))) (At := fun s : Mm × Int × Int × Int => PT Γ 8 shW 42 s.1 [(0, .ref (ga Γ 0)), (1, .int (zJ u1_2)), (2, .int (zJ v2)), (3, .int (zJ v4)), (4, .int (zJ s.2.1)), (5, .int (zJ s.2.2.1)), (6, .int (zJ s.2.2.2))] []) (fun s r hf hin42 hout42 => ?_) hl42
    obtain ⟨σ42, u4_42, u5_42, u6_42⟩ := s
    have h : x_X7_findRuns_b42 u1_2 v2 v4 σ42 u4_42 u5_42 u6_42 = some r := hf
    clear hf
    have j84 : ∀ (σ_84 : Mm) (v4_84 : Int) (v6_84 : Int) (v7_84 : Int) (w0_84 : Int), x_X7_findRuns_j84_42 u1_2 v2 v4 σ_84 v4_84 v6_84 v7_84 w0_84 = some r → PT Γ 8 shW 84 σ_84 [(0, .ref (ga Γ 0)), (1, .int (zJ u1_2)), (2, .int (zJ v2)), (3, .int (zJ v4)), (4, .int (zJ v4_84)), (6, .int (zJ v6_84)), (7, .int (zJ v7_84))] [.int (zJ w0_84)] := by
      intro σ_84 v4_84 v6_84 v7_84 w0_84 h
      unfold x_X7_findRuns_j84_42 at h
      refine p_istoreU (lv' := [(5, .int (zJ w0_84)), (0, .ref (ga Γ 0)), (1, .int (zJ u1_2)), (2, .int (zJ v2)), (3, .int (zJ v4)), (4, .int (zJ v4_84)), (6, .int (zJ v6_84)), (7, .int (zJ v7_84))]) G dX7_findRuns_84 (by decide) rfl ?_
      refine p_iload G 5 rfl dX7_findRuns_86 ?_
      refine p_iload G 0 rfl dX7_findRuns_88 ?_
      refine p_ifeq (tgt := 100) G dX7_findRuns_90 (by decide) h (fun c20 h => ?_) (fun c20 h => ?_)
      · refine p_iconst G rfl dX7_findRuns_100 ?_
        refine p_ior G dX7_findRuns_101 ?_
        refine p_istore (lv' := fun v6 => [(4, .int (zJ v6)), (5, .int (zJ w0_84)), (0, .ref (ga Γ 0)), (1, .int (zJ u1_2)), (2, .int (zJ v2)), (3, .int (zJ v4)), (6, .int (zJ v6_84)), (7, .int (zJ v7_84))]) G dX7_findRuns_102 h (by decide) (fun _ => rfl) (fun v6 h => ?_)
        refine p_iload G 1 rfl dX7_findRuns_104 ?_
        refine p_ifeq (tgt := 121) G dX7_findRuns_106 (by decide) h (fun c12 h => ?_) (fun c12 h => ?_)
        · refine p_iinc (lv' := fun v7 => [(6, .int (zJ v7)), (4, .int (zJ v6)), (5, .int (zJ w0_84)), (0, .ref (ga Γ 0)), (1, .int (zJ u1_2)), (2, .int (zJ v2)), (3, .int (zJ v4)), (7, .int (zJ v7_84))]) G dX7_findRuns_121 h 6 rfl (by decide) (fun _ => rfl) (fun v7 h => ?_)
          refine p_goto (tgt := 42) G dX7_findRuns_124 (by decide) ?_
          refine p_lv [3, 4, 5, 6, 1, 2, 0] rfl ?_
          exact hin42 _ (Option.some.inj h).symm
        · refine p_iload G 6 rfl dX7_findRuns_109 ?_
          refine p_iconst G rfl dX7_findRuns_111 ?_
          refine p_icmplt (tgt := 121) G dX7_findRuns_112 (by decide) h (fun c11 h => ?_) (fun c11 h => ?_)
          · refine p_iinc (lv' := fun v8 => [(6, .int (zJ v8)), (4, .int (zJ v6)), (5, .int (zJ w0_84)), (0, .ref (ga Γ 0)), (1, .int (zJ u1_2)), (2, .int (zJ v2)), (3, .int (zJ v4)), (7, .int (zJ v7_84))]) G dX7_findRuns_121 h 6 rfl (by decide) (fun _ => rfl) (fun v8 h => ?_)
            refine p_goto (tgt := 42) G dX7_findRuns_124 (by decide) ?_
            refine p_lv [3, 4, 5, 6, 1, 2, 0] rfl ?_
            exact hin42 _ (Option.some.inj h).symm
          · refine p_aload_n G rfl 2 rfl dX7_findRuns_115 ?_
            refine p_iload G 0 rfl dX7_findRuns_116 ?_
            obtain ⟨σ9, hc, h⟩ := bnd_some h
            refine p_callVi G dX7_findRuns_118 lk_X7_117 (c_X7_addMeld (gl Γ) hc) (As := [.int (zJ v6)]) (ci := 7) rfl rfl rfl rfl (Nat.le_of_ble_eq_true rfl) ⟨rfl, rfl, Nat.le_of_ble_eq_true rfl, Nat.le_of_ble_eq_true rfl⟩ hcs ?_
            refine p_iinc (lv' := fun v10 => [(6, .int (zJ v10)), (4, .int (zJ v6)), (5, .int (zJ w0_84)), (0, .ref (ga Γ 0)), (1, .int (zJ u1_2)), (2, .int (zJ v2)), (3, .int (zJ v4)), (7, .int (zJ v7_84))]) G dX7_findRuns_121 h 6 rfl (by decide) (fun _ => rfl) (fun v10 h => ?_)
            refine p_goto (tgt := 42) G dX7_findRuns_124 (by decide) ?_
            refine p_lv [3, 4, 5, 6, 1, 2, 0] rfl ?_
            exact hin42 _ (Option.some.inj h).symm
      · refine p_iconst G rfl dX7_findRuns_93 ?_
        refine p_iload G 7 rfl dX7_findRuns_94 ?_
        refine p_ishl G dX7_findRuns_96 ?_
        refine p_goto (tgt := 101) G dX7_findRuns_97 (by decide) ?_
        refine p_ior G dX7_findRuns_101 ?_
        refine p_istore (lv' := fun v13 => [(4, .int (zJ v13)), (5, .int (zJ w0_84)), (0, .ref (ga Γ 0)), (1, .int (zJ u1_2)), (2, .int (zJ v2)), (3, .int (zJ v4)), (6, .int (zJ v6_84)), (7, .int (zJ v7_84))]) G dX7_findRuns_102 h (by decide) (fun _ => rfl) (fun v13 h => ?_)
        refine p_iload G 1 rfl dX7_findRuns_104 ?_
        refine p_ifeq (tgt := 121) G dX7_findRuns_106 (by decide) h (fun c19 h => ?_) (fun c19 h => ?_)
        · refine p_iinc (lv' := fun v14 => [(6, .int (zJ v14)), (4, .int (zJ v13)), (5, .int (zJ w0_84)), (0, .ref (ga Γ 0)), (1, .int (zJ u1_2)), (2, .int (zJ v2)), (3, .int (zJ v4)), (7, .int (zJ v7_84))]) G dX7_findRuns_121 h 6 rfl (by decide) (fun _ => rfl) (fun v14 h => ?_)
          refine p_goto (tgt := 42) G dX7_findRuns_124 (by decide) ?_
          refine p_lv [3, 4, 5, 6, 1, 2, 0] rfl ?_
          exact hin42 _ (Option.some.inj h).symm
        · refine p_iload G 6 rfl dX7_findRuns_109 ?_
          refine p_iconst G rfl dX7_findRuns_111 ?_
          refine p_icmplt (tgt := 121) G dX7_findRuns_112 (by decide) h (fun c18 h => ?_) (fun c18 h => ?_)
          · refine p_iinc (lv' := fun v15 => [(6, .int (zJ v15)), (4, .int (zJ v13)), (5, .int (zJ w0_84)), (0, .ref (ga Γ 0)), (1, .int (zJ u1_2)), (2, .int (zJ v2)), (3, .int (zJ v4)), (7, .int (zJ v7_84))]) G dX7_findRuns_121 h 6 rfl (by decide) (fun _ => rfl) (fun v15 h => ?_)
            refine p_goto (tgt := 42) G dX7_findRuns_124 (by decide) ?_
            refine p_lv [3, 4, 5, 6, 1, 2, 0] rfl ?_
            exact hin42 _ (Option.some.inj h).symm
          · refine p_aload_n G rfl 2 rfl dX7_findRuns_115 ?_
            refine p_iload G 0 rfl dX7_findRuns_116 ?_
            obtain ⟨σ16, hc, h⟩ := bnd_some h
            refine p_callVi G dX7_findRuns_118 lk_X7_117 (c_X7_addMeld (gl Γ) hc) (As := [.int (zJ v13)]) (ci := 7) rfl rfl rfl rfl (Nat.le_of_ble_eq_true rfl) ⟨rfl, rfl, Nat.le_of_ble_eq_true rfl, Nat.le_of_ble_eq_true rfl⟩ hcs ?_
            refine p_iinc (lv' := fun v17 => [(6, .int (zJ v17)), (4, .int (zJ v13)), (5, .int (zJ w0_84)), (0, .ref (ga Γ 0)), (1, .int (zJ u1_2)), (2, .int (zJ v2)), (3, .int (zJ v4)), (7, .int (zJ v7_84))]) G dX7_findRuns_121 h 6 rfl (by decide) (fun _ => rfl) (fun v17 h => ?_)
            refine p_goto (tgt := 42) G dX7_findRuns_124 (by decide) ?_
            refine p_lv [3, 4, 5, 6, 1, 2, 0] rfl ?_
            exact hin42 _ (Option.some.inj h).symm
    unfold x_X7_findRuns_b42 at h
    refine (?_ : PT Γ 8 shW 42 σ42 [(0, .ref (ga Γ 0)), (1, .int (zJ u1_2)), (2, .int (zJ v2)), (3, .int (zJ v4)), (4, .int (zJ u4_42)), (5, .int (zJ u5_42)), (6, .int (zJ u6_42))] [])
    refine p_iload G 6 rfl dX7_findRuns_42 ?_
    refine p_aload_n G rfl 0 rfl dX7_findRuns_44 ?_
    refine p_get G dX7_findRuns_45 fl_X7_100 (k := 0) rfl rfl ?_
    refine p_icmpgt (tgt := 127) G dX7_findRuns_48 (by decide) h (fun c23 h => ?_) (fun c23 h => ?_)
    · refine p_lv [0, 1] rfl ?_
      have he := hout42 _ (Option.some.inj h).symm
      subst he
      exact hX42_127 _ rfl
    · refine p_iload G 5 rfl dX7_findRuns_51 ?_
      refine p_ifeq (tgt := 127) G dX7_findRuns_53 (by decide) h (fun c22 h => ?_) (fun c22 h => ?_)
      · refine p_lv [0, 1] rfl ?_
        have he := hout42 _ (Option.some.inj h).symm
        subst he
        exact hX42_127 _ rfl
      · refine p_aload_n G rfl 0 rfl dX7_findRuns_56 ?_
        refine p_iload_n G rfl 2 rfl dX7_findRuns_57 ?_
        refine p_iload_n G rfl 3 rfl dX7_findRuns_58 ?_
        refine p_iload G 6 rfl dX7_findRuns_59 ?_
        refine p_iadd G dX7_findRuns_61 ?_
        refine p_iconst G rfl dX7_findRuns_62 ?_
        refine p_isub G dX7_findRuns_63 ?_
        refine p_bipush G (by decide) (by decide) dX7_findRuns_64 ?_
        refine p_iremK G dX7_findRuns_66 (by decide) ?_
        refine p_iadd G dX7_findRuns_67 ?_
        obtain ⟨v5, hc, h⟩ := bnd_some h
        refine p_callVi G dX7_findRuns_68 lk_X7_121 (c_X7_placeOf (gl Γ) hc) (As := [.int (zJ (v2 + (zrem ((v4 + u6_42) - (1 : Int)) (13 : Int))))]) (ci := 7) rfl rfl rfl rfl (Nat.le_of_ble_eq_true rfl) ⟨rfl, rfl, Nat.le_of_ble_eq_true rfl, Nat.le_of_ble_eq_true rfl⟩ hcs ?_
        refine p_istoreU (lv' := [(7, .int (zJ v5)), (0, .ref (ga Γ 0)), (1, .int (zJ u1_2)), (2, .int (zJ v2)), (3, .int (zJ v4)), (4, .int (zJ u4_42)), (5, .int (zJ u5_42)), (6, .int (zJ u6_42))]) G dX7_findRuns_71 (by decide) rfl ?_
        refine p_iload G 0 rfl dX7_findRuns_73 ?_
        refine p_iconst G rfl dX7_findRuns_75 ?_
        refine p_icmpeq (tgt := 83) G dX7_findRuns_76 (by decide) h (fun c21 h => ?_) (fun c21 h => ?_)
        · refine p_iconst G rfl dX7_findRuns_83 ?_
          refine p_lv [1, 2, 3, 4, 5, 7, 0] rfl ?_
          exact j84 _ _ _ _ _ h
        · refine p_iconst G rfl dX7_findRuns_79 ?_
          refine p_goto (tgt := 84) G dX7_findRuns_80 (by decide) ?_
          refine p_lv [1, 2, 3, 4, 5, 7, 0] rfl ?_
          exact j84 _ _ _ _ _ h
set_option maxHeartbeats 4000000 in
set_option maxRecDepth 100000 in
theorem c_X7_findRests (l : Launch) {D : va_G} {yy : Nat → ClassId} {tk tv a : Nat → Nat} {σ : Mm} {o : Mm × Int} (h : x_X7_findRests σ = some o) : CT l yX7_findRests cX7_findRests 6 (some .int) rm_X7_findRests shW D yy tk tv a σ [.ref (a 0)] o.1 (some (.int (zJ o.2))) := by
  refine ct_of (Ar := fun a tk => [.ref (a 0)]) (by decide) (Nat.le_of_ble_eq_true rfl) (fun Γ G _ _ hR => ?_)
  have hcs := rt_cs hR
  unfold x_X7_findRests at h
  refine (?_ : PT Γ 6 shW 0 σ [(0, .ref (ga Γ 0))] [])
  refine p_aload_n G rfl 0 rfl dX7_findRests_0 ?_
  refine p_iconst G rfl dX7_findRests_1 ?_
  refine p_putI G dX7_findRests_2 fp_X7_111 (k := 0) rfl rfl rfl rfl h (fun σ1 h => ?_)
  refine p_aload_n G rfl 0 rfl dX7_findRests_5 ?_
  obtain ⟨σ2, hc, h⟩ := bnd_some h
  refine p_callVi G dX7_findRests_6 lk_X7_124 (c_X7_findSets (gl Γ) hc) (As := []) (ci := 7) rfl rfl rfl rfl (Nat.le_of_ble_eq_true rfl) ⟨rfl, rfl, Nat.le_of_ble_eq_true rfl, Nat.le_of_ble_eq_true rfl⟩ hcs ?_
  refine p_aload_n G rfl 0 rfl dX7_findRests_9 ?_
  obtain ⟨σ3, hc, h⟩ := bnd_some h
  refine p_callVi G dX7_findRests_10 lk_X7_127 (c_X7_findRuns (gl Γ) hc) (As := []) (ci := 7) rfl rfl rfl rfl (Nat.le_of_ble_eq_true rfl) ⟨rfl, rfl, Nat.le_of_ble_eq_true rfl, Nat.le_of_ble_eq_true rfl⟩ hcs ?_
  refine p_aload_n G rfl 0 rfl dX7_findRests_13 ?_
  refine p_get G dX7_findRests_14 fl_X7_41 (k := 0) rfl rfl ?_
  refine p_iconst G rfl dX7_findRests_17 ?_
  refine p_iconst G rfl dX7_findRests_18 ?_
  refine p_iast G dX7_findRests_19 (k := 22) rfl (zt_c _) rfl h (fun σ4 c5 h => ?_)
  refine p_iconst G rfl dX7_findRests_20 ?_
  refine p_istore_nU (lv' := [(1, .int (zJ (1 : Int))), (0, .ref (ga Γ 0))]) G rfl dX7_findRests_21 (by decide) rfl ?_
  refine p_lv [1, 0] rfl ?_
  obtain ⟨e37, hl22, h⟩ := bnd_some h
  have hX22_172 : ∀ (σ38 : Mm), σ38 = e37 → PT Γ 6 shW 172 σ38 [(0, .ref (ga Γ 0))] [] := by
    intro σ38 he
    subst he
    refine p_aload_n G rfl 0 rfl dX7_findRests_172 ?_
    refine p_get G dX7_findRests_173 fl_X7_41 (k := 0) rfl rfl ?_
    refine p_iconst G rfl dX7_findRests_176 ?_
    refine p_aload_n G rfl 0 rfl dX7_findRests_177 ?_
    refine p_get G dX7_findRests_178 fl_X7_100 (k := 0) rfl rfl ?_
    refine p_ishl G dX7_findRests_181 ?_
    refine p_iconst G rfl dX7_findRests_182 ?_
    refine p_isub G dX7_findRests_183 ?_
    refine p_iald G dX7_findRests_184 (k := 22) rfl (zt_c _) h (fun c39 h => ?_)
    (cases h; exact p_iret G hR dX7_findRests_185 rfl rfl)
  refine lup_walk (s := (σ4, (1 : Int))) (At := fun s : Mm × Int => PT Γ 6 shW 22 s.1 [(0, .ref (ga Γ 0)), (1, .int (zJ s.2))] []) (fun s r hf hin22 hout22 => ?_) hl22
  obtain ⟨σ22, u1_22⟩ := s
  have h : x_X7_findRests_b22 σ22 u1_22 = some r := hf
  clear hf
  unfold x_X7_findRests_b22 at h
  refine (?_ : PT Γ 6 shW 22 σ22 [(0, .ref (ga Γ 0)), (1, .int (zJ u1_22))] [])
  refine p_iload_n G rfl 1 rfl dX7_findRests_22 ?_
  refine p_iconst G rfl dX7_findRests_23 ?_
  refine p_aload_n G rfl 0 rfl dX7_findRests_24 ?_
  refine p_get G dX7_findRests_25 fl_X7_100 (k := 0) rfl rfl ?_
  refine p_ishl G dX7_findRests_28 ?_
  refine p_icmpge (tgt := 172) G dX7_findRests_29 (by decide) h (fun c35 h => ?_) (fun c35 h => ?_)
  · refine p_lv [0] rfl ?_
    have he := hout22 _ (Option.some.inj h).symm
    subst he
    exact hX22_172 _ rfl
  · refine p_iload_n G rfl 1 rfl dX7_findRests_32 ?_
    refine p_iload_n G rfl 1 rfl dX7_findRests_33 ?_
    refine p_ineg G dX7_findRests_34 ?_
    refine p_iand G dX7_findRests_35 ?_
    refine p_istore_n (lv' := fun v6 => [(2, .int (zJ v6)), (0, .ref (ga Γ 0)), (1, .int (zJ u1_22))]) G rfl dX7_findRests_36 h (by decide) (fun _ => rfl) (fun v6 h => ?_)
    refine p_aload_n G rfl 1 rfl dX7_findRests_37 ?_
    refine p_get G dX7_findRests_38 fl_X7_35 (k := 0) rfl rfl ?_
    refine p_iload_n G rfl 0 rfl dX7_findRests_41 ?_
    refine p_iconst G rfl dX7_findRests_42 ?_
    refine p_isub G dX7_findRests_43 ?_
    refine p_i2l G dX7_findRests_44 ?_
    obtain ⟨v7, hc, h⟩ := bnd_some h
    refine p_callS0 G dX7_findRests_45 lk_X7_103 (c_X7_ones (gl Γ) hc) (As := [.long (zi2l (v6 - (1 : Int)))]) rfl zk_29 rfl (Nat.le_of_ble_eq_true rfl) ⟨rfl, rfl, Nat.le_of_ble_eq_true rfl, Nat.le_of_ble_eq_true rfl⟩ hcs ?_
    refine p_iald G dX7_findRests_48 (k := 20) rfl (zt_c _) h (fun c8 h => ?_)
    refine p_istore_n (lv' := fun v9 => [(3, .int (zJ v9)), (2, .int (zJ v6)), (0, .ref (ga Γ 0)), (1, .int (zJ u1_22))]) G rfl dX7_findRests_49 h (by decide) (fun _ => rfl) (fun v9 h => ?_)
    refine p_iload_n G rfl 0 rfl dX7_findRests_50 ?_
    obtain ⟨v10, hc, h⟩ := bnd_some h
    refine p_callS0 G dX7_findRests_51 lk_X7_80 (c_X7_points (gl Γ) hc) (As := [.int (zJ v9)]) rfl zk_29 rfl (Nat.le_of_ble_eq_true rfl) ⟨rfl, rfl, Nat.le_of_ble_eq_true rfl, Nat.le_of_ble_eq_true rfl⟩ hcs ?_
    refine p_aload_n G rfl 2 rfl dX7_findRests_54 ?_
    refine p_get G dX7_findRests_55 fl_X7_41 (k := 0) rfl rfl ?_
    refine p_iload_n G rfl 3 rfl dX7_findRests_58 ?_
    refine p_iload_n G rfl 1 rfl dX7_findRests_59 ?_
    refine p_iconst G rfl dX7_findRests_60 ?_
    refine p_ixor G dX7_findRests_61 ?_
    refine p_iand G dX7_findRests_62 ?_
    refine p_iald G dX7_findRests_63 (k := 22) rfl (zt_c _) h (fun c11 h => ?_)
    refine p_iadd G dX7_findRests_64 ?_
    refine p_istore (lv' := fun v12 => [(4, .int (zJ v12)), (3, .int (zJ v9)), (2, .int (zJ v6)), (0, .ref (ga Γ 0)), (1, .int (zJ u1_22))]) G dX7_findRests_65 h (by decide) (fun _ => rfl) (fun v12 h => ?_)
    refine p_iconst G rfl dX7_findRests_67 ?_
    refine p_istoreU (lv' := [(5, .int (zJ (0 : Int))), (4, .int (zJ v12)), (3, .int (zJ v9)), (2, .int (zJ v6)), (0, .ref (ga Γ 0)), (1, .int (zJ u1_22))]) G dX7_findRests_68 (by decide) rfl ?_
    refine p_lv [4, 5, 3, 1, 0] rfl ?_
    obtain ⟨e30, hl70, h⟩ := bnd_some h
    have hX70_158 : ∀ (v31 : Int), v31 = e30 → PT Γ 6 shW 158 σ22 [(0, .ref (ga Γ 0)), (1, .int (zJ u1_22)), (4, .int (zJ v31))] [] := by
      intro v31 he
      subst he
      refine p_aload_n G rfl 0 rfl dX7_findRests_158 ?_
      refine p_get G dX7_findRests_159 fl_X7_41 (k := 0) rfl rfl ?_
      refine p_iload_n G rfl 1 rfl dX7_findRests_162 ?_
      refine p_iload G 2 rfl dX7_findRests_163 ?_
      refine p_iast G dX7_findRests_165 (k := 22) rfl (zt_c _) rfl h (fun σ32 c33 h => ?_)
      refine p_iinc (lv' := fun v34 => [(1, .int (zJ v34)), (0, .ref (ga Γ 0)), (4, .int (zJ v31))]) G dX7_findRests_166 h 1 rfl (by decide) (fun _ => rfl) (fun v34 h => ?_)
      refine p_goto (tgt := 22) G dX7_findRests_169 (by decide) ?_
      refine p_lv [1, 0] rfl ?_
      exact hin22 _ (Option.some.inj h).symm
    refine lup_walk (s := (v12, (0 : Int))) (At := fun s : Int × Int => PT Γ 6 shW 70 σ22 [(0, .ref (ga Γ 0)), (1, .int (zJ u1_22)), (2, .int (zJ v6)), (4, .int (zJ s.1)), (5, .int (zJ s.2))] []) (fun s r hf hin70 hout70 => ?_) hl70
    obtain ⟨u4_70, u5_70⟩ := s
    have h : x_X7_findRests_b70 σ22 u1_22 v6 u4_70 u5_70 = some r := hf
    clear hf
    unfold x_X7_findRests_b70 at h
    refine (?_ : PT Γ 6 shW 70 σ22 [(0, .ref (ga Γ 0)), (1, .int (zJ u1_22)), (2, .int (zJ v6)), (4, .int (zJ u4_70)), (5, .int (zJ u5_70))] [])
    refine p_iload G 4 rfl dX7_findRests_70 ?_
    refine p_aload_n G rfl 0 rfl dX7_findRests_72 ?_
    refine p_get G dX7_findRests_73 fl_X7_111 (k := 0) rfl rfl ?_
    refine p_icmpge (tgt := 158) G dX7_findRests_76 (by decide) h (fun c28 h => ?_) (fun c28 h => ?_)
    · refine p_lv [0, 1, 3] rfl ?_
      have he := hout70 _ (Option.some.inj h).symm
      subst he
      exact hX70_158 _ rfl
    · refine p_aload_n G rfl 0 rfl dX7_findRests_79 ?_
      refine p_get G dX7_findRests_80 fl_X7_38 (k := 0) rfl rfl ?_
      refine p_iload G 4 rfl dX7_findRests_83 ?_
      refine p_iald G dX7_findRests_85 (k := 21) rfl (zt_c _) h (fun c13 h => ?_)
      refine p_aload_n G rfl 0 rfl dX7_findRests_86 ?_
      refine p_get G dX7_findRests_87 fl_X7_38 (k := 0) rfl rfl ?_
      refine p_iload G 4 rfl dX7_findRests_90 ?_
      refine p_iald G dX7_findRests_92 (k := 21) rfl (zt_c _) h (fun c14 h => ?_)
      refine p_ineg G dX7_findRests_93 ?_
      refine p_iand G dX7_findRests_94 ?_
      refine p_iload_n G rfl 2 rfl dX7_findRests_95 ?_
      refine p_icmpne (tgt := 152) G dX7_findRests_96 (by decide) h (fun c27 h => ?_) (fun c27 h => ?_)
      · refine p_iinc (lv' := fun v15 => [(5, .int (zJ v15)), (0, .ref (ga Γ 0)), (1, .int (zJ u1_22)), (2, .int (zJ v6)), (4, .int (zJ u4_70))]) G dX7_findRests_152 h 4 rfl (by decide) (fun _ => rfl) (fun v15 h => ?_)
        refine p_goto (tgt := 70) G dX7_findRests_155 (by decide) ?_
        refine p_lv [1, 2, 3, 4, 0] rfl ?_
        exact hin70 _ (Option.some.inj h).symm
      · refine p_aload_n G rfl 0 rfl dX7_findRests_99 ?_
        refine p_get G dX7_findRests_100 fl_X7_38 (k := 0) rfl rfl ?_
        refine p_iload G 4 rfl dX7_findRests_103 ?_
        refine p_iald G dX7_findRests_105 (k := 21) rfl (zt_c _) h (fun c16 h => ?_)
        refine p_iload_n G rfl 1 rfl dX7_findRests_106 ?_
        refine p_iconst G rfl dX7_findRests_107 ?_
        refine p_ixor G dX7_findRests_108 ?_
        refine p_iand G dX7_findRests_109 ?_
        refine p_ifne (tgt := 152) G dX7_findRests_110 (by decide) h (fun c26 h => ?_) (fun c26 h => ?_)
        · refine p_iinc (lv' := fun v17 => [(5, .int (zJ v17)), (0, .ref (ga Γ 0)), (1, .int (zJ u1_22)), (2, .int (zJ v6)), (4, .int (zJ u4_70))]) G dX7_findRests_152 h 4 rfl (by decide) (fun _ => rfl) (fun v17 h => ?_)
          refine p_goto (tgt := 70) G dX7_findRests_155 (by decide) ?_
          refine p_lv [1, 2, 3, 4, 0] rfl ?_
          exact hin70 _ (Option.some.inj h).symm
        · refine p_aload_n G rfl 0 rfl dX7_findRests_113 ?_
          refine p_get G dX7_findRests_114 fl_X7_41 (k := 0) rfl rfl ?_
          refine p_iload_n G rfl 1 rfl dX7_findRests_117 ?_
          refine p_aload_n G rfl 0 rfl dX7_findRests_118 ?_
          refine p_get G dX7_findRests_119 fl_X7_38 (k := 0) rfl rfl ?_
          refine p_iload G 4 rfl dX7_findRests_122 ?_
          refine p_iald G dX7_findRests_124 (k := 21) rfl (zt_c _) h (fun c18 h => ?_)
          refine p_iconst G rfl dX7_findRests_125 ?_
          refine p_ixor G dX7_findRests_126 ?_
          refine p_iand G dX7_findRests_127 ?_
          refine p_iald G dX7_findRests_128 (k := 22) rfl (zt_c _) h (fun c19 h => ?_)
          refine p_iload G 3 rfl dX7_findRests_129 ?_
          refine p_icmpge (tgt := 152) G dX7_findRests_131 (by decide) h (fun c25 h => ?_) (fun c25 h => ?_)
          · refine p_iinc (lv' := fun v20 => [(5, .int (zJ v20)), (0, .ref (ga Γ 0)), (1, .int (zJ u1_22)), (2, .int (zJ v6)), (4, .int (zJ u4_70))]) G dX7_findRests_152 h 4 rfl (by decide) (fun _ => rfl) (fun v20 h => ?_)
            refine p_goto (tgt := 70) G dX7_findRests_155 (by decide) ?_
            refine p_lv [1, 2, 3, 4, 0] rfl ?_
            exact hin70 _ (Option.some.inj h).symm
          · refine p_aload_n G rfl 0 rfl dX7_findRests_134 ?_
            refine p_get G dX7_findRests_135 fl_X7_41 (k := 0) rfl rfl ?_
            refine p_iload_n G rfl 1 rfl dX7_findRests_138 ?_
            refine p_aload_n G rfl 0 rfl dX7_findRests_139 ?_
            refine p_get G dX7_findRests_140 fl_X7_38 (k := 0) rfl rfl ?_
            refine p_iload G 4 rfl dX7_findRests_143 ?_
            refine p_iald G dX7_findRests_145 (k := 21) rfl (zt_c _) h (fun c21 h => ?_)
            refine p_iconst G rfl dX7_findRests_146 ?_
            refine p_ixor G dX7_findRests_147 ?_
            refine p_iand G dX7_findRests_148 ?_
            refine p_iald G dX7_findRests_149 (k := 22) rfl (zt_c _) h (fun c22 h => ?_)
            refine p_istore (lv' := fun v23 => [(4, .int (zJ v23)), (0, .ref (ga Γ 0)), (1, .int (zJ u1_22)), (2, .int (zJ v6)), (5, .int (zJ u5_70))]) G dX7_findRests_150 h (by decide) (fun _ => rfl) (fun v23 h => ?_)
            refine p_iinc (lv' := fun v24 => [(5, .int (zJ v24)), (4, .int (zJ v23)), (0, .ref (ga Γ 0)), (1, .int (zJ u1_22)), (2, .int (zJ v6))]) G dX7_findRests_152 h 4 rfl (by decide) (fun _ => rfl) (fun v24 h => ?_)
            refine p_goto (tgt := 70) G dX7_findRests_155 (by decide) ?_
            refine p_lv [2, 3, 4, 1, 0] rfl ?_
            exact hin70 _ (Option.some.inj h).symm
set_option maxHeartbeats 4000000 in
set_option maxRecDepth 100000 in
theorem c_X7_cardsOf (l : Launch) {D : va_G} {yy : Nat → ClassId} {tk tv a : Nat → Nat} {σ : Mm} {p1 : Int} {o : Int64} (h : x_X7_cardsOf σ p1 = some o) : CT l yX7_cardsOf cX7_cardsOf 5 (some .long) rm_X7_cardsOf shW D yy tk tv a σ [.ref (a 0), .int (zJ p1)] σ (some (.long o)) := by
  refine ct_of (Ar := fun a tk => [.ref (a 0), .int (zJ p1)]) (by decide) (Nat.le_of_ble_eq_true rfl) (fun Γ G _ _ hR => ?_)
  have hcs := rt_cs hR
  unfold x_X7_cardsOf at h
  refine (?_ : PT Γ 5 shW 0 σ [(0, .ref (ga Γ 0)), (1, .int (zJ p1))] [])
  refine p_lconst G (v := 0) (by decide) dX7_cardsOf_0 ?_
  refine p_lstore_nU (lv' := [(2, .long (0 : Int64)), (0, .ref (ga Γ 0)), (1, .int (zJ p1))]) G rfl dX7_cardsOf_1 (by decide) rfl ?_
  refine p_iconst G rfl dX7_cardsOf_2 ?_
  refine p_istoreU (lv' := [(4, .int (zJ (0 : Int))), (2, .long (0 : Int64)), (0, .ref (ga Γ 0)), (1, .int (zJ p1))]) G dX7_cardsOf_3 (by decide) rfl ?_
  refine p_lv [2, 3, 1, 0] rfl ?_
  obtain ⟨e9, hl5, h⟩ := bnd_some h
  have hX5_46 : ∀ (v10 : Int64), v10 = e9 → PT Γ 5 shW 46 σ [(2, .long v10)] [] := by
    intro v10 he
    subst he
    refine p_lload_n G rfl 0 rfl dX7_cardsOf_46 ?_
    (cases h; exact p_lret G hR dX7_cardsOf_47 rfl rfl)
  refine lup_walk (s := ((0 : Int64), (0 : Int))) (At := fun s : Int64 × Int => PT Γ 5 shW 5 σ [(0, .ref (ga Γ 0)), (1, .int (zJ p1)), (2, .long s.1), (4, .int (zJ s.2))] []) (fun s r hf hin5 hout5 => ?_) hl5
  obtain ⟨u2_5, u4_5⟩ := s
  have h : x_X7_cardsOf_b5 σ p1 u2_5 u4_5 = some r := hf
  clear hf
  unfold x_X7_cardsOf_b5 at h
  refine (?_ : PT Γ 5 shW 5 σ [(0, .ref (ga Γ 0)), (1, .int (zJ p1)), (2, .long u2_5), (4, .int (zJ u4_5))] [])
  refine p_iload G 3 rfl dX7_cardsOf_5 ?_
  refine p_aload_n G rfl 0 rfl dX7_cardsOf_7 ?_
  refine p_get G dX7_cardsOf_8 fl_X7_100 (k := 0) rfl rfl ?_
  refine p_icmpge (tgt := 46) G dX7_cardsOf_11 (by decide) h (fun c7 h => ?_) (fun c7 h => ?_)
  · refine p_lv [2] rfl ?_
    have he := hout5 _ (Option.some.inj h).symm
    subst he
    exact hX5_46 _ rfl
  · refine p_lload_n G rfl 2 rfl dX7_cardsOf_14 ?_
    refine p_iload_n G rfl 1 rfl dX7_cardsOf_15 ?_
    refine p_iload G 3 rfl dX7_cardsOf_16 ?_
    refine p_ishr G dX7_cardsOf_18 ?_
    refine p_iconst G rfl dX7_cardsOf_19 ?_
    refine p_iand G dX7_cardsOf_20 ?_
    refine p_iconst G rfl dX7_cardsOf_21 ?_
    refine p_icmpne (tgt := 37) G dX7_cardsOf_22 (by decide) h (fun c6 h => ?_) (fun c6 h => ?_)
    · refine p_lconst G (v := 0) (by decide) dX7_cardsOf_37 ?_
      refine p_lor G dX7_cardsOf_38 ?_
      refine p_lstore_n (lv' := fun v1 => [(2, .long v1), (0, .ref (ga Γ 0)), (1, .int (zJ p1)), (4, .int (zJ u4_5))]) G rfl dX7_cardsOf_39 h (by decide) (fun _ => rfl) (fun v1 h => ?_)
      refine p_iinc (lv' := fun v2 => [(4, .int (zJ v2)), (2, .long v1), (0, .ref (ga Γ 0)), (1, .int (zJ p1))]) G dX7_cardsOf_40 h 3 rfl (by decide) (fun _ => rfl) (fun v2 h => ?_)
      refine p_goto (tgt := 5) G dX7_cardsOf_43 (by decide) ?_
      refine p_lv [2, 3, 1, 0] rfl ?_
      exact hin5 _ (Option.some.inj h).symm
    · refine p_lconst G (v := 1) (by decide) dX7_cardsOf_25 ?_
      refine p_aload_n G rfl 0 rfl dX7_cardsOf_26 ?_
      refine p_get G dX7_cardsOf_27 fl_X7_35 (k := 0) rfl rfl ?_
      refine p_iload G 3 rfl dX7_cardsOf_30 ?_
      refine p_iald G dX7_cardsOf_32 (k := 20) rfl (zt_c _) h (fun c3 h => ?_)
      refine p_lshl G dX7_cardsOf_33 ?_
      refine p_goto (tgt := 38) G dX7_cardsOf_34 (by decide) ?_
      refine p_lor G dX7_cardsOf_38 ?_
      refine p_lstore_n (lv' := fun v4 => [(2, .long v4), (0, .ref (ga Γ 0)), (1, .int (zJ p1)), (4, .int (zJ u4_5))]) G rfl dX7_cardsOf_39 h (by decide) (fun _ => rfl) (fun v4 h => ?_)
      refine p_iinc (lv' := fun v5 => [(4, .int (zJ v5)), (2, .long v4), (0, .ref (ga Γ 0)), (1, .int (zJ p1))]) G dX7_cardsOf_40 h 3 rfl (by decide) (fun _ => rfl) (fun v5 h => ?_)
      refine p_goto (tgt := 5) G dX7_cardsOf_43 (by decide) ?_
      refine p_lv [2, 3, 1, 0] rfl ?_
      exact hin5 _ (Option.some.inj h).symm
set_option maxHeartbeats 4000000 in
set_option maxRecDepth 100000 in
theorem c_X7_layOut (l : Launch) {D : va_G} {yy : Nat → ClassId} {tk tv a : Nat → Nat} {σ : Mm} {o : Mm} (h : x_X7_layOut σ = some o) : CT l yX7_layOut cX7_layOut 5 none rm_X7_layOut shW D yy tk tv a σ [.ref (a 0)] o none := by
  refine ct_of (Ar := fun a tk => [.ref (a 0)]) (by decide) (Nat.le_of_ble_eq_true rfl) (fun Γ G _ _ hR => ?_)
  have hcs := rt_cs hR
  unfold x_X7_layOut at h
  refine (?_ : PT Γ 5 shW 0 σ [(0, .ref (ga Γ 0))] [])
  refine p_aload_n G rfl 0 rfl dX7_layOut_0 ?_
  refine p_aload_n G rfl 0 rfl dX7_layOut_1 ?_
  obtain ⟨⟨σ1, v2⟩, hc, h⟩ := bnd_some h
  rw [un2_mk] at h
  refine p_callVi G dX7_layOut_2 lk_X7_130 (c_X7_findRests (gl Γ) hc) (As := []) (ci := 7) rfl rfl rfl rfl (Nat.le_of_ble_eq_true rfl) ⟨rfl, rfl, Nat.le_of_ble_eq_true rfl, Nat.le_of_ble_eq_true rfl⟩ hcs ?_
  refine p_putI G dX7_layOut_5 fp_X7_134 (k := 0) rfl rfl rfl rfl h (fun σ3 h => ?_)
  refine p_aload_n G rfl 0 rfl dX7_layOut_8 ?_
  refine p_iconst G rfl dX7_layOut_9 ?_
  refine p_putI G dX7_layOut_10 fp_X7_137 (k := 0) rfl rfl rfl rfl h (fun σ4 h => ?_)
  refine p_aload_n G rfl 0 rfl dX7_layOut_13 ?_
  refine p_lconst G (v := 0) (by decide) dX7_layOut_14 ?_
  refine p_putL G dX7_layOut_15 fp_X7_140 (k := 0) rfl rfl rfl rfl h (fun σ5 h => ?_)
  refine p_iconst G rfl dX7_layOut_18 ?_
  refine p_aload_n G rfl 0 rfl dX7_layOut_19 ?_
  refine p_get G dX7_layOut_20 fl_X7_100 (k := 0) rfl rfl ?_
  refine p_ishl G dX7_layOut_23 ?_
  refine p_iconst G rfl dX7_layOut_24 ?_
  refine p_isub G dX7_layOut_25 ?_
  refine p_istore_n (lv' := fun v6 => [(1, .int (zJ v6)), (0, .ref (ga Γ 0))]) G rfl dX7_layOut_26 h (by decide) (fun _ => rfl) (fun v6 h => ?_)
  refine p_iconst G rfl dX7_layOut_27 ?_
  refine p_istore_nU (lv' := [(2, .int (zJ (0 : Int))), (1, .int (zJ v6)), (0, .ref (ga Γ 0))]) G rfl dX7_layOut_28 (by decide) rfl ?_
  refine p_lv [2, 1, 0] rfl ?_
  obtain ⟨e39, hl29, h⟩ := bnd_some h
  have hX29_202 : ∀ (σ40 : Mm), σ40 = e39 → PT Γ 5 shW 202 σ40 [] [] := by
    intro σ40 he
    subst he
    (cases h; exact p_vret G hR dX7_layOut_202 rfl rfl)
  refine lup_walk (s := (σ5, v6, (0 : Int))) (At := fun s : Mm × Int × Int => PT Γ 5 shW 29 s.1 [(0, .ref (ga Γ 0)), (1, .int (zJ s.2.1)), (2, .int (zJ s.2.2))] []) (fun s r hf hin29 hout29 => ?_) hl29
  obtain ⟨σ29, u1_29, u2_29⟩ := s
  have h : x_X7_layOut_b29 σ29 u1_29 u2_29 = some r := hf
  clear hf
  have j107 : ∀ (σ_107 : Mm) (v1_107 : Int) (v2_107 : Int) (v3_107 : Int) (v4_107 : Int), x_X7_layOut_j107_29 σ_107 v1_107 v2_107 v3_107 v4_107 = some r → PT Γ 5 shW 107 σ_107 [(0, .ref (ga Γ 0)), (1, .int (zJ v1_107)), (2, .int (zJ v2_107)), (3, .int (zJ v3_107)), (4, .int (zJ v4_107))] [] := by
    intro σ_107 v1_107 v2_107 v3_107 v4_107 h
    unfold x_X7_layOut_j107_29 at h
    refine p_iload G 4 rfl dX7_layOut_107 ?_
    refine p_aload_n G rfl 0 rfl dX7_layOut_109 ?_
    refine p_get G dX7_layOut_110 fl_X7_111 (k := 0) rfl rfl ?_
    refine p_icmpge (tgt := 161) G dX7_layOut_113 (by decide) h (fun c36 h => ?_) (fun c36 h => ?_)
    · refine p_aload_n G rfl 0 rfl dX7_layOut_161 ?_
      refine p_dup G rfl dX7_layOut_162 ?_
      refine p_get G dX7_layOut_163 fl_X7_140 (k := 0) rfl rfl ?_
      refine p_aload_n G rfl 0 rfl dX7_layOut_166 ?_
      refine p_iload_n G rfl 3 rfl dX7_layOut_167 ?_
      obtain ⟨v22, hc, h⟩ := bnd_some h
      refine p_callVi G dX7_layOut_168 lk_X7_144 (c_X7_cardsOf (gl Γ) hc) (As := [.int (zJ v3_107)]) (ci := 7) rfl rfl rfl rfl (Nat.le_of_ble_eq_true rfl) ⟨rfl, rfl, Nat.le_of_ble_eq_true rfl, Nat.le_of_ble_eq_true rfl⟩ hcs ?_
      refine p_lor G dX7_layOut_171 ?_
      refine p_putL G dX7_layOut_172 fp_X7_140 (k := 0) rfl rfl rfl rfl h (fun σ23 h => ?_)
      refine p_iload_n G rfl 2 rfl dX7_layOut_175 ?_
      refine p_aload_n G rfl 0 rfl dX7_layOut_176 ?_
      refine p_get G dX7_layOut_177 fl_X7_35 (k := 0) rfl rfl ?_
      refine p_iload_n G rfl 3 rfl dX7_layOut_180 ?_
      refine p_iconst G rfl dX7_layOut_181 ?_
      refine p_isub G dX7_layOut_182 ?_
      refine p_i2l G dX7_layOut_183 ?_
      obtain ⟨v24, hc, h⟩ := bnd_some h
      refine p_callS0 G dX7_layOut_184 lk_X7_103 (c_X7_ones (gl Γ) hc) (As := [.long (zi2l (v3_107 - (1 : Int)))]) rfl zk_29 rfl (Nat.le_of_ble_eq_true rfl) ⟨rfl, rfl, Nat.le_of_ble_eq_true rfl, Nat.le_of_ble_eq_true rfl⟩ hcs ?_
      refine p_iald G dX7_layOut_187 (k := 20) rfl (zt_c _) h (fun c25 h => ?_)
      obtain ⟨v26, hc, h⟩ := bnd_some h
      refine p_callS0 G dX7_layOut_188 lk_X7_80 (c_X7_points (gl Γ) hc) (As := [.int (zJ (σ23 20 (zix v24)))]) rfl zk_29 rfl (Nat.le_of_ble_eq_true rfl) ⟨rfl, rfl, Nat.le_of_ble_eq_true rfl, Nat.le_of_ble_eq_true rfl⟩ hcs ?_
      refine p_iadd G dX7_layOut_191 ?_
      refine p_istore_n (lv' := fun v27 => [(2, .int (zJ v27)), (0, .ref (ga Γ 0)), (1, .int (zJ v1_107)), (3, .int (zJ v3_107)), (4, .int (zJ v4_107))]) G rfl dX7_layOut_192 h (by decide) (fun _ => rfl) (fun v27 h => ?_)
      refine p_iload_n G rfl 2 rfl dX7_layOut_193 ?_
      refine p_iload_n G rfl 3 rfl dX7_layOut_194 ?_
      refine p_iconst G rfl dX7_layOut_195 ?_
      refine p_ixor G dX7_layOut_196 ?_
      refine p_iand G dX7_layOut_197 ?_
      refine p_istore_n (lv' := fun v28 => [(1, .int (zJ v28)), (2, .int (zJ v27)), (0, .ref (ga Γ 0)), (3, .int (zJ v3_107)), (4, .int (zJ v4_107))]) G rfl dX7_layOut_198 h (by decide) (fun _ => rfl) (fun v28 h => ?_)
      refine p_goto (tgt := 29) G dX7_layOut_199 (by decide) ?_
      refine p_lv [2, 0, 1] rfl ?_
      exact hin29 _ (Option.some.inj h).symm
    · refine p_aload_n G rfl 0 rfl dX7_layOut_116 ?_
      refine p_get G dX7_layOut_117 fl_X7_44 (k := 0) rfl rfl ?_
      refine p_aload_n G rfl 0 rfl dX7_layOut_120 ?_
      refine p_get G dX7_layOut_121 fl_X7_137 (k := 0) rfl rfl ?_
      refine p_aload_n G rfl 0 rfl dX7_layOut_124 ?_
      refine p_aload_n G rfl 0 rfl dX7_layOut_125 ?_
      refine p_get G dX7_layOut_126 fl_X7_38 (k := 0) rfl rfl ?_
      refine p_iload G 4 rfl dX7_layOut_129 ?_
      refine p_iald G dX7_layOut_131 (k := 21) rfl (zt_c _) h (fun c29 h => ?_)
      obtain ⟨v30, hc, h⟩ := bnd_some h
      refine p_callVi G dX7_layOut_132 lk_X7_144 (c_X7_cardsOf (gl Γ) hc) (As := [.int (zJ (σ_107 21 (zix v4_107)))]) (ci := 7) rfl rfl rfl rfl (Nat.le_of_ble_eq_true rfl) ⟨rfl, rfl, Nat.le_of_ble_eq_true rfl, Nat.le_of_ble_eq_true rfl⟩ hcs ?_
      refine p_last G dX7_layOut_135 (k := 23) rfl (zt_c _) rfl h (fun σ31 c32 h => ?_)
      refine p_aload_n G rfl 0 rfl dX7_layOut_136 ?_
      refine p_dup G rfl dX7_layOut_137 ?_
      refine p_get G dX7_layOut_138 fl_X7_137 (k := 0) rfl rfl ?_
      refine p_iconst G rfl dX7_layOut_141 ?_
      refine p_iadd G dX7_layOut_142 ?_
      refine p_putI G dX7_layOut_143 fp_X7_137 (k := 0) rfl rfl rfl rfl h (fun σ33 h => ?_)
      refine p_iload_n G rfl 1 rfl dX7_layOut_146 ?_
      refine p_aload_n G rfl 0 rfl dX7_layOut_147 ?_
      refine p_get G dX7_layOut_148 fl_X7_38 (k := 0) rfl rfl ?_
      refine p_iload G 4 rfl dX7_layOut_151 ?_
      refine p_iald G dX7_layOut_153 (k := 21) rfl (zt_c _) h (fun c34 h => ?_)
      refine p_iconst G rfl dX7_layOut_154 ?_
      refine p_ixor G dX7_layOut_155 ?_
      refine p_iand G dX7_layOut_156 ?_
      refine p_istore_n (lv' := fun v35 => [(1, .int (zJ v35)), (0, .ref (ga Γ 0)), (2, .int (zJ v2_107)), (3, .int (zJ v3_107)), (4, .int (zJ v4_107))]) G rfl dX7_layOut_157 h (by decide) (fun _ => rfl) (fun v35 h => ?_)
      refine p_goto (tgt := 199) G dX7_layOut_158 (by decide) ?_
      refine p_goto (tgt := 29) G dX7_layOut_199 (by decide) ?_
      refine p_lv [1, 0, 2] rfl ?_
      exact hin29 _ (Option.some.inj h).symm
  unfold x_X7_layOut_b29 at h
  refine (?_ : PT Γ 5 shW 29 σ29 [(0, .ref (ga Γ 0)), (1, .int (zJ u1_29)), (2, .int (zJ u2_29))] [])
  refine p_iload_n G rfl 1 rfl dX7_layOut_29 ?_
  refine p_ifeq (tgt := 202) G dX7_layOut_30 (by decide) h (fun c37 h => ?_) (fun c37 h => ?_)
  · refine p_lv [] rfl ?_
    have he := hout29 _ (Option.some.inj h).symm
    subst he
    exact hX29_202 _ rfl
  · refine p_iload_n G rfl 1 rfl dX7_layOut_33 ?_
    refine p_iload_n G rfl 1 rfl dX7_layOut_34 ?_
    refine p_ineg G dX7_layOut_35 ?_
    refine p_iand G dX7_layOut_36 ?_
    refine p_istore_n (lv' := fun v7 => [(3, .int (zJ v7)), (0, .ref (ga Γ 0)), (1, .int (zJ u1_29)), (2, .int (zJ u2_29))]) G rfl dX7_layOut_37 h (by decide) (fun _ => rfl) (fun v7 h => ?_)
    refine p_iconst G rfl dX7_layOut_38 ?_
    refine p_istoreU (lv' := [(4, .int (zJ (0 : Int))), (3, .int (zJ v7)), (0, .ref (ga Γ 0)), (1, .int (zJ u1_29)), (2, .int (zJ u2_29))]) G dX7_layOut_39 (by decide) rfl ?_
    refine p_lv [2, 3, 4, 1, 0] rfl ?_
    obtain ⟨e20, hl41, h⟩ := bnd_some h
    have hX41_107 : ∀ (v21 : Int), v21 = e20 → PT Γ 5 shW 107 σ29 [(0, .ref (ga Γ 0)), (1, .int (zJ u1_29)), (2, .int (zJ u2_29)), (3, .int (zJ v7)), (4, .int (zJ v21))] [] := by
      intro v21 he
      subst he
      exact j107 _ _ _ _ _ h
    refine lup_walk (s := (0 : Int)) (At := fun s : Int => PT Γ 5 shW 41 σ29 [(0, .ref (ga Γ 0)), (1, .int (zJ u1_29)), (2, .int (zJ u2_29)), (3, .int (zJ v7)), (4, .int (zJ s))] []) (fun u4_41 r hf hin41 hout41 => ?_) hl41
    have h : x_X7_layOut_b41 σ29 u1_29 u2_29 v7 u4_41 = some r := hf
    clear hf
    unfold x_X7_layOut_b41 at h
    refine (?_ : PT Γ 5 shW 41 σ29 [(0, .ref (ga Γ 0)), (1, .int (zJ u1_29)), (2, .int (zJ u2_29)), (3, .int (zJ v7)), (4, .int (zJ u4_41))] [])
    refine p_iload G 4 rfl dX7_layOut_41 ?_
    refine p_aload_n G rfl 0 rfl dX7_layOut_43 ?_
    refine p_get G dX7_layOut_44 fl_X7_111 (k := 0) rfl rfl ?_
    refine p_icmpge (tgt := 107) G dX7_layOut_47 (by decide) h (fun c18 h => ?_) (fun c18 h => ?_)
    · have he := hout41 _ (Option.some.inj h).symm
      subst he
      exact hX41_107 _ rfl
    · refine p_aload_n G rfl 0 rfl dX7_layOut_50 ?_
      refine p_get G dX7_layOut_51 fl_X7_38 (k := 0) rfl rfl ?_
      refine p_iload G 4 rfl dX7_layOut_54 ?_
      refine p_iald G dX7_layOut_56 (k := 21) rfl (zt_c _) h (fun c8 h => ?_)
      refine p_iload_n G rfl 3 rfl dX7_layOut_57 ?_
      refine p_iand G dX7_layOut_58 ?_
      refine p_ifeq (tgt := 101) G dX7_layOut_59 (by decide) h (fun c17 h => ?_) (fun c17 h => ?_)
      · refine p_iinc (lv' := fun v9 => [(4, .int (zJ v9)), (0, .ref (ga Γ 0)), (1, .int (zJ u1_29)), (2, .int (zJ u2_29)), (3, .int (zJ v7))]) G dX7_layOut_101 h 4 rfl (by decide) (fun _ => rfl) (fun v9 h => ?_)
        refine p_goto (tgt := 41) G dX7_layOut_104 (by decide) ?_
        refine p_lv [1, 2, 3, 4, 0] rfl ?_
        exact hin41 _ (Option.some.inj h).symm
      · refine p_aload_n G rfl 0 rfl dX7_layOut_62 ?_
        refine p_get G dX7_layOut_63 fl_X7_38 (k := 0) rfl rfl ?_
        refine p_iload G 4 rfl dX7_layOut_66 ?_
        refine p_iald G dX7_layOut_68 (k := 21) rfl (zt_c _) h (fun c10 h => ?_)
        refine p_iload_n G rfl 1 rfl dX7_layOut_69 ?_
        refine p_iconst G rfl dX7_layOut_70 ?_
        refine p_ixor G dX7_layOut_71 ?_
        refine p_iand G dX7_layOut_72 ?_
        refine p_ifne (tgt := 101) G dX7_layOut_73 (by decide) h (fun c16 h => ?_) (fun c16 h => ?_)
        · refine p_iinc (lv' := fun v11 => [(4, .int (zJ v11)), (0, .ref (ga Γ 0)), (1, .int (zJ u1_29)), (2, .int (zJ u2_29)), (3, .int (zJ v7))]) G dX7_layOut_101 h 4 rfl (by decide) (fun _ => rfl) (fun v11 h => ?_)
          refine p_goto (tgt := 41) G dX7_layOut_104 (by decide) ?_
          refine p_lv [1, 2, 3, 4, 0] rfl ?_
          exact hin41 _ (Option.some.inj h).symm
        · refine p_iload_n G rfl 2 rfl dX7_layOut_76 ?_
          refine p_aload_n G rfl 0 rfl dX7_layOut_77 ?_
          refine p_get G dX7_layOut_78 fl_X7_41 (k := 0) rfl rfl ?_
          refine p_iload_n G rfl 1 rfl dX7_layOut_81 ?_
          refine p_aload_n G rfl 0 rfl dX7_layOut_82 ?_
          refine p_get G dX7_layOut_83 fl_X7_38 (k := 0) rfl rfl ?_
          refine p_iload G 4 rfl dX7_layOut_86 ?_
          refine p_iald G dX7_layOut_88 (k := 21) rfl (zt_c _) h (fun c12 h => ?_)
          refine p_iconst G rfl dX7_layOut_89 ?_
          refine p_ixor G dX7_layOut_90 ?_
          refine p_iand G dX7_layOut_91 ?_
          refine p_iald G dX7_layOut_92 (k := 22) rfl (zt_c _) h (fun c13 h => ?_)
          refine p_iadd G dX7_layOut_93 ?_
          refine p_aload_n G rfl 0 rfl dX7_layOut_94 ?_
          refine p_get G dX7_layOut_95 fl_X7_134 (k := 0) rfl rfl ?_
          refine p_icmple (tgt := 107) G dX7_layOut_98 (by decide) h (fun c15 h => ?_) (fun c15 h => ?_)
          · have he := hout41 _ (Option.some.inj h).symm
            subst he
            exact hX41_107 _ rfl
          · refine p_iinc (lv' := fun v14 => [(4, .int (zJ v14)), (0, .ref (ga Γ 0)), (1, .int (zJ u1_29)), (2, .int (zJ u2_29)), (3, .int (zJ v7))]) G dX7_layOut_101 h 4 rfl (by decide) (fun _ => rfl) (fun v14 h => ?_)
            refine p_goto (tgt := 41) G dX7_layOut_104 (by decide) ?_
            refine p_lv [1, 2, 3, 4, 0] rfl ?_
            exact hin41 _ (Option.some.inj h).symm
set_option maxHeartbeats 4000000 in
set_option maxRecDepth 100000 in
theorem c_X7_layOutOf (l : Launch) {D : va_G} {yy : Nat → ClassId} {tk tv a : Nat → Nat} {σ : Mm} {p1 : Int} {o : Mm} (h : x_X7_layOutOf σ p1 = some o) : CT l yX7_layOutOf cX7_layOutOf 2 none rm_X7_layOutOf shW D yy tk tv a σ [.ref (a 0), .int (zJ p1)] o none := by
  refine ct_of (Ar := fun a tk => [.ref (a 0), .int (zJ p1)]) (by decide) (Nat.le_of_ble_eq_true rfl) (fun Γ G _ _ hR => ?_)
  have hcs := rt_cs hR
  unfold x_X7_layOutOf at h
  refine (?_ : PT Γ 2 shW 0 σ [(0, .ref (ga Γ 0)), (1, .int (zJ p1))] [])
  refine p_aload_n G rfl 0 rfl dX7_layOutOf_0 ?_
  refine p_iload_n G rfl 1 rfl dX7_layOutOf_1 ?_
  refine p_iconst G rfl dX7_layOutOf_2 ?_
  refine p_iconst G rfl dX7_layOutOf_3 ?_
  obtain ⟨σ1, hc, h⟩ := bnd_some h
  refine p_callVi G dX7_layOutOf_4 lk_X7_148 (c_X7_takeHand (gl Γ) hc) (As := [.int (zJ p1), .int (zJ (-1 : Int)), .int (zJ (-1 : Int))]) (ci := 7) rfl rfl rfl rfl (Nat.le_of_ble_eq_true rfl) ⟨rfl, rfl, Nat.le_of_ble_eq_true rfl, Nat.le_of_ble_eq_true rfl⟩ hcs ?_
  refine p_aload_n G rfl 0 rfl dX7_layOutOf_7 ?_
  obtain ⟨σ2, hc, h⟩ := bnd_some h
  refine p_callVi G dX7_layOutOf_8 lk_X7_152 (c_X7_layOut (gl Γ) hc) (As := []) (ci := 7) rfl rfl rfl rfl (Nat.le_of_ble_eq_true rfl) ⟨rfl, rfl, Nat.le_of_ble_eq_true rfl, Nat.le_of_ble_eq_true rfl⟩ hcs ?_
  (cases h; exact p_vret G hR dX7_layOutOf_11 rfl rfl)
set_option maxHeartbeats 4000000 in
set_option maxRecDepth 100000 in
theorem c_X7_lowest (l : Launch) {D : va_G} {yy : Nat → ClassId} {tk tv a : Nat → Nat} {σ : Mm} {p0 : Int64} {o : Int} (h : x_X7_lowest p0 = some o) : CT l yX7_lowest cX7_lowest 3 (some .int) rm_X7_lowest shN D yy tk tv a σ [.long p0] σ (some (.int (zJ o))) := by
  refine ct_of (Ar := fun a tk => [.long p0]) (by decide) (Nat.le_of_ble_eq_true rfl) (fun Γ G _ _ hR => ?_)
  have hcs := rt_cs hR
  unfold x_X7_lowest at h
  refine (?_ : PT Γ 3 shN 0 σ [(0, .long p0)] [])
  refine p_iconst G rfl dX7_lowest_0 ?_
  refine p_istore_nU (lv' := [(2, .int (zJ (0 : Int))), (0, .long p0)]) G rfl dX7_lowest_1 (by decide) rfl ?_
  refine p_lv [1, 0] rfl ?_
  obtain ⟨e4, hl2, h⟩ := bnd_some h
  have hX2_18 : ∀ (v5 : Int), v5 = e4 → PT Γ 3 shN 18 σ [(2, .int (zJ v5))] [] := by
    intro v5 he
    subst he
    refine p_iload_n G rfl 0 rfl dX7_lowest_18 ?_
    (cases h; exact p_iret G hR dX7_lowest_19 rfl rfl)
  refine lup_walk (s := (0 : Int)) (At := fun s : Int => PT Γ 3 shN 2 σ [(0, .long p0), (2, .int (zJ s))] []) (fun u2_2 r hf hin2 hout2 => ?_) hl2
  have h : x_X7_lowest_b2 p0 u2_2 = some r := hf
  clear hf
  unfold x_X7_lowest_b2 at h
  refine (?_ : PT Γ 3 shN 2 σ [(0, .long p0), (2, .int (zJ u2_2))] [])
  refine p_lload_n G rfl 0 rfl dX7_lowest_2 ?_
  refine p_iload_n G rfl 1 rfl dX7_lowest_3 ?_
  refine p_lshr G dX7_lowest_4 ?_
  refine p_lconst G (v := 1) (by decide) dX7_lowest_5 ?_
  refine p_land G dX7_lowest_6 ?_
  refine p_lconst G (v := 0) (by decide) dX7_lowest_7 ?_
  refine p_lcmp G dX7_lowest_8 ?_
  refine p_ifne (tgt := 18) G dX7_lowest_9 (by decide) h (fun c2 h => ?_) (fun c2 h => ?_)
  · refine p_lv [1] rfl ?_
    have he := hout2 _ (Option.some.inj h).symm
    subst he
    exact hX2_18 _ rfl
  · refine p_iinc (lv' := fun v1 => [(2, .int (zJ v1)), (0, .long p0)]) G dX7_lowest_12 h 1 rfl (by decide) (fun _ => rfl) (fun v1 h => ?_)
    refine p_goto (tgt := 2) G dX7_lowest_15 (by decide) ?_
    refine p_lv [1, 0] rfl ?_
    exact hin2 _ (Option.some.inj h).symm
set_option maxHeartbeats 4000000 in
set_option maxRecDepth 100000 in
theorem c_X7_isSetOf (l : Launch) {D : va_G} {yy : Nat → ClassId} {tk tv a : Nat → Nat} {σ : Mm} {p0 : Int64} {o : Int} (h : x_X7_isSetOf p0 = some o) : CT l yX7_isSetOf cX7_isSetOf 5 (some .boolean) rm_X7_isSetOf shN D yy tk tv a σ [.long p0] σ (some (.int (zJ o))) := by
  refine ct_of (Ar := fun a tk => [.long p0]) (by decide) (Nat.le_of_ble_eq_true rfl) (fun Γ G _ _ hR => ?_)
  have hcs := rt_cs hR
  unfold x_X7_isSetOf at h
  refine (?_ : PT Γ 5 shN 0 σ [(0, .long p0)] [])
  refine p_lload_n G rfl 0 rfl dX7_isSetOf_0 ?_
  obtain ⟨v1, hc, h⟩ := bnd_some h
  refine p_callS0 G dX7_isSetOf_1 lk_X7_155 (c_X7_lowest (gl Γ) hc) (As := [.long p0]) rfl zk_1 rfl (Nat.le_of_ble_eq_true rfl) ⟨rfl, rfl, Nat.le_of_ble_eq_true rfl, Nat.le_of_ble_eq_true rfl⟩ hcs ?_
  refine p_bipush G (by decide) (by decide) dX7_isSetOf_4 ?_
  refine p_iremK G dX7_isSetOf_6 (by decide) ?_
  refine p_istore_n (lv' := fun v2 => [(2, .int (zJ v2)), (0, .long p0)]) G rfl dX7_isSetOf_7 h (by decide) (fun _ => rfl) (fun v2 h => ?_)
  refine p_lconst G (v := 1) (by decide) dX7_isSetOf_8 ?_
  refine p_iload_n G rfl 0 rfl dX7_isSetOf_9 ?_
  refine p_lshl G dX7_isSetOf_10 ?_
  refine p_lconst G (v := 1) (by decide) dX7_isSetOf_11 ?_
  refine p_iload_n G rfl 0 rfl dX7_isSetOf_12 ?_
  refine p_bipush G (by decide) (by decide) dX7_isSetOf_13 ?_
  refine p_iadd G dX7_isSetOf_15 ?_
  refine p_lshl G dX7_isSetOf_16 ?_
  refine p_lor G dX7_isSetOf_17 ?_
  refine p_lconst G (v := 1) (by decide) dX7_isSetOf_18 ?_
  refine p_iload_n G rfl 0 rfl dX7_isSetOf_19 ?_
  refine p_bipush G (by decide) (by decide) dX7_isSetOf_20 ?_
  refine p_iadd G dX7_isSetOf_22 ?_
  refine p_lshl G dX7_isSetOf_23 ?_
  refine p_lor G dX7_isSetOf_24 ?_
  refine p_lconst G (v := 1) (by decide) dX7_isSetOf_25 ?_
  refine p_iload_n G rfl 0 rfl dX7_isSetOf_26 ?_
  refine p_bipush G (by decide) (by decide) dX7_isSetOf_27 ?_
  refine p_iadd G dX7_isSetOf_29 ?_
  refine p_lshl G dX7_isSetOf_30 ?_
  refine p_lor G dX7_isSetOf_31 ?_
  refine p_lstore_n (lv' := fun v3 => [(3, .long v3), (2, .int (zJ v2)), (0, .long p0)]) G rfl dX7_isSetOf_32 h (by decide) (fun _ => rfl) (fun v3 h => ?_)
  refine p_lload_n G rfl 2 rfl dX7_isSetOf_33 ?_
  refine p_lload_n G rfl 0 rfl dX7_isSetOf_34 ?_
  refine p_ldc2 G gm_1398 dX7_isSetOf_35 ?_
  refine p_lxor G dX7_isSetOf_38 ?_
  refine p_land G dX7_isSetOf_39 ?_
  refine p_lconst G (v := 0) (by decide) dX7_isSetOf_40 ?_
  refine p_lcmp G dX7_isSetOf_41 ?_
  refine p_ifne (tgt := 49) G dX7_isSetOf_42 (by decide) h (fun c4 h => ?_) (fun c4 h => ?_)
  · refine p_iconst G rfl dX7_isSetOf_49 ?_
    (cases h; exact p_zret G hR dX7_isSetOf_50 (by decide) rfl rfl)
  · refine p_iconst G rfl dX7_isSetOf_45 ?_
    refine p_goto (tgt := 50) G dX7_isSetOf_46 (by decide) ?_
    (cases h; exact p_zret G hR dX7_isSetOf_50 (by decide) rfl rfl)
set_option maxHeartbeats 4000000 in
set_option maxRecDepth 100000 in
theorem c_X7_firstOf (l : Launch) {D : va_G} {yy : Nat → ClassId} {tk tv a : Nat → Nat} {σ : Mm} {p0 : Int64} {o : Int} (h : x_X7_firstOf p0 = some o) : CT l yX7_firstOf cX7_firstOf 6 (some .int) rm_X7_firstOf shN D yy tk tv a σ [.long p0] σ (some (.int (zJ o))) := by
  refine ct_of (Ar := fun a tk => [.long p0]) (by decide) (Nat.le_of_ble_eq_true rfl) (fun Γ G _ _ hR => ?_)
  have hcs := rt_cs hR
  unfold x_X7_firstOf at h
  refine (?_ : PT Γ 6 shN 0 σ [(0, .long p0)] [])
  refine p_lload_n G rfl 0 rfl dX7_firstOf_0 ?_
  obtain ⟨v1, hc, h⟩ := bnd_some h
  refine p_callS0 G dX7_firstOf_1 lk_X7_155 (c_X7_lowest (gl Γ) hc) (As := [.long p0]) rfl zk_1 rfl (Nat.le_of_ble_eq_true rfl) ⟨rfl, rfl, Nat.le_of_ble_eq_true rfl, Nat.le_of_ble_eq_true rfl⟩ hcs ?_
  refine p_bipush G (by decide) (by decide) dX7_firstOf_4 ?_
  refine p_idivK G dX7_firstOf_6 (by decide) ?_
  refine p_bipush G (by decide) (by decide) dX7_firstOf_7 ?_
  refine p_imul G dX7_firstOf_9 ?_
  refine p_istore_n (lv' := fun v2 => [(2, .int (zJ v2)), (0, .long p0)]) G rfl dX7_firstOf_10 h (by decide) (fun _ => rfl) (fun v2 h => ?_)
  refine p_iconst G rfl dX7_firstOf_11 ?_
  refine p_istore_nU (lv' := [(3, .int (zJ (0 : Int))), (2, .int (zJ v2)), (0, .long p0)]) G rfl dX7_firstOf_12 (by decide) rfl ?_
  refine p_lv [2, 1, 0] rfl ?_
  obtain ⟨e15, hl13, h⟩ := bnd_some h
  have hX13_75 : ∀ (v16 : Int), (.inl v16) = e15 → PT Γ 6 shN 75 σ [(2, .int (zJ v2)), (3, .int (zJ v16))] [] := by
    intro v16 he
    subst he
    rw [zel_l] at h
    refine p_iload_n G rfl 0 rfl dX7_firstOf_75 ?_
    refine p_iload_n G rfl 1 rfl dX7_firstOf_76 ?_
    refine p_iadd G dX7_firstOf_77 ?_
    (cases h; exact p_iret G hR dX7_firstOf_78 rfl rfl)
  have hX13_85 : ∀ (_ : Unit), (.inr ()) = e15 → PT Γ 6 shN 85 σ [(2, .int (zJ v2))] [] := by
    intro _ he
    subst he
    rw [zel_r] at h
    refine p_iload_n G rfl 0 rfl dX7_firstOf_85 ?_
    (cases h; exact p_iret G hR dX7_firstOf_86 rfl rfl)
  refine lup_walk (s := (0 : Int)) (At := fun s : Int => PT Γ 6 shN 13 σ [(0, .long p0), (2, .int (zJ v2)), (3, .int (zJ s))] []) (fun u3_13 r hf hin13 hout13 => ?_) hl13
  have h : x_X7_firstOf_b13 p0 v2 u3_13 = some r := hf
  clear hf
  have j36 : ∀ (v3_36 : Int) (w0_36 : Int), x_X7_firstOf_j36_13 p0 v2 v3_36 w0_36 = some r → PT Γ 6 shN 36 σ [(0, .long p0), (2, .int (zJ v2)), (3, .int (zJ v3_36))] [.int (zJ w0_36)] := by
    intro v3_36 w0_36 h
    unfold x_X7_firstOf_j36_13 at h
    refine p_istoreU (lv' := [(4, .int (zJ w0_36)), (0, .long p0), (2, .int (zJ v2)), (3, .int (zJ v3_36))]) G dX7_firstOf_36 (by decide) rfl ?_
    refine p_lload_n G rfl 1 rfl dX7_firstOf_38 ?_
    refine p_iload_n G rfl 2 rfl dX7_firstOf_39 ?_
    refine p_iload_n G rfl 3 rfl dX7_firstOf_40 ?_
    refine p_bipush G (by decide) (by decide) dX7_firstOf_41 ?_
    refine p_iadd G dX7_firstOf_43 ?_
    refine p_iconst G rfl dX7_firstOf_44 ?_
    refine p_isub G dX7_firstOf_45 ?_
    refine p_bipush G (by decide) (by decide) dX7_firstOf_46 ?_
    refine p_iremK G dX7_firstOf_48 (by decide) ?_
    refine p_iadd G dX7_firstOf_49 ?_
    refine p_lshr G dX7_firstOf_50 ?_
    refine p_lconst G (v := 1) (by decide) dX7_firstOf_51 ?_
    refine p_land G dX7_firstOf_52 ?_
    refine p_lconst G (v := 1) (by decide) dX7_firstOf_53 ?_
    refine p_lcmp G dX7_firstOf_54 ?_
    refine p_ifne (tgt := 62) G dX7_firstOf_55 (by decide) h (fun c11 h => ?_) (fun c11 h => ?_)
    · refine p_iconst G rfl dX7_firstOf_62 ?_
      refine p_istoreU (lv' := [(5, .int (zJ (0 : Int))), (4, .int (zJ w0_36)), (0, .long p0), (2, .int (zJ v2)), (3, .int (zJ v3_36))]) G dX7_firstOf_63 (by decide) rfl ?_
      refine p_iload G 1 rfl dX7_firstOf_65 ?_
      refine p_ifeq (tgt := 79) G dX7_firstOf_67 (by decide) h (fun c6 h => ?_) (fun c6 h => ?_)
      · refine p_iinc (lv' := fun v3 => [(3, .int (zJ v3)), (5, .int (zJ (0 : Int))), (4, .int (zJ w0_36)), (0, .long p0), (2, .int (zJ v2))]) G dX7_firstOf_79 h 4 rfl (by decide) (fun _ => rfl) (fun v3 h => ?_)
        refine p_goto (tgt := 13) G dX7_firstOf_82 (by decide) ?_
        refine p_lv [3, 4, 0] rfl ?_
        exact hin13 _ (Option.some.inj h).symm
      · refine p_iload G 0 rfl dX7_firstOf_70 ?_
        refine p_ifne (tgt := 79) G dX7_firstOf_72 (by decide) h (fun c5 h => ?_) (fun c5 h => ?_)
        · refine p_iinc (lv' := fun v4 => [(3, .int (zJ v4)), (5, .int (zJ (0 : Int))), (4, .int (zJ w0_36)), (0, .long p0), (2, .int (zJ v2))]) G dX7_firstOf_79 h 4 rfl (by decide) (fun _ => rfl) (fun v4 h => ?_)
          refine p_goto (tgt := 13) G dX7_firstOf_82 (by decide) ?_
          refine p_lv [3, 4, 0] rfl ?_
          exact hin13 _ (Option.some.inj h).symm
        · refine p_lv [3, 4] rfl ?_
          have he := hout13 _ (Option.some.inj h).symm
          subst he
          exact hX13_75 _ rfl
    · refine p_iconst G rfl dX7_firstOf_58 ?_
      refine p_goto (tgt := 63) G dX7_firstOf_59 (by decide) ?_
      refine p_istoreU (lv' := [(5, .int (zJ (1 : Int))), (4, .int (zJ w0_36)), (0, .long p0), (2, .int (zJ v2)), (3, .int (zJ v3_36))]) G dX7_firstOf_63 (by decide) rfl ?_
      refine p_iload G 1 rfl dX7_firstOf_65 ?_
      refine p_ifeq (tgt := 79) G dX7_firstOf_67 (by decide) h (fun c10 h => ?_) (fun c10 h => ?_)
      · refine p_iinc (lv' := fun v7 => [(3, .int (zJ v7)), (5, .int (zJ (1 : Int))), (4, .int (zJ w0_36)), (0, .long p0), (2, .int (zJ v2))]) G dX7_firstOf_79 h 4 rfl (by decide) (fun _ => rfl) (fun v7 h => ?_)
        refine p_goto (tgt := 13) G dX7_firstOf_82 (by decide) ?_
        refine p_lv [3, 4, 0] rfl ?_
        exact hin13 _ (Option.some.inj h).symm
      · refine p_iload G 0 rfl dX7_firstOf_70 ?_
        refine p_ifne (tgt := 79) G dX7_firstOf_72 (by decide) h (fun c9 h => ?_) (fun c9 h => ?_)
        · refine p_iinc (lv' := fun v8 => [(3, .int (zJ v8)), (5, .int (zJ (1 : Int))), (4, .int (zJ w0_36)), (0, .long p0), (2, .int (zJ v2))]) G dX7_firstOf_79 h 4 rfl (by decide) (fun _ => rfl) (fun v8 h => ?_)
          refine p_goto (tgt := 13) G dX7_firstOf_82 (by decide) ?_
          refine p_lv [3, 4, 0] rfl ?_
          exact hin13 _ (Option.some.inj h).symm
        · refine p_lv [3, 4] rfl ?_
          have he := hout13 _ (Option.some.inj h).symm
          subst he
          exact hX13_75 _ rfl
  unfold x_X7_firstOf_b13 at h
  refine (?_ : PT Γ 6 shN 13 σ [(0, .long p0), (2, .int (zJ v2)), (3, .int (zJ u3_13))] [])
  refine p_iload_n G rfl 2 rfl dX7_firstOf_13 ?_
  refine p_bipush G (by decide) (by decide) dX7_firstOf_14 ?_
  refine p_icmpge (tgt := 85) G dX7_firstOf_16 (by decide) h (fun c13 h => ?_) (fun c13 h => ?_)
  · refine p_lv [1] rfl ?_
    have he := hout13 _ (Option.some.inj h).symm
    subst he
    exact hX13_85 () rfl
  · refine p_lload_n G rfl 0 rfl dX7_firstOf_19 ?_
    refine p_iload_n G rfl 1 rfl dX7_firstOf_20 ?_
    refine p_iload_n G rfl 2 rfl dX7_firstOf_21 ?_
    refine p_iadd G dX7_firstOf_22 ?_
    refine p_lshr G dX7_firstOf_23 ?_
    refine p_lconst G (v := 1) (by decide) dX7_firstOf_24 ?_
    refine p_land G dX7_firstOf_25 ?_
    refine p_lconst G (v := 1) (by decide) dX7_firstOf_26 ?_
    refine p_lcmp G dX7_firstOf_27 ?_
    refine p_ifne (tgt := 35) G dX7_firstOf_28 (by decide) h (fun c12 h => ?_) (fun c12 h => ?_)
    · refine p_iconst G rfl dX7_firstOf_35 ?_
      exact j36 _ _ h
    · refine p_iconst G rfl dX7_firstOf_31 ?_
      refine p_goto (tgt := 36) G dX7_firstOf_32 (by decide) ?_
      exact j36 _ _ h
set_option maxHeartbeats 4000000 in
set_option maxRecDepth 100000 in
theorem c_X7_takes (l : Launch) {D : va_G} {yy : Nat → ClassId} {tk tv a : Nat → Nat} {σ : Mm} {p0 : Int64} {p2 : Int} {o : Int} (h : x_X7_takes p0 p2 = some o) : CT l yX7_takes cX7_takes 6 (some .boolean) rm_X7_takes shN D yy tk tv a σ [.long p0, .int (zJ p2)] σ (some (.int (zJ o))) := by
  refine ct_of (Ar := fun a tk => [.long p0, .int (zJ p2)]) (by decide) (Nat.le_of_ble_eq_true rfl) (fun Γ G _ _ hR => ?_)
  have hcs := rt_cs hR
  unfold x_X7_takes at h
  refine (?_ : PT Γ 6 shN 0 σ [(0, .long p0), (2, .int (zJ p2))] [])
  refine p_lload_n G rfl 0 rfl dX7_takes_0 ?_
  obtain ⟨v1, hc, h⟩ := bnd_some h
  refine p_callS0 G dX7_takes_1 lk_X7_160 (c_X7_isSetOf (gl Γ) hc) (As := [.long p0]) rfl zk_1 rfl (Nat.le_of_ble_eq_true rfl) ⟨rfl, rfl, Nat.le_of_ble_eq_true rfl, Nat.le_of_ble_eq_true rfl⟩ hcs ?_
  refine p_ifeq (tgt := 32) G dX7_takes_4 (by decide) h (fun c17 h => ?_) (fun c17 h => ?_)
  · refine p_lload_n G rfl 0 rfl dX7_takes_32 ?_
    obtain ⟨v2, hc, h⟩ := bnd_some h
    refine p_callS0 G dX7_takes_33 lk_X7_155 (c_X7_lowest (gl Γ) hc) (As := [.long p0]) rfl zk_1 rfl (Nat.le_of_ble_eq_true rfl) ⟨rfl, rfl, Nat.le_of_ble_eq_true rfl, Nat.le_of_ble_eq_true rfl⟩ hcs ?_
    refine p_bipush G (by decide) (by decide) dX7_takes_36 ?_
    refine p_idivK G dX7_takes_38 (by decide) ?_
    refine p_bipush G (by decide) (by decide) dX7_takes_39 ?_
    refine p_imul G dX7_takes_41 ?_
    refine p_istore_n (lv' := fun v3 => [(3, .int (zJ v3)), (0, .long p0), (2, .int (zJ p2))]) G rfl dX7_takes_42 h (by decide) (fun _ => rfl) (fun v3 h => ?_)
    refine p_lload_n G rfl 1 rfl dX7_takes_43 ?_
    obtain ⟨v4, hc, h⟩ := bnd_some h
    refine p_callS0 G dX7_takes_44 lk_X7_103 (c_X7_ones (gl Γ) hc) (As := [.long p0]) rfl zk_1 rfl (Nat.le_of_ble_eq_true rfl) ⟨rfl, rfl, Nat.le_of_ble_eq_true rfl, Nat.le_of_ble_eq_true rfl⟩ hcs ?_
    refine p_bipush G (by decide) (by decide) dX7_takes_47 ?_
    refine p_icmpeq (tgt := 63) G dX7_takes_49 (by decide) h (fun c12 h => ?_) (fun c12 h => ?_)
    · refine p_iconst G rfl dX7_takes_63 ?_
      (cases h; exact p_zret G hR dX7_takes_64 (by decide) rfl rfl)
    · refine p_iload_n G rfl 2 rfl dX7_takes_52 ?_
      refine p_bipush G (by decide) (by decide) dX7_takes_53 ?_
      refine p_idivK G dX7_takes_55 (by decide) ?_
      refine p_bipush G (by decide) (by decide) dX7_takes_56 ?_
      refine p_imul G dX7_takes_58 ?_
      refine p_iload_n G rfl 0 rfl dX7_takes_59 ?_
      refine p_icmpeq (tgt := 65) G dX7_takes_60 (by decide) h (fun c11 h => ?_) (fun c11 h => ?_)
      · refine p_lload_n G rfl 1 rfl dX7_takes_65 ?_
        obtain ⟨v5, hc, h⟩ := bnd_some h
        refine p_callS0 G dX7_takes_66 lk_X7_164 (c_X7_firstOf (gl Γ) hc) (As := [.long p0]) rfl zk_1 rfl (Nat.le_of_ble_eq_true rfl) ⟨rfl, rfl, Nat.le_of_ble_eq_true rfl, Nat.le_of_ble_eq_true rfl⟩ hcs ?_
        refine p_bipush G (by decide) (by decide) dX7_takes_69 ?_
        refine p_iremK G dX7_takes_71 (by decide) ?_
        refine p_istore (lv' := fun v6 => [(4, .int (zJ v6)), (3, .int (zJ v3)), (0, .long p0), (2, .int (zJ p2))]) G dX7_takes_72 h (by decide) (fun _ => rfl) (fun v6 h => ?_)
        refine p_iload_n G rfl 3 rfl dX7_takes_74 ?_
        refine p_bipush G (by decide) (by decide) dX7_takes_75 ?_
        refine p_iremK G dX7_takes_77 (by decide) ?_
        refine p_istore (lv' := fun v7 => [(5, .int (zJ v7)), (4, .int (zJ v6)), (3, .int (zJ v3)), (0, .long p0), (2, .int (zJ p2))]) G dX7_takes_78 h (by decide) (fun _ => rfl) (fun v7 h => ?_)
        refine p_iload G 0 rfl dX7_takes_80 ?_
        refine p_iload G 1 rfl dX7_takes_82 ?_
        refine p_bipush G (by decide) (by decide) dX7_takes_84 ?_
        refine p_iadd G dX7_takes_86 ?_
        refine p_iconst G rfl dX7_takes_87 ?_
        refine p_isub G dX7_takes_88 ?_
        refine p_bipush G (by decide) (by decide) dX7_takes_89 ?_
        refine p_iremK G dX7_takes_91 (by decide) ?_
        refine p_icmpeq (tgt := 110) G dX7_takes_92 (by decide) h (fun c10 h => ?_) (fun c10 h => ?_)
        · refine p_iconst G rfl dX7_takes_110 ?_
          refine p_goto (tgt := 115) G dX7_takes_111 (by decide) ?_
          (cases h; exact p_zret G hR dX7_takes_115 (by decide) rfl rfl)
        · refine p_iload G 0 rfl dX7_takes_95 ?_
          refine p_iload G 1 rfl dX7_takes_97 ?_
          refine p_lload_n G rfl 3 rfl dX7_takes_99 ?_
          obtain ⟨v8, hc, h⟩ := bnd_some h
          refine p_callS0 G dX7_takes_100 lk_X7_103 (c_X7_ones (gl Γ) hc) (As := [.long p0]) rfl zk_1 rfl (Nat.le_of_ble_eq_true rfl) ⟨rfl, rfl, Nat.le_of_ble_eq_true rfl, Nat.le_of_ble_eq_true rfl⟩ hcs ?_
          refine p_iadd G dX7_takes_103 ?_
          refine p_bipush G (by decide) (by decide) dX7_takes_104 ?_
          refine p_iremK G dX7_takes_106 (by decide) ?_
          refine p_icmpne (tgt := 114) G dX7_takes_107 (by decide) h (fun c9 h => ?_) (fun c9 h => ?_)
          · refine p_iconst G rfl dX7_takes_114 ?_
            (cases h; exact p_zret G hR dX7_takes_115 (by decide) rfl rfl)
          · refine p_iconst G rfl dX7_takes_110 ?_
            refine p_goto (tgt := 115) G dX7_takes_111 (by decide) ?_
            (cases h; exact p_zret G hR dX7_takes_115 (by decide) rfl rfl)
      · refine p_iconst G rfl dX7_takes_63 ?_
        (cases h; exact p_zret G hR dX7_takes_64 (by decide) rfl rfl)
  · refine p_lload_n G rfl 0 rfl dX7_takes_7 ?_
    obtain ⟨v13, hc, h⟩ := bnd_some h
    refine p_callS0 G dX7_takes_8 lk_X7_103 (c_X7_ones (gl Γ) hc) (As := [.long p0]) rfl zk_1 rfl (Nat.le_of_ble_eq_true rfl) ⟨rfl, rfl, Nat.le_of_ble_eq_true rfl, Nat.le_of_ble_eq_true rfl⟩ hcs ?_
    refine p_iconst G rfl dX7_takes_11 ?_
    refine p_icmpne (tgt := 30) G dX7_takes_12 (by decide) h (fun c16 h => ?_) (fun c16 h => ?_)
    · refine p_iconst G rfl dX7_takes_30 ?_
      (cases h; exact p_zret G hR dX7_takes_31 (by decide) rfl rfl)
    · refine p_lload_n G rfl 0 rfl dX7_takes_15 ?_
      refine p_lconst G (v := 1) (by decide) dX7_takes_16 ?_
      refine p_iload_n G rfl 1 rfl dX7_takes_17 ?_
      refine p_lshl G dX7_takes_18 ?_
      refine p_lor G dX7_takes_19 ?_
      obtain ⟨v14, hc, h⟩ := bnd_some h
      refine p_callS0 G dX7_takes_20 lk_X7_160 (c_X7_isSetOf (gl Γ) hc) (As := [.long (p0 ||| (zlshl (1 : Int64) p2))]) rfl zk_1 rfl (Nat.le_of_ble_eq_true rfl) ⟨rfl, rfl, Nat.le_of_ble_eq_true rfl, Nat.le_of_ble_eq_true rfl⟩ hcs ?_
      refine p_ifeq (tgt := 30) G dX7_takes_23 (by decide) h (fun c15 h => ?_) (fun c15 h => ?_)
      · refine p_iconst G rfl dX7_takes_30 ?_
        (cases h; exact p_zret G hR dX7_takes_31 (by decide) rfl rfl)
      · refine p_iconst G rfl dX7_takes_26 ?_
        refine p_goto (tgt := 31) G dX7_takes_27 (by decide) ?_
        (cases h; exact p_zret G hR dX7_takes_31 (by decide) rfl rfl)
set_option maxHeartbeats 4000000 in
set_option maxRecDepth 100000 in
theorem c_X7_nextAdded (l : Launch) {D : va_G} {yy : Nat → ClassId} {tk tv a : Nat → Nat} {σ : Mm} {o : Int} (h : x_X7_nextAdded σ = some o) : CT l yX7_nextAdded cX7_nextAdded 3 (some .int) rm_X7_nextAdded shW D yy tk tv a σ [.ref (a 0)] σ (some (.int (zJ o))) := by
  refine ct_of (Ar := fun a tk => [.ref (a 0)]) (by decide) (Nat.le_of_ble_eq_true rfl) (fun Γ G _ _ hR => ?_)
  have hcs := rt_cs hR
  unfold x_X7_nextAdded at h
  refine (?_ : PT Γ 3 shW 0 σ [(0, .ref (ga Γ 0))] [])
  refine p_iconst G rfl dX7_nextAdded_0 ?_
  refine p_istore_nU (lv' := [(1, .int (zJ (0 : Int))), (0, .ref (ga Γ 0))]) G rfl dX7_nextAdded_1 (by decide) rfl ?_
  refine p_lv [1, 0] rfl ?_
  obtain ⟨e13, hl2, h⟩ := bnd_some h
  have hX2_44 : ∀ (v14 : Int) (v15 : Int), (.inl (v14, v15)) = e13 → PT Γ 3 shW 44 σ [(1, .int (zJ v14)), (2, .int (zJ v15))] [] := by
    intro v14 v15 he
    subst he
    rw [zel_l] at h
    rw [un2_mk] at h
    refine p_bipush G (by decide) (by decide) dX7_nextAdded_44 ?_
    refine p_iload_n G rfl 0 rfl dX7_nextAdded_46 ?_
    refine p_imul G dX7_nextAdded_47 ?_
    refine p_iload_n G rfl 1 rfl dX7_nextAdded_48 ?_
    refine p_iadd G dX7_nextAdded_49 ?_
    (cases h; exact p_iret G hR dX7_nextAdded_50 rfl rfl)
  have hX2_63 : ∀ (_ : Unit), (.inr ()) = e13 → PT Γ 3 shW 63 σ [] [] := by
    intro _ he
    subst he
    rw [zel_r] at h
    refine p_iconst G rfl dX7_nextAdded_63 ?_
    (cases h; exact p_iret G hR dX7_nextAdded_64 rfl rfl)
  refine lup_walk (s := (0 : Int)) (At := fun s : Int => PT Γ 3 shW 2 σ [(0, .ref (ga Γ 0)), (1, .int (zJ s))] []) (fun u1_2 r hf hin2 hout2 => ?_) hl2
  have h : x_X7_nextAdded_b2 σ u1_2 = some r := hf
  clear hf
  unfold x_X7_nextAdded_b2 at h
  refine (?_ : PT Γ 3 shW 2 σ [(0, .ref (ga Γ 0)), (1, .int (zJ u1_2))] [])
  refine p_iload_n G rfl 1 rfl dX7_nextAdded_2 ?_
  refine p_bipush G (by decide) (by decide) dX7_nextAdded_3 ?_
  refine p_icmpge (tgt := 63) G dX7_nextAdded_5 (by decide) h (fun c11 h => ?_) (fun c11 h => ?_)
  · refine p_lv [] rfl ?_
    have he := hout2 _ (Option.some.inj h).symm
    subst he
    exact hX2_63 () rfl
  · refine p_iconst G rfl dX7_nextAdded_8 ?_
    refine p_istore_nU (lv' := [(2, .int (zJ (0 : Int))), (0, .ref (ga Γ 0)), (1, .int (zJ u1_2))]) G rfl dX7_nextAdded_9 (by decide) rfl ?_
    refine p_lv [1, 2, 0] rfl ?_
    obtain ⟨e8, hl10, h⟩ := bnd_some h
    have hX10_44 : ∀ (v9 : Int), (.inl v9) = e8 → PT Γ 3 shW 44 σ [(1, .int (zJ u1_2)), (2, .int (zJ v9))] [] := by
      intro v9 he
      subst he
      rw [zel_l] at h
      have he := hout2 _ (Option.some.inj h).symm
      subst he
      exact hX2_44 _ _ rfl
    have hX10_57 : ∀ (_ : Unit), (.inr ()) = e8 → PT Γ 3 shW 57 σ [(0, .ref (ga Γ 0)), (1, .int (zJ u1_2))] [] := by
      intro _ he
      subst he
      rw [zel_r] at h
      refine p_iinc (lv' := fun v10 => [(1, .int (zJ v10)), (0, .ref (ga Γ 0))]) G dX7_nextAdded_57 h 1 rfl (by decide) (fun _ => rfl) (fun v10 h => ?_)
      refine p_goto (tgt := 2) G dX7_nextAdded_60 (by decide) ?_
      refine p_lv [1, 0] rfl ?_
      exact hin2 _ (Option.some.inj h).symm
    refine lup_walk (s := (0 : Int)) (At := fun s : Int => PT Γ 3 shW 10 σ [(0, .ref (ga Γ 0)), (1, .int (zJ u1_2)), (2, .int (zJ s))] []) (fun u2_10 r hf hin10 hout10 => ?_) hl10
    have h : x_X7_nextAdded_b10 σ u1_2 u2_10 = some r := hf
    clear hf
    unfold x_X7_nextAdded_b10 at h
    refine (?_ : PT Γ 3 shW 10 σ [(0, .ref (ga Γ 0)), (1, .int (zJ u1_2)), (2, .int (zJ u2_10))] [])
    refine p_iload_n G rfl 2 rfl dX7_nextAdded_10 ?_
    refine p_aload_n G rfl 0 rfl dX7_nextAdded_11 ?_
    refine p_get G dX7_nextAdded_12 fl_X7_167 (k := 0) rfl rfl ?_
    refine p_icmpge (tgt := 57) G dX7_nextAdded_15 (by decide) h (fun c6 h => ?_) (fun c6 h => ?_)
    · refine p_lv [0, 1] rfl ?_
      have he := hout10 _ (Option.some.inj h).symm
      subst he
      exact hX10_57 () rfl
    · refine p_aload_n G rfl 0 rfl dX7_nextAdded_18 ?_
      refine p_get G dX7_nextAdded_19 fl_X7_140 (k := 0) rfl rfl ?_
      refine p_iload_n G rfl 1 rfl dX7_nextAdded_22 ?_
      refine p_lshr G dX7_nextAdded_23 ?_
      refine p_lconst G (v := 1) (by decide) dX7_nextAdded_24 ?_
      refine p_land G dX7_nextAdded_25 ?_
      refine p_lconst G (v := 1) (by decide) dX7_nextAdded_26 ?_
      refine p_lcmp G dX7_nextAdded_27 ?_
      refine p_ifne (tgt := 57) G dX7_nextAdded_28 (by decide) h (fun c5 h => ?_) (fun c5 h => ?_)
      · refine p_lv [0, 1] rfl ?_
        have he := hout10 _ (Option.some.inj h).symm
        subst he
        exact hX10_57 () rfl
      · refine p_aload_n G rfl 0 rfl dX7_nextAdded_31 ?_
        refine p_get G dX7_nextAdded_32 fl_X7_48 (k := 0) rfl rfl ?_
        refine p_iload_n G rfl 2 rfl dX7_nextAdded_35 ?_
        refine p_lald G dX7_nextAdded_36 (k := 24) rfl (zt_c _) h (fun c1 h => ?_)
        refine p_iload_n G rfl 1 rfl dX7_nextAdded_37 ?_
        obtain ⟨v2, hc, h⟩ := bnd_some h
        refine p_callS0 G dX7_nextAdded_38 lk_X7_170 (c_X7_takes (gl Γ) hc) (As := [.long (zL (σ 24 (zix u2_10))), .int (zJ u1_2)]) rfl zk_29 rfl (Nat.le_of_ble_eq_true rfl) ⟨rfl, rfl, Nat.le_of_ble_eq_true rfl, Nat.le_of_ble_eq_true rfl⟩ hcs ?_
        refine p_ifeq (tgt := 51) G dX7_nextAdded_41 (by decide) h (fun c4 h => ?_) (fun c4 h => ?_)
        · refine p_iinc (lv' := fun v3 => [(2, .int (zJ v3)), (0, .ref (ga Γ 0)), (1, .int (zJ u1_2))]) G dX7_nextAdded_51 h 2 rfl (by decide) (fun _ => rfl) (fun v3 h => ?_)
          refine p_goto (tgt := 10) G dX7_nextAdded_54 (by decide) ?_
          refine p_lv [1, 2, 0] rfl ?_
          exact hin10 _ (Option.some.inj h).symm
        · refine p_lv [1, 2] rfl ?_
          have he := hout10 _ (Option.some.inj h).symm
          subst he
          exact hX10_44 _ rfl
set_option maxHeartbeats 4000000 in
set_option maxRecDepth 100000 in
theorem c_X7_findKnock (l : Launch) {D : va_G} {yy : Nat → ClassId} {tk tv a : Nat → Nat} {σ : Mm} {p1 : Int} {o : Mm} (h : x_X7_findKnock σ p1 = some o) : CT l yX7_findKnock cX7_findKnock 3 none rm_X7_findKnock shW D yy tk tv a σ [.ref (a 0), .int (zJ p1)] o none := by
  refine ct_of (Ar := fun a tk => [.ref (a 0), .int (zJ p1)]) (by decide) (Nat.le_of_ble_eq_true rfl) (fun Γ G _ _ hR => ?_)
  have hcs := rt_cs hR
  unfold x_X7_findKnock at h
  refine (?_ : PT Γ 3 shW 0 σ [(0, .ref (ga Γ 0)), (1, .int (zJ p1))] [])
  have j92 : ∀ (σ_92 : Mm) (w0_92 : Int), x_X7_findKnock_j92 σ_92 w0_92 = some o → PT Γ 3 shW 92 σ_92 [(0, .ref (ga Γ 0))] [.int (zJ w0_92)] := by
    intro σ_92 w0_92 h
    unfold x_X7_findKnock_j92 at h
    refine p_istore_nU (lv' := [(2, .int (zJ w0_92)), (0, .ref (ga Γ 0))]) G rfl dX7_findKnock_92 (by decide) rfl ?_
    refine p_lv [1, 0] rfl ?_
    obtain ⟨e25, hl93, h⟩ := bnd_some h
    have hX93_153 : ∀ (σ26 : Mm), σ26 = e25 → PT Γ 3 shW 153 σ26 [(0, .ref (ga Γ 0))] [] := by
      intro σ26 he
      subst he
      refine p_aload_n G rfl 0 rfl dX7_findKnock_153 ?_
      refine p_aload_n G rfl 0 rfl dX7_findKnock_154 ?_
      refine p_get G dX7_findKnock_155 fl_X7_140 (k := 0) rfl rfl ?_
      obtain ⟨v27, hc, h⟩ := bnd_some h
      refine p_callS0 G dX7_findKnock_158 lk_X7_186 (c_X7_pointsOf (gl Γ) hc) (As := [.long (zL (σ26 0 18))]) rfl zk_29 rfl (Nat.le_of_ble_eq_true rfl) ⟨rfl, rfl, Nat.le_of_ble_eq_true rfl, Nat.le_of_ble_eq_true rfl⟩ hcs ?_
      refine p_putI G dX7_findKnock_161 fp_X7_189 (k := 0) rfl rfl rfl rfl h (fun σ28 h => ?_)
      (cases h; exact p_vret G hR dX7_findKnock_164 rfl rfl)
    refine lup_walk (s := (σ_92, w0_92)) (At := fun s : Mm × Int => PT Γ 3 shW 93 s.1 [(0, .ref (ga Γ 0)), (2, .int (zJ s.2))] []) (fun s r hf hin93 hout93 => ?_) hl93
    obtain ⟨σ93, u2_93⟩ := s
    have h : x_X7_findKnock_b93 σ93 u2_93 = some r := hf
    clear hf
    unfold x_X7_findKnock_b93 at h
    refine (?_ : PT Γ 3 shW 93 σ93 [(0, .ref (ga Γ 0)), (2, .int (zJ u2_93))] [])
    refine p_iload_n G rfl 1 rfl dX7_findKnock_93 ?_
    refine p_iconst G rfl dX7_findKnock_94 ?_
    refine p_icmpeq (tgt := 153) G dX7_findKnock_95 (by decide) h (fun c23 h => ?_) (fun c23 h => ?_)
    · refine p_lv [0] rfl ?_
      have he := hout93 _ (Option.some.inj h).symm
      subst he
      exact hX93_153 _ rfl
    · refine p_aload_n G rfl 0 rfl dX7_findKnock_98 ?_
      refine p_get G dX7_findKnock_99 fl_X7_48 (k := 0) rfl rfl ?_
      refine p_iload_n G rfl 1 rfl dX7_findKnock_102 ?_
      refine p_bipush G (by decide) (by decide) dX7_findKnock_103 ?_
      refine p_iremK G dX7_findKnock_105 (by decide) ?_
      refine p_dup2 G rfl rfl dX7_findKnock_106 ?_
      refine p_lald G dX7_findKnock_107 (k := 24) rfl (zt_c _) h (fun c17 h => ?_)
      refine p_lconst G (v := 1) (by decide) dX7_findKnock_108 ?_
      refine p_iload_n G rfl 1 rfl dX7_findKnock_109 ?_
      refine p_bipush G (by decide) (by decide) dX7_findKnock_110 ?_
      refine p_idivK G dX7_findKnock_112 (by decide) ?_
      refine p_lshl G dX7_findKnock_113 ?_
      refine p_lor G dX7_findKnock_114 ?_
      refine p_last G dX7_findKnock_115 (k := 24) rfl (zt_c _) rfl h (fun σ18 c19 h => ?_)
      refine p_aload_n G rfl 0 rfl dX7_findKnock_116 ?_
      refine p_dup G rfl dX7_findKnock_117 ?_
      refine p_get G dX7_findKnock_118 fl_X7_140 (k := 0) rfl rfl ?_
      refine p_lconst G (v := 1) (by decide) dX7_findKnock_121 ?_
      refine p_iload_n G rfl 1 rfl dX7_findKnock_122 ?_
      refine p_bipush G (by decide) (by decide) dX7_findKnock_123 ?_
      refine p_idivK G dX7_findKnock_125 (by decide) ?_
      refine p_lshl G dX7_findKnock_126 ?_
      refine p_ldc2 G gm_1398 dX7_findKnock_127 ?_
      refine p_lxor G dX7_findKnock_130 ?_
      refine p_land G dX7_findKnock_131 ?_
      refine p_putL G dX7_findKnock_132 fp_X7_140 (k := 0) rfl rfl rfl rfl h (fun σ20 h => ?_)
      refine p_aload_n G rfl 0 rfl dX7_findKnock_135 ?_
      refine p_dup G rfl dX7_findKnock_136 ?_
      refine p_get G dX7_findKnock_137 fl_X7_180 (k := 0) rfl rfl ?_
      refine p_iconst G rfl dX7_findKnock_140 ?_
      refine p_iadd G dX7_findKnock_141 ?_
      refine p_putI G dX7_findKnock_142 fp_X7_180 (k := 0) rfl rfl rfl rfl h (fun σ21 h => ?_)
      refine p_aload_n G rfl 0 rfl dX7_findKnock_145 ?_
      obtain ⟨v22, hc, h⟩ := bnd_some h
      refine p_callVi G dX7_findKnock_146 lk_X7_183 (c_X7_nextAdded (gl Γ) hc) (As := []) (ci := 7) rfl rfl rfl rfl (Nat.le_of_ble_eq_true rfl) ⟨rfl, rfl, Nat.le_of_ble_eq_true rfl, Nat.le_of_ble_eq_true rfl⟩ hcs ?_
      refine p_istore_nU (lv' := [(2, .int (zJ v22)), (0, .ref (ga Γ 0))]) G rfl dX7_findKnock_149 (by decide) rfl ?_
      refine p_goto (tgt := 93) G dX7_findKnock_150 (by decide) ?_
      refine p_lv [1, 0] rfl ?_
      exact hin93 _ (Option.some.inj h).symm
  refine p_aload_n G rfl 0 rfl dX7_findKnock_0 ?_
  refine p_aload_n G rfl 0 rfl dX7_findKnock_1 ?_
  refine p_get G dX7_findKnock_2 fl_X7_9 (k := 0) rfl rfl ?_
  refine p_iconst G rfl dX7_findKnock_5 ?_
  refine p_iald G dX7_findKnock_6 (k := 1) rfl (zt_c _) h (fun c1 h => ?_)
  refine p_iload_n G rfl 1 rfl dX7_findKnock_7 ?_
  refine p_iconst G rfl dX7_findKnock_8 ?_
  obtain ⟨σ2, hc, h⟩ := bnd_some h
  refine p_callVi G dX7_findKnock_9 lk_X7_148 (c_X7_takeHand (gl Γ) hc) (As := [.int (zJ (σ 1 (zix (4 : Int)))), .int (zJ p1), .int (zJ (-1 : Int))]) (ci := 7) rfl rfl rfl rfl (Nat.le_of_ble_eq_true rfl) ⟨rfl, rfl, Nat.le_of_ble_eq_true rfl, Nat.le_of_ble_eq_true rfl⟩ hcs ?_
  refine p_aload_n G rfl 0 rfl dX7_findKnock_12 ?_
  obtain ⟨σ3, hc, h⟩ := bnd_some h
  refine p_callVi G dX7_findKnock_13 lk_X7_152 (c_X7_layOut (gl Γ) hc) (As := []) (ci := 7) rfl rfl rfl rfl (Nat.le_of_ble_eq_true rfl) ⟨rfl, rfl, Nat.le_of_ble_eq_true rfl, Nat.le_of_ble_eq_true rfl⟩ hcs ?_
  refine p_aload_n G rfl 0 rfl dX7_findKnock_16 ?_
  refine p_aload_n G rfl 0 rfl dX7_findKnock_17 ?_
  refine p_get G dX7_findKnock_18 fl_X7_134 (k := 0) rfl rfl ?_
  refine p_putI G dX7_findKnock_21 fp_X7_174 (k := 0) rfl rfl rfl rfl h (fun σ4 h => ?_)
  refine p_aload_n G rfl 0 rfl dX7_findKnock_24 ?_
  refine p_aload_n G rfl 0 rfl dX7_findKnock_25 ?_
  refine p_get G dX7_findKnock_26 fl_X7_137 (k := 0) rfl rfl ?_
  refine p_putI G dX7_findKnock_29 fp_X7_167 (k := 0) rfl rfl rfl rfl h (fun σ5 h => ?_)
  refine p_iconst G rfl dX7_findKnock_32 ?_
  refine p_istore_nU (lv' := [(2, .int (zJ (0 : Int))), (0, .ref (ga Γ 0)), (1, .int (zJ p1))]) G rfl dX7_findKnock_33 (by decide) rfl ?_
  refine p_lv [1, 0] rfl ?_
  obtain ⟨e12, hl34, h⟩ := bnd_some h
  have hX34_60 : ∀ (σ13 : Mm), σ13 = e12 → PT Γ 3 shW 60 σ13 [(0, .ref (ga Γ 0))] [] := by
    intro σ13 he
    subst he
    refine p_aload_n G rfl 0 rfl dX7_findKnock_60 ?_
    refine p_iconst G rfl dX7_findKnock_61 ?_
    refine p_aload_n G rfl 0 rfl dX7_findKnock_62 ?_
    refine p_get G dX7_findKnock_63 fl_X7_9 (k := 0) rfl rfl ?_
    refine p_iconst G rfl dX7_findKnock_66 ?_
    refine p_iald G dX7_findKnock_67 (k := 1) rfl (zt_c _) h (fun c14 h => ?_)
    refine p_isub G dX7_findKnock_68 ?_
    obtain ⟨σ15, hc, h⟩ := bnd_some h
    refine p_callVi G dX7_findKnock_69 lk_X7_177 (c_X7_layOutOf (gl Γ) hc) (As := [.int (zJ ((1 : Int) - (σ13 1 (zix (4 : Int)))))]) (ci := 7) rfl rfl rfl rfl (Nat.le_of_ble_eq_true rfl) ⟨rfl, rfl, Nat.le_of_ble_eq_true rfl, Nat.le_of_ble_eq_true rfl⟩ hcs ?_
    refine p_aload_n G rfl 0 rfl dX7_findKnock_72 ?_
    refine p_iconst G rfl dX7_findKnock_73 ?_
    refine p_putI G dX7_findKnock_74 fp_X7_180 (k := 0) rfl rfl rfl rfl h (fun σ16 h => ?_)
    refine p_aload_n G rfl 0 rfl dX7_findKnock_77 ?_
    refine p_get G dX7_findKnock_78 fl_X7_174 (k := 0) rfl rfl ?_
    refine p_ifle (tgt := 91) G dX7_findKnock_81 (by decide) h (fun c30 h => ?_) (fun c30 h => ?_)
    · refine p_iconst G rfl dX7_findKnock_91 ?_
      exact j92 _ _ h
    · refine p_aload_n G rfl 0 rfl dX7_findKnock_84 ?_
      obtain ⟨v29, hc, h⟩ := bnd_some h
      refine p_callVi G dX7_findKnock_85 lk_X7_183 (c_X7_nextAdded (gl Γ) hc) (As := []) (ci := 7) rfl rfl rfl rfl (Nat.le_of_ble_eq_true rfl) ⟨rfl, rfl, Nat.le_of_ble_eq_true rfl, Nat.le_of_ble_eq_true rfl⟩ hcs ?_
      refine p_goto (tgt := 92) G dX7_findKnock_88 (by decide) ?_
      exact j92 _ _ h
  refine lup_walk (s := (σ5, (0 : Int))) (At := fun s : Mm × Int => PT Γ 3 shW 34 s.1 [(0, .ref (ga Γ 0)), (2, .int (zJ s.2))] []) (fun s r hf hin34 hout34 => ?_) hl34
  obtain ⟨σ34, u2_34⟩ := s
  have h : x_X7_findKnock_b34 σ34 u2_34 = some r := hf
  clear hf
  unfold x_X7_findKnock_b34 at h
  refine (?_ : PT Γ 3 shW 34 σ34 [(0, .ref (ga Γ 0)), (2, .int (zJ u2_34))] [])
  refine p_iload_n G rfl 1 rfl dX7_findKnock_34 ?_
  refine p_aload_n G rfl 0 rfl dX7_findKnock_35 ?_
  refine p_get G dX7_findKnock_36 fl_X7_137 (k := 0) rfl rfl ?_
  refine p_icmpge (tgt := 60) G dX7_findKnock_39 (by decide) h (fun c10 h => ?_) (fun c10 h => ?_)
  · refine p_lv [0] rfl ?_
    have he := hout34 _ (Option.some.inj h).symm
    subst he
    exact hX34_60 _ rfl
  · refine p_aload_n G rfl 0 rfl dX7_findKnock_42 ?_
    refine p_get G dX7_findKnock_43 fl_X7_48 (k := 0) rfl rfl ?_
    refine p_iload_n G rfl 1 rfl dX7_findKnock_46 ?_
    refine p_aload_n G rfl 0 rfl dX7_findKnock_47 ?_
    refine p_get G dX7_findKnock_48 fl_X7_44 (k := 0) rfl rfl ?_
    refine p_iload_n G rfl 1 rfl dX7_findKnock_51 ?_
    refine p_lald G dX7_findKnock_52 (k := 23) rfl (zt_c _) h (fun c6 h => ?_)
    refine p_last G dX7_findKnock_53 (k := 24) rfl (zt_c _) rfl h (fun σ7 c8 h => ?_)
    refine p_iinc (lv' := fun v9 => [(2, .int (zJ v9)), (0, .ref (ga Γ 0))]) G dX7_findKnock_54 h 1 rfl (by decide) (fun _ => rfl) (fun v9 h => ?_)
    refine p_goto (tgt := 34) G dX7_findKnock_57 (by decide) ?_
    refine p_lv [1, 0] rfl ?_
    exact hin34 _ (Option.some.inj h).symm
set_option maxHeartbeats 4000000 in
set_option maxRecDepth 100000 in
theorem c_X7_noTurn (l : Launch) {D : va_G} {yy : Nat → ClassId} {tk tv a : Nat → Nat} {σ : Mm} {p1 : Int} {o : Int} (h : x_X7_noTurn σ p1 = some o) : CT l yX7_noTurn cX7_noTurn 2 (some .int) rm_X7_noTurn shW D yy tk tv a σ [.ref (a 0), .int (zJ p1)] σ (some (.int (zJ o))) := by
  refine ct_of (Ar := fun a tk => [.ref (a 0), .int (zJ p1)]) (by decide) (Nat.le_of_ble_eq_true rfl) (fun Γ G _ _ hR => ?_)
  have hcs := rt_cs hR
  unfold x_X7_noTurn at h
  refine (?_ : PT Γ 2 shW 0 σ [(0, .ref (ga Γ 0)), (1, .int (zJ p1))] [])
  refine p_aload_n G rfl 0 rfl dX7_noTurn_0 ?_
  refine p_get G dX7_noTurn_1 fl_X7_9 (k := 0) rfl rfl ?_
  refine p_bipush G (by decide) (by decide) dX7_noTurn_4 ?_
  refine p_iald G dX7_noTurn_6 (k := 1) rfl (zt_c _) h (fun c1 h => ?_)
  refine p_iconst G rfl dX7_noTurn_7 ?_
  refine p_icmpne (tgt := 15) G dX7_noTurn_8 (by decide) h (fun c6 h => ?_) (fun c6 h => ?_)
  · refine p_aload_n G rfl 0 rfl dX7_noTurn_15 ?_
    refine p_get G dX7_noTurn_16 fl_X7_9 (k := 0) rfl rfl ?_
    refine p_iconst G rfl dX7_noTurn_19 ?_
    refine p_iald G dX7_noTurn_20 (k := 1) rfl (zt_c _) h (fun c2 h => ?_)
    refine p_ifne (tgt := 28) G dX7_noTurn_21 (by decide) h (fun c5 h => ?_) (fun c5 h => ?_)
    · refine p_aload_n G rfl 0 rfl dX7_noTurn_28 ?_
      refine p_get G dX7_noTurn_29 fl_X7_9 (k := 0) rfl rfl ?_
      refine p_bipush G (by decide) (by decide) dX7_noTurn_32 ?_
      refine p_iald G dX7_noTurn_34 (k := 1) rfl (zt_c _) h (fun c3 h => ?_)
      refine p_iload_n G rfl 1 rfl dX7_noTurn_35 ?_
      refine p_icmpne (tgt := 43) G dX7_noTurn_36 (by decide) h (fun c4 h => ?_) (fun c4 h => ?_)
      · refine p_iconst G rfl dX7_noTurn_43 ?_
        (cases h; exact p_iret G hR dX7_noTurn_44 rfl rfl)
      · refine p_iconst G rfl dX7_noTurn_39 ?_
        refine p_goto (tgt := 44) G dX7_noTurn_40 (by decide) ?_
        (cases h; exact p_iret G hR dX7_noTurn_44 rfl rfl)
    · refine p_iconst G rfl dX7_noTurn_24 ?_
      refine p_goto (tgt := 44) G dX7_noTurn_25 (by decide) ?_
      (cases h; exact p_iret G hR dX7_noTurn_44 rfl rfl)
  · refine p_iconst G rfl dX7_noTurn_11 ?_
    refine p_goto (tgt := 44) G dX7_noTurn_12 (by decide) ?_
    (cases h; exact p_iret G hR dX7_noTurn_44 rfl rfl)
set_option maxHeartbeats 4000000 in
set_option maxRecDepth 100000 in
theorem c_X7_restWithoutCard (l : Launch) {D : va_G} {yy : Nat → ClassId} {tk tv a : Nat → Nat} {σ : Mm} {p1 : Int} {o : Mm × Int} (h : x_X7_restWithoutCard σ p1 = some o) : CT l yX7_restWithoutCard cX7_restWithoutCard 2 (some .int) rm_X7_restWithoutCard shW D yy tk tv a σ [.ref (a 0), .int (zJ p1)] o.1 (some (.int (zJ o.2))) := by
  refine ct_of (Ar := fun a tk => [.ref (a 0), .int (zJ p1)]) (by decide) (Nat.le_of_ble_eq_true rfl) (fun Γ G _ _ hR => ?_)
  have hcs := rt_cs hR
  unfold x_X7_restWithoutCard at h
  refine (?_ : PT Γ 2 shW 0 σ [(0, .ref (ga Γ 0)), (1, .int (zJ p1))] [])
  refine p_aload_n G rfl 0 rfl dX7_restWithoutCard_0 ?_
  refine p_aload_n G rfl 0 rfl dX7_restWithoutCard_1 ?_
  refine p_get G dX7_restWithoutCard_2 fl_X7_9 (k := 0) rfl rfl ?_
  refine p_iconst G rfl dX7_restWithoutCard_5 ?_
  refine p_iald G dX7_restWithoutCard_6 (k := 1) rfl (zt_c _) h (fun c1 h => ?_)
  refine p_iload_n G rfl 1 rfl dX7_restWithoutCard_7 ?_
  refine p_iconst G rfl dX7_restWithoutCard_8 ?_
  obtain ⟨σ2, hc, h⟩ := bnd_some h
  refine p_callVi G dX7_restWithoutCard_9 lk_X7_148 (c_X7_takeHand (gl Γ) hc) (As := [.int (zJ (σ 1 (zix (4 : Int)))), .int (zJ p1), .int (zJ (-1 : Int))]) (ci := 7) rfl rfl rfl rfl (Nat.le_of_ble_eq_true rfl) ⟨rfl, rfl, Nat.le_of_ble_eq_true rfl, Nat.le_of_ble_eq_true rfl⟩ hcs ?_
  refine p_aload_n G rfl 0 rfl dX7_restWithoutCard_12 ?_
  obtain ⟨⟨σ3, v4⟩, hc, h⟩ := bnd_some h
  rw [un2_mk] at h
  refine p_callVi G dX7_restWithoutCard_13 lk_X7_130 (c_X7_findRests (gl Γ) hc) (As := []) (ci := 7) rfl rfl rfl rfl (Nat.le_of_ble_eq_true rfl) ⟨rfl, rfl, Nat.le_of_ble_eq_true rfl, Nat.le_of_ble_eq_true rfl⟩ hcs ?_
  (cases h; exact p_iret G hR dX7_restWithoutCard_16 rfl rfl)
set_option maxHeartbeats 4000000 in
set_option maxRecDepth 100000 in
theorem c_X7_noKnock (l : Launch) {D : va_G} {yy : Nat → ClassId} {tk tv a : Nat → Nat} {σ : Mm} {p1 : Int} {o : Mm × Int} (h : x_X7_noKnock σ p1 = some o) : CT l yX7_noKnock cX7_noKnock 3 (some .int) rm_X7_noKnock shW D yy tk tv a σ [.ref (a 0), .int (zJ p1)] o.1 (some (.int (zJ o.2))) := by
  refine ct_of (Ar := fun a tk => [.ref (a 0), .int (zJ p1)]) (by decide) (Nat.le_of_ble_eq_true rfl) (fun Γ G _ _ hR => ?_)
  have hcs := rt_cs hR
  unfold x_X7_noKnock at h
  refine (?_ : PT Γ 3 shW 0 σ [(0, .ref (ga Γ 0)), (1, .int (zJ p1))] [])
  refine p_aload_n G rfl 0 rfl dX7_noKnock_0 ?_
  refine p_iload_n G rfl 1 rfl dX7_noKnock_1 ?_
  obtain ⟨v1, hc, h⟩ := bnd_some h
  refine p_callVi G dX7_noKnock_2 lk_X7_192 (c_X7_noTurn (gl Γ) hc) (As := [.int (zJ p1)]) (ci := 7) rfl rfl rfl rfl (Nat.le_of_ble_eq_true rfl) ⟨rfl, rfl, Nat.le_of_ble_eq_true rfl, Nat.le_of_ble_eq_true rfl⟩ hcs ?_
  refine p_istore_nU (lv' := [(2, .int (zJ v1)), (0, .ref (ga Γ 0)), (1, .int (zJ p1))]) G rfl dX7_noKnock_5 (by decide) rfl ?_
  refine p_iload_n G rfl 0 rfl dX7_noKnock_6 ?_
  refine p_ifeq (tgt := 14) G dX7_noKnock_7 (by decide) h (fun c6 h => ?_) (fun c6 h => ?_)
  · refine p_aload_n G rfl 1 rfl dX7_noKnock_14 ?_
    refine p_iload_n G rfl 2 rfl dX7_noKnock_15 ?_
    obtain ⟨⟨σ2, v3⟩, hc, h⟩ := bnd_some h
    rw [un2_mk] at h
    refine p_callVi G dX7_noKnock_16 lk_X7_195 (c_X7_restWithoutCard (gl Γ) hc) (As := [.int (zJ p1)]) (ci := 7) rfl rfl rfl rfl (Nat.le_of_ble_eq_true rfl) ⟨rfl, rfl, Nat.le_of_ble_eq_true rfl, Nat.le_of_ble_eq_true rfl⟩ hcs ?_
    refine p_aload_n G rfl 1 rfl dX7_noKnock_19 ?_
    refine p_get G dX7_noKnock_20 fl_X7_9 (k := 0) rfl rfl ?_
    refine p_iconst G rfl dX7_noKnock_23 ?_
    refine p_iald G dX7_noKnock_24 (k := 1) rfl (zt_c _) h (fun c4 h => ?_)
    refine p_icmple (tgt := 33) G dX7_noKnock_25 (by decide) h (fun c5 h => ?_) (fun c5 h => ?_)
    · refine p_iconst G rfl dX7_noKnock_33 ?_
      (cases h; exact p_iret G hR dX7_noKnock_34 rfl rfl)
    · refine p_bipush G (by decide) (by decide) dX7_noKnock_28 ?_
      refine p_goto (tgt := 34) G dX7_noKnock_30 (by decide) ?_
      (cases h; exact p_iret G hR dX7_noKnock_34 rfl rfl)
  · refine p_iload_n G rfl 0 rfl dX7_noKnock_10 ?_
    refine p_goto (tgt := 34) G dX7_noKnock_11 (by decide) ?_
    (cases h; exact p_iret G hR dX7_noKnock_34 rfl rfl)
set_option maxHeartbeats 4000000 in
set_option maxRecDepth 100000 in
theorem c_X7_noDraw (l : Launch) {D : va_G} {yy : Nat → ClassId} {tk tv a : Nat → Nat} {σ : Mm} {o : Int} (h : x_X7_noDraw σ = some o) : CT l yX7_noDraw cX7_noDraw 1 (some .int) rm_X7_noDraw shW D yy tk tv a σ [.ref (a 0)] σ (some (.int (zJ o))) := by
  refine ct_of (Ar := fun a tk => [.ref (a 0)]) (by decide) (Nat.le_of_ble_eq_true rfl) (fun Γ G _ _ hR => ?_)
  have hcs := rt_cs hR
  unfold x_X7_noDraw at h
  refine (?_ : PT Γ 1 shW 0 σ [(0, .ref (ga Γ 0))] [])
  refine p_aload_n G rfl 0 rfl dX7_noDraw_0 ?_
  refine p_get G dX7_noDraw_1 fl_X7_9 (k := 0) rfl rfl ?_
  refine p_bipush G (by decide) (by decide) dX7_noDraw_4 ?_
  refine p_iald G dX7_noDraw_6 (k := 1) rfl (zt_c _) h (fun c1 h => ?_)
  refine p_iconst G rfl dX7_noDraw_7 ?_
  refine p_icmpne (tgt := 15) G dX7_noDraw_8 (by decide) h (fun c4 h => ?_) (fun c4 h => ?_)
  · refine p_aload_n G rfl 0 rfl dX7_noDraw_15 ?_
    refine p_get G dX7_noDraw_16 fl_X7_9 (k := 0) rfl rfl ?_
    refine p_iconst G rfl dX7_noDraw_19 ?_
    refine p_iald G dX7_noDraw_20 (k := 1) rfl (zt_c _) h (fun c2 h => ?_)
    refine p_iconst G rfl dX7_noDraw_21 ?_
    refine p_icmpne (tgt := 29) G dX7_noDraw_22 (by decide) h (fun c3 h => ?_) (fun c3 h => ?_)
    · refine p_iconst G rfl dX7_noDraw_29 ?_
      (cases h; exact p_iret G hR dX7_noDraw_30 rfl rfl)
    · refine p_iconst G rfl dX7_noDraw_25 ?_
      refine p_goto (tgt := 30) G dX7_noDraw_26 (by decide) ?_
      (cases h; exact p_iret G hR dX7_noDraw_30 rfl rfl)
  · refine p_iconst G rfl dX7_noDraw_11 ?_
    refine p_goto (tgt := 30) G dX7_noDraw_12 (by decide) ?_
    (cases h; exact p_iret G hR dX7_noDraw_30 rfl rfl)
set_option maxHeartbeats 4000000 in
set_option maxRecDepth 100000 in
theorem c_X7_drawIt (l : Launch) {D : va_G} {yy : Nat → ClassId} {tk tv a : Nat → Nat} {σ : Mm} {p1 : Int} {o : Mm × Int} (h : x_X7_drawIt σ p1 = some o) : CT l yX7_drawIt cX7_drawIt 3 (some .int) rm_X7_drawIt shW D yy tk tv a σ [.ref (a 0), .int (zJ p1)] o.1 (some (.int (zJ o.2))) := by
  refine ct_of (Ar := fun a tk => [.ref (a 0), .int (zJ p1)]) (by decide) (Nat.le_of_ble_eq_true rfl) (fun Γ G _ _ hR => ?_)
  have hcs := rt_cs hR
  unfold x_X7_drawIt at h
  refine (?_ : PT Γ 3 shW 0 σ [(0, .ref (ga Γ 0)), (1, .int (zJ p1))] [])
  have j56 : ∀ (σ_56 : Mm) (v1_56 : Int) (v2_56 : Int), x_X7_drawIt_j56 σ_56 v1_56 v2_56 = some o → PT Γ 3 shW 56 σ_56 [(0, .ref (ga Γ 0)), (1, .int (zJ v1_56)), (2, .int (zJ v2_56))] [] := by
    intro σ_56 v1_56 v2_56 h
    unfold x_X7_drawIt_j56 at h
    refine p_aload_n G rfl 0 rfl dX7_drawIt_56 ?_
    refine p_get G dX7_drawIt_57 fl_X7_9 (k := 0) rfl rfl ?_
    refine p_bipush G (by decide) (by decide) dX7_drawIt_60 ?_
    refine p_iload_n G rfl 2 rfl dX7_drawIt_62 ?_
    refine p_iadd G dX7_drawIt_63 ?_
    refine p_aload_n G rfl 0 rfl dX7_drawIt_64 ?_
    refine p_get G dX7_drawIt_65 fl_X7_9 (k := 0) rfl rfl ?_
    refine p_iconst G rfl dX7_drawIt_68 ?_
    refine p_iald G dX7_drawIt_69 (k := 1) rfl (zt_c _) h (fun c6 h => ?_)
    refine p_iast G dX7_drawIt_70 (k := 1) rfl (zt_c _) rfl h (fun σ7 c8 h => ?_)
    refine p_aload_n G rfl 0 rfl dX7_drawIt_71 ?_
    refine p_get G dX7_drawIt_72 fl_X7_9 (k := 0) rfl rfl ?_
    refine p_iconst G rfl dX7_drawIt_75 ?_
    refine p_iconst G rfl dX7_drawIt_76 ?_
    refine p_iast G dX7_drawIt_77 (k := 1) rfl (zt_c _) rfl h (fun σ9 c10 h => ?_)
    refine p_aload_n G rfl 0 rfl dX7_drawIt_78 ?_
    refine p_get G dX7_drawIt_79 fl_X7_9 (k := 0) rfl rfl ?_
    refine p_bipush G (by decide) (by decide) dX7_drawIt_82 ?_
    refine p_iload_n G rfl 1 rfl dX7_drawIt_84 ?_
    refine p_ifeq (tgt := 92) G dX7_drawIt_85 (by decide) h (fun c15 h => ?_) (fun c15 h => ?_)
    · refine p_iconst G rfl dX7_drawIt_92 ?_
      refine p_iast G dX7_drawIt_93 (k := 1) rfl (zt_c _) rfl h (fun σ11 c12 h => ?_)
      refine p_iload_n G rfl 2 rfl dX7_drawIt_94 ?_
      (cases h; exact p_iret G hR dX7_drawIt_95 rfl rfl)
    · refine p_iload_n G rfl 2 rfl dX7_drawIt_88 ?_
      refine p_goto (tgt := 93) G dX7_drawIt_89 (by decide) ?_
      refine p_iast G dX7_drawIt_93 (k := 1) rfl (zt_c _) rfl h (fun σ13 c14 h => ?_)
      refine p_iload_n G rfl 2 rfl dX7_drawIt_94 ?_
      (cases h; exact p_iret G hR dX7_drawIt_95 rfl rfl)
  have j26 : ∀ (σ_26 : Mm) (v1_26 : Int) (w0_26 : Int), x_X7_drawIt_j26 σ_26 v1_26 w0_26 = some o → PT Γ 3 shW 26 σ_26 [(0, .ref (ga Γ 0)), (1, .int (zJ v1_26))] [.int (zJ w0_26)] := by
    intro σ_26 v1_26 w0_26 h
    unfold x_X7_drawIt_j26 at h
    refine p_istore_nU (lv' := [(2, .int (zJ w0_26)), (0, .ref (ga Γ 0)), (1, .int (zJ v1_26))]) G rfl dX7_drawIt_26 (by decide) rfl ?_
    refine p_iload_n G rfl 2 rfl dX7_drawIt_27 ?_
    refine p_ifeq (tgt := 45) G dX7_drawIt_28 (by decide) h (fun c19 h => ?_) (fun c19 h => ?_)
    · refine p_aload_n G rfl 1 rfl dX7_drawIt_45 ?_
      refine p_get G dX7_drawIt_46 fl_X7_9 (k := 0) rfl rfl ?_
      refine p_bipush G (by decide) (by decide) dX7_drawIt_49 ?_
      refine p_dup2 G rfl rfl dX7_drawIt_51 ?_
      refine p_iald G dX7_drawIt_52 (k := 1) rfl (zt_c _) h (fun c3 h => ?_)
      refine p_iconst G rfl dX7_drawIt_53 ?_
      refine p_iadd G dX7_drawIt_54 ?_
      refine p_iast G dX7_drawIt_55 (k := 1) rfl (zt_c _) rfl h (fun σ4 c5 h => ?_)
      refine p_lv [1, 2, 0] rfl ?_
      exact j56 _ _ _ h
    · refine p_aload_n G rfl 1 rfl dX7_drawIt_31 ?_
      refine p_get G dX7_drawIt_32 fl_X7_9 (k := 0) rfl rfl ?_
      refine p_bipush G (by decide) (by decide) dX7_drawIt_35 ?_
      refine p_dup2 G rfl rfl dX7_drawIt_37 ?_
      refine p_iald G dX7_drawIt_38 (k := 1) rfl (zt_c _) h (fun c16 h => ?_)
      refine p_iconst G rfl dX7_drawIt_39 ?_
      refine p_isub G dX7_drawIt_40 ?_
      refine p_iast G dX7_drawIt_41 (k := 1) rfl (zt_c _) rfl h (fun σ17 c18 h => ?_)
      refine p_goto (tgt := 56) G dX7_drawIt_42 (by decide) ?_
      refine p_lv [1, 2, 0] rfl ?_
      exact j56 _ _ _ h
  refine p_iload_n G rfl 1 rfl dX7_drawIt_0 ?_
  refine p_ifeq (tgt := 11) G dX7_drawIt_1 (by decide) h (fun c21 h => ?_) (fun c21 h => ?_)
  · refine p_aload_n G rfl 0 rfl dX7_drawIt_11 ?_
    refine p_get G dX7_drawIt_12 fl_X7_9 (k := 0) rfl rfl ?_
    refine p_bipush G (by decide) (by decide) dX7_drawIt_15 ?_
    refine p_aload_n G rfl 0 rfl dX7_drawIt_17 ?_
    refine p_get G dX7_drawIt_18 fl_X7_9 (k := 0) rfl rfl ?_
    refine p_bipush G (by decide) (by decide) dX7_drawIt_21 ?_
    refine p_iald G dX7_drawIt_23 (k := 1) rfl (zt_c _) h (fun c1 h => ?_)
    refine p_iadd G dX7_drawIt_24 ?_
    refine p_iald G dX7_drawIt_25 (k := 1) rfl (zt_c _) h (fun c2 h => ?_)
    exact j26 _ _ _ h
  · refine p_aload_n G rfl 0 rfl dX7_drawIt_4 ?_
    obtain ⟨v20, hc, h⟩ := bnd_some h
    refine p_callVi G dX7_drawIt_5 lk_X7_198 (c_X7_topOfPile (gl Γ) hc) (As := []) (ci := 7) rfl rfl rfl rfl (Nat.le_of_ble_eq_true rfl) ⟨rfl, rfl, Nat.le_of_ble_eq_true rfl, Nat.le_of_ble_eq_true rfl⟩ hcs ?_
    refine p_goto (tgt := 26) G dX7_drawIt_8 (by decide) ?_
    exact j26 _ _ _ h
set_option maxHeartbeats 4000000 in
set_option maxRecDepth 100000 in
theorem c_X7_putOnPile (l : Launch) {D : va_G} {yy : Nat → ClassId} {tk tv a : Nat → Nat} {σ : Mm} {p1 : Int} {o : Mm} (h : x_X7_putOnPile σ p1 = some o) : CT l yX7_putOnPile cX7_putOnPile 2 none rm_X7_putOnPile shW D yy tk tv a σ [.ref (a 0), .int (zJ p1)] o none := by
  refine ct_of (Ar := fun a tk => [.ref (a 0), .int (zJ p1)]) (by decide) (Nat.le_of_ble_eq_true rfl) (fun Γ G _ _ hR => ?_)
  have hcs := rt_cs hR
  unfold x_X7_putOnPile at h
  refine (?_ : PT Γ 2 shW 0 σ [(0, .ref (ga Γ 0)), (1, .int (zJ p1))] [])
  refine p_aload_n G rfl 0 rfl dX7_putOnPile_0 ?_
  refine p_get G dX7_putOnPile_1 fl_X7_9 (k := 0) rfl rfl ?_
  refine p_bipush G (by decide) (by decide) dX7_putOnPile_4 ?_
  refine p_iload_n G rfl 1 rfl dX7_putOnPile_6 ?_
  refine p_iadd G dX7_putOnPile_7 ?_
  refine p_iconst G rfl dX7_putOnPile_8 ?_
  refine p_iast G dX7_putOnPile_9 (k := 1) rfl (zt_c _) rfl h (fun σ1 c2 h => ?_)
  refine p_aload_n G rfl 0 rfl dX7_putOnPile_10 ?_
  refine p_get G dX7_putOnPile_11 fl_X7_9 (k := 0) rfl rfl ?_
  refine p_bipush G (by decide) (by decide) dX7_putOnPile_14 ?_
  refine p_aload_n G rfl 0 rfl dX7_putOnPile_16 ?_
  refine p_get G dX7_putOnPile_17 fl_X7_9 (k := 0) rfl rfl ?_
  refine p_bipush G (by decide) (by decide) dX7_putOnPile_20 ?_
  refine p_iald G dX7_putOnPile_22 (k := 1) rfl (zt_c _) h (fun c3 h => ?_)
  refine p_iadd G dX7_putOnPile_23 ?_
  refine p_iload_n G rfl 1 rfl dX7_putOnPile_24 ?_
  refine p_iast G dX7_putOnPile_25 (k := 1) rfl (zt_c _) rfl h (fun σ4 c5 h => ?_)
  refine p_aload_n G rfl 0 rfl dX7_putOnPile_26 ?_
  refine p_get G dX7_putOnPile_27 fl_X7_9 (k := 0) rfl rfl ?_
  refine p_bipush G (by decide) (by decide) dX7_putOnPile_30 ?_
  refine p_dup2 G rfl rfl dX7_putOnPile_32 ?_
  refine p_iald G dX7_putOnPile_33 (k := 1) rfl (zt_c _) h (fun c6 h => ?_)
  refine p_iconst G rfl dX7_putOnPile_34 ?_
  refine p_iadd G dX7_putOnPile_35 ?_
  refine p_iast G dX7_putOnPile_36 (k := 1) rfl (zt_c _) rfl h (fun σ7 c8 h => ?_)
  refine p_aload_n G rfl 0 rfl dX7_putOnPile_37 ?_
  refine p_get G dX7_putOnPile_38 fl_X7_9 (k := 0) rfl rfl ?_
  refine p_iconst G rfl dX7_putOnPile_41 ?_
  refine p_iconst G rfl dX7_putOnPile_42 ?_
  refine p_iast G dX7_putOnPile_43 (k := 1) rfl (zt_c _) rfl h (fun σ9 c10 h => ?_)
  refine p_aload_n G rfl 0 rfl dX7_putOnPile_44 ?_
  refine p_get G dX7_putOnPile_45 fl_X7_9 (k := 0) rfl rfl ?_
  refine p_bipush G (by decide) (by decide) dX7_putOnPile_48 ?_
  refine p_iconst G rfl dX7_putOnPile_50 ?_
  refine p_iast G dX7_putOnPile_51 (k := 1) rfl (zt_c _) rfl h (fun σ11 c12 h => ?_)
  (cases h; exact p_vret G hR dX7_putOnPile_52 rfl rfl)
set_option maxHeartbeats 4000000 in
set_option maxRecDepth 100000 in
theorem c_X7_endRound (l : Launch) {D : va_G} {yy : Nat → ClassId} {tk tv a : Nat → Nat} {σ : Mm} {p1 : Int} {p2 : Int} {o : Mm} (h : x_X7_endRound σ p1 p2 = some o) : CT l yX7_endRound cX7_endRound 3 none rm_X7_endRound shW D yy tk tv a σ [.ref (a 0), .int (zJ p1), .int (zJ p2)] o none := by
  refine ct_of (Ar := fun a tk => [.ref (a 0), .int (zJ p1), .int (zJ p2)]) (by decide) (Nat.le_of_ble_eq_true rfl) (fun Γ G _ _ hR => ?_)
  have hcs := rt_cs hR
  unfold x_X7_endRound at h
  refine (?_ : PT Γ 3 shW 0 σ [(0, .ref (ga Γ 0)), (1, .int (zJ p1)), (2, .int (zJ p2))] [])
  refine p_aload_n G rfl 0 rfl dX7_endRound_0 ?_
  refine p_get G dX7_endRound_1 fl_X7_9 (k := 0) rfl rfl ?_
  refine p_bipush G (by decide) (by decide) dX7_endRound_4 ?_
  refine p_iconst G rfl dX7_endRound_6 ?_
  refine p_iast G dX7_endRound_7 (k := 1) rfl (zt_c _) rfl h (fun σ1 c2 h => ?_)
  refine p_aload_n G rfl 0 rfl dX7_endRound_8 ?_
  refine p_get G dX7_endRound_9 fl_X7_9 (k := 0) rfl rfl ?_
  refine p_bipush G (by decide) (by decide) dX7_endRound_12 ?_
  refine p_iload_n G rfl 1 rfl dX7_endRound_14 ?_
  refine p_iast G dX7_endRound_15 (k := 1) rfl (zt_c _) rfl h (fun σ3 c4 h => ?_)
  refine p_aload_n G rfl 0 rfl dX7_endRound_16 ?_
  refine p_get G dX7_endRound_17 fl_X7_9 (k := 0) rfl rfl ?_
  refine p_bipush G (by decide) (by decide) dX7_endRound_20 ?_
  refine p_iload_n G rfl 2 rfl dX7_endRound_22 ?_
  refine p_iast G dX7_endRound_23 (k := 1) rfl (zt_c _) rfl h (fun σ5 c6 h => ?_)
  refine p_iload_n G rfl 2 rfl dX7_endRound_24 ?_
  refine p_iconst G rfl dX7_endRound_25 ?_
  refine p_icmpeq (tgt := 42) G dX7_endRound_26 (by decide) h (fun c10 h => ?_) (fun c10 h => ?_)
  · (cases h; exact p_vret G hR dX7_endRound_42 rfl rfl)
  · refine p_aload_n G rfl 0 rfl dX7_endRound_29 ?_
    refine p_get G dX7_endRound_30 fl_X7_9 (k := 0) rfl rfl ?_
    refine p_bipush G (by decide) (by decide) dX7_endRound_33 ?_
    refine p_iload_n G rfl 2 rfl dX7_endRound_35 ?_
    refine p_iadd G dX7_endRound_36 ?_
    refine p_dup2 G rfl rfl dX7_endRound_37 ?_
    refine p_iald G dX7_endRound_38 (k := 1) rfl (zt_c _) h (fun c7 h => ?_)
    refine p_iload_n G rfl 1 rfl dX7_endRound_39 ?_
    refine p_iadd G dX7_endRound_40 ?_
    refine p_iast G dX7_endRound_41 (k := 1) rfl (zt_c _) rfl h (fun σ8 c9 h => ?_)
    (cases h; exact p_vret G hR dX7_endRound_42 rfl rfl)
set_option maxHeartbeats 4000000 in
set_option maxRecDepth 100000 in
theorem c_X7_dropIt (l : Launch) {D : va_G} {yy : Nat → ClassId} {tk tv a : Nat → Nat} {σ : Mm} {p1 : Int} {o : Mm × Int} (h : x_X7_dropIt σ p1 = some o) : CT l yX7_dropIt cX7_dropIt 2 (some .int) rm_X7_dropIt shW D yy tk tv a σ [.ref (a 0), .int (zJ p1)] o.1 (some (.int (zJ o.2))) := by
  refine ct_of (Ar := fun a tk => [.ref (a 0), .int (zJ p1)]) (by decide) (Nat.le_of_ble_eq_true rfl) (fun Γ G _ _ hR => ?_)
  have hcs := rt_cs hR
  unfold x_X7_dropIt at h
  refine (?_ : PT Γ 2 shW 0 σ [(0, .ref (ga Γ 0)), (1, .int (zJ p1))] [])
  refine p_aload_n G rfl 0 rfl dX7_dropIt_0 ?_
  refine p_iload_n G rfl 1 rfl dX7_dropIt_1 ?_
  obtain ⟨σ1, hc, h⟩ := bnd_some h
  refine p_callVi G dX7_dropIt_2 lk_X7_201 (c_X7_putOnPile (gl Γ) hc) (As := [.int (zJ p1)]) (ci := 7) rfl rfl rfl rfl (Nat.le_of_ble_eq_true rfl) ⟨rfl, rfl, Nat.le_of_ble_eq_true rfl, Nat.le_of_ble_eq_true rfl⟩ hcs ?_
  refine p_aload_n G rfl 0 rfl dX7_dropIt_5 ?_
  obtain ⟨v2, hc, h⟩ := bnd_some h
  refine p_callVi G dX7_dropIt_6 lk_X7_204 (c_X7_stocked (gl Γ) hc) (As := []) (ci := 7) rfl rfl rfl rfl (Nat.le_of_ble_eq_true rfl) ⟨rfl, rfl, Nat.le_of_ble_eq_true rfl, Nat.le_of_ble_eq_true rfl⟩ hcs ?_
  refine p_ifne (tgt := 21) G dX7_dropIt_9 (by decide) h (fun c9 h => ?_) (fun c9 h => ?_)
  · refine p_aload_n G rfl 0 rfl dX7_dropIt_21 ?_
    refine p_get G dX7_dropIt_22 fl_X7_9 (k := 0) rfl rfl ?_
    refine p_iconst G rfl dX7_dropIt_25 ?_
    refine p_iconst G rfl dX7_dropIt_26 ?_
    refine p_aload_n G rfl 0 rfl dX7_dropIt_27 ?_
    refine p_get G dX7_dropIt_28 fl_X7_9 (k := 0) rfl rfl ?_
    refine p_iconst G rfl dX7_dropIt_31 ?_
    refine p_iald G dX7_dropIt_32 (k := 1) rfl (zt_c _) h (fun c3 h => ?_)
    refine p_isub G dX7_dropIt_33 ?_
    refine p_iast G dX7_dropIt_34 (k := 1) rfl (zt_c _) rfl h (fun σ4 c5 h => ?_)
    refine p_aload_n G rfl 0 rfl dX7_dropIt_35 ?_
    obtain ⟨v6, hc, h⟩ := bnd_some h
    refine p_callVi G dX7_dropIt_36 lk_X7_204 (c_X7_stocked (gl Γ) hc) (As := []) (ci := 7) rfl rfl rfl rfl (Nat.le_of_ble_eq_true rfl) ⟨rfl, rfl, Nat.le_of_ble_eq_true rfl, Nat.le_of_ble_eq_true rfl⟩ hcs ?_
    (cases h; exact p_iret G hR dX7_dropIt_39 rfl rfl)
  · refine p_aload_n G rfl 0 rfl dX7_dropIt_12 ?_
    refine p_iconst G rfl dX7_dropIt_13 ?_
    refine p_iconst G rfl dX7_dropIt_14 ?_
    obtain ⟨σ7, hc, h⟩ := bnd_some h
    refine p_callVi G dX7_dropIt_15 lk_X7_207 (c_X7_endRound (gl Γ) hc) (As := [.int (zJ (0 : Int)), .int (zJ (-1 : Int))]) (ci := 7) rfl rfl rfl rfl (Nat.le_of_ble_eq_true rfl) ⟨rfl, rfl, Nat.le_of_ble_eq_true rfl, Nat.le_of_ble_eq_true rfl⟩ hcs ?_
    refine p_goto (tgt := 35) G dX7_dropIt_18 (by decide) ?_
    refine p_aload_n G rfl 0 rfl dX7_dropIt_35 ?_
    obtain ⟨v8, hc, h⟩ := bnd_some h
    refine p_callVi G dX7_dropIt_36 lk_X7_204 (c_X7_stocked (gl Γ) hc) (As := []) (ci := 7) rfl rfl rfl rfl (Nat.le_of_ble_eq_true rfl) ⟨rfl, rfl, Nat.le_of_ble_eq_true rfl, Nat.le_of_ble_eq_true rfl⟩ hcs ?_
    (cases h; exact p_iret G hR dX7_dropIt_39 rfl rfl)
set_option maxHeartbeats 4000000 in
set_option maxRecDepth 100000 in
theorem c_X7_knockIt (l : Launch) {D : va_G} {yy : Nat → ClassId} {tk tv a : Nat → Nat} {σ : Mm} {p1 : Int} {o : Mm × Int} (h : x_X7_knockIt σ p1 = some o) : CT l yX7_knockIt cX7_knockIt 4 (some .int) rm_X7_knockIt shW D yy tk tv a σ [.ref (a 0), .int (zJ p1)] o.1 (some (.int (zJ o.2))) := by
  refine ct_of (Ar := fun a tk => [.ref (a 0), .int (zJ p1)]) (by decide) (Nat.le_of_ble_eq_true rfl) (fun Γ G _ _ hR => ?_)
  have hcs := rt_cs hR
  unfold x_X7_knockIt at h
  refine (?_ : PT Γ 4 shW 0 σ [(0, .ref (ga Γ 0)), (1, .int (zJ p1))] [])
  have j84 : ∀ (σ_84 : Mm) (v2_84 : Int) (v3_84 : Int) (w0_84 : Int), x_X7_knockIt_j84 σ_84 v2_84 v3_84 w0_84 = some o → PT Γ 4 shW 84 σ_84 [(0, .ref (ga Γ 0)), (2, .int (zJ v2_84)), (3, .int (zJ v3_84))] [.int (zJ w0_84), .ref (ga Γ 0)] := by
    intro σ_84 v2_84 v3_84 w0_84 h
    unfold x_X7_knockIt_j84 at h
    refine p_iload_n G rfl 2 rfl dX7_knockIt_84 ?_
    refine p_ifeq (tgt := 97) G dX7_knockIt_85 (by decide) h (fun c7 h => ?_) (fun c7 h => ?_)
    · refine p_iconst G rfl dX7_knockIt_97 ?_
      refine p_aload_n G rfl 0 rfl dX7_knockIt_98 ?_
      refine p_get G dX7_knockIt_99 fl_X7_9 (k := 0) rfl rfl ?_
      refine p_iconst G rfl dX7_knockIt_102 ?_
      refine p_iald G dX7_knockIt_103 (k := 1) rfl (zt_c _) h (fun c3 h => ?_)
      refine p_isub G dX7_knockIt_104 ?_
      obtain ⟨σ4, hc, h⟩ := bnd_some h
      refine p_callVi G dX7_knockIt_105 lk_X7_207 (c_X7_endRound (gl Γ) hc) (As := [.int (zJ w0_84), .int (zJ ((1 : Int) - (σ_84 1 (zix (4 : Int)))))]) (ci := 7) rfl rfl rfl rfl (Nat.le_of_ble_eq_true rfl) ⟨rfl, rfl, Nat.le_of_ble_eq_true rfl, Nat.le_of_ble_eq_true rfl⟩ hcs ?_
      refine p_iload_n G rfl 1 rfl dX7_knockIt_108 ?_
      (cases h; exact p_iret G hR dX7_knockIt_109 rfl rfl)
    · refine p_aload_n G rfl 0 rfl dX7_knockIt_88 ?_
      refine p_get G dX7_knockIt_89 fl_X7_9 (k := 0) rfl rfl ?_
      refine p_iconst G rfl dX7_knockIt_92 ?_
      refine p_iald G dX7_knockIt_93 (k := 1) rfl (zt_c _) h (fun c5 h => ?_)
      refine p_goto (tgt := 105) G dX7_knockIt_94 (by decide) ?_
      obtain ⟨σ6, hc, h⟩ := bnd_some h
      refine p_callVi G dX7_knockIt_105 lk_X7_207 (c_X7_endRound (gl Γ) hc) (As := [.int (zJ w0_84), .int (zJ (σ_84 1 (zix (4 : Int))))]) (ci := 7) rfl rfl rfl rfl (Nat.le_of_ble_eq_true rfl) ⟨rfl, rfl, Nat.le_of_ble_eq_true rfl, Nat.le_of_ble_eq_true rfl⟩ hcs ?_
      refine p_iload_n G rfl 1 rfl dX7_knockIt_108 ?_
      (cases h; exact p_iret G hR dX7_knockIt_109 rfl rfl)
  have j72 : ∀ (σ_72 : Mm) (v2_72 : Int) (w0_72 : Int), x_X7_knockIt_j72 σ_72 v2_72 w0_72 = some o → PT Γ 4 shW 72 σ_72 [(0, .ref (ga Γ 0)), (2, .int (zJ v2_72))] [.int (zJ w0_72)] := by
    intro σ_72 v2_72 w0_72 h
    unfold x_X7_knockIt_j72 at h
    refine p_istore_nU (lv' := [(3, .int (zJ w0_72)), (0, .ref (ga Γ 0)), (2, .int (zJ v2_72))]) G rfl dX7_knockIt_72 (by decide) rfl ?_
    refine p_aload_n G rfl 1 rfl dX7_knockIt_73 ?_
    refine p_iload_n G rfl 0 rfl dX7_knockIt_74 ?_
    refine p_ifeq (tgt := 82) G dX7_knockIt_75 (by decide) h (fun c8 h => ?_) (fun c8 h => ?_)
    · refine p_iload_n G rfl 2 rfl dX7_knockIt_82 ?_
      refine p_ineg G dX7_knockIt_83 ?_
      refine p_lv [1, 2, 0] rfl ?_
      exact j84 _ _ _ _ h
    · refine p_iload_n G rfl 2 rfl dX7_knockIt_78 ?_
      refine p_goto (tgt := 84) G dX7_knockIt_79 (by decide) ?_
      refine p_lv [1, 2, 0] rfl ?_
      exact j84 _ _ _ _ h
  have j62 : ∀ (σ_62 : Mm) (w0_62 : Int), x_X7_knockIt_j62 σ_62 w0_62 = some o → PT Γ 4 shW 62 σ_62 [(0, .ref (ga Γ 0))] [.int (zJ w0_62)] := by
    intro σ_62 w0_62 h
    unfold x_X7_knockIt_j62 at h
    refine p_istore_nU (lv' := [(2, .int (zJ w0_62)), (0, .ref (ga Γ 0))]) G rfl dX7_knockIt_62 (by decide) rfl ?_
    refine p_iload_n G rfl 0 rfl dX7_knockIt_63 ?_
    refine p_ifle (tgt := 71) G dX7_knockIt_64 (by decide) h (fun c9 h => ?_) (fun c9 h => ?_)
    · refine p_iconst G rfl dX7_knockIt_71 ?_
      refine p_lv [1, 0] rfl ?_
      exact j72 _ _ _ h
    · refine p_iconst G rfl dX7_knockIt_67 ?_
      refine p_goto (tgt := 72) G dX7_knockIt_68 (by decide) ?_
      refine p_lv [1, 0] rfl ?_
      exact j72 _ _ _ h
  refine p_aload_n G rfl 0 rfl dX7_knockIt_0 ?_
  refine p_iload_n G rfl 1 rfl dX7_knockIt_1 ?_
  obtain ⟨σ1, hc, h⟩ := bnd_some h
  refine p_callVi G dX7_knockIt_2 lk_X7_211 (c_X7_findKnock (gl Γ) hc) (As := [.int (zJ p1)]) (ci := 7) rfl rfl rfl rfl (Nat.le_of_ble_eq_true rfl) ⟨rfl, rfl, Nat.le_of_ble_eq_true rfl, Nat.le_of_ble_eq_true rfl⟩ hcs ?_
  refine p_aload_n G rfl 0 rfl dX7_knockIt_5 ?_
  refine p_iload_n G rfl 1 rfl dX7_knockIt_6 ?_
  obtain ⟨σ2, hc, h⟩ := bnd_some h
  refine p_callVi G dX7_knockIt_7 lk_X7_201 (c_X7_putOnPile (gl Γ) hc) (As := [.int (zJ p1)]) (ci := 7) rfl rfl rfl rfl (Nat.le_of_ble_eq_true rfl) ⟨rfl, rfl, Nat.le_of_ble_eq_true rfl, Nat.le_of_ble_eq_true rfl⟩ hcs ?_
  refine p_aload_n G rfl 0 rfl dX7_knockIt_10 ?_
  refine p_get G dX7_knockIt_11 fl_X7_174 (k := 0) rfl rfl ?_
  refine p_ifne (tgt := 27) G dX7_knockIt_14 (by decide) h (fun c11 h => ?_) (fun c11 h => ?_)
  · refine p_aload_n G rfl 0 rfl dX7_knockIt_27 ?_
    refine p_get G dX7_knockIt_28 fl_X7_174 (k := 0) rfl rfl ?_
    refine p_aload_n G rfl 0 rfl dX7_knockIt_31 ?_
    refine p_get G dX7_knockIt_32 fl_X7_189 (k := 0) rfl rfl ?_
    refine p_icmpge (tgt := 50) G dX7_knockIt_35 (by decide) h (fun c10 h => ?_) (fun c10 h => ?_)
    · refine p_aload_n G rfl 0 rfl dX7_knockIt_50 ?_
      refine p_get G dX7_knockIt_51 fl_X7_189 (k := 0) rfl rfl ?_
      refine p_aload_n G rfl 0 rfl dX7_knockIt_54 ?_
      refine p_get G dX7_knockIt_55 fl_X7_174 (k := 0) rfl rfl ?_
      refine p_isub G dX7_knockIt_58 ?_
      refine p_bipush G (by decide) (by decide) dX7_knockIt_59 ?_
      refine p_isub G dX7_knockIt_61 ?_
      refine p_lv [0] rfl ?_
      exact j62 _ _ h
    · refine p_aload_n G rfl 0 rfl dX7_knockIt_38 ?_
      refine p_get G dX7_knockIt_39 fl_X7_189 (k := 0) rfl rfl ?_
      refine p_aload_n G rfl 0 rfl dX7_knockIt_42 ?_
      refine p_get G dX7_knockIt_43 fl_X7_174 (k := 0) rfl rfl ?_
      refine p_isub G dX7_knockIt_46 ?_
      refine p_goto (tgt := 62) G dX7_knockIt_47 (by decide) ?_
      refine p_lv [0] rfl ?_
      exact j62 _ _ h
  · refine p_aload_n G rfl 0 rfl dX7_knockIt_17 ?_
    refine p_get G dX7_knockIt_18 fl_X7_189 (k := 0) rfl rfl ?_
    refine p_bipush G (by decide) (by decide) dX7_knockIt_21 ?_
    refine p_iadd G dX7_knockIt_23 ?_
    refine p_goto (tgt := 62) G dX7_knockIt_24 (by decide) ?_
    refine p_lv [0] rfl ?_
    exact j62 _ _ h
set_option maxHeartbeats 4000000 in
set_option maxRecDepth 100000 in
theorem c_X7_isMatchOver (l : Launch) {D : va_G} {yy : Nat → ClassId} {tk tv a : Nat → Nat} {σ : Mm} {o : Int} (h : x_X7_isMatchOver σ = some o) : CT l yX7_isMatchOver cX7_isMatchOver 1 (some .boolean) rm_X7_isMatchOver shW D yy tk tv a σ [.ref (a 0)] σ (some (.int (zJ o))) := by
  refine ct_of (Ar := fun a tk => [.ref (a 0)]) (by decide) (Nat.le_of_ble_eq_true rfl) (fun Γ G _ _ hR => ?_)
  have hcs := rt_cs hR
  unfold x_X7_isMatchOver at h
  refine (?_ : PT Γ 1 shW 0 σ [(0, .ref (ga Γ 0))] [])
  refine p_aload_n G rfl 0 rfl dX7_isMatchOver_0 ?_
  refine p_get G dX7_isMatchOver_1 fl_X7_9 (k := 0) rfl rfl ?_
  refine p_bipush G (by decide) (by decide) dX7_isMatchOver_4 ?_
  refine p_iald G dX7_isMatchOver_6 (k := 1) rfl (zt_c _) h (fun c1 h => ?_)
  refine p_iconst G rfl dX7_isMatchOver_7 ?_
  refine p_icmpne (tgt := 47) G dX7_isMatchOver_8 (by decide) h (fun c8 h => ?_) (fun c8 h => ?_)
  · refine p_iconst G rfl dX7_isMatchOver_47 ?_
    (cases h; exact p_zret G hR dX7_isMatchOver_48 (by decide) rfl rfl)
  · refine p_aload_n G rfl 0 rfl dX7_isMatchOver_11 ?_
    refine p_get G dX7_isMatchOver_12 fl_X7_9 (k := 0) rfl rfl ?_
    refine p_bipush G (by decide) (by decide) dX7_isMatchOver_15 ?_
    refine p_iald G dX7_isMatchOver_17 (k := 1) rfl (zt_c _) h (fun c2 h => ?_)
    refine p_aload_n G rfl 0 rfl dX7_isMatchOver_18 ?_
    refine p_get G dX7_isMatchOver_19 fl_X7_9 (k := 0) rfl rfl ?_
    refine p_iconst G rfl dX7_isMatchOver_22 ?_
    refine p_iald G dX7_isMatchOver_23 (k := 1) rfl (zt_c _) h (fun c3 h => ?_)
    refine p_icmpge (tgt := 43) G dX7_isMatchOver_24 (by decide) h (fun c7 h => ?_) (fun c7 h => ?_)
    · refine p_iconst G rfl dX7_isMatchOver_43 ?_
      refine p_goto (tgt := 48) G dX7_isMatchOver_44 (by decide) ?_
      (cases h; exact p_zret G hR dX7_isMatchOver_48 (by decide) rfl rfl)
    · refine p_aload_n G rfl 0 rfl dX7_isMatchOver_27 ?_
      refine p_get G dX7_isMatchOver_28 fl_X7_9 (k := 0) rfl rfl ?_
      refine p_bipush G (by decide) (by decide) dX7_isMatchOver_31 ?_
      refine p_iald G dX7_isMatchOver_33 (k := 1) rfl (zt_c _) h (fun c4 h => ?_)
      refine p_aload_n G rfl 0 rfl dX7_isMatchOver_34 ?_
      refine p_get G dX7_isMatchOver_35 fl_X7_9 (k := 0) rfl rfl ?_
      refine p_iconst G rfl dX7_isMatchOver_38 ?_
      refine p_iald G dX7_isMatchOver_39 (k := 1) rfl (zt_c _) h (fun c5 h => ?_)
      refine p_icmplt (tgt := 47) G dX7_isMatchOver_40 (by decide) h (fun c6 h => ?_) (fun c6 h => ?_)
      · refine p_iconst G rfl dX7_isMatchOver_47 ?_
        (cases h; exact p_zret G hR dX7_isMatchOver_48 (by decide) rfl rfl)
      · refine p_iconst G rfl dX7_isMatchOver_43 ?_
        refine p_goto (tgt := 48) G dX7_isMatchOver_44 (by decide) ?_
        (cases h; exact p_zret G hR dX7_isMatchOver_48 (by decide) rfl rfl)
set_option maxHeartbeats 4000000 in
set_option maxRecDepth 100000 in
theorem c_X7_noDeal (l : Launch) {D : va_G} {yy : Nat → ClassId} {tk tv a : Nat → Nat} {σ : Mm} {o : Int} (h : x_X7_noDeal σ = some o) : CT l yX7_noDeal cX7_noDeal 1 (some .int) rm_X7_noDeal shW D yy tk tv a σ [.ref (a 0)] σ (some (.int (zJ o))) := by
  refine ct_of (Ar := fun a tk => [.ref (a 0)]) (by decide) (Nat.le_of_ble_eq_true rfl) (fun Γ G _ _ hR => ?_)
  have hcs := rt_cs hR
  unfold x_X7_noDeal at h
  refine (?_ : PT Γ 1 shW 0 σ [(0, .ref (ga Γ 0))] [])
  refine p_aload_n G rfl 0 rfl dX7_noDeal_0 ?_
  refine p_get G dX7_noDeal_1 fl_X7_9 (k := 0) rfl rfl ?_
  refine p_bipush G (by decide) (by decide) dX7_noDeal_4 ?_
  refine p_iald G dX7_noDeal_6 (k := 1) rfl (zt_c _) h (fun c1 h => ?_)
  refine p_ifne (tgt := 15) G dX7_noDeal_7 (by decide) h (fun c4 h => ?_) (fun c4 h => ?_)
  · refine p_aload_n G rfl 0 rfl dX7_noDeal_15 ?_
    obtain ⟨v2, hc, h⟩ := bnd_some h
    refine p_callVi G dX7_noDeal_16 lk_X7_214 (c_X7_isMatchOver (gl Γ) hc) (As := []) (ci := 7) rfl rfl rfl rfl (Nat.le_of_ble_eq_true rfl) ⟨rfl, rfl, Nat.le_of_ble_eq_true rfl, Nat.le_of_ble_eq_true rfl⟩ hcs ?_
    refine p_ifeq (tgt := 27) G dX7_noDeal_19 (by decide) h (fun c3 h => ?_) (fun c3 h => ?_)
    · refine p_iconst G rfl dX7_noDeal_27 ?_
      (cases h; exact p_iret G hR dX7_noDeal_28 rfl rfl)
    · refine p_bipush G (by decide) (by decide) dX7_noDeal_22 ?_
      refine p_goto (tgt := 28) G dX7_noDeal_24 (by decide) ?_
      (cases h; exact p_iret G hR dX7_noDeal_28 rfl rfl)
  · refine p_bipush G (by decide) (by decide) dX7_noDeal_10 ?_
    refine p_goto (tgt := 28) G dX7_noDeal_12 (by decide) ?_
    (cases h; exact p_iret G hR dX7_noDeal_28 rfl rfl)
set_option maxHeartbeats 4000000 in
set_option maxRecDepth 100000 in
theorem c_X7_dealIt (l : Launch) {D : va_G} {yy : Nat → ClassId} {tk tv a : Nat → Nat} {σ : Mm} {o : Mm × Int} (h : x_X7_dealIt σ = some o) : CT l yX7_dealIt cX7_dealIt 1 (some .int) rm_X7_dealIt shW D yy tk tv a σ [.ref (a 0)] o.1 (some (.int (zJ o.2))) := by
  refine ct_of (Ar := fun a tk => [.ref (a 0)]) (by decide) (Nat.le_of_ble_eq_true rfl) (fun Γ G _ _ hR => ?_)
  have hcs := rt_cs hR
  unfold x_X7_dealIt at h
  refine (?_ : PT Γ 1 shW 0 σ [(0, .ref (ga Γ 0))] [])
  refine p_aload_n G rfl 0 rfl dX7_dealIt_0 ?_
  refine p_get G dX7_dealIt_1 fl_X7_9 (k := 0) rfl rfl ?_
  refine p_iconst G rfl dX7_dealIt_4 ?_
  refine p_dup2 G rfl rfl dX7_dealIt_5 ?_
  refine p_iald G dX7_dealIt_6 (k := 1) rfl (zt_c _) h (fun c1 h => ?_)
  refine p_iconst G rfl dX7_dealIt_7 ?_
  refine p_iadd G dX7_dealIt_8 ?_
  refine p_iast G dX7_dealIt_9 (k := 1) rfl (zt_c _) rfl h (fun σ2 c3 h => ?_)
  refine p_aload_n G rfl 0 rfl dX7_dealIt_10 ?_
  obtain ⟨σ4, hc, h⟩ := bnd_some h
  refine p_callVi G dX7_dealIt_11 lk_X7_84 (c_X7_shuffle (gl Γ) hc) (As := []) (ci := 7) rfl rfl rfl rfl (Nat.le_of_ble_eq_true rfl) ⟨rfl, rfl, Nat.le_of_ble_eq_true rfl, Nat.le_of_ble_eq_true rfl⟩ hcs ?_
  refine p_aload_n G rfl 0 rfl dX7_dealIt_14 ?_
  obtain ⟨σ5, hc, h⟩ := bnd_some h
  refine p_callVi G dX7_dealIt_15 lk_X7_90 (c_X7_dealOut (gl Γ) hc) (As := []) (ci := 7) rfl rfl rfl rfl (Nat.le_of_ble_eq_true rfl) ⟨rfl, rfl, Nat.le_of_ble_eq_true rfl, Nat.le_of_ble_eq_true rfl⟩ hcs ?_
  refine p_aload_n G rfl 0 rfl dX7_dealIt_18 ?_
  refine p_get G dX7_dealIt_19 fl_X7_9 (k := 0) rfl rfl ?_
  refine p_iconst G rfl dX7_dealIt_22 ?_
  refine p_iald G dX7_dealIt_23 (k := 1) rfl (zt_c _) h (fun c6 h => ?_)
  (cases h; exact p_iret G hR dX7_dealIt_24 rfl rfl)
set_option maxHeartbeats 4000000 in
set_option maxRecDepth 100000 in
theorem c_X7_draw (l : Launch) {D : va_G} {yy : Nat → ClassId} {tk tv a : Nat → Nat} {σ : Mm} {p1 : Int} {o : Mm × Int} (h : x_X7_draw σ p1 = some o) : CT l yX7_draw cX7_draw 3 (some .int) rm_X7_draw shW D yy tk tv a σ [.ref (a 0), .int (zJ p1)] o.1 (some (.int (zJ o.2))) := by
  refine ct_of (Ar := fun a tk => [.ref (a 0), .int (zJ p1)]) (by decide) (Nat.le_of_ble_eq_true rfl) (fun Γ G _ _ hR => ?_)
  have hcs := rt_cs hR
  unfold x_X7_draw at h
  refine (?_ : PT Γ 3 shW 0 σ [(0, .ref (ga Γ 0)), (1, .int (zJ p1))] [])
  refine p_aload_n G rfl 0 rfl dX7_draw_0 ?_
  refine p_iconst G rfl dX7_draw_1 ?_
  refine p_putI G dX7_draw_2 fp_X7_62 (k := 0) rfl rfl rfl rfl h (fun σ1 h => ?_)
  refine p_aload_n G rfl 0 rfl dX7_draw_5 ?_
  obtain ⟨v2, hc, h⟩ := bnd_some h
  refine p_callVi G dX7_draw_6 lk_X7_218 (c_X7_noDraw (gl Γ) hc) (As := []) (ci := 7) rfl rfl rfl rfl (Nat.le_of_ble_eq_true rfl) ⟨rfl, rfl, Nat.le_of_ble_eq_true rfl, Nat.le_of_ble_eq_true rfl⟩ hcs ?_
  refine p_istore_nU (lv' := [(2, .int (zJ v2)), (0, .ref (ga Γ 0)), (1, .int (zJ p1))]) G rfl dX7_draw_9 (by decide) rfl ?_
  refine p_iload_n G rfl 0 rfl dX7_draw_10 ?_
  refine p_ifeq (tgt := 19) G dX7_draw_11 (by decide) h (fun c6 h => ?_) (fun c6 h => ?_)
  · refine p_aload_n G rfl 1 rfl dX7_draw_19 ?_
    refine p_aload_n G rfl 1 rfl dX7_draw_20 ?_
    refine p_get G dX7_draw_21 fl_X7_9 (k := 0) rfl rfl ?_
    obtain ⟨σ3, hc, h⟩ := bnd_some h
    refine p_callVi G dX7_draw_24 lk_X7_221 (c_X7_keepPast_w (gl Γ) hc) (As := [.ref (ga Γ 1)]) (ci := 7) rfl rfl rfl rfl (Nat.le_of_ble_eq_true rfl) ⟨rfl, rfl, Nat.le_of_ble_eq_true rfl, Nat.le_of_ble_eq_true rfl⟩ hcs ?_
    refine p_aload_n G rfl 1 rfl dX7_draw_27 ?_
    refine p_iload_n G rfl 2 rfl dX7_draw_28 ?_
    obtain ⟨⟨σ4, v5⟩, hc, h⟩ := bnd_some h
    rw [un2_mk] at h
    refine p_callVi G dX7_draw_29 lk_X7_225 (c_X7_drawIt (gl Γ) hc) (As := [.int (zJ p1)]) (ci := 7) rfl rfl rfl rfl (Nat.le_of_ble_eq_true rfl) ⟨rfl, rfl, Nat.le_of_ble_eq_true rfl, Nat.le_of_ble_eq_true rfl⟩ hcs ?_
    (cases h; exact p_iret G hR dX7_draw_32 rfl rfl)
  · refine p_bipush G (by decide) (by decide) dX7_draw_14 ?_
    refine p_iload_n G rfl 0 rfl dX7_draw_16 ?_
    refine p_isub G dX7_draw_17 ?_
    (cases h; exact p_iret G hR dX7_draw_18 rfl rfl)
set_option maxHeartbeats 4000000 in
set_option maxRecDepth 100000 in
theorem c_X7_drop (l : Launch) {D : va_G} {yy : Nat → ClassId} {tk tv a : Nat → Nat} {σ : Mm} {p1 : Int} {o : Mm × Int} (h : x_X7_drop σ p1 = some o) : CT l yX7_drop cX7_drop 3 (some .int) rm_X7_drop shW D yy tk tv a σ [.ref (a 0), .int (zJ p1)] o.1 (some (.int (zJ o.2))) := by
  refine ct_of (Ar := fun a tk => [.ref (a 0), .int (zJ p1)]) (by decide) (Nat.le_of_ble_eq_true rfl) (fun Γ G _ _ hR => ?_)
  have hcs := rt_cs hR
  unfold x_X7_drop at h
  refine (?_ : PT Γ 3 shW 0 σ [(0, .ref (ga Γ 0)), (1, .int (zJ p1))] [])
  refine p_aload_n G rfl 0 rfl dX7_drop_0 ?_
  refine p_iconst G rfl dX7_drop_1 ?_
  refine p_putI G dX7_drop_2 fp_X7_62 (k := 0) rfl rfl rfl rfl h (fun σ1 h => ?_)
  refine p_aload_n G rfl 0 rfl dX7_drop_5 ?_
  refine p_iload_n G rfl 1 rfl dX7_drop_6 ?_
  obtain ⟨⟨σ2, v3⟩, hc, h⟩ := bnd_some h
  rw [un2_mk] at h
  refine p_callVi G dX7_drop_7 lk_X7_229 (c_X7_noCard (gl Γ) hc) (As := [.int (zJ p1)]) (ci := 7) rfl rfl rfl rfl (Nat.le_of_ble_eq_true rfl) ⟨rfl, rfl, Nat.le_of_ble_eq_true rfl, Nat.le_of_ble_eq_true rfl⟩ hcs ?_
  refine p_ifeq (tgt := 15) G dX7_drop_10 (by decide) h (fun c9 h => ?_) (fun c9 h => ?_)
  · refine p_aload_n G rfl 0 rfl dX7_drop_15 ?_
    refine p_iload_n G rfl 1 rfl dX7_drop_16 ?_
    obtain ⟨v4, hc, h⟩ := bnd_some h
    refine p_callVi G dX7_drop_17 lk_X7_192 (c_X7_noTurn (gl Γ) hc) (As := [.int (zJ p1)]) (ci := 7) rfl rfl rfl rfl (Nat.le_of_ble_eq_true rfl) ⟨rfl, rfl, Nat.le_of_ble_eq_true rfl, Nat.le_of_ble_eq_true rfl⟩ hcs ?_
    refine p_istore_nU (lv' := [(2, .int (zJ v4)), (0, .ref (ga Γ 0)), (1, .int (zJ p1))]) G rfl dX7_drop_20 (by decide) rfl ?_
    refine p_iload_n G rfl 0 rfl dX7_drop_21 ?_
    refine p_ifeq (tgt := 30) G dX7_drop_22 (by decide) h (fun c8 h => ?_) (fun c8 h => ?_)
    · refine p_aload_n G rfl 1 rfl dX7_drop_30 ?_
      refine p_aload_n G rfl 1 rfl dX7_drop_31 ?_
      refine p_get G dX7_drop_32 fl_X7_9 (k := 0) rfl rfl ?_
      obtain ⟨σ5, hc, h⟩ := bnd_some h
      refine p_callVi G dX7_drop_35 lk_X7_221 (c_X7_keepPast_w (gl Γ) hc) (As := [.ref (ga Γ 1)]) (ci := 7) rfl rfl rfl rfl (Nat.le_of_ble_eq_true rfl) ⟨rfl, rfl, Nat.le_of_ble_eq_true rfl, Nat.le_of_ble_eq_true rfl⟩ hcs ?_
      refine p_aload_n G rfl 1 rfl dX7_drop_38 ?_
      refine p_iload_n G rfl 2 rfl dX7_drop_39 ?_
      obtain ⟨⟨σ6, v7⟩, hc, h⟩ := bnd_some h
      rw [un2_mk] at h
      refine p_callVi G dX7_drop_40 lk_X7_232 (c_X7_dropIt (gl Γ) hc) (As := [.int (zJ p1)]) (ci := 7) rfl rfl rfl rfl (Nat.le_of_ble_eq_true rfl) ⟨rfl, rfl, Nat.le_of_ble_eq_true rfl, Nat.le_of_ble_eq_true rfl⟩ hcs ?_
      (cases h; exact p_iret G hR dX7_drop_43 rfl rfl)
    · refine p_bipush G (by decide) (by decide) dX7_drop_25 ?_
      refine p_iload_n G rfl 0 rfl dX7_drop_27 ?_
      refine p_isub G dX7_drop_28 ?_
      (cases h; exact p_iret G hR dX7_drop_29 rfl rfl)
  · refine p_iconst G rfl dX7_drop_13 ?_
    (cases h; exact p_iret G hR dX7_drop_14 rfl rfl)
set_option maxHeartbeats 4000000 in
set_option maxRecDepth 100000 in
theorem c_X7_knock (l : Launch) {D : va_G} {yy : Nat → ClassId} {tk tv a : Nat → Nat} {σ : Mm} {p1 : Int} {o : Mm × Int} (h : x_X7_knock σ p1 = some o) : CT l yX7_knock cX7_knock 3 (some .int) rm_X7_knock shW D yy tk tv a σ [.ref (a 0), .int (zJ p1)] o.1 (some (.int (zJ o.2))) := by
  refine ct_of (Ar := fun a tk => [.ref (a 0), .int (zJ p1)]) (by decide) (Nat.le_of_ble_eq_true rfl) (fun Γ G _ _ hR => ?_)
  have hcs := rt_cs hR
  unfold x_X7_knock at h
  refine (?_ : PT Γ 3 shW 0 σ [(0, .ref (ga Γ 0)), (1, .int (zJ p1))] [])
  refine p_aload_n G rfl 0 rfl dX7_knock_0 ?_
  refine p_iconst G rfl dX7_knock_1 ?_
  refine p_putI G dX7_knock_2 fp_X7_62 (k := 0) rfl rfl rfl rfl h (fun σ1 h => ?_)
  refine p_aload_n G rfl 0 rfl dX7_knock_5 ?_
  refine p_iload_n G rfl 1 rfl dX7_knock_6 ?_
  obtain ⟨⟨σ2, v3⟩, hc, h⟩ := bnd_some h
  rw [un2_mk] at h
  refine p_callVi G dX7_knock_7 lk_X7_229 (c_X7_noCard (gl Γ) hc) (As := [.int (zJ p1)]) (ci := 7) rfl rfl rfl rfl (Nat.le_of_ble_eq_true rfl) ⟨rfl, rfl, Nat.le_of_ble_eq_true rfl, Nat.le_of_ble_eq_true rfl⟩ hcs ?_
  refine p_ifeq (tgt := 15) G dX7_knock_10 (by decide) h (fun c10 h => ?_) (fun c10 h => ?_)
  · refine p_aload_n G rfl 0 rfl dX7_knock_15 ?_
    refine p_iload_n G rfl 1 rfl dX7_knock_16 ?_
    obtain ⟨⟨σ4, v5⟩, hc, h⟩ := bnd_some h
    rw [un2_mk] at h
    refine p_callVi G dX7_knock_17 lk_X7_235 (c_X7_noKnock (gl Γ) hc) (As := [.int (zJ p1)]) (ci := 7) rfl rfl rfl rfl (Nat.le_of_ble_eq_true rfl) ⟨rfl, rfl, Nat.le_of_ble_eq_true rfl, Nat.le_of_ble_eq_true rfl⟩ hcs ?_
    refine p_istore_nU (lv' := [(2, .int (zJ v5)), (0, .ref (ga Γ 0)), (1, .int (zJ p1))]) G rfl dX7_knock_20 (by decide) rfl ?_
    refine p_iload_n G rfl 0 rfl dX7_knock_21 ?_
    refine p_ifeq (tgt := 31) G dX7_knock_22 (by decide) h (fun c9 h => ?_) (fun c9 h => ?_)
    · refine p_aload_n G rfl 1 rfl dX7_knock_31 ?_
      refine p_aload_n G rfl 1 rfl dX7_knock_32 ?_
      refine p_get G dX7_knock_33 fl_X7_9 (k := 0) rfl rfl ?_
      obtain ⟨σ6, hc, h⟩ := bnd_some h
      refine p_callVi G dX7_knock_36 lk_X7_221 (c_X7_keepPast_w (gl Γ) hc) (As := [.ref (ga Γ 1)]) (ci := 7) rfl rfl rfl rfl (Nat.le_of_ble_eq_true rfl) ⟨rfl, rfl, Nat.le_of_ble_eq_true rfl, Nat.le_of_ble_eq_true rfl⟩ hcs ?_
      refine p_aload_n G rfl 1 rfl dX7_knock_39 ?_
      refine p_iload_n G rfl 2 rfl dX7_knock_40 ?_
      obtain ⟨⟨σ7, v8⟩, hc, h⟩ := bnd_some h
      rw [un2_mk] at h
      refine p_callVi G dX7_knock_41 lk_X7_238 (c_X7_knockIt (gl Γ) hc) (As := [.int (zJ p1)]) (ci := 7) rfl rfl rfl rfl (Nat.le_of_ble_eq_true rfl) ⟨rfl, rfl, Nat.le_of_ble_eq_true rfl, Nat.le_of_ble_eq_true rfl⟩ hcs ?_
      (cases h; exact p_iret G hR dX7_knock_44 rfl rfl)
    · refine p_sipush G (by decide) (by decide) dX7_knock_25 ?_
      refine p_iload_n G rfl 0 rfl dX7_knock_28 ?_
      refine p_isub G dX7_knock_29 ?_
      (cases h; exact p_iret G hR dX7_knock_30 rfl rfl)
  · refine p_iconst G rfl dX7_knock_13 ?_
    (cases h; exact p_iret G hR dX7_knock_14 rfl rfl)
set_option maxHeartbeats 4000000 in
set_option maxRecDepth 100000 in
theorem c_X7_deal (l : Launch) {D : va_G} {yy : Nat → ClassId} {tk tv a : Nat → Nat} {σ : Mm} {o : Mm × Int} (h : x_X7_deal σ = some o) : CT l yX7_deal cX7_deal 2 (some .int) rm_X7_deal shW D yy tk tv a σ [.ref (a 0)] o.1 (some (.int (zJ o.2))) := by
  refine ct_of (Ar := fun a tk => [.ref (a 0)]) (by decide) (Nat.le_of_ble_eq_true rfl) (fun Γ G _ _ hR => ?_)
  have hcs := rt_cs hR
  unfold x_X7_deal at h
  refine (?_ : PT Γ 2 shW 0 σ [(0, .ref (ga Γ 0))] [])
  refine p_aload_n G rfl 0 rfl dX7_deal_0 ?_
  refine p_iconst G rfl dX7_deal_1 ?_
  refine p_putI G dX7_deal_2 fp_X7_62 (k := 0) rfl rfl rfl rfl h (fun σ1 h => ?_)
  refine p_aload_n G rfl 0 rfl dX7_deal_5 ?_
  obtain ⟨v2, hc, h⟩ := bnd_some h
  refine p_callVi G dX7_deal_6 lk_X7_241 (c_X7_noDeal (gl Γ) hc) (As := []) (ci := 7) rfl rfl rfl rfl (Nat.le_of_ble_eq_true rfl) ⟨rfl, rfl, Nat.le_of_ble_eq_true rfl, Nat.le_of_ble_eq_true rfl⟩ hcs ?_
  refine p_istore_nU (lv' := [(1, .int (zJ v2)), (0, .ref (ga Γ 0))]) G rfl dX7_deal_9 (by decide) rfl ?_
  refine p_iload_n G rfl 0 rfl dX7_deal_10 ?_
  refine p_ifeq (tgt := 17) G dX7_deal_11 (by decide) h (fun c6 h => ?_) (fun c6 h => ?_)
  · refine p_aload_n G rfl 1 rfl dX7_deal_17 ?_
    refine p_aload_n G rfl 1 rfl dX7_deal_18 ?_
    refine p_get G dX7_deal_19 fl_X7_9 (k := 0) rfl rfl ?_
    obtain ⟨σ3, hc, h⟩ := bnd_some h
    refine p_callVi G dX7_deal_22 lk_X7_221 (c_X7_keepPast_w (gl Γ) hc) (As := [.ref (ga Γ 1)]) (ci := 7) rfl rfl rfl rfl (Nat.le_of_ble_eq_true rfl) ⟨rfl, rfl, Nat.le_of_ble_eq_true rfl, Nat.le_of_ble_eq_true rfl⟩ hcs ?_
    refine p_aload_n G rfl 1 rfl dX7_deal_25 ?_
    obtain ⟨⟨σ4, v5⟩, hc, h⟩ := bnd_some h
    rw [un2_mk] at h
    refine p_callVi G dX7_deal_26 lk_X7_244 (c_X7_dealIt (gl Γ) hc) (As := []) (ci := 7) rfl rfl rfl rfl (Nat.le_of_ble_eq_true rfl) ⟨rfl, rfl, Nat.le_of_ble_eq_true rfl, Nat.le_of_ble_eq_true rfl⟩ hcs ?_
    (cases h; exact p_iret G hR dX7_deal_29 rfl rfl)
  · refine p_iload_n G rfl 0 rfl dX7_deal_14 ?_
    refine p_ineg G dX7_deal_15 ?_
    (cases h; exact p_iret G hR dX7_deal_16 rfl rfl)
set_option maxHeartbeats 4000000 in
set_option maxRecDepth 100000 in
theorem c_X7_set (l : Launch) {D : va_G} {yy : Nat → ClassId} {tk tv a : Nat → Nat} {σ : Mm} {p1 : Int} {p2 : Int} {o : Mm × Int} (h : x_X7_set σ p1 p2 = some o) : CT l yX7_set cX7_set 5 (some .int) rm_X7_set shW D yy tk tv a σ [.ref (a 0), .int (zJ p1), .int (zJ p2)] o.1 (some (.int (zJ o.2))) := by
  refine ct_of (Ar := fun a tk => [.ref (a 0), .int (zJ p1), .int (zJ p2)]) (by decide) (Nat.le_of_ble_eq_true rfl) (fun Γ G _ _ hR => ?_)
  have hcs := rt_cs hR
  unfold x_X7_set at h
  refine (?_ : PT Γ 5 shW 0 σ [(0, .ref (ga Γ 0)), (1, .int (zJ p1)), (2, .int (zJ p2))] [])
  have j32 : ∀ (σ_32 : Mm) (v1_32 : Int) (v2_32 : Int) (w0_32 : Int64) (w1_32 : Int64) (w2_32 : Int64), x_X7_set_j32 σ_32 v1_32 v2_32 w0_32 w1_32 w2_32 = some o → PT Γ 5 shW 32 σ_32 [(0, .ref (ga Γ 0)), (1, .int (zJ v1_32)), (2, .int (zJ v2_32))] [.long w0_32, .long w1_32, .long w2_32, .ref (ga Γ 0)] := by
    intro σ_32 v1_32 v2_32 w0_32 w1_32 w2_32 h
    unfold x_X7_set_j32 at h
    refine p_iconst G rfl dX7_set_32 ?_
    obtain ⟨⟨σ2, v3⟩, hc, h⟩ := bnd_some h
    rw [un2_mk] at h
    refine p_callVi G dX7_set_33 lk_X7_72 (c_X7_bad (gl Γ) hc) (As := [.long w2_32, .long w1_32, .long w0_32, .int (zJ (1 : Int))]) (ci := 7) rfl rfl rfl rfl (Nat.le_of_ble_eq_true rfl) ⟨rfl, rfl, Nat.le_of_ble_eq_true rfl, Nat.le_of_ble_eq_true rfl⟩ hcs ?_
    refine p_ifeq (tgt := 41) G dX7_set_36 (by decide) h (fun c14 h => ?_) (fun c14 h => ?_)
    · refine p_aload_n G rfl 0 rfl dX7_set_41 ?_
      refine p_aload_n G rfl 0 rfl dX7_set_42 ?_
      refine p_get G dX7_set_43 fl_X7_9 (k := 0) rfl rfl ?_
      obtain ⟨σ4, hc, h⟩ := bnd_some h
      refine p_callVi G dX7_set_46 lk_X7_221 (c_X7_keepPast_w (gl Γ) hc) (As := [.ref (ga Γ 1)]) (ci := 7) rfl rfl rfl rfl (Nat.le_of_ble_eq_true rfl) ⟨rfl, rfl, Nat.le_of_ble_eq_true rfl, Nat.le_of_ble_eq_true rfl⟩ hcs ?_
      refine p_iload_n G rfl 1 rfl dX7_set_49 ?_
      refine p_ifeq (tgt := 57) G dX7_set_50 (by decide) h (fun c13 h => ?_) (fun c13 h => ?_)
      · refine p_iconst G rfl dX7_set_57 ?_
        refine p_istore_nU (lv' := [(3, .int (zJ (1 : Int))), (0, .ref (ga Γ 0)), (1, .int (zJ v1_32)), (2, .int (zJ v2_32))]) G rfl dX7_set_58 (by decide) rfl ?_
        refine p_aload_n G rfl 1 rfl dX7_set_59 ?_
        refine p_get G dX7_set_60 fl_X7_9 (k := 0) rfl rfl ?_
        refine p_iload_n G rfl 0 rfl dX7_set_63 ?_
        refine p_iald G dX7_set_64 (k := 1) rfl (zt_c _) h (fun c5 h => ?_)
        refine p_istore (lv' := fun v6 => [(4, .int (zJ v6)), (3, .int (zJ (1 : Int))), (0, .ref (ga Γ 0)), (1, .int (zJ v1_32)), (2, .int (zJ v2_32))]) G dX7_set_65 h (by decide) (fun _ => rfl) (fun v6 h => ?_)
        refine p_aload_n G rfl 2 rfl dX7_set_67 ?_
        refine p_get G dX7_set_68 fl_X7_9 (k := 0) rfl rfl ?_
        refine p_iload_n G rfl 1 rfl dX7_set_71 ?_
        refine p_iload_n G rfl 4 rfl dX7_set_72 ?_
        refine p_iast G dX7_set_73 (k := 1) rfl (zt_c _) rfl h (fun σ7 c8 h => ?_)
        refine p_iload G 0 rfl dX7_set_74 ?_
        (cases h; exact p_iret G hR dX7_set_76 rfl rfl)
      · refine p_iconst G rfl dX7_set_53 ?_
        refine p_goto (tgt := 58) G dX7_set_54 (by decide) ?_
        refine p_istore_nU (lv' := [(3, .int (zJ (2 : Int))), (0, .ref (ga Γ 0)), (1, .int (zJ v1_32)), (2, .int (zJ v2_32))]) G rfl dX7_set_58 (by decide) rfl ?_
        refine p_aload_n G rfl 1 rfl dX7_set_59 ?_
        refine p_get G dX7_set_60 fl_X7_9 (k := 0) rfl rfl ?_
        refine p_iload_n G rfl 0 rfl dX7_set_63 ?_
        refine p_iald G dX7_set_64 (k := 1) rfl (zt_c _) h (fun c9 h => ?_)
        refine p_istore (lv' := fun v10 => [(4, .int (zJ v10)), (3, .int (zJ (2 : Int))), (0, .ref (ga Γ 0)), (1, .int (zJ v1_32)), (2, .int (zJ v2_32))]) G dX7_set_65 h (by decide) (fun _ => rfl) (fun v10 h => ?_)
        refine p_aload_n G rfl 2 rfl dX7_set_67 ?_
        refine p_get G dX7_set_68 fl_X7_9 (k := 0) rfl rfl ?_
        refine p_iload_n G rfl 1 rfl dX7_set_71 ?_
        refine p_iload_n G rfl 4 rfl dX7_set_72 ?_
        refine p_iast G dX7_set_73 (k := 1) rfl (zt_c _) rfl h (fun σ11 c12 h => ?_)
        refine p_iload G 0 rfl dX7_set_74 ?_
        (cases h; exact p_iret G hR dX7_set_76 rfl rfl)
    · refine p_iconst G rfl dX7_set_39 ?_
      (cases h; exact p_iret G hR dX7_set_40 rfl rfl)
  have j19 : ∀ (σ_19 : Mm) (v1_19 : Int) (v2_19 : Int) (w0_19 : Int64) (w1_19 : Int64), x_X7_set_j19 σ_19 v1_19 v2_19 w0_19 w1_19 = some o → PT Γ 5 shW 19 σ_19 [(0, .ref (ga Γ 0)), (1, .int (zJ v1_19)), (2, .int (zJ v2_19))] [.long w0_19, .long w1_19, .ref (ga Γ 0)] := by
    intro σ_19 v1_19 v2_19 w0_19 w1_19 h
    unfold x_X7_set_j19 at h
    refine p_iload_n G rfl 1 rfl dX7_set_19 ?_
    refine p_ifeq (tgt := 29) G dX7_set_20 (by decide) h (fun c15 h => ?_) (fun c15 h => ?_)
    · refine p_ldc2 G gm_1425 dX7_set_29 ?_
      exact j32 _ _ _ _ _ _ h
    · refine p_ldc2 G gm_1426 dX7_set_23 ?_
      refine p_goto (tgt := 32) G dX7_set_26 (by decide) ?_
      exact j32 _ _ _ _ _ _ h
  refine p_aload_n G rfl 0 rfl dX7_set_0 ?_
  refine p_iconst G rfl dX7_set_1 ?_
  refine p_putI G dX7_set_2 fp_X7_62 (k := 0) rfl rfl rfl rfl h (fun σ1 h => ?_)
  refine p_aload_n G rfl 0 rfl dX7_set_5 ?_
  refine p_iload_n G rfl 2 rfl dX7_set_6 ?_
  refine p_i2l G dX7_set_7 ?_
  refine p_iload_n G rfl 1 rfl dX7_set_8 ?_
  refine p_ifeq (tgt := 18) G dX7_set_9 (by decide) h (fun c16 h => ?_) (fun c16 h => ?_)
  · refine p_lconst G (v := 0) (by decide) dX7_set_18 ?_
    exact j19 _ _ _ _ _ h
  · refine p_ldc2 G gm_1425 dX7_set_12 ?_
    refine p_goto (tgt := 19) G dX7_set_15 (by decide) ?_
    exact j19 _ _ _ _ _ h
set_option maxHeartbeats 4000000 in
set_option maxRecDepth 100000 in
theorem c_X7_undo (l : Launch) {D : va_G} {yy : Nat → ClassId} {tk tv a : Nat → Nat} {σ : Mm} {o : Mm × Int} (h : x_X7_undo σ = some o) : CT l yX7_undo cX7_undo 1 (some .int) rm_X7_undo shW D yy tk tv a σ [.ref (a 0)] o.1 (some (.int (zJ o.2))) := by
  refine ct_of (Ar := fun a tk => [.ref (a 0)]) (by decide) (Nat.le_of_ble_eq_true rfl) (fun Γ G _ _ hR => ?_)
  have hcs := rt_cs hR
  unfold x_X7_undo at h
  refine (?_ : PT Γ 1 shW 0 σ [(0, .ref (ga Γ 0))] [])
  refine p_aload_n G rfl 0 rfl dX7_undo_0 ?_
  refine p_iconst G rfl dX7_undo_1 ?_
  refine p_putI G dX7_undo_2 fp_X7_62 (k := 0) rfl rfl rfl rfl h (fun σ1 h => ?_)
  refine p_aload_n G rfl 0 rfl dX7_undo_5 ?_
  refine p_get G dX7_undo_6 fl_X7_65 (k := 0) rfl rfl ?_
  refine p_ifne (tgt := 14) G dX7_undo_9 (by decide) h (fun c7 h => ?_) (fun c7 h => ?_)
  · refine p_aload_n G rfl 0 rfl dX7_undo_14 ?_
    refine p_dup G rfl dX7_undo_15 ?_
    refine p_get G dX7_undo_16 fl_X7_65 (k := 0) rfl rfl ?_
    refine p_iconst G rfl dX7_undo_19 ?_
    refine p_isub G dX7_undo_20 ?_
    refine p_putI G dX7_undo_21 fp_X7_65 (k := 0) rfl rfl rfl rfl h (fun σ2 h => ?_)
    refine p_aload_n G rfl 0 rfl dX7_undo_24 ?_
    refine p_get G dX7_undo_25 fl_X7_15 (k := 0) rfl rfl ?_
    refine p_aload_n G rfl 0 rfl dX7_undo_28 ?_
    refine p_get G dX7_undo_29 fl_X7_65 (k := 0) rfl rfl ?_
    refine p_aaldA (lo := 3) (hi := 13) G dX7_undo_32 (k := 2) rfl (zt_c _) (by decide) h (fun c6 c6a c6b h => ?_)
    refine p_aload_n G rfl 0 rfl dX7_undo_33 ?_
    refine p_get G dX7_undo_34 fl_X7_9 (k := 0) rfl rfl ?_
    refine zift h (fun c5 h => ?_)
    obtain ⟨σ3, hc, h⟩ := bnd_some h
    have c5z := zk_30 (Int.toNat (σ2 2 (zix (σ2 0 3)))) (by omega) (by omega)
    refine p_callS G [(Int.toNat (σ2 2 (zix (σ2 0 3)))), 1] dX7_undo_37 lk_X7_68 (c_X7_copy (gl Γ) hc) (As := [.ref (ga Γ (Int.toNat (σ2 2 (zix (σ2 0 3))))), .ref (ga Γ 1)]) rfl c5z.1 (zs_x c5z.2 _) rfl (Nat.le_of_ble_eq_true rfl) ⟨rfl, rfl, Nat.le_of_ble_eq_true rfl, Nat.le_of_ble_eq_true rfl⟩ hcs ?_
    refine p_nm h (fun σ4 h => ?_)
    refine p_aload_n G rfl 0 rfl dX7_undo_40 ?_
    refine p_get G dX7_undo_41 fl_X7_65 (k := 0) rfl rfl ?_
    (cases h; exact p_iret G hR dX7_undo_44 rfl rfl)
  · refine p_iconst G rfl dX7_undo_12 ?_
    (cases h; exact p_iret G hR dX7_undo_13 rfl rfl)
set_option maxHeartbeats 4000000 in
set_option maxRecDepth 100000 in
theorem c_X7_keep (l : Launch) {D : va_G} {yy : Nat → ClassId} {tk tv a : Nat → Nat} {σ : Mm} {p1 : Int} {o : Mm × Int} (h : x_X7_keep σ p1 = some o) : CT l yX7_keep cX7_keep 2 (some .int) rm_X7_keep shW D yy tk tv a σ [.ref (a 0), .int (zJ p1)] o.1 (some (.int (zJ o.2))) := by
  refine ct_of (Ar := fun a tk => [.ref (a 0), .int (zJ p1)]) (by decide) (Nat.le_of_ble_eq_true rfl) (fun Γ G _ _ hR => ?_)
  have hcs := rt_cs hR
  unfold x_X7_keep at h
  refine (?_ : PT Γ 2 shW 0 σ [(0, .ref (ga Γ 0)), (1, .int (zJ p1))] [])
  refine p_aload_n G rfl 0 rfl dX7_keep_0 ?_
  refine p_iconst G rfl dX7_keep_1 ?_
  refine p_putI G dX7_keep_2 fp_X7_62 (k := 0) rfl rfl rfl rfl h (fun σ1 h => ?_)
  refine p_aload_n G rfl 0 rfl dX7_keep_5 ?_
  refine p_iload_n G rfl 1 rfl dX7_keep_6 ?_
  refine p_i2l G dX7_keep_7 ?_
  refine p_lconst G (v := 0) (by decide) dX7_keep_8 ?_
  refine p_lconst G (v := 1) (by decide) dX7_keep_9 ?_
  refine p_iconst G rfl dX7_keep_10 ?_
  obtain ⟨⟨σ2, v3⟩, hc, h⟩ := bnd_some h
  rw [un2_mk] at h
  refine p_callVi G dX7_keep_11 lk_X7_72 (c_X7_bad (gl Γ) hc) (As := [.long (zi2l p1), .long (0 : Int64), .long (1 : Int64), .int (zJ (1 : Int))]) (ci := 7) rfl rfl rfl rfl (Nat.le_of_ble_eq_true rfl) ⟨rfl, rfl, Nat.le_of_ble_eq_true rfl, Nat.le_of_ble_eq_true rfl⟩ hcs ?_
  refine p_ifeq (tgt := 19) G dX7_keep_14 (by decide) h (fun c11 h => ?_) (fun c11 h => ?_)
  · refine p_aload_n G rfl 0 rfl dX7_keep_19 ?_
    refine p_get G dX7_keep_20 fl_X7_9 (k := 0) rfl rfl ?_
    refine p_aload_n G rfl 0 rfl dX7_keep_23 ?_
    refine p_get G dX7_keep_24 fl_X7_18 (k := 0) rfl rfl ?_
    refine p_iload_n G rfl 1 rfl dX7_keep_27 ?_
    refine p_aaldA (lo := 14) (hi := 16) G dX7_keep_28 (k := 13) rfl (zt_c _) (by decide) h (fun c10 c10a c10b h => ?_)
    refine zift h (fun c9 h => ?_)
    obtain ⟨σ4, hc, h⟩ := bnd_some h
    have c9z := zk_31 (Int.toNat (σ2 13 (zix p1))) (by omega) (by omega)
    refine p_callS G [1, (Int.toNat (σ2 13 (zix p1)))] dX7_keep_29 lk_X7_68 (c_X7_copy (gl Γ) hc) (As := [.ref (ga Γ 1), .ref (ga Γ (Int.toNat (σ2 13 (zix p1))))]) rfl c9z.1 (zs_x c9z.2 _) rfl (Nat.le_of_ble_eq_true rfl) ⟨rfl, rfl, Nat.le_of_ble_eq_true rfl, Nat.le_of_ble_eq_true rfl⟩ hcs ?_
    refine p_nm h (fun σ5 h => ?_)
    refine p_aload_n G rfl 0 rfl dX7_keep_32 ?_
    refine p_get G dX7_keep_33 fl_X7_21 (k := 0) rfl rfl ?_
    refine p_iload_n G rfl 1 rfl dX7_keep_36 ?_
    refine p_iconst G rfl dX7_keep_37 ?_
    refine p_zast G dX7_keep_38 (k := 16) rfl (zt_c _) rfl h (fun σ6 c7 h => ?_)
    refine p_aload_n G rfl 0 rfl dX7_keep_39 ?_
    refine p_get G dX7_keep_40 fl_X7_9 (k := 0) rfl rfl ?_
    refine p_iconst G rfl dX7_keep_43 ?_
    refine p_iald G dX7_keep_44 (k := 1) rfl (zt_c _) h (fun c8 h => ?_)
    (cases h; exact p_iret G hR dX7_keep_45 rfl rfl)
  · refine p_iconst G rfl dX7_keep_17 ?_
    (cases h; exact p_iret G hR dX7_keep_18 rfl rfl)
set_option maxHeartbeats 4000000 in
set_option maxRecDepth 100000 in
theorem c_X7_restore (l : Launch) {D : va_G} {yy : Nat → ClassId} {tk tv a : Nat → Nat} {σ : Mm} {p1 : Int} {o : Mm × Int} (h : x_X7_restore σ p1 = some o) : CT l yX7_restore cX7_restore 2 (some .int) rm_X7_restore shW D yy tk tv a σ [.ref (a 0), .int (zJ p1)] o.1 (some (.int (zJ o.2))) := by
  refine ct_of (Ar := fun a tk => [.ref (a 0), .int (zJ p1)]) (by decide) (Nat.le_of_ble_eq_true rfl) (fun Γ G _ _ hR => ?_)
  have hcs := rt_cs hR
  unfold x_X7_restore at h
  refine (?_ : PT Γ 2 shW 0 σ [(0, .ref (ga Γ 0)), (1, .int (zJ p1))] [])
  refine p_aload_n G rfl 0 rfl dX7_restore_0 ?_
  refine p_iconst G rfl dX7_restore_1 ?_
  refine p_putI G dX7_restore_2 fp_X7_62 (k := 0) rfl rfl rfl rfl h (fun σ1 h => ?_)
  refine p_aload_n G rfl 0 rfl dX7_restore_5 ?_
  refine p_iload_n G rfl 1 rfl dX7_restore_6 ?_
  refine p_i2l G dX7_restore_7 ?_
  refine p_lconst G (v := 0) (by decide) dX7_restore_8 ?_
  refine p_lconst G (v := 1) (by decide) dX7_restore_9 ?_
  refine p_iconst G rfl dX7_restore_10 ?_
  obtain ⟨⟨σ2, v3⟩, hc, h⟩ := bnd_some h
  rw [un2_mk] at h
  refine p_callVi G dX7_restore_11 lk_X7_72 (c_X7_bad (gl Γ) hc) (As := [.long (zi2l p1), .long (0 : Int64), .long (1 : Int64), .int (zJ (1 : Int))]) (ci := 7) rfl rfl rfl rfl (Nat.le_of_ble_eq_true rfl) ⟨rfl, rfl, Nat.le_of_ble_eq_true rfl, Nat.le_of_ble_eq_true rfl⟩ hcs ?_
  refine p_ifeq (tgt := 19) G dX7_restore_14 (by decide) h (fun c13 h => ?_) (fun c13 h => ?_)
  · refine p_aload_n G rfl 0 rfl dX7_restore_19 ?_
    refine p_get G dX7_restore_20 fl_X7_21 (k := 0) rfl rfl ?_
    refine p_iload_n G rfl 1 rfl dX7_restore_23 ?_
    refine p_zald G dX7_restore_24 (k := 16) rfl (zt_c _) h (fun c4 h => ?_)
    refine p_ifne (tgt := 35) G dX7_restore_25 (by decide) h (fun c12 h => ?_) (fun c12 h => ?_)
    · refine p_aload_n G rfl 0 rfl dX7_restore_35 ?_
      refine p_get G dX7_restore_36 fl_X7_18 (k := 0) rfl rfl ?_
      refine p_iload_n G rfl 1 rfl dX7_restore_39 ?_
      refine p_aaldA (lo := 14) (hi := 16) G dX7_restore_40 (k := 13) rfl (zt_c _) (by decide) h (fun c10 c10a c10b h => ?_)
      refine p_aload_n G rfl 0 rfl dX7_restore_41 ?_
      refine p_get G dX7_restore_42 fl_X7_9 (k := 0) rfl rfl ?_
      refine zift h (fun c9 h => ?_)
      obtain ⟨σ5, hc, h⟩ := bnd_some h
      have c9z := zk_32 (Int.toNat (σ2 13 (zix p1))) (by omega) (by omega)
      refine p_callS G [(Int.toNat (σ2 13 (zix p1))), 1] dX7_restore_45 lk_X7_68 (c_X7_copy (gl Γ) hc) (As := [.ref (ga Γ (Int.toNat (σ2 13 (zix p1)))), .ref (ga Γ 1)]) rfl c9z.1 (zs_x c9z.2 _) rfl (Nat.le_of_ble_eq_true rfl) ⟨rfl, rfl, Nat.le_of_ble_eq_true rfl, Nat.le_of_ble_eq_true rfl⟩ hcs ?_
      refine p_nm h (fun σ6 h => ?_)
      refine p_aload_n G rfl 0 rfl dX7_restore_48 ?_
      refine p_iconst G rfl dX7_restore_49 ?_
      refine p_putI G dX7_restore_50 fp_X7_65 (k := 0) rfl rfl rfl rfl h (fun σ7 h => ?_)
      refine p_aload_n G rfl 0 rfl dX7_restore_53 ?_
      refine p_get G dX7_restore_54 fl_X7_9 (k := 0) rfl rfl ?_
      refine p_iconst G rfl dX7_restore_57 ?_
      refine p_iald G dX7_restore_58 (k := 1) rfl (zt_c _) h (fun c8 h => ?_)
      (cases h; exact p_iret G hR dX7_restore_59 rfl rfl)
    · refine p_aload_n G rfl 0 rfl dX7_restore_28 ?_
      refine p_iconst G rfl dX7_restore_29 ?_
      refine p_putI G dX7_restore_30 fp_X7_62 (k := 0) rfl rfl rfl rfl h (fun σ11 h => ?_)
      refine p_iconst G rfl dX7_restore_33 ?_
      (cases h; exact p_iret G hR dX7_restore_34 rfl rfl)
  · refine p_iconst G rfl dX7_restore_17 ?_
    (cases h; exact p_iret G hR dX7_restore_18 rfl rfl)
set_option maxHeartbeats 4000000 in
set_option maxRecDepth 100000 in
theorem c_X7_letterAt (l : Launch) {D : va_G} {yy : Nat → ClassId} {tk tv a : Nat → Nat} {σ : Mm} {p1 : Int} {o : Int} (h : x_X7_letterAt σ p1 = some o) : CT l yX7_letterAt cX7_letterAt 2 (some .boolean) rm_X7_letterAt shW D yy tk tv a σ [.ref (a 0), .int (zJ p1)] σ (some (.int (zJ o))) := by
  refine ct_of (Ar := fun a tk => [.ref (a 0), .int (zJ p1)]) (by decide) (Nat.le_of_ble_eq_true rfl) (fun Γ G _ _ hR => ?_)
  have hcs := rt_cs hR
  unfold x_X7_letterAt at h
  refine (?_ : PT Γ 2 shW 0 σ [(0, .ref (ga Γ 0)), (1, .int (zJ p1))] [])
  refine p_iload_n G rfl 1 rfl dX7_letterAt_0 ?_
  refine p_aload_n G rfl 0 rfl dX7_letterAt_1 ?_
  refine p_get G dX7_letterAt_2 fl_X7_251 (k := 0) rfl rfl ?_
  refine p_icmpge (tgt := 34) G dX7_letterAt_5 (by decide) h (fun c5 h => ?_) (fun c5 h => ?_)
  · refine p_iconst G rfl dX7_letterAt_34 ?_
    (cases h; exact p_zret G hR dX7_letterAt_35 (by decide) rfl rfl)
  · refine p_aload_n G rfl 0 rfl dX7_letterAt_8 ?_
    refine p_get G dX7_letterAt_9 fl_X7_28 (k := 0) rfl rfl ?_
    refine p_iload_n G rfl 1 rfl dX7_letterAt_12 ?_
    refine p_iald G dX7_letterAt_13 (k := 18) rfl (zt_c _) h (fun c1 h => ?_)
    refine p_bipush G (by decide) (by decide) dX7_letterAt_14 ?_
    refine p_icmplt (tgt := 34) G dX7_letterAt_16 (by decide) h (fun c4 h => ?_) (fun c4 h => ?_)
    · refine p_iconst G rfl dX7_letterAt_34 ?_
      (cases h; exact p_zret G hR dX7_letterAt_35 (by decide) rfl rfl)
    · refine p_aload_n G rfl 0 rfl dX7_letterAt_19 ?_
      refine p_get G dX7_letterAt_20 fl_X7_28 (k := 0) rfl rfl ?_
      refine p_iload_n G rfl 1 rfl dX7_letterAt_23 ?_
      refine p_iald G dX7_letterAt_24 (k := 18) rfl (zt_c _) h (fun c2 h => ?_)
      refine p_bipush G (by decide) (by decide) dX7_letterAt_25 ?_
      refine p_icmpgt (tgt := 34) G dX7_letterAt_27 (by decide) h (fun c3 h => ?_) (fun c3 h => ?_)
      · refine p_iconst G rfl dX7_letterAt_34 ?_
        (cases h; exact p_zret G hR dX7_letterAt_35 (by decide) rfl rfl)
      · refine p_iconst G rfl dX7_letterAt_30 ?_
        refine p_goto (tgt := 35) G dX7_letterAt_31 (by decide) ?_
        (cases h; exact p_zret G hR dX7_letterAt_35 (by decide) rfl rfl)
set_option maxHeartbeats 4000000 in
set_option maxRecDepth 100000 in
theorem c_X7_digitAt (l : Launch) {D : va_G} {yy : Nat → ClassId} {tk tv a : Nat → Nat} {σ : Mm} {p1 : Int} {o : Int} (h : x_X7_digitAt σ p1 = some o) : CT l yX7_digitAt cX7_digitAt 2 (some .boolean) rm_X7_digitAt shW D yy tk tv a σ [.ref (a 0), .int (zJ p1)] σ (some (.int (zJ o))) := by
  refine ct_of (Ar := fun a tk => [.ref (a 0), .int (zJ p1)]) (by decide) (Nat.le_of_ble_eq_true rfl) (fun Γ G _ _ hR => ?_)
  have hcs := rt_cs hR
  unfold x_X7_digitAt at h
  refine (?_ : PT Γ 2 shW 0 σ [(0, .ref (ga Γ 0)), (1, .int (zJ p1))] [])
  refine p_iload_n G rfl 1 rfl dX7_digitAt_0 ?_
  refine p_aload_n G rfl 0 rfl dX7_digitAt_1 ?_
  refine p_get G dX7_digitAt_2 fl_X7_251 (k := 0) rfl rfl ?_
  refine p_icmpge (tgt := 34) G dX7_digitAt_5 (by decide) h (fun c5 h => ?_) (fun c5 h => ?_)
  · refine p_iconst G rfl dX7_digitAt_34 ?_
    (cases h; exact p_zret G hR dX7_digitAt_35 (by decide) rfl rfl)
  · refine p_aload_n G rfl 0 rfl dX7_digitAt_8 ?_
    refine p_get G dX7_digitAt_9 fl_X7_28 (k := 0) rfl rfl ?_
    refine p_iload_n G rfl 1 rfl dX7_digitAt_12 ?_
    refine p_iald G dX7_digitAt_13 (k := 18) rfl (zt_c _) h (fun c1 h => ?_)
    refine p_bipush G (by decide) (by decide) dX7_digitAt_14 ?_
    refine p_icmplt (tgt := 34) G dX7_digitAt_16 (by decide) h (fun c4 h => ?_) (fun c4 h => ?_)
    · refine p_iconst G rfl dX7_digitAt_34 ?_
      (cases h; exact p_zret G hR dX7_digitAt_35 (by decide) rfl rfl)
    · refine p_aload_n G rfl 0 rfl dX7_digitAt_19 ?_
      refine p_get G dX7_digitAt_20 fl_X7_28 (k := 0) rfl rfl ?_
      refine p_iload_n G rfl 1 rfl dX7_digitAt_23 ?_
      refine p_iald G dX7_digitAt_24 (k := 18) rfl (zt_c _) h (fun c2 h => ?_)
      refine p_bipush G (by decide) (by decide) dX7_digitAt_25 ?_
      refine p_icmpgt (tgt := 34) G dX7_digitAt_27 (by decide) h (fun c3 h => ?_) (fun c3 h => ?_)
      · refine p_iconst G rfl dX7_digitAt_34 ?_
        (cases h; exact p_zret G hR dX7_digitAt_35 (by decide) rfl rfl)
      · refine p_iconst G rfl dX7_digitAt_30 ?_
        refine p_goto (tgt := 35) G dX7_digitAt_31 (by decide) ?_
        (cases h; exact p_zret G hR dX7_digitAt_35 (by decide) rfl rfl)
set_option maxHeartbeats 4000000 in
set_option maxRecDepth 100000 in
theorem c_X7_scan (l : Launch) {D : va_G} {yy : Nat → ClassId} {tk tv a : Nat → Nat} {σ : Mm} {o : Mm} (h : x_X7_scan σ = some o) : CT l yX7_scan cX7_scan 1 none rm_X7_scan shW D yy tk tv a σ [.ref (a 0)] o none := by
  refine ct_of (Ar := fun a tk => [.ref (a 0)]) (by decide) (Nat.le_of_ble_eq_true rfl) (fun Γ G _ _ hR => ?_)
  have hcs := rt_cs hR
  unfold x_X7_scan at h
  refine (?_ : PT Γ 1 shW 0 σ [(0, .ref (ga Γ 0))] [])
  have j52 : ∀ (σ_52 : Mm), x_X7_scan_j52 σ_52 = some o → PT Γ 1 shW 52 σ_52 [(0, .ref (ga Γ 0))] [] := by
    intro σ_52 h
    unfold x_X7_scan_j52 at h
    refine p_aload_n G rfl 0 rfl dX7_scan_52 ?_
    refine p_aload_n G rfl 0 rfl dX7_scan_53 ?_
    refine p_get G dX7_scan_54 fl_X7_254 (k := 0) rfl rfl ?_
    refine p_putI G dX7_scan_57 fp_X7_257 (k := 0) rfl rfl rfl rfl h (fun σ11 h => ?_)
    refine p_aload_n G rfl 0 rfl dX7_scan_60 ?_
    refine p_get G dX7_scan_61 fl_X7_254 (k := 0) rfl rfl ?_
    refine p_aload_n G rfl 0 rfl dX7_scan_64 ?_
    refine p_get G dX7_scan_65 fl_X7_251 (k := 0) rfl rfl ?_
    refine p_icmpne (tgt := 79) G dX7_scan_68 (by decide) h (fun c45 h => ?_) (fun c45 h => ?_)
    · refine p_aload_n G rfl 0 rfl dX7_scan_79 ?_
      refine p_aload_n G rfl 0 rfl dX7_scan_80 ?_
      refine p_get G dX7_scan_81 fl_X7_254 (k := 0) rfl rfl ?_
      obtain ⟨v12, hc, h⟩ := bnd_some h
      refine p_callVi G dX7_scan_84 lk_X7_263 (c_X7_letterAt (gl Γ) hc) (As := [.int (zJ (σ11 0 27))]) (ci := 7) rfl rfl rfl rfl (Nat.le_of_ble_eq_true rfl) ⟨rfl, rfl, Nat.le_of_ble_eq_true rfl, Nat.le_of_ble_eq_true rfl⟩ hcs ?_
      refine p_ifeq (tgt := 122) G dX7_scan_87 (by decide) h (fun c43 h => ?_) (fun c43 h => ?_)
      · refine p_aload_n G rfl 0 rfl dX7_scan_122 ?_
        refine p_aload_n G rfl 0 rfl dX7_scan_123 ?_
        refine p_get G dX7_scan_124 fl_X7_254 (k := 0) rfl rfl ?_
        obtain ⟨v13, hc, h⟩ := bnd_some h
        refine p_callVi G dX7_scan_127 lk_X7_266 (c_X7_digitAt (gl Γ) hc) (As := [.int (zJ (σ11 0 27))]) (ci := 7) rfl rfl rfl rfl (Nat.le_of_ble_eq_true rfl) ⟨rfl, rfl, Nat.le_of_ble_eq_true rfl, Nat.le_of_ble_eq_true rfl⟩ hcs ?_
        refine p_ifeq (tgt := 233) G dX7_scan_130 (by decide) h (fun c35 h => ?_) (fun c35 h => ?_)
        · refine p_aload_n G rfl 0 rfl dX7_scan_233 ?_
          refine p_aload_n G rfl 0 rfl dX7_scan_234 ?_
          refine p_get G dX7_scan_235 fl_X7_28 (k := 0) rfl rfl ?_
          refine p_aload_n G rfl 0 rfl dX7_scan_238 ?_
          refine p_get G dX7_scan_239 fl_X7_254 (k := 0) rfl rfl ?_
          refine p_iald G dX7_scan_242 (k := 18) rfl (zt_c _) h (fun c14 h => ?_)
          refine p_bipush G (by decide) (by decide) dX7_scan_243 ?_
          refine p_icmpne (tgt := 252) G dX7_scan_245 (by decide) h (fun c19 h => ?_) (fun c19 h => ?_)
          · refine p_iconst G rfl dX7_scan_252 ?_
            refine p_putI G dX7_scan_253 fp_X7_260 (k := 0) rfl rfl rfl rfl h (fun σ15 h => ?_)
            refine p_aload_n G rfl 0 rfl dX7_scan_256 ?_
            refine p_dup G rfl dX7_scan_257 ?_
            refine p_get G dX7_scan_258 fl_X7_254 (k := 0) rfl rfl ?_
            refine p_iconst G rfl dX7_scan_261 ?_
            refine p_iadd G dX7_scan_262 ?_
            refine p_putI G dX7_scan_263 fp_X7_254 (k := 0) rfl rfl rfl rfl h (fun σ16 h => ?_)
            (cases h; exact p_vret G hR dX7_scan_266 rfl rfl)
          · refine p_iconst G rfl dX7_scan_248 ?_
            refine p_goto (tgt := 253) G dX7_scan_249 (by decide) ?_
            refine p_putI G dX7_scan_253 fp_X7_260 (k := 0) rfl rfl rfl rfl h (fun σ17 h => ?_)
            refine p_aload_n G rfl 0 rfl dX7_scan_256 ?_
            refine p_dup G rfl dX7_scan_257 ?_
            refine p_get G dX7_scan_258 fl_X7_254 (k := 0) rfl rfl ?_
            refine p_iconst G rfl dX7_scan_261 ?_
            refine p_iadd G dX7_scan_262 ?_
            refine p_putI G dX7_scan_263 fp_X7_254 (k := 0) rfl rfl rfl rfl h (fun σ18 h => ?_)
            (cases h; exact p_vret G hR dX7_scan_266 rfl rfl)
        · refine p_aload_n G rfl 0 rfl dX7_scan_133 ?_
          refine p_iconst G rfl dX7_scan_134 ?_
          refine p_putI G dX7_scan_135 fp_X7_269 (k := 0) rfl rfl rfl rfl h (fun σ20 h => ?_)
          obtain ⟨e30, hl138, h⟩ := bnd_some h
          have hX138_207 : ∀ (σ31 : Mm), σ31 = e30 → PT Γ 1 shW 207 σ31 [(0, .ref (ga Γ 0))] [] := by
            intro σ31 he
            subst he
            refine p_aload_n G rfl 0 rfl dX7_scan_207 ?_
            refine p_aload_n G rfl 0 rfl dX7_scan_208 ?_
            refine p_get G dX7_scan_209 fl_X7_254 (k := 0) rfl rfl ?_
            refine p_aload_n G rfl 0 rfl dX7_scan_212 ?_
            refine p_get G dX7_scan_213 fl_X7_257 (k := 0) rfl rfl ?_
            refine p_isub G dX7_scan_216 ?_
            refine p_bipush G (by decide) (by decide) dX7_scan_217 ?_
            refine p_icmple (tgt := 226) G dX7_scan_219 (by decide) h (fun c34 h => ?_) (fun c34 h => ?_)
            · refine p_iconst G rfl dX7_scan_226 ?_
              refine p_putI G dX7_scan_227 fp_X7_260 (k := 0) rfl rfl rfl rfl h (fun σ32 h => ?_)
              refine p_goto (tgt := 266) G dX7_scan_230 (by decide) ?_
              (cases h; exact p_vret G hR dX7_scan_266 rfl rfl)
            · refine p_iconst G rfl dX7_scan_222 ?_
              refine p_goto (tgt := 227) G dX7_scan_223 (by decide) ?_
              refine p_putI G dX7_scan_227 fp_X7_260 (k := 0) rfl rfl rfl rfl h (fun σ33 h => ?_)
              refine p_goto (tgt := 266) G dX7_scan_230 (by decide) ?_
              (cases h; exact p_vret G hR dX7_scan_266 rfl rfl)
          refine lup_walk (s := σ20) (At := fun s : Mm => PT Γ 1 shW 138 s [(0, .ref (ga Γ 0))] []) (fun σ138 r hf hin138 hout138 => ?_) hl138
          have h : x_X7_scan_b138 σ138 = some r := hf
          clear hf
          unfold x_X7_scan_b138 at h
          refine (?_ : PT Γ 1 shW 138 σ138 [(0, .ref (ga Γ 0))] [])
          refine p_aload_n G rfl 0 rfl dX7_scan_138 ?_
          refine p_aload_n G rfl 0 rfl dX7_scan_139 ?_
          refine p_get G dX7_scan_140 fl_X7_254 (k := 0) rfl rfl ?_
          obtain ⟨v21, hc, h⟩ := bnd_some h
          refine p_callVi G dX7_scan_143 lk_X7_266 (c_X7_digitAt (gl Γ) hc) (As := [.int (zJ (σ138 0 27))]) (ci := 7) rfl rfl rfl rfl (Nat.le_of_ble_eq_true rfl) ⟨rfl, rfl, Nat.le_of_ble_eq_true rfl, Nat.le_of_ble_eq_true rfl⟩ hcs ?_
          refine p_ifeq (tgt := 207) G dX7_scan_146 (by decide) h (fun c28 h => ?_) (fun c28 h => ?_)
          · have he := hout138 _ (Option.some.inj h).symm
            subst he
            exact hX138_207 _ rfl
          · refine p_aload_n G rfl 0 rfl dX7_scan_149 ?_
            refine p_aload_n G rfl 0 rfl dX7_scan_150 ?_
            refine p_get G dX7_scan_151 fl_X7_254 (k := 0) rfl rfl ?_
            refine p_aload_n G rfl 0 rfl dX7_scan_154 ?_
            refine p_get G dX7_scan_155 fl_X7_257 (k := 0) rfl rfl ?_
            refine p_isub G dX7_scan_158 ?_
            refine p_bipush G (by decide) (by decide) dX7_scan_159 ?_
            refine p_icmpge (tgt := 187) G dX7_scan_161 (by decide) h (fun c27 h => ?_) (fun c27 h => ?_)
            · refine p_aload_n G rfl 0 rfl dX7_scan_187 ?_
              refine p_get G dX7_scan_188 fl_X7_269 (k := 0) rfl rfl ?_
              refine p_putI G dX7_scan_191 fp_X7_269 (k := 0) rfl rfl rfl rfl h (fun σ22 h => ?_)
              refine p_aload_n G rfl 0 rfl dX7_scan_194 ?_
              refine p_dup G rfl dX7_scan_195 ?_
              refine p_get G dX7_scan_196 fl_X7_254 (k := 0) rfl rfl ?_
              refine p_iconst G rfl dX7_scan_199 ?_
              refine p_iadd G dX7_scan_200 ?_
              refine p_putI G dX7_scan_201 fp_X7_254 (k := 0) rfl rfl rfl rfl h (fun σ23 h => ?_)
              refine p_goto (tgt := 138) G dX7_scan_204 (by decide) ?_
              exact hin138 _ (Option.some.inj h).symm
            · refine p_bipush G (by decide) (by decide) dX7_scan_164 ?_
              refine p_aload_n G rfl 0 rfl dX7_scan_166 ?_
              refine p_get G dX7_scan_167 fl_X7_269 (k := 0) rfl rfl ?_
              refine p_imul G dX7_scan_170 ?_
              refine p_aload_n G rfl 0 rfl dX7_scan_171 ?_
              refine p_get G dX7_scan_172 fl_X7_28 (k := 0) rfl rfl ?_
              refine p_aload_n G rfl 0 rfl dX7_scan_175 ?_
              refine p_get G dX7_scan_176 fl_X7_254 (k := 0) rfl rfl ?_
              refine p_iald G dX7_scan_179 (k := 18) rfl (zt_c _) h (fun c24 h => ?_)
              refine p_iadd G dX7_scan_180 ?_
              refine p_bipush G (by decide) (by decide) dX7_scan_181 ?_
              refine p_isub G dX7_scan_183 ?_
              refine p_goto (tgt := 191) G dX7_scan_184 (by decide) ?_
              refine p_putI G dX7_scan_191 fp_X7_269 (k := 0) rfl rfl rfl rfl h (fun σ25 h => ?_)
              refine p_aload_n G rfl 0 rfl dX7_scan_194 ?_
              refine p_dup G rfl dX7_scan_195 ?_
              refine p_get G dX7_scan_196 fl_X7_254 (k := 0) rfl rfl ?_
              refine p_iconst G rfl dX7_scan_199 ?_
              refine p_iadd G dX7_scan_200 ?_
              refine p_putI G dX7_scan_201 fp_X7_254 (k := 0) rfl rfl rfl rfl h (fun σ26 h => ?_)
              refine p_goto (tgt := 138) G dX7_scan_204 (by decide) ?_
              exact hin138 _ (Option.some.inj h).symm
      · obtain ⟨e40, hl90, h⟩ := bnd_some h
        have hX90_114 : ∀ (σ41 : Mm), σ41 = e40 → PT Γ 1 shW 114 σ41 [(0, .ref (ga Γ 0))] [] := by
          intro σ41 he
          subst he
          refine p_aload_n G rfl 0 rfl dX7_scan_114 ?_
          refine p_iconst G rfl dX7_scan_115 ?_
          refine p_putI G dX7_scan_116 fp_X7_260 (k := 0) rfl rfl rfl rfl h (fun σ42 h => ?_)
          refine p_goto (tgt := 266) G dX7_scan_119 (by decide) ?_
          (cases h; exact p_vret G hR dX7_scan_266 rfl rfl)
        refine lup_walk (s := σ11) (At := fun s : Mm => PT Γ 1 shW 90 s [(0, .ref (ga Γ 0))] []) (fun σ90 r hf hin90 hout90 => ?_) hl90
        have h : x_X7_scan_b90 σ90 = some r := hf
        clear hf
        unfold x_X7_scan_b90 at h
        refine (?_ : PT Γ 1 shW 90 σ90 [(0, .ref (ga Γ 0))] [])
        refine p_aload_n G rfl 0 rfl dX7_scan_90 ?_
        refine p_aload_n G rfl 0 rfl dX7_scan_91 ?_
        refine p_get G dX7_scan_92 fl_X7_254 (k := 0) rfl rfl ?_
        obtain ⟨v36, hc, h⟩ := bnd_some h
        refine p_callVi G dX7_scan_95 lk_X7_263 (c_X7_letterAt (gl Γ) hc) (As := [.int (zJ (σ90 0 27))]) (ci := 7) rfl rfl rfl rfl (Nat.le_of_ble_eq_true rfl) ⟨rfl, rfl, Nat.le_of_ble_eq_true rfl, Nat.le_of_ble_eq_true rfl⟩ hcs ?_
        refine p_ifeq (tgt := 114) G dX7_scan_98 (by decide) h (fun c38 h => ?_) (fun c38 h => ?_)
        · have he := hout90 _ (Option.some.inj h).symm
          subst he
          exact hX90_114 _ rfl
        · refine p_aload_n G rfl 0 rfl dX7_scan_101 ?_
          refine p_dup G rfl dX7_scan_102 ?_
          refine p_get G dX7_scan_103 fl_X7_254 (k := 0) rfl rfl ?_
          refine p_iconst G rfl dX7_scan_106 ?_
          refine p_iadd G dX7_scan_107 ?_
          refine p_putI G dX7_scan_108 fp_X7_254 (k := 0) rfl rfl rfl rfl h (fun σ37 h => ?_)
          refine p_goto (tgt := 90) G dX7_scan_111 (by decide) ?_
          exact hin90 _ (Option.some.inj h).symm
    · refine p_aload_n G rfl 0 rfl dX7_scan_71 ?_
      refine p_iconst G rfl dX7_scan_72 ?_
      refine p_putI G dX7_scan_73 fp_X7_260 (k := 0) rfl rfl rfl rfl h (fun σ44 h => ?_)
      refine p_goto (tgt := 266) G dX7_scan_76 (by decide) ?_
      (cases h; exact p_vret G hR dX7_scan_266 rfl rfl)
  obtain ⟨e9, hl0, h⟩ := bnd_some h
  have hX0_52 : ∀ (σ10 : Mm), σ10 = e9 → PT Γ 1 shW 52 σ10 [(0, .ref (ga Γ 0))] [] := by
    intro σ10 he
    subst he
    exact j52 _ h
  refine lup_walk (s := σ) (At := fun s : Mm => PT Γ 1 shW 0 s [(0, .ref (ga Γ 0))] []) (fun σ0 r hf hin0 hout0 => ?_) hl0
  have h : x_X7_scan_b0 σ0 = some r := hf
  clear hf
  unfold x_X7_scan_b0 at h
  refine (?_ : PT Γ 1 shW 0 σ0 [(0, .ref (ga Γ 0))] [])
  refine p_aload_n G rfl 0 rfl dX7_scan_0 ?_
  refine p_get G dX7_scan_1 fl_X7_254 (k := 0) rfl rfl ?_
  refine p_aload_n G rfl 0 rfl dX7_scan_4 ?_
  refine p_get G dX7_scan_5 fl_X7_251 (k := 0) rfl rfl ?_
  refine p_icmpge (tgt := 52) G dX7_scan_8 (by decide) h (fun c7 h => ?_) (fun c7 h => ?_)
  · have he := hout0 _ (Option.some.inj h).symm
    subst he
    exact hX0_52 _ rfl
  · refine p_aload_n G rfl 0 rfl dX7_scan_11 ?_
    refine p_get G dX7_scan_12 fl_X7_28 (k := 0) rfl rfl ?_
    refine p_aload_n G rfl 0 rfl dX7_scan_15 ?_
    refine p_get G dX7_scan_16 fl_X7_254 (k := 0) rfl rfl ?_
    refine p_iald G dX7_scan_19 (k := 18) rfl (zt_c _) h (fun c1 h => ?_)
    refine p_bipush G (by decide) (by decide) dX7_scan_20 ?_
    refine p_icmpeq (tgt := 39) G dX7_scan_22 (by decide) h (fun c6 h => ?_) (fun c6 h => ?_)
    · refine p_aload_n G rfl 0 rfl dX7_scan_39 ?_
      refine p_dup G rfl dX7_scan_40 ?_
      refine p_get G dX7_scan_41 fl_X7_254 (k := 0) rfl rfl ?_
      refine p_iconst G rfl dX7_scan_44 ?_
      refine p_iadd G dX7_scan_45 ?_
      refine p_putI G dX7_scan_46 fp_X7_254 (k := 0) rfl rfl rfl rfl h (fun σ2 h => ?_)
      refine p_goto (tgt := 0) G dX7_scan_49 (by decide) ?_
      exact hin0 _ (Option.some.inj h).symm
    · refine p_aload_n G rfl 0 rfl dX7_scan_25 ?_
      refine p_get G dX7_scan_26 fl_X7_28 (k := 0) rfl rfl ?_
      refine p_aload_n G rfl 0 rfl dX7_scan_29 ?_
      refine p_get G dX7_scan_30 fl_X7_254 (k := 0) rfl rfl ?_
      refine p_iald G dX7_scan_33 (k := 18) rfl (zt_c _) h (fun c3 h => ?_)
      refine p_bipush G (by decide) (by decide) dX7_scan_34 ?_
      refine p_icmpne (tgt := 52) G dX7_scan_36 (by decide) h (fun c5 h => ?_) (fun c5 h => ?_)
      · have he := hout0 _ (Option.some.inj h).symm
        subst he
        exact hX0_52 _ rfl
      · refine p_aload_n G rfl 0 rfl dX7_scan_39 ?_
        refine p_dup G rfl dX7_scan_40 ?_
        refine p_get G dX7_scan_41 fl_X7_254 (k := 0) rfl rfl ?_
        refine p_iconst G rfl dX7_scan_44 ?_
        refine p_iadd G dX7_scan_45 ?_
        refine p_putI G dX7_scan_46 fp_X7_254 (k := 0) rfl rfl rfl rfl h (fun σ4 h => ?_)
        refine p_goto (tgt := 0) G dX7_scan_49 (by decide) ?_
        exact hin0 _ (Option.some.inj h).symm
set_option maxHeartbeats 4000000 in
set_option maxRecDepth 100000 in
theorem c_X7_isWord (l : Launch) {D : va_G} {yy : Nat → ClassId} {tk tv a : Nat → Nat} {σ : Mm} {p1 : Nat} {o : Int} (h : x_X7_isWord σ p1 = some o) : CT l yX7_isWord cX7_isWord 4 (some .boolean) rm_X7_isWord shW D yy tk tv a σ [.ref (a 0), .ref (tk p1)] σ (some (.int (zJ o))) := by
  refine ct_of (Ar := fun a tk => [.ref (a 0), .ref (tk p1)]) (by decide) (Nat.le_of_ble_eq_true rfl) (fun Γ G _ _ hR => ?_)
  have hcs := rt_cs hR
  unfold x_X7_isWord at h
  refine (?_ : PT Γ 4 shW 0 σ [(0, .ref (ga Γ 0)), (1, .ref (gk Γ p1))] [])
  have j36 : ∀ (v1_36 : Nat) (w0_36 : Int), x_X7_isWord_j36 σ v1_36 w0_36 = some o → PT Γ 4 shW 36 σ [(0, .ref (ga Γ 0)), (1, .ref (gk Γ v1_36))] [.int (zJ w0_36)] := by
    intro v1_36 w0_36 h
    unfold x_X7_isWord_j36 at h
    refine p_istore_nU (lv' := [(2, .int (zJ w0_36)), (0, .ref (ga Γ 0)), (1, .ref (gk Γ v1_36))]) G rfl dX7_isWord_36 (by decide) rfl ?_
    refine p_iconst G rfl dX7_isWord_37 ?_
    refine p_istore_nU (lv' := [(3, .int (zJ (0 : Int))), (2, .int (zJ w0_36)), (0, .ref (ga Γ 0)), (1, .ref (gk Γ v1_36))]) G rfl dX7_isWord_38 (by decide) rfl ?_
    refine p_lv [2, 3, 1, 0] rfl ?_
    obtain ⟨e10, hl39, h⟩ := bnd_some h
    have hX39_82 : ∀ (v11 : Int), v11 = e10 → PT Γ 4 shW 82 σ [(2, .int (zJ v11))] [] := by
      intro v11 he
      subst he
      refine p_iload_n G rfl 0 rfl dX7_isWord_82 ?_
      refine zift h (fun hb h => ?_)
      (cases h; exact p_zret G hR dX7_isWord_83 (zb_01 hb).1 rfl rfl)
    refine lup_walk (s := (w0_36, (0 : Int))) (At := fun s : Int × Int => PT Γ 4 shW 39 σ [(0, .ref (ga Γ 0)), (1, .ref (gk Γ v1_36)), (2, .int (zJ s.1)), (3, .int (zJ s.2))] []) (fun s r hf hin39 hout39 => ?_) hl39
    obtain ⟨u2_39, u3_39⟩ := s
    have h : x_X7_isWord_b39 σ v1_36 u2_39 u3_39 = some r := hf
    clear hf
    unfold x_X7_isWord_b39 at h
    refine (?_ : PT Γ 4 shW 39 σ [(0, .ref (ga Γ 0)), (1, .ref (gk Γ v1_36)), (2, .int (zJ u2_39)), (3, .int (zJ u3_39))] [])
    refine p_iload_n G rfl 2 rfl dX7_isWord_39 ?_
    refine p_ifeq (tgt := 82) G dX7_isWord_40 (by decide) h (fun c8 h => ?_) (fun c8 h => ?_)
    · refine p_lv [2] rfl ?_
      have he := hout39 _ (Option.some.inj h).symm
      subst he
      exact hX39_82 _ rfl
    · refine p_iload_n G rfl 3 rfl dX7_isWord_43 ?_
      refine p_aload_n G rfl 1 rfl dX7_isWord_44 ?_
      obtain ⟨v1, hc, h⟩ := bnd_some h
      refine p_callT G (zlen_u hc) dX7_isWord_45 lk_X7_275 (c_J_String_length (gl Γ) hc) (As := []) rfl zk_29 rfl (Nat.le_of_ble_eq_true rfl) ⟨rfl, rfl, Nat.le_of_ble_eq_true rfl, Nat.le_of_ble_eq_true rfl⟩ hcs ?_
      refine p_icmpge (tgt := 82) G dX7_isWord_48 (by decide) h (fun c7 h => ?_) (fun c7 h => ?_)
      · refine p_lv [2] rfl ?_
        have he := hout39 _ (Option.some.inj h).symm
        subst he
        exact hX39_82 _ rfl
      · refine p_aload_n G rfl 0 rfl dX7_isWord_51 ?_
        refine p_get G dX7_isWord_52 fl_X7_28 (k := 0) rfl rfl ?_
        refine p_aload_n G rfl 0 rfl dX7_isWord_55 ?_
        refine p_get G dX7_isWord_56 fl_X7_257 (k := 0) rfl rfl ?_
        refine p_iload_n G rfl 3 rfl dX7_isWord_59 ?_
        refine p_iadd G dX7_isWord_60 ?_
        refine p_iald G dX7_isWord_61 (k := 18) rfl (zt_c _) h (fun c2 h => ?_)
        refine p_aload_n G rfl 1 rfl dX7_isWord_62 ?_
        refine p_iload_n G rfl 3 rfl dX7_isWord_63 ?_
        obtain ⟨v3, hc, h⟩ := bnd_some h
        refine p_callT G (zchr_u hc) dX7_isWord_64 lk_X7_280 (c_J_String_charAt (gl Γ) hc) (As := [.int (zJ u3_39)]) rfl zk_29 rfl (Nat.le_of_ble_eq_true rfl) ⟨rfl, rfl, Nat.le_of_ble_eq_true rfl, Nat.le_of_ble_eq_true rfl⟩ hcs ?_
        refine p_icmpne (tgt := 74) G dX7_isWord_67 (by decide) h (fun c6 h => ?_) (fun c6 h => ?_)
        · refine p_iconst G rfl dX7_isWord_74 ?_
          refine p_istore_nU (lv' := [(2, .int (zJ (0 : Int))), (0, .ref (ga Γ 0)), (1, .ref (gk Γ v1_36)), (3, .int (zJ u3_39))]) G rfl dX7_isWord_75 (by decide) rfl ?_
          refine p_iinc (lv' := fun v4 => [(3, .int (zJ v4)), (2, .int (zJ (0 : Int))), (0, .ref (ga Γ 0)), (1, .ref (gk Γ v1_36))]) G dX7_isWord_76 h 3 rfl (by decide) (fun _ => rfl) (fun v4 h => ?_)
          refine p_goto (tgt := 39) G dX7_isWord_79 (by decide) ?_
          refine p_lv [2, 3, 1, 0] rfl ?_
          exact hin39 _ (Option.some.inj h).symm
        · refine p_iconst G rfl dX7_isWord_70 ?_
          refine p_goto (tgt := 75) G dX7_isWord_71 (by decide) ?_
          refine p_istore_nU (lv' := [(2, .int (zJ (1 : Int))), (0, .ref (ga Γ 0)), (1, .ref (gk Γ v1_36)), (3, .int (zJ u3_39))]) G rfl dX7_isWord_75 (by decide) rfl ?_
          refine p_iinc (lv' := fun v5 => [(3, .int (zJ v5)), (2, .int (zJ (1 : Int))), (0, .ref (ga Γ 0)), (1, .ref (gk Γ v1_36))]) G dX7_isWord_76 h 3 rfl (by decide) (fun _ => rfl) (fun v5 h => ?_)
          refine p_goto (tgt := 39) G dX7_isWord_79 (by decide) ?_
          refine p_lv [2, 3, 1, 0] rfl ?_
          exact hin39 _ (Option.some.inj h).symm
  have j35 : ∀ (v1_35 : Nat), x_X7_isWord_j35 σ v1_35 = some o → PT Γ 4 shW 35 σ [(0, .ref (ga Γ 0)), (1, .ref (gk Γ v1_35))] [] := by
    intro v1_35 h
    unfold x_X7_isWord_j35 at h
    refine p_iconst G rfl dX7_isWord_35 ?_
    exact j36 _ _ h
  refine p_aload_n G rfl 0 rfl dX7_isWord_0 ?_
  refine p_get G dX7_isWord_1 fl_X7_272 (k := 0) rfl rfl ?_
  refine p_ifne (tgt := 35) G dX7_isWord_4 (by decide) h (fun c15 h => ?_) (fun c15 h => ?_)
  · exact j35 _ h
  · refine p_aload_n G rfl 0 rfl dX7_isWord_7 ?_
    refine p_get G dX7_isWord_8 fl_X7_260 (k := 0) rfl rfl ?_
    refine p_iconst G rfl dX7_isWord_11 ?_
    refine p_icmpne (tgt := 35) G dX7_isWord_12 (by decide) h (fun c14 h => ?_) (fun c14 h => ?_)
    · exact j35 _ h
    · refine p_aload_n G rfl 0 rfl dX7_isWord_15 ?_
      refine p_get G dX7_isWord_16 fl_X7_254 (k := 0) rfl rfl ?_
      refine p_aload_n G rfl 0 rfl dX7_isWord_19 ?_
      refine p_get G dX7_isWord_20 fl_X7_257 (k := 0) rfl rfl ?_
      refine p_isub G dX7_isWord_23 ?_
      refine p_aload_n G rfl 1 rfl dX7_isWord_24 ?_
      obtain ⟨v12, hc, h⟩ := bnd_some h
      refine p_callT G (zlen_u hc) dX7_isWord_25 lk_X7_275 (c_J_String_length (gl Γ) hc) (As := []) rfl zk_29 rfl (Nat.le_of_ble_eq_true rfl) ⟨rfl, rfl, Nat.le_of_ble_eq_true rfl, Nat.le_of_ble_eq_true rfl⟩ hcs ?_
      refine p_icmpne (tgt := 35) G dX7_isWord_28 (by decide) h (fun c13 h => ?_) (fun c13 h => ?_)
      · exact j35 _ h
      · refine p_iconst G rfl dX7_isWord_31 ?_
        refine p_goto (tgt := 36) G dX7_isWord_32 (by decide) ?_
        exact j36 _ _ h
set_option maxHeartbeats 4000000 in
set_option maxRecDepth 100000 in
theorem c_X7_wrong (l : Launch) {D : va_G} {yy : Nat → ClassId} {tk tv a : Nat → Nat} {σ : Mm} {p1 : Int} {o : Mm} (h : x_X7_wrong σ p1 = some o) : CT l yX7_wrong cX7_wrong 2 none rm_X7_wrong shW D yy tk tv a σ [.ref (a 0), .int (zJ p1)] o none := by
  refine ct_of (Ar := fun a tk => [.ref (a 0), .int (zJ p1)]) (by decide) (Nat.le_of_ble_eq_true rfl) (fun Γ G _ _ hR => ?_)
  have hcs := rt_cs hR
  unfold x_X7_wrong at h
  refine (?_ : PT Γ 2 shW 0 σ [(0, .ref (ga Γ 0)), (1, .int (zJ p1))] [])
  refine p_aload_n G rfl 0 rfl dX7_wrong_0 ?_
  refine p_get G dX7_wrong_1 fl_X7_272 (k := 0) rfl rfl ?_
  refine p_ifne (tgt := 20) G dX7_wrong_4 (by decide) h (fun c2 h => ?_) (fun c2 h => ?_)
  · (cases h; exact p_vret G hR dX7_wrong_20 rfl rfl)
  · refine p_aload_n G rfl 0 rfl dX7_wrong_7 ?_
    refine p_bipush G (by decide) (by decide) dX7_wrong_8 ?_
    refine p_aload_n G rfl 0 rfl dX7_wrong_10 ?_
    refine p_get G dX7_wrong_11 fl_X7_257 (k := 0) rfl rfl ?_
    refine p_imul G dX7_wrong_14 ?_
    refine p_iload_n G rfl 1 rfl dX7_wrong_15 ?_
    refine p_iadd G dX7_wrong_16 ?_
    refine p_putI G dX7_wrong_17 fp_X7_272 (k := 0) rfl rfl rfl rfl h (fun σ1 h => ?_)
    (cases h; exact p_vret G hR dX7_wrong_20 rfl rfl)
set_option maxHeartbeats 4000000 in
set_option maxRecDepth 100000 in
theorem c_X7_goOn (l : Launch) {D : va_G} {yy : Nat → ClassId} {tk tv a : Nat → Nat} {σ : Mm} {o : Mm} (h : x_X7_goOn σ = some o) : CT l yX7_goOn cX7_goOn 1 none rm_X7_goOn shW D yy tk tv a σ [.ref (a 0)] o none := by
  refine ct_of (Ar := fun a tk => [.ref (a 0)]) (by decide) (Nat.le_of_ble_eq_true rfl) (fun Γ G _ _ hR => ?_)
  have hcs := rt_cs hR
  unfold x_X7_goOn at h
  refine (?_ : PT Γ 1 shW 0 σ [(0, .ref (ga Γ 0))] [])
  refine p_aload_n G rfl 0 rfl dX7_goOn_0 ?_
  refine p_get G dX7_goOn_1 fl_X7_272 (k := 0) rfl rfl ?_
  refine p_ifne (tgt := 11) G dX7_goOn_4 (by decide) h (fun c2 h => ?_) (fun c2 h => ?_)
  · (cases h; exact p_vret G hR dX7_goOn_11 rfl rfl)
  · refine p_aload_n G rfl 0 rfl dX7_goOn_7 ?_
    obtain ⟨σ1, hc, h⟩ := bnd_some h
    refine p_callVi G dX7_goOn_8 lk_X7_284 (c_X7_scan (gl Γ) hc) (As := []) (ci := 7) rfl rfl rfl rfl (Nat.le_of_ble_eq_true rfl) ⟨rfl, rfl, Nat.le_of_ble_eq_true rfl, Nat.le_of_ble_eq_true rfl⟩ hcs ?_
    (cases h; exact p_vret G hR dX7_goOn_11 rfl rfl)
set_option maxHeartbeats 4000000 in
set_option maxRecDepth 100000 in
theorem c_X7_bounds (l : Launch) {D : va_G} {yy : Nat → ClassId} {tk tv a : Nat → Nat} {σ : Mm} {p1 : Int} {p2 : Int} {o : Mm} (h : x_X7_bounds σ p1 p2 = some o) : CT l yX7_bounds cX7_bounds 3 none rm_X7_bounds shW D yy tk tv a σ [.ref (a 0), .int (zJ p1), .int (zJ p2)] o none := by
  refine ct_of (Ar := fun a tk => [.ref (a 0), .int (zJ p1), .int (zJ p2)]) (by decide) (Nat.le_of_ble_eq_true rfl) (fun Γ G _ _ hR => ?_)
  have hcs := rt_cs hR
  unfold x_X7_bounds at h
  refine (?_ : PT Γ 3 shW 0 σ [(0, .ref (ga Γ 0)), (1, .int (zJ p1)), (2, .int (zJ p2))] [])
  have j23 : ∀ (σ_23 : Mm) (v1_23 : Int) (v2_23 : Int), x_X7_bounds_j23 σ_23 v1_23 v2_23 = some o → PT Γ 3 shW 23 σ_23 [(0, .ref (ga Γ 0)), (1, .int (zJ v1_23)), (2, .int (zJ v2_23))] [] := by
    intro σ_23 v1_23 v2_23 h
    unfold x_X7_bounds_j23 at h
    refine p_aload_n G rfl 0 rfl dX7_bounds_23 ?_
    refine p_get G dX7_bounds_24 fl_X7_272 (k := 0) rfl rfl ?_
    refine p_ifne (tgt := 51) G dX7_bounds_27 (by decide) h (fun c5 h => ?_) (fun c5 h => ?_)
    · (cases h; exact p_vret G hR dX7_bounds_51 rfl rfl)
    · refine p_aload_n G rfl 0 rfl dX7_bounds_30 ?_
      refine p_get G dX7_bounds_31 fl_X7_269 (k := 0) rfl rfl ?_
      refine p_iload_n G rfl 1 rfl dX7_bounds_34 ?_
      refine p_icmplt (tgt := 46) G dX7_bounds_35 (by decide) h (fun c4 h => ?_) (fun c4 h => ?_)
      · refine p_aload_n G rfl 0 rfl dX7_bounds_46 ?_
        refine p_iconst G rfl dX7_bounds_47 ?_
        obtain ⟨σ1, hc, h⟩ := bnd_some h
        refine p_callVi G dX7_bounds_48 lk_X7_287 (c_X7_wrong (gl Γ) hc) (As := [.int (zJ (2 : Int))]) (ci := 7) rfl rfl rfl rfl (Nat.le_of_ble_eq_true rfl) ⟨rfl, rfl, Nat.le_of_ble_eq_true rfl, Nat.le_of_ble_eq_true rfl⟩ hcs ?_
        (cases h; exact p_vret G hR dX7_bounds_51 rfl rfl)
      · refine p_aload_n G rfl 0 rfl dX7_bounds_38 ?_
        refine p_get G dX7_bounds_39 fl_X7_269 (k := 0) rfl rfl ?_
        refine p_iload_n G rfl 2 rfl dX7_bounds_42 ?_
        refine p_icmple (tgt := 51) G dX7_bounds_43 (by decide) h (fun c3 h => ?_) (fun c3 h => ?_)
        · (cases h; exact p_vret G hR dX7_bounds_51 rfl rfl)
        · refine p_aload_n G rfl 0 rfl dX7_bounds_46 ?_
          refine p_iconst G rfl dX7_bounds_47 ?_
          obtain ⟨σ2, hc, h⟩ := bnd_some h
          refine p_callVi G dX7_bounds_48 lk_X7_287 (c_X7_wrong (gl Γ) hc) (As := [.int (zJ (2 : Int))]) (ci := 7) rfl rfl rfl rfl (Nat.le_of_ble_eq_true rfl) ⟨rfl, rfl, Nat.le_of_ble_eq_true rfl, Nat.le_of_ble_eq_true rfl⟩ hcs ?_
          (cases h; exact p_vret G hR dX7_bounds_51 rfl rfl)
  refine p_aload_n G rfl 0 rfl dX7_bounds_0 ?_
  refine p_get G dX7_bounds_1 fl_X7_272 (k := 0) rfl rfl ?_
  refine p_ifne (tgt := 23) G dX7_bounds_4 (by decide) h (fun c8 h => ?_) (fun c8 h => ?_)
  · exact j23 _ _ _ h
  · refine p_aload_n G rfl 0 rfl dX7_bounds_7 ?_
    refine p_get G dX7_bounds_8 fl_X7_260 (k := 0) rfl rfl ?_
    refine p_iconst G rfl dX7_bounds_11 ?_
    refine p_icmpeq (tgt := 23) G dX7_bounds_12 (by decide) h (fun c7 h => ?_) (fun c7 h => ?_)
    · exact j23 _ _ _ h
    · refine p_aload_n G rfl 0 rfl dX7_bounds_15 ?_
      refine p_iconst G rfl dX7_bounds_16 ?_
      obtain ⟨σ6, hc, h⟩ := bnd_some h
      refine p_callVi G dX7_bounds_17 lk_X7_287 (c_X7_wrong (gl Γ) hc) (As := [.int (zJ (1 : Int))]) (ci := 7) rfl rfl rfl rfl (Nat.le_of_ble_eq_true rfl) ⟨rfl, rfl, Nat.le_of_ble_eq_true rfl, Nat.le_of_ble_eq_true rfl⟩ hcs ?_
      refine p_goto (tgt := 51) G dX7_bounds_20 (by decide) ?_
      (cases h; exact p_vret G hR dX7_bounds_51 rfl rfl)
set_option maxHeartbeats 4000000 in
set_option maxRecDepth 100000 in
theorem c_X7_readNumber (l : Launch) {D : va_G} {yy : Nat → ClassId} {tk tv a : Nat → Nat} {σ : Mm} {p1 : Int} {p2 : Int} {o : Mm × Int} (h : x_X7_readNumber σ p1 p2 = some o) : CT l yX7_readNumber cX7_readNumber 4 (some .int) rm_X7_readNumber shW D yy tk tv a σ [.ref (a 0), .int (zJ p1), .int (zJ p2)] o.1 (some (.int (zJ o.2))) := by
  refine ct_of (Ar := fun a tk => [.ref (a 0), .int (zJ p1), .int (zJ p2)]) (by decide) (Nat.le_of_ble_eq_true rfl) (fun Γ G _ _ hR => ?_)
  have hcs := rt_cs hR
  unfold x_X7_readNumber at h
  refine (?_ : PT Γ 4 shW 0 σ [(0, .ref (ga Γ 0)), (1, .int (zJ p1)), (2, .int (zJ p2))] [])
  refine p_aload_n G rfl 0 rfl dX7_readNumber_0 ?_
  refine p_iload_n G rfl 1 rfl dX7_readNumber_1 ?_
  refine p_iload_n G rfl 2 rfl dX7_readNumber_2 ?_
  obtain ⟨σ1, hc, h⟩ := bnd_some h
  refine p_callVi G dX7_readNumber_3 lk_X7_290 (c_X7_bounds (gl Γ) hc) (As := [.int (zJ p1), .int (zJ p2)]) (ci := 7) rfl rfl rfl rfl (Nat.le_of_ble_eq_true rfl) ⟨rfl, rfl, Nat.le_of_ble_eq_true rfl, Nat.le_of_ble_eq_true rfl⟩ hcs ?_
  refine p_aload_n G rfl 0 rfl dX7_readNumber_6 ?_
  refine p_get G dX7_readNumber_7 fl_X7_269 (k := 0) rfl rfl ?_
  refine p_istore_n (lv' := fun v2 => [(3, .int (zJ v2)), (0, .ref (ga Γ 0)), (1, .int (zJ p1)), (2, .int (zJ p2))]) G rfl dX7_readNumber_10 h (by decide) (fun _ => rfl) (fun v2 h => ?_)
  refine p_aload_n G rfl 1 rfl dX7_readNumber_11 ?_
  obtain ⟨σ3, hc, h⟩ := bnd_some h
  refine p_callVi G dX7_readNumber_12 lk_X7_293 (c_X7_goOn (gl Γ) hc) (As := []) (ci := 7) rfl rfl rfl rfl (Nat.le_of_ble_eq_true rfl) ⟨rfl, rfl, Nat.le_of_ble_eq_true rfl, Nat.le_of_ble_eq_true rfl⟩ hcs ?_
  refine p_aload_n G rfl 1 rfl dX7_readNumber_15 ?_
  refine p_get G dX7_readNumber_16 fl_X7_272 (k := 0) rfl rfl ?_
  refine p_ifne (tgt := 26) G dX7_readNumber_19 (by decide) h (fun c4 h => ?_) (fun c4 h => ?_)
  · refine p_iconst G rfl dX7_readNumber_26 ?_
    (cases h; exact p_iret G hR dX7_readNumber_27 rfl rfl)
  · refine p_iload_n G rfl 0 rfl dX7_readNumber_22 ?_
    refine p_goto (tgt := 27) G dX7_readNumber_23 (by decide) ?_
    (cases h; exact p_iret G hR dX7_readNumber_27 rfl rfl)
set_option maxHeartbeats 4000000 in
set_option maxRecDepth 100000 in
theorem c_X7_ends (l : Launch) {D : va_G} {yy : Nat → ClassId} {tk tv a : Nat → Nat} {σ : Mm} {p1 : Int} {o : Mm × Int} (h : x_X7_ends σ p1 = some o) : CT l yX7_ends cX7_ends 2 (some .boolean) rm_X7_ends shW D yy tk tv a σ [.ref (a 0), .int (zJ p1)] o.1 (some (.int (zJ o.2))) := by
  refine ct_of (Ar := fun a tk => [.ref (a 0), .int (zJ p1)]) (by decide) (Nat.le_of_ble_eq_true rfl) (fun Γ G _ _ hR => ?_)
  have hcs := rt_cs hR
  unfold x_X7_ends at h
  refine (?_ : PT Γ 2 shW 0 σ [(0, .ref (ga Γ 0)), (1, .int (zJ p1))] [])
  have j20 : ∀ (σ_20 : Mm) (v1_20 : Int), x_X7_ends_j20 σ_20 v1_20 = some o → PT Γ 2 shW 20 σ_20 [(0, .ref (ga Γ 0)), (1, .int (zJ v1_20))] [] := by
    intro σ_20 v1_20 h
    unfold x_X7_ends_j20 at h
    refine p_aload_n G rfl 0 rfl dX7_ends_20 ?_
    refine p_get G dX7_ends_21 fl_X7_272 (k := 0) rfl rfl ?_
    refine p_ifne (tgt := 36) G dX7_ends_24 (by decide) h (fun c6 h => ?_) (fun c6 h => ?_)
    · refine p_aload_n G rfl 0 rfl dX7_ends_36 ?_
      refine p_get G dX7_ends_37 fl_X7_272 (k := 0) rfl rfl ?_
      refine p_ifne (tgt := 47) G dX7_ends_40 (by decide) h (fun c1 h => ?_) (fun c1 h => ?_)
      · refine p_iconst G rfl dX7_ends_47 ?_
        (cases h; exact p_zret G hR dX7_ends_48 (by decide) rfl rfl)
      · refine p_iconst G rfl dX7_ends_43 ?_
        refine p_goto (tgt := 48) G dX7_ends_44 (by decide) ?_
        (cases h; exact p_zret G hR dX7_ends_48 (by decide) rfl rfl)
    · refine p_iload_n G rfl 1 rfl dX7_ends_27 ?_
      refine p_ifeq (tgt := 36) G dX7_ends_28 (by decide) h (fun c5 h => ?_) (fun c5 h => ?_)
      · refine p_aload_n G rfl 0 rfl dX7_ends_36 ?_
        refine p_get G dX7_ends_37 fl_X7_272 (k := 0) rfl rfl ?_
        refine p_ifne (tgt := 47) G dX7_ends_40 (by decide) h (fun c2 h => ?_) (fun c2 h => ?_)
        · refine p_iconst G rfl dX7_ends_47 ?_
          (cases h; exact p_zret G hR dX7_ends_48 (by decide) rfl rfl)
        · refine p_iconst G rfl dX7_ends_43 ?_
          refine p_goto (tgt := 48) G dX7_ends_44 (by decide) ?_
          (cases h; exact p_zret G hR dX7_ends_48 (by decide) rfl rfl)
      · refine p_aload_n G rfl 0 rfl dX7_ends_31 ?_
        refine p_iconst G rfl dX7_ends_32 ?_
        obtain ⟨σ3, hc, h⟩ := bnd_some h
        refine p_callVi G dX7_ends_33 lk_X7_287 (c_X7_wrong (gl Γ) hc) (As := [.int (zJ (4 : Int))]) (ci := 7) rfl rfl rfl rfl (Nat.le_of_ble_eq_true rfl) ⟨rfl, rfl, Nat.le_of_ble_eq_true rfl, Nat.le_of_ble_eq_true rfl⟩ hcs ?_
        refine p_aload_n G rfl 0 rfl dX7_ends_36 ?_
        refine p_get G dX7_ends_37 fl_X7_272 (k := 0) rfl rfl ?_
        refine p_ifne (tgt := 47) G dX7_ends_40 (by decide) h (fun c4 h => ?_) (fun c4 h => ?_)
        · refine p_iconst G rfl dX7_ends_47 ?_
          (cases h; exact p_zret G hR dX7_ends_48 (by decide) rfl rfl)
        · refine p_iconst G rfl dX7_ends_43 ?_
          refine p_goto (tgt := 48) G dX7_ends_44 (by decide) ?_
          (cases h; exact p_zret G hR dX7_ends_48 (by decide) rfl rfl)
  refine p_aload_n G rfl 0 rfl dX7_ends_0 ?_
  refine p_get G dX7_ends_1 fl_X7_272 (k := 0) rfl rfl ?_
  refine p_ifne (tgt := 20) G dX7_ends_4 (by decide) h (fun c9 h => ?_) (fun c9 h => ?_)
  · exact j20 _ _ h
  · refine p_aload_n G rfl 0 rfl dX7_ends_7 ?_
    refine p_get G dX7_ends_8 fl_X7_260 (k := 0) rfl rfl ?_
    refine p_iconst G rfl dX7_ends_11 ?_
    refine p_icmpeq (tgt := 20) G dX7_ends_12 (by decide) h (fun c8 h => ?_) (fun c8 h => ?_)
    · exact j20 _ _ h
    · refine p_aload_n G rfl 0 rfl dX7_ends_15 ?_
      refine p_iconst G rfl dX7_ends_16 ?_
      obtain ⟨σ7, hc, h⟩ := bnd_some h
      refine p_callVi G dX7_ends_17 lk_X7_287 (c_X7_wrong (gl Γ) hc) (As := [.int (zJ (1 : Int))]) (ci := 7) rfl rfl rfl rfl (Nat.le_of_ble_eq_true rfl) ⟨rfl, rfl, Nat.le_of_ble_eq_true rfl, Nat.le_of_ble_eq_true rfl⟩ hcs ?_
      exact j20 _ _ h
set_option maxHeartbeats 4000000 in
set_option maxRecDepth 100000 in
theorem c_X7_readDeck (l : Launch) {D : va_G} {yy : Nat → ClassId} {tk tv a : Nat → Nat} {σ : Mm} {o : Mm} (h : x_X7_readDeck σ = some o) : CT l yX7_readDeck cX7_readDeck 2 none rm_X7_readDeck shW D yy tk tv a σ [.ref (a 0)] o none := by
  refine ct_of (Ar := fun a tk => [.ref (a 0)]) (by decide) (Nat.le_of_ble_eq_true rfl) (fun Γ G _ _ hR => ?_)
  have hcs := rt_cs hR
  unfold x_X7_readDeck at h
  refine (?_ : PT Γ 2 shW 0 σ [(0, .ref (ga Γ 0))] [])
  obtain ⟨e22, hl0, h⟩ := bnd_some h
  have hX0_107 : ∀ (σ23 : Mm), σ23 = e22 → PT Γ 2 shW 107 σ23 [(0, .ref (ga Γ 0))] [] := by
    intro σ23 he
    subst he
    refine p_aload_n G rfl 0 rfl dX7_readDeck_107 ?_
    refine p_get G dX7_readDeck_108 fl_X7_272 (k := 0) rfl rfl ?_
    refine p_ifne (tgt := 127) G dX7_readDeck_111 (by decide) h (fun c29 h => ?_) (fun c29 h => ?_)
    · refine p_aload_n G rfl 0 rfl dX7_readDeck_127 ?_
      obtain ⟨σ24, hc, h⟩ := bnd_some h
      refine p_callVi G dX7_readDeck_128 lk_X7_293 (c_X7_goOn (gl Γ) hc) (As := []) (ci := 7) rfl rfl rfl rfl (Nat.le_of_ble_eq_true rfl) ⟨rfl, rfl, Nat.le_of_ble_eq_true rfl, Nat.le_of_ble_eq_true rfl⟩ hcs ?_
      (cases h; exact p_vret G hR dX7_readDeck_131 rfl rfl)
    · refine p_aload_n G rfl 0 rfl dX7_readDeck_114 ?_
      refine p_get G dX7_readDeck_115 fl_X7_260 (k := 0) rfl rfl ?_
      refine p_iconst G rfl dX7_readDeck_118 ?_
      refine p_icmpeq (tgt := 127) G dX7_readDeck_119 (by decide) h (fun c28 h => ?_) (fun c28 h => ?_)
      · refine p_aload_n G rfl 0 rfl dX7_readDeck_127 ?_
        obtain ⟨σ25, hc, h⟩ := bnd_some h
        refine p_callVi G dX7_readDeck_128 lk_X7_293 (c_X7_goOn (gl Γ) hc) (As := []) (ci := 7) rfl rfl rfl rfl (Nat.le_of_ble_eq_true rfl) ⟨rfl, rfl, Nat.le_of_ble_eq_true rfl, Nat.le_of_ble_eq_true rfl⟩ hcs ?_
        (cases h; exact p_vret G hR dX7_readDeck_131 rfl rfl)
      · refine p_aload_n G rfl 0 rfl dX7_readDeck_122 ?_
        refine p_iconst G rfl dX7_readDeck_123 ?_
        obtain ⟨σ26, hc, h⟩ := bnd_some h
        refine p_callVi G dX7_readDeck_124 lk_X7_287 (c_X7_wrong (gl Γ) hc) (As := [.int (zJ (1 : Int))]) (ci := 7) rfl rfl rfl rfl (Nat.le_of_ble_eq_true rfl) ⟨rfl, rfl, Nat.le_of_ble_eq_true rfl, Nat.le_of_ble_eq_true rfl⟩ hcs ?_
        refine p_aload_n G rfl 0 rfl dX7_readDeck_127 ?_
        obtain ⟨σ27, hc, h⟩ := bnd_some h
        refine p_callVi G dX7_readDeck_128 lk_X7_293 (c_X7_goOn (gl Γ) hc) (As := []) (ci := 7) rfl rfl rfl rfl (Nat.le_of_ble_eq_true rfl) ⟨rfl, rfl, Nat.le_of_ble_eq_true rfl, Nat.le_of_ble_eq_true rfl⟩ hcs ?_
        (cases h; exact p_vret G hR dX7_readDeck_131 rfl rfl)
  refine lup_walk (s := σ) (At := fun s : Mm => PT Γ 2 shW 0 s [(0, .ref (ga Γ 0))] []) (fun σ0 r hf hin0 hout0 => ?_) hl0
  have h : x_X7_readDeck_b0 σ0 = some r := hf
  clear hf
  have j70 : ∀ (σ_70 : Mm), x_X7_readDeck_j70_0 σ_70 = some r → PT Γ 2 shW 70 σ_70 [(0, .ref (ga Γ 0))] [] := by
    intro σ_70 h
    unfold x_X7_readDeck_j70_0 at h
    refine p_aload_n G rfl 0 rfl dX7_readDeck_70 ?_
    refine p_get G dX7_readDeck_71 fl_X7_272 (k := 0) rfl rfl ?_
    refine p_ifne (tgt := 100) G dX7_readDeck_74 (by decide) h (fun c17 h => ?_) (fun c17 h => ?_)
    · refine p_aload_n G rfl 0 rfl dX7_readDeck_100 ?_
      obtain ⟨σ12, hc, h⟩ := bnd_some h
      refine p_callVi G dX7_readDeck_101 lk_X7_293 (c_X7_goOn (gl Γ) hc) (As := []) (ci := 7) rfl rfl rfl rfl (Nat.le_of_ble_eq_true rfl) ⟨rfl, rfl, Nat.le_of_ble_eq_true rfl, Nat.le_of_ble_eq_true rfl⟩ hcs ?_
      refine p_goto (tgt := 0) G dX7_readDeck_104 (by decide) ?_
      exact hin0 _ (Option.some.inj h).symm
    · refine p_aload_n G rfl 0 rfl dX7_readDeck_77 ?_
      refine p_get G dX7_readDeck_78 fl_X7_51 (k := 0) rfl rfl ?_
      refine p_aload_n G rfl 0 rfl dX7_readDeck_81 ?_
      refine p_get G dX7_readDeck_82 fl_X7_54 (k := 0) rfl rfl ?_
      refine p_aload_n G rfl 0 rfl dX7_readDeck_85 ?_
      refine p_get G dX7_readDeck_86 fl_X7_269 (k := 0) rfl rfl ?_
      refine p_iast G dX7_readDeck_89 (k := 25) rfl (zt_c _) rfl h (fun σ13 c14 h => ?_)
      refine p_aload_n G rfl 0 rfl dX7_readDeck_90 ?_
      refine p_dup G rfl dX7_readDeck_91 ?_
      refine p_get G dX7_readDeck_92 fl_X7_54 (k := 0) rfl rfl ?_
      refine p_iconst G rfl dX7_readDeck_95 ?_
      refine p_iadd G dX7_readDeck_96 ?_
      refine p_putI G dX7_readDeck_97 fp_X7_54 (k := 0) rfl rfl rfl rfl h (fun σ15 h => ?_)
      refine p_aload_n G rfl 0 rfl dX7_readDeck_100 ?_
      obtain ⟨σ16, hc, h⟩ := bnd_some h
      refine p_callVi G dX7_readDeck_101 lk_X7_293 (c_X7_goOn (gl Γ) hc) (As := []) (ci := 7) rfl rfl rfl rfl (Nat.le_of_ble_eq_true rfl) ⟨rfl, rfl, Nat.le_of_ble_eq_true rfl, Nat.le_of_ble_eq_true rfl⟩ hcs ?_
      refine p_goto (tgt := 0) G dX7_readDeck_104 (by decide) ?_
      exact hin0 _ (Option.some.inj h).symm
  have j22 : ∀ (σ_22 : Mm), x_X7_readDeck_j22_0 σ_22 = some r → PT Γ 2 shW 22 σ_22 [(0, .ref (ga Γ 0))] [] := by
    intro σ_22 h
    unfold x_X7_readDeck_j22_0 at h
    refine p_aload_n G rfl 0 rfl dX7_readDeck_22 ?_
    refine p_iconst G rfl dX7_readDeck_23 ?_
    refine p_bipush G (by decide) (by decide) dX7_readDeck_24 ?_
    obtain ⟨σ1, hc, h⟩ := bnd_some h
    refine p_callVi G dX7_readDeck_26 lk_X7_290 (c_X7_bounds (gl Γ) hc) (As := [.int (zJ (0 : Int)), .int (zJ (51 : Int))]) (ci := 7) rfl rfl rfl rfl (Nat.le_of_ble_eq_true rfl) ⟨rfl, rfl, Nat.le_of_ble_eq_true rfl, Nat.le_of_ble_eq_true rfl⟩ hcs ?_
    refine p_iconst G rfl dX7_readDeck_29 ?_
    refine p_istore_nU (lv' := [(1, .int (zJ (0 : Int))), (0, .ref (ga Γ 0))]) G rfl dX7_readDeck_30 (by decide) rfl ?_
    refine p_lv [1, 0] rfl ?_
    obtain ⟨e10, hl31, h⟩ := bnd_some h
    have hX31_70 : ∀ (σ11 : Mm), σ11 = e10 → PT Γ 2 shW 70 σ11 [(0, .ref (ga Γ 0))] [] := by
      intro σ11 he
      subst he
      exact j70 _ h
    refine lup_walk (s := (σ1, (0 : Int))) (At := fun s : Mm × Int => PT Γ 2 shW 31 s.1 [(0, .ref (ga Γ 0)), (1, .int (zJ s.2))] []) (fun s r hf hin31 hout31 => ?_) hl31
    obtain ⟨σ31, u1_31⟩ := s
    have h : x_X7_readDeck_b31 σ31 u1_31 = some r := hf
    clear hf
    unfold x_X7_readDeck_b31 at h
    refine (?_ : PT Γ 2 shW 31 σ31 [(0, .ref (ga Γ 0)), (1, .int (zJ u1_31))] [])
    refine p_iload_n G rfl 1 rfl dX7_readDeck_31 ?_
    refine p_aload_n G rfl 0 rfl dX7_readDeck_32 ?_
    refine p_get G dX7_readDeck_33 fl_X7_54 (k := 0) rfl rfl ?_
    refine p_icmpge (tgt := 70) G dX7_readDeck_36 (by decide) h (fun c8 h => ?_) (fun c8 h => ?_)
    · refine p_lv [0] rfl ?_
      have he := hout31 _ (Option.some.inj h).symm
      subst he
      exact hX31_70 _ rfl
    · refine p_aload_n G rfl 0 rfl dX7_readDeck_39 ?_
      refine p_get G dX7_readDeck_40 fl_X7_272 (k := 0) rfl rfl ?_
      refine p_ifne (tgt := 70) G dX7_readDeck_43 (by decide) h (fun c7 h => ?_) (fun c7 h => ?_)
      · refine p_lv [0] rfl ?_
        have he := hout31 _ (Option.some.inj h).symm
        subst he
        exact hX31_70 _ rfl
      · refine p_aload_n G rfl 0 rfl dX7_readDeck_46 ?_
        refine p_get G dX7_readDeck_47 fl_X7_51 (k := 0) rfl rfl ?_
        refine p_iload_n G rfl 1 rfl dX7_readDeck_50 ?_
        refine p_iald G dX7_readDeck_51 (k := 25) rfl (zt_c _) h (fun c2 h => ?_)
        refine p_aload_n G rfl 0 rfl dX7_readDeck_52 ?_
        refine p_get G dX7_readDeck_53 fl_X7_269 (k := 0) rfl rfl ?_
        refine p_icmpne (tgt := 64) G dX7_readDeck_56 (by decide) h (fun c6 h => ?_) (fun c6 h => ?_)
        · refine p_iinc (lv' := fun v3 => [(1, .int (zJ v3)), (0, .ref (ga Γ 0))]) G dX7_readDeck_64 h 1 rfl (by decide) (fun _ => rfl) (fun v3 h => ?_)
          refine p_goto (tgt := 31) G dX7_readDeck_67 (by decide) ?_
          refine p_lv [1, 0] rfl ?_
          exact hin31 _ (Option.some.inj h).symm
        · refine p_aload_n G rfl 0 rfl dX7_readDeck_59 ?_
          refine p_iconst G rfl dX7_readDeck_60 ?_
          obtain ⟨σ4, hc, h⟩ := bnd_some h
          refine p_callVi G dX7_readDeck_61 lk_X7_287 (c_X7_wrong (gl Γ) hc) (As := [.int (zJ (3 : Int))]) (ci := 7) rfl rfl rfl rfl (Nat.le_of_ble_eq_true rfl) ⟨rfl, rfl, Nat.le_of_ble_eq_true rfl, Nat.le_of_ble_eq_true rfl⟩ hcs ?_
          refine p_iinc (lv' := fun v5 => [(1, .int (zJ v5)), (0, .ref (ga Γ 0))]) G dX7_readDeck_64 h 1 rfl (by decide) (fun _ => rfl) (fun v5 h => ?_)
          refine p_goto (tgt := 31) G dX7_readDeck_67 (by decide) ?_
          refine p_lv [1, 0] rfl ?_
          exact hin31 _ (Option.some.inj h).symm
  unfold x_X7_readDeck_b0 at h
  refine (?_ : PT Γ 2 shW 0 σ0 [(0, .ref (ga Γ 0))] [])
  refine p_aload_n G rfl 0 rfl dX7_readDeck_0 ?_
  refine p_get G dX7_readDeck_1 fl_X7_272 (k := 0) rfl rfl ?_
  refine p_ifne (tgt := 107) G dX7_readDeck_4 (by decide) h (fun c20 h => ?_) (fun c20 h => ?_)
  · have he := hout0 _ (Option.some.inj h).symm
    subst he
    exact hX0_107 _ rfl
  · refine p_aload_n G rfl 0 rfl dX7_readDeck_7 ?_
    refine p_get G dX7_readDeck_8 fl_X7_54 (k := 0) rfl rfl ?_
    refine p_ifeq (tgt := 22) G dX7_readDeck_11 (by decide) h (fun c19 h => ?_) (fun c19 h => ?_)
    · exact j22 _ h
    · refine p_aload_n G rfl 0 rfl dX7_readDeck_14 ?_
      refine p_get G dX7_readDeck_15 fl_X7_260 (k := 0) rfl rfl ?_
      refine p_iconst G rfl dX7_readDeck_18 ?_
      refine p_icmpne (tgt := 107) G dX7_readDeck_19 (by decide) h (fun c18 h => ?_) (fun c18 h => ?_)
      · have he := hout0 _ (Option.some.inj h).symm
        subst he
        exact hX0_107 _ rfl
      · exact j22 _ h
set_option maxHeartbeats 4000000 in
set_option maxRecDepth 100000 in
theorem c_X7_cardHere (l : Launch) {D : va_G} {yy : Nat → ClassId} {tk tv a : Nat → Nat} {σ : Mm} {o : Mm × Int} (h : x_X7_cardHere σ = some o) : CT l yX7_cardHere cX7_cardHere 2 (some .int) rm_X7_cardHere shW D yy tk tv a σ [.ref (a 0)] o.1 (some (.int (zJ o.2))) := by
  refine ct_of (Ar := fun a tk => [.ref (a 0)]) (by decide) (Nat.le_of_ble_eq_true rfl) (fun Γ G _ _ hR => ?_)
  have hcs := rt_cs hR
  unfold x_X7_cardHere at h
  refine (?_ : PT Γ 2 shW 0 σ [(0, .ref (ga Γ 0))] [])
  refine p_aload_n G rfl 0 rfl dX7_cardHere_0 ?_
  refine p_iconst G rfl dX7_cardHere_1 ?_
  refine p_bipush G (by decide) (by decide) dX7_cardHere_2 ?_
  obtain ⟨σ1, hc, h⟩ := bnd_some h
  refine p_callVi G dX7_cardHere_4 lk_X7_290 (c_X7_bounds (gl Γ) hc) (As := [.int (zJ (0 : Int)), .int (zJ (51 : Int))]) (ci := 7) rfl rfl rfl rfl (Nat.le_of_ble_eq_true rfl) ⟨rfl, rfl, Nat.le_of_ble_eq_true rfl, Nat.le_of_ble_eq_true rfl⟩ hcs ?_
  refine p_aload_n G rfl 0 rfl dX7_cardHere_7 ?_
  refine p_get G dX7_cardHere_8 fl_X7_272 (k := 0) rfl rfl ?_
  refine p_ifne (tgt := 36) G dX7_cardHere_11 (by decide) h (fun c15 h => ?_) (fun c15 h => ?_)
  · refine p_aload_n G rfl 0 rfl dX7_cardHere_36 ?_
    refine p_get G dX7_cardHere_37 fl_X7_269 (k := 0) rfl rfl ?_
    refine p_istore_n (lv' := fun v2 => [(1, .int (zJ v2)), (0, .ref (ga Γ 0))]) G rfl dX7_cardHere_40 h (by decide) (fun _ => rfl) (fun v2 h => ?_)
    refine p_aload_n G rfl 1 rfl dX7_cardHere_41 ?_
    obtain ⟨σ3, hc, h⟩ := bnd_some h
    refine p_callVi G dX7_cardHere_42 lk_X7_293 (c_X7_goOn (gl Γ) hc) (As := []) (ci := 7) rfl rfl rfl rfl (Nat.le_of_ble_eq_true rfl) ⟨rfl, rfl, Nat.le_of_ble_eq_true rfl, Nat.le_of_ble_eq_true rfl⟩ hcs ?_
    refine p_aload_n G rfl 1 rfl dX7_cardHere_45 ?_
    refine p_get G dX7_cardHere_46 fl_X7_272 (k := 0) rfl rfl ?_
    refine p_ifne (tgt := 56) G dX7_cardHere_49 (by decide) h (fun c4 h => ?_) (fun c4 h => ?_)
    · refine p_iconst G rfl dX7_cardHere_56 ?_
      (cases h; exact p_iret G hR dX7_cardHere_57 rfl rfl)
    · refine p_iload_n G rfl 0 rfl dX7_cardHere_52 ?_
      refine p_goto (tgt := 57) G dX7_cardHere_53 (by decide) ?_
      (cases h; exact p_iret G hR dX7_cardHere_57 rfl rfl)
  · refine p_aload_n G rfl 0 rfl dX7_cardHere_14 ?_
    refine p_aload_n G rfl 0 rfl dX7_cardHere_15 ?_
    refine p_get G dX7_cardHere_16 fl_X7_9 (k := 0) rfl rfl ?_
    refine p_iconst G rfl dX7_cardHere_19 ?_
    refine p_iald G dX7_cardHere_20 (k := 1) rfl (zt_c _) h (fun c5 h => ?_)
    refine p_aload_n G rfl 0 rfl dX7_cardHere_21 ?_
    refine p_get G dX7_cardHere_22 fl_X7_269 (k := 0) rfl rfl ?_
    obtain ⟨v6, hc, h⟩ := bnd_some h
    refine p_callVi G dX7_cardHere_25 lk_X7_76 (c_X7_owns (gl Γ) hc) (As := [.int (zJ (σ1 1 (zix (4 : Int)))), .int (zJ (σ1 0 30))]) (ci := 7) rfl rfl rfl rfl (Nat.le_of_ble_eq_true rfl) ⟨rfl, rfl, Nat.le_of_ble_eq_true rfl, Nat.le_of_ble_eq_true rfl⟩ hcs ?_
    refine p_ifne (tgt := 36) G dX7_cardHere_28 (by decide) h (fun c14 h => ?_) (fun c14 h => ?_)
    · refine p_aload_n G rfl 0 rfl dX7_cardHere_36 ?_
      refine p_get G dX7_cardHere_37 fl_X7_269 (k := 0) rfl rfl ?_
      refine p_istore_n (lv' := fun v7 => [(1, .int (zJ v7)), (0, .ref (ga Γ 0))]) G rfl dX7_cardHere_40 h (by decide) (fun _ => rfl) (fun v7 h => ?_)
      refine p_aload_n G rfl 1 rfl dX7_cardHere_41 ?_
      obtain ⟨σ8, hc, h⟩ := bnd_some h
      refine p_callVi G dX7_cardHere_42 lk_X7_293 (c_X7_goOn (gl Γ) hc) (As := []) (ci := 7) rfl rfl rfl rfl (Nat.le_of_ble_eq_true rfl) ⟨rfl, rfl, Nat.le_of_ble_eq_true rfl, Nat.le_of_ble_eq_true rfl⟩ hcs ?_
      refine p_aload_n G rfl 1 rfl dX7_cardHere_45 ?_
      refine p_get G dX7_cardHere_46 fl_X7_272 (k := 0) rfl rfl ?_
      refine p_ifne (tgt := 56) G dX7_cardHere_49 (by decide) h (fun c9 h => ?_) (fun c9 h => ?_)
      · refine p_iconst G rfl dX7_cardHere_56 ?_
        (cases h; exact p_iret G hR dX7_cardHere_57 rfl rfl)
      · refine p_iload_n G rfl 0 rfl dX7_cardHere_52 ?_
        refine p_goto (tgt := 57) G dX7_cardHere_53 (by decide) ?_
        (cases h; exact p_iret G hR dX7_cardHere_57 rfl rfl)
    · refine p_aload_n G rfl 0 rfl dX7_cardHere_31 ?_
      refine p_iconst G rfl dX7_cardHere_32 ?_
      obtain ⟨σ10, hc, h⟩ := bnd_some h
      refine p_callVi G dX7_cardHere_33 lk_X7_287 (c_X7_wrong (gl Γ) hc) (As := [.int (zJ (3 : Int))]) (ci := 7) rfl rfl rfl rfl (Nat.le_of_ble_eq_true rfl) ⟨rfl, rfl, Nat.le_of_ble_eq_true rfl, Nat.le_of_ble_eq_true rfl⟩ hcs ?_
      refine p_aload_n G rfl 0 rfl dX7_cardHere_36 ?_
      refine p_get G dX7_cardHere_37 fl_X7_269 (k := 0) rfl rfl ?_
      refine p_istore_n (lv' := fun v11 => [(1, .int (zJ v11)), (0, .ref (ga Γ 0))]) G rfl dX7_cardHere_40 h (by decide) (fun _ => rfl) (fun v11 h => ?_)
      refine p_aload_n G rfl 1 rfl dX7_cardHere_41 ?_
      obtain ⟨σ12, hc, h⟩ := bnd_some h
      refine p_callVi G dX7_cardHere_42 lk_X7_293 (c_X7_goOn (gl Γ) hc) (As := []) (ci := 7) rfl rfl rfl rfl (Nat.le_of_ble_eq_true rfl) ⟨rfl, rfl, Nat.le_of_ble_eq_true rfl, Nat.le_of_ble_eq_true rfl⟩ hcs ?_
      refine p_aload_n G rfl 1 rfl dX7_cardHere_45 ?_
      refine p_get G dX7_cardHere_46 fl_X7_272 (k := 0) rfl rfl ?_
      refine p_ifne (tgt := 56) G dX7_cardHere_49 (by decide) h (fun c13 h => ?_) (fun c13 h => ?_)
      · refine p_iconst G rfl dX7_cardHere_56 ?_
        (cases h; exact p_iret G hR dX7_cardHere_57 rfl rfl)
      · refine p_iload_n G rfl 0 rfl dX7_cardHere_52 ?_
        refine p_goto (tgt := 57) G dX7_cardHere_53 (by decide) ?_
        (cases h; exact p_iret G hR dX7_cardHere_57 rfl rfl)
set_option maxHeartbeats 4000000 in
set_option maxRecDepth 100000 in
theorem c_X7_move (l : Launch) {D : va_G} {yy : Nat → ClassId} {tk tv a : Nat → Nat} {σ : Mm} {o : Mm} (h : x_X7_move σ = some o) : CT l yX7_move cX7_move 4 none rm_X7_move shW D yy tk tv a σ [.ref (a 0)] o none := by
  refine ct_of (Ar := fun a tk => [.ref (a 0)]) (by decide) (Nat.le_of_ble_eq_true rfl) (fun Γ G _ _ hR => ?_)
  have hcs := rt_cs hR
  unfold x_X7_move at h
  refine (?_ : PT Γ 4 shW 0 σ [(0, .ref (ga Γ 0))] [])
  refine p_aload_n G rfl 0 rfl dX7_move_0 ?_
  refine p_ldcSw G 15 (by decide) rfl rfl dX7_move_1 rfl ?_
  obtain ⟨v1, hc, h⟩ := bnd_some h
  refine p_callVi G dX7_move_4 lk_X7_297 (c_X7_isWord (gl Γ) hc) (As := [.ref (gk Γ 4)]) (ci := 7) rfl rfl rfl rfl (Nat.le_of_ble_eq_true rfl) ⟨rfl, rfl, Nat.le_of_ble_eq_true rfl, Nat.le_of_ble_eq_true rfl⟩ hcs ?_
  refine p_istore_nU (lv' := [(1, .int (zJ v1)), (0, .ref (ga Γ 0))]) G rfl dX7_move_7 (by decide) rfl ?_
  refine p_iload_n G rfl 0 rfl dX7_move_8 ?_
  refine p_ifne (tgt := 22) G dX7_move_9 (by decide) h (fun c57 h => ?_) (fun c57 h => ?_)
  · refine p_aload_n G rfl 1 rfl dX7_move_22 ?_
    obtain ⟨σ2, hc, h⟩ := bnd_some h
    refine p_callVi G dX7_move_23 lk_X7_284 (c_X7_scan (gl Γ) hc) (As := []) (ci := 7) rfl rfl rfl rfl (Nat.le_of_ble_eq_true rfl) ⟨rfl, rfl, Nat.le_of_ble_eq_true rfl, Nat.le_of_ble_eq_true rfl⟩ hcs ?_
    refine p_aload_n G rfl 1 rfl dX7_move_26 ?_
    refine p_aload_n G rfl 1 rfl dX7_move_27 ?_
    obtain ⟨v3, hc, h⟩ := bnd_some h
    refine p_callVi G dX7_move_28 lk_X7_218 (c_X7_noDraw (gl Γ) hc) (As := []) (ci := 7) rfl rfl rfl rfl (Nat.le_of_ble_eq_true rfl) ⟨rfl, rfl, Nat.le_of_ble_eq_true rfl, Nat.le_of_ble_eq_true rfl⟩ hcs ?_
    obtain ⟨⟨σ4, v5⟩, hc, h⟩ := bnd_some h
    rw [un2_mk] at h
    refine p_callVi G dX7_move_31 lk_X7_306 (c_X7_ends (gl Γ) hc) (As := [.int (zJ v3)]) (ci := 7) rfl rfl rfl rfl (Nat.le_of_ble_eq_true rfl) ⟨rfl, rfl, Nat.le_of_ble_eq_true rfl, Nat.le_of_ble_eq_true rfl⟩ hcs ?_
    refine p_ifeq (tgt := 175) G dX7_move_34 (by decide) h (fun c8 h => ?_) (fun c8 h => ?_)
    · (cases h; exact p_vret G hR dX7_move_175 rfl rfl)
    · refine p_aload_n G rfl 1 rfl dX7_move_37 ?_
      refine p_iload_n G rfl 0 rfl dX7_move_38 ?_
      obtain ⟨⟨σ6, v7⟩, hc, h⟩ := bnd_some h
      rw [un2_mk] at h
      refine p_callVi G dX7_move_39 lk_X7_225 (c_X7_drawIt (gl Γ) hc) (As := [.int (zJ v1)]) (ci := 7) rfl rfl rfl rfl (Nat.le_of_ble_eq_true rfl) ⟨rfl, rfl, Nat.le_of_ble_eq_true rfl, Nat.le_of_ble_eq_true rfl⟩ hcs ?_
      refine p_istore_nU (lv' := [(2, .int (zJ v7)), (1, .int (zJ v1)), (0, .ref (ga Γ 0))]) G rfl dX7_move_42 (by decide) rfl ?_
      refine p_goto (tgt := 175) G dX7_move_43 (by decide) ?_
      (cases h; exact p_vret G hR dX7_move_175 rfl rfl)
  · refine p_aload_n G rfl 1 rfl dX7_move_12 ?_
    refine p_ldcSw G 16 (by decide) rfl rfl dX7_move_13 rfl ?_
    obtain ⟨v9, hc, h⟩ := bnd_some h
    refine p_callVi G dX7_move_16 lk_X7_297 (c_X7_isWord (gl Γ) hc) (As := [.ref (gk Γ 3)]) (ci := 7) rfl rfl rfl rfl (Nat.le_of_ble_eq_true rfl) ⟨rfl, rfl, Nat.le_of_ble_eq_true rfl, Nat.le_of_ble_eq_true rfl⟩ hcs ?_
    refine p_ifeq (tgt := 46) G dX7_move_19 (by decide) h (fun c56 h => ?_) (fun c56 h => ?_)
    · refine p_aload_n G rfl 1 rfl dX7_move_46 ?_
      refine p_ldcSw G 17 (by decide) rfl rfl dX7_move_47 rfl ?_
      obtain ⟨v10, hc, h⟩ := bnd_some h
      refine p_callVi G dX7_move_50 lk_X7_297 (c_X7_isWord (gl Γ) hc) (As := [.ref (gk Γ 5)]) (ci := 7) rfl rfl rfl rfl (Nat.le_of_ble_eq_true rfl) ⟨rfl, rfl, Nat.le_of_ble_eq_true rfl, Nat.le_of_ble_eq_true rfl⟩ hcs ?_
      refine p_ifeq (tgt := 86) G dX7_move_53 (by decide) h (fun c48 h => ?_) (fun c48 h => ?_)
      · refine p_aload_n G rfl 1 rfl dX7_move_86 ?_
        refine p_ldcSw G 18 (by decide) rfl rfl dX7_move_87 rfl ?_
        obtain ⟨v11, hc, h⟩ := bnd_some h
        refine p_callVi G dX7_move_90 lk_X7_297 (c_X7_isWord (gl Γ) hc) (As := [.ref (gk Γ 6)]) (ci := 7) rfl rfl rfl rfl (Nat.le_of_ble_eq_true rfl) ⟨rfl, rfl, Nat.le_of_ble_eq_true rfl, Nat.le_of_ble_eq_true rfl⟩ hcs ?_
        refine p_ifeq (tgt := 137) G dX7_move_93 (by decide) h (fun c38 h => ?_) (fun c38 h => ?_)
        · refine p_aload_n G rfl 1 rfl dX7_move_137 ?_
          refine p_ldcSw G 19 (by decide) rfl rfl dX7_move_138 rfl ?_
          obtain ⟨v12, hc, h⟩ := bnd_some h
          refine p_callVi G dX7_move_141 lk_X7_297 (c_X7_isWord (gl Γ) hc) (As := [.ref (gk Γ 7)]) (ci := 7) rfl rfl rfl rfl (Nat.le_of_ble_eq_true rfl) ⟨rfl, rfl, Nat.le_of_ble_eq_true rfl, Nat.le_of_ble_eq_true rfl⟩ hcs ?_
          refine p_ifeq (tgt := 170) G dX7_move_144 (by decide) h (fun c21 h => ?_) (fun c21 h => ?_)
          · refine p_aload_n G rfl 1 rfl dX7_move_170 ?_
            refine p_iconst G rfl dX7_move_171 ?_
            obtain ⟨σ13, hc, h⟩ := bnd_some h
            refine p_callVi G dX7_move_172 lk_X7_287 (c_X7_wrong (gl Γ) hc) (As := [.int (zJ (1 : Int))]) (ci := 7) rfl rfl rfl rfl (Nat.le_of_ble_eq_true rfl) ⟨rfl, rfl, Nat.le_of_ble_eq_true rfl, Nat.le_of_ble_eq_true rfl⟩ hcs ?_
            (cases h; exact p_vret G hR dX7_move_175 rfl rfl)
          · refine p_aload_n G rfl 1 rfl dX7_move_147 ?_
            obtain ⟨σ14, hc, h⟩ := bnd_some h
            refine p_callVi G dX7_move_148 lk_X7_284 (c_X7_scan (gl Γ) hc) (As := []) (ci := 7) rfl rfl rfl rfl (Nat.le_of_ble_eq_true rfl) ⟨rfl, rfl, Nat.le_of_ble_eq_true rfl, Nat.le_of_ble_eq_true rfl⟩ hcs ?_
            refine p_aload_n G rfl 1 rfl dX7_move_151 ?_
            refine p_aload_n G rfl 1 rfl dX7_move_152 ?_
            obtain ⟨v15, hc, h⟩ := bnd_some h
            refine p_callVi G dX7_move_153 lk_X7_241 (c_X7_noDeal (gl Γ) hc) (As := []) (ci := 7) rfl rfl rfl rfl (Nat.le_of_ble_eq_true rfl) ⟨rfl, rfl, Nat.le_of_ble_eq_true rfl, Nat.le_of_ble_eq_true rfl⟩ hcs ?_
            obtain ⟨⟨σ16, v17⟩, hc, h⟩ := bnd_some h
            rw [un2_mk] at h
            refine p_callVi G dX7_move_156 lk_X7_306 (c_X7_ends (gl Γ) hc) (As := [.int (zJ v15)]) (ci := 7) rfl rfl rfl rfl (Nat.le_of_ble_eq_true rfl) ⟨rfl, rfl, Nat.le_of_ble_eq_true rfl, Nat.le_of_ble_eq_true rfl⟩ hcs ?_
            refine p_ifeq (tgt := 175) G dX7_move_159 (by decide) h (fun c20 h => ?_) (fun c20 h => ?_)
            · (cases h; exact p_vret G hR dX7_move_175 rfl rfl)
            · refine p_aload_n G rfl 1 rfl dX7_move_162 ?_
              obtain ⟨⟨σ18, v19⟩, hc, h⟩ := bnd_some h
              rw [un2_mk] at h
              refine p_callVi G dX7_move_163 lk_X7_244 (c_X7_dealIt (gl Γ) hc) (As := []) (ci := 7) rfl rfl rfl rfl (Nat.le_of_ble_eq_true rfl) ⟨rfl, rfl, Nat.le_of_ble_eq_true rfl, Nat.le_of_ble_eq_true rfl⟩ hcs ?_
              refine p_istore_nU (lv' := [(2, .int (zJ v19)), (1, .int (zJ v1)), (0, .ref (ga Γ 0))]) G rfl dX7_move_166 (by decide) rfl ?_
              refine p_goto (tgt := 175) G dX7_move_167 (by decide) ?_
              (cases h; exact p_vret G hR dX7_move_175 rfl rfl)
        · refine p_aload_n G rfl 1 rfl dX7_move_96 ?_
          obtain ⟨σ22, hc, h⟩ := bnd_some h
          refine p_callVi G dX7_move_97 lk_X7_284 (c_X7_scan (gl Γ) hc) (As := []) (ci := 7) rfl rfl rfl rfl (Nat.le_of_ble_eq_true rfl) ⟨rfl, rfl, Nat.le_of_ble_eq_true rfl, Nat.le_of_ble_eq_true rfl⟩ hcs ?_
          refine p_aload_n G rfl 1 rfl dX7_move_100 ?_
          obtain ⟨⟨σ23, v24⟩, hc, h⟩ := bnd_some h
          rw [un2_mk] at h
          refine p_callVi G dX7_move_101 lk_X7_323 (c_X7_cardHere (gl Γ) hc) (As := []) (ci := 7) rfl rfl rfl rfl (Nat.le_of_ble_eq_true rfl) ⟨rfl, rfl, Nat.le_of_ble_eq_true rfl, Nat.le_of_ble_eq_true rfl⟩ hcs ?_
          refine p_istore_nU (lv' := [(2, .int (zJ v24)), (1, .int (zJ v1)), (0, .ref (ga Γ 0))]) G rfl dX7_move_104 (by decide) rfl ?_
          refine p_aload_n G rfl 2 rfl dX7_move_105 ?_
          refine p_aload_n G rfl 2 rfl dX7_move_106 ?_
          refine p_get G dX7_move_107 fl_X7_272 (k := 0) rfl rfl ?_
          refine p_ifne (tgt := 121) G dX7_move_110 (by decide) h (fun c37 h => ?_) (fun c37 h => ?_)
          · refine p_iconst G rfl dX7_move_121 ?_
            obtain ⟨⟨σ25, v26⟩, hc, h⟩ := bnd_some h
            rw [un2_mk] at h
            refine p_callVi G dX7_move_122 lk_X7_306 (c_X7_ends (gl Γ) hc) (As := [.int (zJ (0 : Int))]) (ci := 7) rfl rfl rfl rfl (Nat.le_of_ble_eq_true rfl) ⟨rfl, rfl, Nat.le_of_ble_eq_true rfl, Nat.le_of_ble_eq_true rfl⟩ hcs ?_
            refine p_ifeq (tgt := 134) G dX7_move_125 (by decide) h (fun c29 h => ?_) (fun c29 h => ?_)
            · refine p_goto (tgt := 175) G dX7_move_134 (by decide) ?_
              (cases h; exact p_vret G hR dX7_move_175 rfl rfl)
            · refine p_aload_n G rfl 2 rfl dX7_move_128 ?_
              refine p_iload_n G rfl 0 rfl dX7_move_129 ?_
              obtain ⟨⟨σ27, v28⟩, hc, h⟩ := bnd_some h
              rw [un2_mk] at h
              refine p_callVi G dX7_move_130 lk_X7_238 (c_X7_knockIt (gl Γ) hc) (As := [.int (zJ v24)]) (ci := 7) rfl rfl rfl rfl (Nat.le_of_ble_eq_true rfl) ⟨rfl, rfl, Nat.le_of_ble_eq_true rfl, Nat.le_of_ble_eq_true rfl⟩ hcs ?_
              refine p_istore_nU (lv' := [(3, .int (zJ v28)), (2, .int (zJ v24)), (1, .int (zJ v1)), (0, .ref (ga Γ 0))]) G rfl dX7_move_133 (by decide) rfl ?_
              refine p_goto (tgt := 175) G dX7_move_134 (by decide) ?_
              (cases h; exact p_vret G hR dX7_move_175 rfl rfl)
          · refine p_aload_n G rfl 2 rfl dX7_move_113 ?_
            refine p_iload_n G rfl 0 rfl dX7_move_114 ?_
            obtain ⟨⟨σ30, v31⟩, hc, h⟩ := bnd_some h
            rw [un2_mk] at h
            refine p_callVi G dX7_move_115 lk_X7_235 (c_X7_noKnock (gl Γ) hc) (As := [.int (zJ v24)]) (ci := 7) rfl rfl rfl rfl (Nat.le_of_ble_eq_true rfl) ⟨rfl, rfl, Nat.le_of_ble_eq_true rfl, Nat.le_of_ble_eq_true rfl⟩ hcs ?_
            refine p_goto (tgt := 122) G dX7_move_118 (by decide) ?_
            obtain ⟨⟨σ32, v33⟩, hc, h⟩ := bnd_some h
            rw [un2_mk] at h
            refine p_callVi G dX7_move_122 lk_X7_306 (c_X7_ends (gl Γ) hc) (As := [.int (zJ v31)]) (ci := 7) rfl rfl rfl rfl (Nat.le_of_ble_eq_true rfl) ⟨rfl, rfl, Nat.le_of_ble_eq_true rfl, Nat.le_of_ble_eq_true rfl⟩ hcs ?_
            refine p_ifeq (tgt := 134) G dX7_move_125 (by decide) h (fun c36 h => ?_) (fun c36 h => ?_)
            · refine p_goto (tgt := 175) G dX7_move_134 (by decide) ?_
              (cases h; exact p_vret G hR dX7_move_175 rfl rfl)
            · refine p_aload_n G rfl 2 rfl dX7_move_128 ?_
              refine p_iload_n G rfl 0 rfl dX7_move_129 ?_
              obtain ⟨⟨σ34, v35⟩, hc, h⟩ := bnd_some h
              rw [un2_mk] at h
              refine p_callVi G dX7_move_130 lk_X7_238 (c_X7_knockIt (gl Γ) hc) (As := [.int (zJ v24)]) (ci := 7) rfl rfl rfl rfl (Nat.le_of_ble_eq_true rfl) ⟨rfl, rfl, Nat.le_of_ble_eq_true rfl, Nat.le_of_ble_eq_true rfl⟩ hcs ?_
              refine p_istore_nU (lv' := [(3, .int (zJ v35)), (2, .int (zJ v24)), (1, .int (zJ v1)), (0, .ref (ga Γ 0))]) G rfl dX7_move_133 (by decide) rfl ?_
              refine p_goto (tgt := 175) G dX7_move_134 (by decide) ?_
              (cases h; exact p_vret G hR dX7_move_175 rfl rfl)
      · refine p_aload_n G rfl 1 rfl dX7_move_56 ?_
        obtain ⟨σ39, hc, h⟩ := bnd_some h
        refine p_callVi G dX7_move_57 lk_X7_284 (c_X7_scan (gl Γ) hc) (As := []) (ci := 7) rfl rfl rfl rfl (Nat.le_of_ble_eq_true rfl) ⟨rfl, rfl, Nat.le_of_ble_eq_true rfl, Nat.le_of_ble_eq_true rfl⟩ hcs ?_
        refine p_aload_n G rfl 1 rfl dX7_move_60 ?_
        obtain ⟨⟨σ40, v41⟩, hc, h⟩ := bnd_some h
        rw [un2_mk] at h
        refine p_callVi G dX7_move_61 lk_X7_323 (c_X7_cardHere (gl Γ) hc) (As := []) (ci := 7) rfl rfl rfl rfl (Nat.le_of_ble_eq_true rfl) ⟨rfl, rfl, Nat.le_of_ble_eq_true rfl, Nat.le_of_ble_eq_true rfl⟩ hcs ?_
        refine p_istore_nU (lv' := [(2, .int (zJ v41)), (1, .int (zJ v1)), (0, .ref (ga Γ 0))]) G rfl dX7_move_64 (by decide) rfl ?_
        refine p_aload_n G rfl 2 rfl dX7_move_65 ?_
        refine p_aload_n G rfl 2 rfl dX7_move_66 ?_
        refine p_iload_n G rfl 0 rfl dX7_move_67 ?_
        obtain ⟨v42, hc, h⟩ := bnd_some h
        refine p_callVi G dX7_move_68 lk_X7_192 (c_X7_noTurn (gl Γ) hc) (As := [.int (zJ v41)]) (ci := 7) rfl rfl rfl rfl (Nat.le_of_ble_eq_true rfl) ⟨rfl, rfl, Nat.le_of_ble_eq_true rfl, Nat.le_of_ble_eq_true rfl⟩ hcs ?_
        obtain ⟨⟨σ43, v44⟩, hc, h⟩ := bnd_some h
        rw [un2_mk] at h
        refine p_callVi G dX7_move_71 lk_X7_306 (c_X7_ends (gl Γ) hc) (As := [.int (zJ v42)]) (ci := 7) rfl rfl rfl rfl (Nat.le_of_ble_eq_true rfl) ⟨rfl, rfl, Nat.le_of_ble_eq_true rfl, Nat.le_of_ble_eq_true rfl⟩ hcs ?_
        refine p_ifeq (tgt := 83) G dX7_move_74 (by decide) h (fun c47 h => ?_) (fun c47 h => ?_)
        · refine p_goto (tgt := 175) G dX7_move_83 (by decide) ?_
          (cases h; exact p_vret G hR dX7_move_175 rfl rfl)
        · refine p_aload_n G rfl 2 rfl dX7_move_77 ?_
          refine p_iload_n G rfl 0 rfl dX7_move_78 ?_
          obtain ⟨⟨σ45, v46⟩, hc, h⟩ := bnd_some h
          rw [un2_mk] at h
          refine p_callVi G dX7_move_79 lk_X7_232 (c_X7_dropIt (gl Γ) hc) (As := [.int (zJ v41)]) (ci := 7) rfl rfl rfl rfl (Nat.le_of_ble_eq_true rfl) ⟨rfl, rfl, Nat.le_of_ble_eq_true rfl, Nat.le_of_ble_eq_true rfl⟩ hcs ?_
          refine p_istore_nU (lv' := [(3, .int (zJ v46)), (2, .int (zJ v41)), (1, .int (zJ v1)), (0, .ref (ga Γ 0))]) G rfl dX7_move_82 (by decide) rfl ?_
          refine p_goto (tgt := 175) G dX7_move_83 (by decide) ?_
          (cases h; exact p_vret G hR dX7_move_175 rfl rfl)
    · refine p_aload_n G rfl 1 rfl dX7_move_22 ?_
      obtain ⟨σ49, hc, h⟩ := bnd_some h
      refine p_callVi G dX7_move_23 lk_X7_284 (c_X7_scan (gl Γ) hc) (As := []) (ci := 7) rfl rfl rfl rfl (Nat.le_of_ble_eq_true rfl) ⟨rfl, rfl, Nat.le_of_ble_eq_true rfl, Nat.le_of_ble_eq_true rfl⟩ hcs ?_
      refine p_aload_n G rfl 1 rfl dX7_move_26 ?_
      refine p_aload_n G rfl 1 rfl dX7_move_27 ?_
      obtain ⟨v50, hc, h⟩ := bnd_some h
      refine p_callVi G dX7_move_28 lk_X7_218 (c_X7_noDraw (gl Γ) hc) (As := []) (ci := 7) rfl rfl rfl rfl (Nat.le_of_ble_eq_true rfl) ⟨rfl, rfl, Nat.le_of_ble_eq_true rfl, Nat.le_of_ble_eq_true rfl⟩ hcs ?_
      obtain ⟨⟨σ51, v52⟩, hc, h⟩ := bnd_some h
      rw [un2_mk] at h
      refine p_callVi G dX7_move_31 lk_X7_306 (c_X7_ends (gl Γ) hc) (As := [.int (zJ v50)]) (ci := 7) rfl rfl rfl rfl (Nat.le_of_ble_eq_true rfl) ⟨rfl, rfl, Nat.le_of_ble_eq_true rfl, Nat.le_of_ble_eq_true rfl⟩ hcs ?_
      refine p_ifeq (tgt := 175) G dX7_move_34 (by decide) h (fun c55 h => ?_) (fun c55 h => ?_)
      · (cases h; exact p_vret G hR dX7_move_175 rfl rfl)
      · refine p_aload_n G rfl 1 rfl dX7_move_37 ?_
        refine p_iload_n G rfl 0 rfl dX7_move_38 ?_
        obtain ⟨⟨σ53, v54⟩, hc, h⟩ := bnd_some h
        rw [un2_mk] at h
        refine p_callVi G dX7_move_39 lk_X7_225 (c_X7_drawIt (gl Γ) hc) (As := [.int (zJ v1)]) (ci := 7) rfl rfl rfl rfl (Nat.le_of_ble_eq_true rfl) ⟨rfl, rfl, Nat.le_of_ble_eq_true rfl, Nat.le_of_ble_eq_true rfl⟩ hcs ?_
        refine p_istore_nU (lv' := [(2, .int (zJ v54)), (1, .int (zJ v1)), (0, .ref (ga Γ 0))]) G rfl dX7_move_42 (by decide) rfl ?_
        refine p_goto (tgt := 175) G dX7_move_43 (by decide) ?_
        (cases h; exact p_vret G hR dX7_move_175 rfl rfl)
set_option maxHeartbeats 4000000 in
set_option maxRecDepth 100000 in
theorem c_X7_load (l : Launch) {D : va_G} {yy : Nat → ClassId} {tk tv a : Nat → Nat} {σ : Mm} {o : Mm × Int} (h : x_X7_load σ = some o) : CT l yX7_load cX7_load 6 (some .int) rm_X7_load shW D yy tk tv a σ [.ref (a 0)] o.1 (some (.int (zJ o.2))) := by
  refine ct_of (Ar := fun a tk => [.ref (a 0)]) (by decide) (Nat.le_of_ble_eq_true rfl) (fun Γ G _ _ hR => ?_)
  have hcs := rt_cs hR
  unfold x_X7_load at h
  refine (?_ : PT Γ 6 shW 0 σ [(0, .ref (ga Γ 0))] [])
  have j164 : ∀ (σ_164 : Mm) (v5_164 : Int), x_X7_load_j164 σ_164 v5_164 = some o → PT Γ 6 shW 164 σ_164 [(0, .ref (ga Γ 0)), (5, .int (zJ v5_164))] [] := by
    intro σ_164 v5_164 h
    unfold x_X7_load_j164 at h
    refine p_aload_n G rfl 0 rfl dX7_load_164 ?_
    refine p_iconst G rfl dX7_load_165 ?_
    refine p_putI G dX7_load_166 fp_X7_251 (k := 0) rfl rfl rfl rfl h (fun σ29 h => ?_)
    refine p_aload_n G rfl 0 rfl dX7_load_169 ?_
    refine p_get G dX7_load_170 fl_X7_272 (k := 0) rfl rfl ?_
    refine p_ifeq (tgt := 195) G dX7_load_173 (by decide) h (fun c35 h => ?_) (fun c35 h => ?_)
    · refine p_aload_n G rfl 0 rfl dX7_load_195 ?_
      refine p_aload_n G rfl 0 rfl dX7_load_196 ?_
      refine p_get G dX7_load_197 fl_X7_25 (k := 0) rfl rfl ?_
      obtain ⟨σ30, hc, h⟩ := bnd_some h
      refine p_callVi G dX7_load_200 lk_X7_221 (c_X7_keepPast_b (gl Γ) hc) (As := [.ref (ga Γ 17)]) (ci := 7) rfl rfl rfl rfl (Nat.le_of_ble_eq_true rfl) ⟨rfl, rfl, Nat.le_of_ble_eq_true rfl, Nat.le_of_ble_eq_true rfl⟩ hcs ?_
      refine p_iload G 1 rfl dX7_load_203 ?_
      refine p_ifeq (tgt := 217) G dX7_load_205 (by decide) h (fun c32 h => ?_) (fun c32 h => ?_)
      · refine p_iconst G rfl dX7_load_217 ?_
        (cases h; exact p_iret G hR dX7_load_218 rfl rfl)
      · refine p_aload_n G rfl 0 rfl dX7_load_208 ?_
        refine p_get G dX7_load_209 fl_X7_9 (k := 0) rfl rfl ?_
        refine p_iconst G rfl dX7_load_212 ?_
        refine p_iald G dX7_load_213 (k := 1) rfl (zt_c _) h (fun c31 h => ?_)
        refine p_goto (tgt := 218) G dX7_load_214 (by decide) ?_
        (cases h; exact p_iret G hR dX7_load_218 rfl rfl)
    · refine p_aload_n G rfl 0 rfl dX7_load_176 ?_
      refine p_get G dX7_load_177 fl_X7_25 (k := 0) rfl rfl ?_
      refine p_aload_n G rfl 0 rfl dX7_load_180 ?_
      refine p_get G dX7_load_181 fl_X7_9 (k := 0) rfl rfl ?_
      obtain ⟨σ33, hc, h⟩ := bnd_some h
      refine p_callS G zl_34 dX7_load_184 lk_X7_68 (c_X7_copy (gl Γ) hc) (As := [.ref (ga Γ 17), .ref (ga Γ 1)]) rfl zk_34 (zs_x zs_34 _) rfl (Nat.le_of_ble_eq_true rfl) ⟨rfl, rfl, Nat.le_of_ble_eq_true rfl, Nat.le_of_ble_eq_true rfl⟩ hcs ?_
      refine p_nm h (fun σ34 h => ?_)
      refine p_bipush G (by decide) (by decide) dX7_load_187 ?_
      refine p_aload_n G rfl 0 rfl dX7_load_189 ?_
      refine p_get G dX7_load_190 fl_X7_272 (k := 0) rfl rfl ?_
      refine p_isub G dX7_load_193 ?_
      (cases h; exact p_iret G hR dX7_load_194 rfl rfl)
  have j139 : ∀ (σ_139 : Mm) (v5_139 : Int), x_X7_load_j139 σ_139 v5_139 = some o → PT Γ 6 shW 139 σ_139 [(0, .ref (ga Γ 0)), (5, .int (zJ v5_139))] [] := by
    intro σ_139 v5_139 h
    unfold x_X7_load_j139 at h
    obtain ⟨e27, hl139, h⟩ := bnd_some h
    have hX139_164 : ∀ (σ28 : Mm), σ28 = e27 → PT Γ 6 shW 164 σ28 [(0, .ref (ga Γ 0)), (5, .int (zJ v5_139))] [] := by
      intro σ28 he
      subst he
      exact j164 _ _ h
    refine lup_walk (s := σ_139) (At := fun s : Mm => PT Γ 6 shW 139 s [(0, .ref (ga Γ 0)), (5, .int (zJ v5_139))] []) (fun σ139 r hf hin139 hout139 => ?_) hl139
    have h : x_X7_load_b139 v5_139 σ139 = some r := hf
    clear hf
    unfold x_X7_load_b139 at h
    refine (?_ : PT Γ 6 shW 139 σ139 [(0, .ref (ga Γ 0)), (5, .int (zJ v5_139))] [])
    refine p_aload_n G rfl 0 rfl dX7_load_139 ?_
    refine p_get G dX7_load_140 fl_X7_272 (k := 0) rfl rfl ?_
    refine p_ifne (tgt := 164) G dX7_load_143 (by decide) h (fun c25 h => ?_) (fun c25 h => ?_)
    · have he := hout139 _ (Option.some.inj h).symm
      subst he
      exact hX139_164 _ rfl
    · refine p_aload_n G rfl 0 rfl dX7_load_146 ?_
      refine p_get G dX7_load_147 fl_X7_260 (k := 0) rfl rfl ?_
      refine p_ifeq (tgt := 164) G dX7_load_150 (by decide) h (fun c24 h => ?_) (fun c24 h => ?_)
      · have he := hout139 _ (Option.some.inj h).symm
        subst he
        exact hX139_164 _ rfl
      · refine p_aload_n G rfl 0 rfl dX7_load_153 ?_
        obtain ⟨σ22, hc, h⟩ := bnd_some h
        refine p_callVi G dX7_load_154 lk_X7_314 (c_X7_move (gl Γ) hc) (As := []) (ci := 7) rfl rfl rfl rfl (Nat.le_of_ble_eq_true rfl) ⟨rfl, rfl, Nat.le_of_ble_eq_true rfl, Nat.le_of_ble_eq_true rfl⟩ hcs ?_
        refine p_aload_n G rfl 0 rfl dX7_load_157 ?_
        obtain ⟨σ23, hc, h⟩ := bnd_some h
        refine p_callVi G dX7_load_158 lk_X7_293 (c_X7_goOn (gl Γ) hc) (As := []) (ci := 7) rfl rfl rfl rfl (Nat.le_of_ble_eq_true rfl) ⟨rfl, rfl, Nat.le_of_ble_eq_true rfl, Nat.le_of_ble_eq_true rfl⟩ hcs ?_
        refine p_goto (tgt := 139) G dX7_load_161 (by decide) ?_
        exact hin139 _ (Option.some.inj h).symm
  have j123 : ∀ (σ_123 : Mm) (v1_123 : Int) (v2_123 : Int) (v3_123 : Int) (v4_123 : Int) (v5_123 : Int), x_X7_load_j123 σ_123 v1_123 v2_123 v3_123 v4_123 v5_123 = some o → PT Γ 6 shW 123 σ_123 [(0, .ref (ga Γ 0)), (1, .int (zJ v1_123)), (2, .int (zJ v2_123)), (3, .int (zJ v3_123)), (4, .int (zJ v4_123)), (5, .int (zJ v5_123))] [] := by
    intro σ_123 v1_123 v2_123 v3_123 v4_123 v5_123 h
    unfold x_X7_load_j123 at h
    refine p_aload_n G rfl 0 rfl dX7_load_123 ?_
    refine p_get G dX7_load_124 fl_X7_272 (k := 0) rfl rfl ?_
    refine p_ifne (tgt := 139) G dX7_load_127 (by decide) h (fun c37 h => ?_) (fun c37 h => ?_)
    · refine p_lv [0, 5] rfl ?_
      exact j139 _ _ h
    · refine p_aload_n G rfl 0 rfl dX7_load_130 ?_
      refine p_iload_n G rfl 1 rfl dX7_load_131 ?_
      refine p_iload_n G rfl 2 rfl dX7_load_132 ?_
      refine p_iload_n G rfl 3 rfl dX7_load_133 ?_
      refine p_iload G 4 rfl dX7_load_134 ?_
      obtain ⟨σ36, hc, h⟩ := bnd_some h
      refine p_callVi G dX7_load_136 lk_X7_58 (c_X7_begin (gl Γ) hc) (As := [.int (zJ v1_123), .int (zJ v2_123), .int (zJ v3_123), .int (zJ v4_123)]) (ci := 7) rfl rfl rfl rfl (Nat.le_of_ble_eq_true rfl) ⟨rfl, rfl, Nat.le_of_ble_eq_true rfl, Nat.le_of_ble_eq_true rfl⟩ hcs ?_
      refine p_lv [0, 5] rfl ?_
      exact j139 _ _ h
  have j52 : ∀ (σ_52 : Mm), x_X7_load_j52 σ_52 = some o → PT Γ 6 shW 52 σ_52 [(0, .ref (ga Γ 0))] [] := by
    intro σ_52 h
    unfold x_X7_load_j52 at h
    refine p_aload_n G rfl 0 rfl dX7_load_52 ?_
    refine p_iconst G rfl dX7_load_53 ?_
    refine p_ldcw (x := 999999999) G gm_1470 (by decide) dX7_load_54 ?_
    obtain ⟨⟨σ9, v10⟩, hc, h⟩ := bnd_some h
    rw [un2_mk] at h
    refine p_callVi G dX7_load_57 lk_X7_302 (c_X7_readNumber (gl Γ) hc) (As := [.int (zJ (0 : Int)), .int (zJ (999999999 : Int))]) (ci := 7) rfl rfl rfl rfl (Nat.le_of_ble_eq_true rfl) ⟨rfl, rfl, Nat.le_of_ble_eq_true rfl, Nat.le_of_ble_eq_true rfl⟩ hcs ?_
    refine p_istore_nU (lv' := [(1, .int (zJ v10)), (0, .ref (ga Γ 0))]) G rfl dX7_load_60 (by decide) rfl ?_
    refine p_aload_n G rfl 1 rfl dX7_load_61 ?_
    refine p_bipush G (by decide) (by decide) dX7_load_62 ?_
    refine p_bipush G (by decide) (by decide) dX7_load_64 ?_
    obtain ⟨⟨σ11, v12⟩, hc, h⟩ := bnd_some h
    rw [un2_mk] at h
    refine p_callVi G dX7_load_66 lk_X7_302 (c_X7_readNumber (gl Γ) hc) (As := [.int (zJ (7 : Int)), .int (zJ (10 : Int))]) (ci := 7) rfl rfl rfl rfl (Nat.le_of_ble_eq_true rfl) ⟨rfl, rfl, Nat.le_of_ble_eq_true rfl, Nat.le_of_ble_eq_true rfl⟩ hcs ?_
    refine p_istore_nU (lv' := [(2, .int (zJ v12)), (1, .int (zJ v10)), (0, .ref (ga Γ 0))]) G rfl dX7_load_69 (by decide) rfl ?_
    refine p_aload_n G rfl 2 rfl dX7_load_70 ?_
    refine p_iconst G rfl dX7_load_71 ?_
    refine p_bipush G (by decide) (by decide) dX7_load_72 ?_
    obtain ⟨⟨σ13, v14⟩, hc, h⟩ := bnd_some h
    rw [un2_mk] at h
    refine p_callVi G dX7_load_74 lk_X7_302 (c_X7_readNumber (gl Γ) hc) (As := [.int (zJ (0 : Int)), .int (zJ (20 : Int))]) (ci := 7) rfl rfl rfl rfl (Nat.le_of_ble_eq_true rfl) ⟨rfl, rfl, Nat.le_of_ble_eq_true rfl, Nat.le_of_ble_eq_true rfl⟩ hcs ?_
    refine p_istore_nU (lv' := [(3, .int (zJ v14)), (2, .int (zJ v12)), (1, .int (zJ v10)), (0, .ref (ga Γ 0))]) G rfl dX7_load_77 (by decide) rfl ?_
    refine p_aload_n G rfl 3 rfl dX7_load_78 ?_
    refine p_bipush G (by decide) (by decide) dX7_load_79 ?_
    refine p_sipush G (by decide) (by decide) dX7_load_81 ?_
    obtain ⟨⟨σ15, v16⟩, hc, h⟩ := bnd_some h
    rw [un2_mk] at h
    refine p_callVi G dX7_load_84 lk_X7_302 (c_X7_readNumber (gl Γ) hc) (As := [.int (zJ (20 : Int)), .int (zJ (500 : Int))]) (ci := 7) rfl rfl rfl rfl (Nat.le_of_ble_eq_true rfl) ⟨rfl, rfl, Nat.le_of_ble_eq_true rfl, Nat.le_of_ble_eq_true rfl⟩ hcs ?_
    refine p_istoreU (lv' := [(4, .int (zJ v16)), (3, .int (zJ v14)), (2, .int (zJ v12)), (1, .int (zJ v10)), (0, .ref (ga Γ 0))]) G dX7_load_87 (by decide) rfl ?_
    refine p_aload_n G rfl 4 rfl dX7_load_89 ?_
    refine p_iconst G rfl dX7_load_90 ?_
    obtain ⟨⟨σ17, v18⟩, hc, h⟩ := bnd_some h
    rw [un2_mk] at h
    refine p_callVi G dX7_load_91 lk_X7_306 (c_X7_ends (gl Γ) hc) (As := [.int (zJ (0 : Int))]) (ci := 7) rfl rfl rfl rfl (Nat.le_of_ble_eq_true rfl) ⟨rfl, rfl, Nat.le_of_ble_eq_true rfl, Nat.le_of_ble_eq_true rfl⟩ hcs ?_
    refine p_istoreU (lv' := [(5, .int (zJ v18)), (4, .int (zJ v16)), (3, .int (zJ v14)), (2, .int (zJ v12)), (1, .int (zJ v10)), (0, .ref (ga Γ 0))]) G dX7_load_94 (by decide) rfl ?_
    refine p_aload_n G rfl 5 rfl dX7_load_96 ?_
    obtain ⟨σ19, hc, h⟩ := bnd_some h
    refine p_callVi G dX7_load_97 lk_X7_293 (c_X7_goOn (gl Γ) hc) (As := []) (ci := 7) rfl rfl rfl rfl (Nat.le_of_ble_eq_true rfl) ⟨rfl, rfl, Nat.le_of_ble_eq_true rfl, Nat.le_of_ble_eq_true rfl⟩ hcs ?_
    refine p_aload_n G rfl 5 rfl dX7_load_100 ?_
    refine p_iconst G rfl dX7_load_101 ?_
    refine p_putI G dX7_load_102 fp_X7_54 (k := 0) rfl rfl rfl rfl h (fun σ20 h => ?_)
    refine p_aload_n G rfl 5 rfl dX7_load_105 ?_
    refine p_ldcSw G 14 (by decide) rfl rfl dX7_load_106 rfl ?_
    obtain ⟨v21, hc, h⟩ := bnd_some h
    refine p_callVi G dX7_load_109 lk_X7_297 (c_X7_isWord (gl Γ) hc) (As := [.ref (gk Γ 2)]) (ci := 7) rfl rfl rfl rfl (Nat.le_of_ble_eq_true rfl) ⟨rfl, rfl, Nat.le_of_ble_eq_true rfl, Nat.le_of_ble_eq_true rfl⟩ hcs ?_
    refine p_ifeq (tgt := 123) G dX7_load_112 (by decide) h (fun c40 h => ?_) (fun c40 h => ?_)
    · refine p_lv [5, 4, 3, 2, 1, 0] rfl ?_
      exact j123 _ _ _ _ _ _ h
    · refine p_aload_n G rfl 5 rfl dX7_load_115 ?_
      obtain ⟨σ38, hc, h⟩ := bnd_some h
      refine p_callVi G dX7_load_116 lk_X7_284 (c_X7_scan (gl Γ) hc) (As := []) (ci := 7) rfl rfl rfl rfl (Nat.le_of_ble_eq_true rfl) ⟨rfl, rfl, Nat.le_of_ble_eq_true rfl, Nat.le_of_ble_eq_true rfl⟩ hcs ?_
      refine p_aload_n G rfl 5 rfl dX7_load_119 ?_
      obtain ⟨σ39, hc, h⟩ := bnd_some h
      refine p_callVi G dX7_load_120 lk_X7_311 (c_X7_readDeck (gl Γ) hc) (As := []) (ci := 7) rfl rfl rfl rfl (Nat.le_of_ble_eq_true rfl) ⟨rfl, rfl, Nat.le_of_ble_eq_true rfl, Nat.le_of_ble_eq_true rfl⟩ hcs ?_
      refine p_lv [5, 4, 3, 2, 1, 0] rfl ?_
      exact j123 _ _ _ _ _ _ h
  refine p_aload_n G rfl 0 rfl dX7_load_0 ?_
  refine p_iconst G rfl dX7_load_1 ?_
  refine p_putI G dX7_load_2 fp_X7_62 (k := 0) rfl rfl rfl rfl h (fun σ1 h => ?_)
  refine p_aload_n G rfl 0 rfl dX7_load_5 ?_
  refine p_get G dX7_load_6 fl_X7_9 (k := 0) rfl rfl ?_
  refine p_aload_n G rfl 0 rfl dX7_load_9 ?_
  refine p_get G dX7_load_10 fl_X7_25 (k := 0) rfl rfl ?_
  obtain ⟨σ2, hc, h⟩ := bnd_some h
  refine p_callS G zl_33 dX7_load_13 lk_X7_68 (c_X7_copy (gl Γ) hc) (As := [.ref (ga Γ 1), .ref (ga Γ 17)]) rfl zk_33 (zs_x zs_33 _) rfl (Nat.le_of_ble_eq_true rfl) ⟨rfl, rfl, Nat.le_of_ble_eq_true rfl, Nat.le_of_ble_eq_true rfl⟩ hcs ?_
  refine p_nm h (fun σ3 h => ?_)
  refine p_aload_n G rfl 0 rfl dX7_load_16 ?_
  refine p_iconst G rfl dX7_load_17 ?_
  refine p_putI G dX7_load_18 fp_X7_254 (k := 0) rfl rfl rfl rfl h (fun σ4 h => ?_)
  refine p_aload_n G rfl 0 rfl dX7_load_21 ?_
  refine p_iconst G rfl dX7_load_22 ?_
  refine p_putI G dX7_load_23 fp_X7_272 (k := 0) rfl rfl rfl rfl h (fun σ5 h => ?_)
  refine p_aload_n G rfl 0 rfl dX7_load_26 ?_
  obtain ⟨σ6, hc, h⟩ := bnd_some h
  refine p_callVi G dX7_load_27 lk_X7_284 (c_X7_scan (gl Γ) hc) (As := []) (ci := 7) rfl rfl rfl rfl (Nat.le_of_ble_eq_true rfl) ⟨rfl, rfl, Nat.le_of_ble_eq_true rfl, Nat.le_of_ble_eq_true rfl⟩ hcs ?_
  refine p_aload_n G rfl 0 rfl dX7_load_30 ?_
  refine p_ldcSw G 13 (by decide) rfl rfl dX7_load_31 rfl ?_
  obtain ⟨v7, hc, h⟩ := bnd_some h
  refine p_callVi G dX7_load_34 lk_X7_297 (c_X7_isWord (gl Γ) hc) (As := [.ref (gk Γ 1)]) (ci := 7) rfl rfl rfl rfl (Nat.le_of_ble_eq_true rfl) ⟨rfl, rfl, Nat.le_of_ble_eq_true rfl, Nat.le_of_ble_eq_true rfl⟩ hcs ?_
  refine p_ifeq (tgt := 47) G dX7_load_37 (by decide) h (fun c42 h => ?_) (fun c42 h => ?_)
  · refine p_aload_n G rfl 0 rfl dX7_load_47 ?_
    refine p_iconst G rfl dX7_load_48 ?_
    obtain ⟨σ8, hc, h⟩ := bnd_some h
    refine p_callVi G dX7_load_49 lk_X7_287 (c_X7_wrong (gl Γ) hc) (As := [.int (zJ (1 : Int))]) (ci := 7) rfl rfl rfl rfl (Nat.le_of_ble_eq_true rfl) ⟨rfl, rfl, Nat.le_of_ble_eq_true rfl, Nat.le_of_ble_eq_true rfl⟩ hcs ?_
    exact j52 _ h
  · refine p_aload_n G rfl 0 rfl dX7_load_40 ?_
    obtain ⟨σ41, hc, h⟩ := bnd_some h
    refine p_callVi G dX7_load_41 lk_X7_284 (c_X7_scan (gl Γ) hc) (As := []) (ci := 7) rfl rfl rfl rfl (Nat.le_of_ble_eq_true rfl) ⟨rfl, rfl, Nat.le_of_ble_eq_true rfl, Nat.le_of_ble_eq_true rfl⟩ hcs ?_
    refine p_goto (tgt := 52) G dX7_load_44 (by decide) ?_
    exact j52 _ h
set_option maxHeartbeats 4000000 in
set_option maxRecDepth 100000 in
theorem c_X7_type (l : Launch) {D : va_G} {yy : Nat → ClassId} {tk tv a : Nat → Nat} {σ : Mm} {p1 : Int} {o : Mm} (h : x_X7_type σ p1 = some o) : CT l yX7_type cX7_type 3 none rm_X7_type shW D yy tk tv a σ [.ref (a 0), .int (zJ p1)] o none := by
  refine ct_of (Ar := fun a tk => [.ref (a 0), .int (zJ p1)]) (by decide) (Nat.le_of_ble_eq_true rfl) (fun Γ G _ _ hR => ?_)
  have hcs := rt_cs hR
  unfold x_X7_type at h
  refine (?_ : PT Γ 3 shW 0 σ [(0, .ref (ga Γ 0)), (1, .int (zJ p1))] [])
  refine p_bipush G (by decide) (by decide) dX7_type_0 ?_
  refine p_istore_nU (lv' := [(2, .int (zJ (24 : Int))), (0, .ref (ga Γ 0)), (1, .int (zJ p1))]) G rfl dX7_type_2 (by decide) rfl ?_
  refine p_lv [1, 2, 0] rfl ?_
  obtain ⟨e7, hl3, h⟩ := bnd_some h
  have hX3_39 : ∀ (σ8 : Mm), σ8 = e7 → PT Γ 3 shW 39 σ8 [] [] := by
    intro σ8 he
    subst he
    (cases h; exact p_vret G hR dX7_type_39 rfl rfl)
  refine lup_walk (s := (σ, (24 : Int))) (At := fun s : Mm × Int => PT Γ 3 shW 3 s.1 [(0, .ref (ga Γ 0)), (1, .int (zJ p1)), (2, .int (zJ s.2))] []) (fun s r hf hin3 hout3 => ?_) hl3
  obtain ⟨σ3, u2_3⟩ := s
  have h : x_X7_type_b3 p1 σ3 u2_3 = some r := hf
  clear hf
  unfold x_X7_type_b3 at h
  refine (?_ : PT Γ 3 shW 3 σ3 [(0, .ref (ga Γ 0)), (1, .int (zJ p1)), (2, .int (zJ u2_3))] [])
  refine p_iload_n G rfl 2 rfl dX7_type_3 ?_
  refine p_iflt (tgt := 39) G dX7_type_4 (by decide) h (fun c5 h => ?_) (fun c5 h => ?_)
  · refine p_lv [] rfl ?_
    have he := hout3 _ (Option.some.inj h).symm
    subst he
    exact hX3_39 _ rfl
  · refine p_aload_n G rfl 0 rfl dX7_type_7 ?_
    refine p_get G dX7_type_8 fl_X7_28 (k := 0) rfl rfl ?_
    refine p_aload_n G rfl 0 rfl dX7_type_11 ?_
    refine p_get G dX7_type_12 fl_X7_251 (k := 0) rfl rfl ?_
    refine p_iload_n G rfl 1 rfl dX7_type_15 ?_
    refine p_iload_n G rfl 2 rfl dX7_type_16 ?_
    refine p_iushr G dX7_type_17 ?_
    refine p_sipush G (by decide) (by decide) dX7_type_18 ?_
    refine p_iand G dX7_type_21 ?_
    refine p_iast G dX7_type_22 (k := 18) rfl (zt_c _) rfl h (fun σ1 c2 h => ?_)
    refine p_aload_n G rfl 0 rfl dX7_type_23 ?_
    refine p_dup G rfl dX7_type_24 ?_
    refine p_get G dX7_type_25 fl_X7_251 (k := 0) rfl rfl ?_
    refine p_iconst G rfl dX7_type_28 ?_
    refine p_iadd G dX7_type_29 ?_
    refine p_putI G dX7_type_30 fp_X7_251 (k := 0) rfl rfl rfl rfl h (fun σ3 h => ?_)
    refine p_iinc (lv' := fun v4 => [(2, .int (zJ v4)), (0, .ref (ga Γ 0)), (1, .int (zJ p1))]) G dX7_type_33 h 2 rfl (by decide) (fun _ => rfl) (fun v4 h => ?_)
    refine p_goto (tgt := 3) G dX7_type_36 (by decide) ?_
    refine p_lv [1, 2, 0] rfl ?_
    exact hin3 _ (Option.some.inj h).symm
set_option maxHeartbeats 4000000 in
set_option maxRecDepth 100000 in
theorem c_X7_append (l : Launch) {D : va_G} {yy : Nat → ClassId} {tk tv a : Nat → Nat} {σ : Mm} {p1 : Int} {p2 : Int} {p3 : Int} {p4 : Int} {p5 : Int} {o : Mm × Int} (h : x_X7_append σ p1 p2 p3 p4 p5 = some o) : CT l yX7_append cX7_append 6 (some .int) rm_X7_append shW D yy tk tv a σ [.ref (a 0), .int (zJ p1), .int (zJ p2), .int (zJ p3), .int (zJ p4), .int (zJ p5)] o.1 (some (.int (zJ o.2))) := by
  refine ct_of (Ar := fun a tk => [.ref (a 0), .int (zJ p1), .int (zJ p2), .int (zJ p3), .int (zJ p4), .int (zJ p5)]) (by decide) (Nat.le_of_ble_eq_true rfl) (fun Γ G _ _ hR => ?_)
  have hcs := rt_cs hR
  unfold x_X7_append at h
  refine (?_ : PT Γ 6 shW 0 σ [(0, .ref (ga Γ 0)), (1, .int (zJ p1)), (2, .int (zJ p2)), (3, .int (zJ p3)), (4, .int (zJ p4)), (5, .int (zJ p5))] [])
  refine p_aload_n G rfl 0 rfl dX7_append_0 ?_
  refine p_iconst G rfl dX7_append_1 ?_
  refine p_putI G dX7_append_2 fp_X7_62 (k := 0) rfl rfl rfl rfl h (fun σ1 h => ?_)
  refine p_aload_n G rfl 0 rfl dX7_append_5 ?_
  refine p_get G dX7_append_6 fl_X7_251 (k := 0) rfl rfl ?_
  refine p_bipush G (by decide) (by decide) dX7_append_9 ?_
  refine p_iadd G dX7_append_11 ?_
  refine p_sipush G (by decide) (by decide) dX7_append_12 ?_
  refine p_icmple (tgt := 21) G dX7_append_15 (by decide) h (fun c7 h => ?_) (fun c7 h => ?_)
  · refine p_aload_n G rfl 0 rfl dX7_append_21 ?_
    refine p_iload_n G rfl 1 rfl dX7_append_22 ?_
    obtain ⟨σ2, hc, h⟩ := bnd_some h
    refine p_callVi G dX7_append_23 lk_X7_330 (c_X7_type (gl Γ) hc) (As := [.int (zJ p1)]) (ci := 7) rfl rfl rfl rfl (Nat.le_of_ble_eq_true rfl) ⟨rfl, rfl, Nat.le_of_ble_eq_true rfl, Nat.le_of_ble_eq_true rfl⟩ hcs ?_
    refine p_aload_n G rfl 0 rfl dX7_append_26 ?_
    refine p_iload_n G rfl 2 rfl dX7_append_27 ?_
    obtain ⟨σ3, hc, h⟩ := bnd_some h
    refine p_callVi G dX7_append_28 lk_X7_330 (c_X7_type (gl Γ) hc) (As := [.int (zJ p2)]) (ci := 7) rfl rfl rfl rfl (Nat.le_of_ble_eq_true rfl) ⟨rfl, rfl, Nat.le_of_ble_eq_true rfl, Nat.le_of_ble_eq_true rfl⟩ hcs ?_
    refine p_aload_n G rfl 0 rfl dX7_append_31 ?_
    refine p_iload_n G rfl 3 rfl dX7_append_32 ?_
    obtain ⟨σ4, hc, h⟩ := bnd_some h
    refine p_callVi G dX7_append_33 lk_X7_330 (c_X7_type (gl Γ) hc) (As := [.int (zJ p3)]) (ci := 7) rfl rfl rfl rfl (Nat.le_of_ble_eq_true rfl) ⟨rfl, rfl, Nat.le_of_ble_eq_true rfl, Nat.le_of_ble_eq_true rfl⟩ hcs ?_
    refine p_aload_n G rfl 0 rfl dX7_append_36 ?_
    refine p_iload G 4 rfl dX7_append_37 ?_
    obtain ⟨σ5, hc, h⟩ := bnd_some h
    refine p_callVi G dX7_append_39 lk_X7_330 (c_X7_type (gl Γ) hc) (As := [.int (zJ p4)]) (ci := 7) rfl rfl rfl rfl (Nat.le_of_ble_eq_true rfl) ⟨rfl, rfl, Nat.le_of_ble_eq_true rfl, Nat.le_of_ble_eq_true rfl⟩ hcs ?_
    refine p_aload_n G rfl 0 rfl dX7_append_42 ?_
    refine p_iload G 5 rfl dX7_append_43 ?_
    obtain ⟨σ6, hc, h⟩ := bnd_some h
    refine p_callVi G dX7_append_45 lk_X7_330 (c_X7_type (gl Γ) hc) (As := [.int (zJ p5)]) (ci := 7) rfl rfl rfl rfl (Nat.le_of_ble_eq_true rfl) ⟨rfl, rfl, Nat.le_of_ble_eq_true rfl, Nat.le_of_ble_eq_true rfl⟩ hcs ?_
    refine p_aload_n G rfl 0 rfl dX7_append_48 ?_
    refine p_get G dX7_append_49 fl_X7_251 (k := 0) rfl rfl ?_
    (cases h; exact p_iret G hR dX7_append_52 rfl rfl)
  · refine p_bipush G (by decide) (by decide) dX7_append_18 ?_
    (cases h; exact p_iret G hR dX7_append_20 rfl rfl)
set_option maxHeartbeats 4000000 in
set_option maxRecDepth 100000 in
theorem c_X7_truncate (l : Launch) {D : va_G} {yy : Nat → ClassId} {tk tv a : Nat → Nat} {σ : Mm} {p1 : Int} {o : Mm × Int} (h : x_X7_truncate σ p1 = some o) : CT l yX7_truncate cX7_truncate 2 (some .int) rm_X7_truncate shW D yy tk tv a σ [.ref (a 0), .int (zJ p1)] o.1 (some (.int (zJ o.2))) := by
  refine ct_of (Ar := fun a tk => [.ref (a 0), .int (zJ p1)]) (by decide) (Nat.le_of_ble_eq_true rfl) (fun Γ G _ _ hR => ?_)
  have hcs := rt_cs hR
  unfold x_X7_truncate at h
  refine (?_ : PT Γ 2 shW 0 σ [(0, .ref (ga Γ 0)), (1, .int (zJ p1))] [])
  refine p_aload_n G rfl 0 rfl dX7_truncate_0 ?_
  refine p_iconst G rfl dX7_truncate_1 ?_
  refine p_putI G dX7_truncate_2 fp_X7_62 (k := 0) rfl rfl rfl rfl h (fun σ1 h => ?_)
  refine p_aload_n G rfl 0 rfl dX7_truncate_5 ?_
  refine p_iload_n G rfl 1 rfl dX7_truncate_6 ?_
  refine p_i2l G dX7_truncate_7 ?_
  refine p_lconst G (v := 0) (by decide) dX7_truncate_8 ?_
  refine p_aload_n G rfl 0 rfl dX7_truncate_9 ?_
  refine p_get G dX7_truncate_10 fl_X7_251 (k := 0) rfl rfl ?_
  refine p_i2l G dX7_truncate_13 ?_
  refine p_iconst G rfl dX7_truncate_14 ?_
  obtain ⟨⟨σ2, v3⟩, hc, h⟩ := bnd_some h
  rw [un2_mk] at h
  refine p_callVi G dX7_truncate_15 lk_X7_72 (c_X7_bad (gl Γ) hc) (As := [.long (zi2l p1), .long (0 : Int64), .long (zi2l (σ1 0 8)), .int (zJ (1 : Int))]) (ci := 7) rfl rfl rfl rfl (Nat.le_of_ble_eq_true rfl) ⟨rfl, rfl, Nat.le_of_ble_eq_true rfl, Nat.le_of_ble_eq_true rfl⟩ hcs ?_
  refine p_ifeq (tgt := 23) G dX7_truncate_18 (by decide) h (fun c5 h => ?_) (fun c5 h => ?_)
  · refine p_aload_n G rfl 0 rfl dX7_truncate_23 ?_
    refine p_iload_n G rfl 1 rfl dX7_truncate_24 ?_
    refine p_putI G dX7_truncate_25 fp_X7_251 (k := 0) rfl rfl rfl rfl h (fun σ4 h => ?_)
    refine p_aload_n G rfl 0 rfl dX7_truncate_28 ?_
    refine p_get G dX7_truncate_29 fl_X7_251 (k := 0) rfl rfl ?_
    (cases h; exact p_iret G hR dX7_truncate_32 rfl rfl)
  · refine p_iconst G rfl dX7_truncate_21 ?_
    (cases h; exact p_iret G hR dX7_truncate_22 rfl rfl)
set_option maxHeartbeats 4000000 in
set_option maxRecDepth 100000 in
theorem c_X7_match (l : Launch) {D : va_G} {yy : Nat → ClassId} {tk tv a : Nat → Nat} {σ : Mm} {p1 : Int} {o : Mm × Int} (h : x_X7_match σ p1 = some o) : CT l yX7_match cX7_match 2 (some .int) rm_X7_match shW D yy tk tv a σ [.ref (a 0), .int (zJ p1)] o.1 (some (.int (zJ o.2))) := by
  refine ct_of (Ar := fun a tk => [.ref (a 0), .int (zJ p1)]) (by decide) (Nat.le_of_ble_eq_true rfl) (fun Γ G _ _ hR => ?_)
  have hcs := rt_cs hR
  unfold x_X7_match at h
  refine (?_ : PT Γ 2 shW 0 σ [(0, .ref (ga Γ 0)), (1, .int (zJ p1))] [])
  refine p_aload_n G rfl 0 rfl dX7_match_0 ?_
  refine p_iconst G rfl dX7_match_1 ?_
  refine p_putI G dX7_match_2 fp_X7_62 (k := 0) rfl rfl rfl rfl h (fun σ1 h => ?_)
  refine p_aload_n G rfl 0 rfl dX7_match_5 ?_
  refine p_iload_n G rfl 1 rfl dX7_match_6 ?_
  refine p_i2l G dX7_match_7 ?_
  refine p_lconst G (v := 0) (by decide) dX7_match_8 ?_
  refine p_ldc2 G gm_1521 dX7_match_9 ?_
  refine p_iconst G rfl dX7_match_12 ?_
  obtain ⟨⟨σ2, v3⟩, hc, h⟩ := bnd_some h
  rw [un2_mk] at h
  refine p_callVi G dX7_match_13 lk_X7_72 (c_X7_bad (gl Γ) hc) (As := [.long (zi2l p1), .long (0 : Int64), .long (16 : Int64), .int (zJ (1 : Int))]) (ci := 7) rfl rfl rfl rfl (Nat.le_of_ble_eq_true rfl) ⟨rfl, rfl, Nat.le_of_ble_eq_true rfl, Nat.le_of_ble_eq_true rfl⟩ hcs ?_
  refine p_ifeq (tgt := 21) G dX7_match_16 (by decide) h (fun c14 h => ?_) (fun c14 h => ?_)
  · refine p_iload_n G rfl 1 rfl dX7_match_21 ?_
    refine zite h (fun c0_22 h => ?_) (fun c0_22 h => ?_)
    · refine p_tin (tgt := 76) (off := 54) G dX7_match_22 c0_22 (by decide) (by decide) rfl (by decide) ?_
      refine p_aload_n G rfl 0 rfl dX7_match_76 ?_
      obtain ⟨v4, hc, h⟩ := bnd_some h
      refine p_callVi G dX7_match_77 lk_X7_214 (c_X7_isMatchOver (gl Γ) hc) (As := []) (ci := 7) rfl rfl rfl rfl (Nat.le_of_ble_eq_true rfl) ⟨rfl, rfl, Nat.le_of_ble_eq_true rfl, Nat.le_of_ble_eq_true rfl⟩ hcs ?_
      refine p_ifeq (tgt := 87) G dX7_match_80 (by decide) h (fun c5 h => ?_) (fun c5 h => ?_)
      · refine p_iconst G rfl dX7_match_87 ?_
        (cases h; exact p_iret G hR dX7_match_88 rfl rfl)
      · refine p_iconst G rfl dX7_match_83 ?_
        refine p_goto (tgt := 88) G dX7_match_84 (by decide) ?_
        (cases h; exact p_iret G hR dX7_match_88 rfl rfl)
    · refine zite h (fun c1_22 h => ?_) (fun c1_22 h => ?_)
      · refine p_tin (tgt := 89) (off := 67) G dX7_match_22 c1_22 (by decide) (by decide) rfl (by decide) ?_
        refine p_aload_n G rfl 0 rfl dX7_match_89 ?_
        obtain ⟨v6, hc, h⟩ := bnd_some h
        refine p_callVi G dX7_match_90 lk_X7_204 (c_X7_stocked (gl Γ) hc) (As := []) (ci := 7) rfl rfl rfl rfl (Nat.le_of_ble_eq_true rfl) ⟨rfl, rfl, Nat.le_of_ble_eq_true rfl, Nat.le_of_ble_eq_true rfl⟩ hcs ?_
        (cases h; exact p_iret G hR dX7_match_93 rfl rfl)
      · refine zite h (fun c2_22 h => ?_) (fun c2_22 h => ?_)
        · refine p_tin (tgt := 94) (off := 72) G dX7_match_22 c2_22 (by decide) (by decide) rfl (by decide) ?_
          refine p_aload_n G rfl 0 rfl dX7_match_94 ?_
          refine p_get G dX7_match_95 fl_X7_9 (k := 0) rfl rfl ?_
          refine p_bipush G (by decide) (by decide) dX7_match_98 ?_
          refine p_iald G dX7_match_100 (k := 1) rfl (zt_c _) h (fun c7 h => ?_)
          (cases h; exact p_iret G hR dX7_match_101 rfl rfl)
        · refine zite h (fun c3_22 h => ?_) (fun c3_22 h => ?_)
          · refine p_tin (tgt := 102) (off := 80) G dX7_match_22 c3_22 (by decide) (by decide) rfl (by decide) ?_
            refine p_aload_n G rfl 0 rfl dX7_match_102 ?_
            obtain ⟨v8, hc, h⟩ := bnd_some h
            refine p_callVi G dX7_match_103 lk_X7_198 (c_X7_topOfPile (gl Γ) hc) (As := []) (ci := 7) rfl rfl rfl rfl (Nat.le_of_ble_eq_true rfl) ⟨rfl, rfl, Nat.le_of_ble_eq_true rfl, Nat.le_of_ble_eq_true rfl⟩ hcs ?_
            (cases h; exact p_iret G hR dX7_match_106 rfl rfl)
          · refine zite h (fun c4_22 h => ?_) (fun c4_22 h => ?_)
            · refine p_tin (tgt := 107) (off := 85) G dX7_match_22 c4_22 (by decide) (by decide) rfl (by decide) ?_
              refine p_aload_n G rfl 0 rfl dX7_match_107 ?_
              refine p_get G dX7_match_108 fl_X7_9 (k := 0) rfl rfl ?_
              refine p_bipush G (by decide) (by decide) dX7_match_111 ?_
              refine p_iald G dX7_match_113 (k := 1) rfl (zt_c _) h (fun c9 h => ?_)
              (cases h; exact p_iret G hR dX7_match_114 rfl rfl)
            · refine zite h (fun c5_22 h => ?_) (fun c5_22 h => ?_)
              · refine p_tin (tgt := 115) (off := 93) G dX7_match_22 c5_22 (by decide) (by decide) rfl (by decide) ?_
                refine p_aload_n G rfl 0 rfl dX7_match_115 ?_
                refine p_get G dX7_match_116 fl_X7_9 (k := 0) rfl rfl ?_
                refine p_bipush G (by decide) (by decide) dX7_match_119 ?_
                refine p_iald G dX7_match_121 (k := 1) rfl (zt_c _) h (fun c10 h => ?_)
                (cases h; exact p_iret G hR dX7_match_122 rfl rfl)
              · refine zite h (fun c6_22 h => ?_) (fun c6_22 h => ?_)
                · refine p_tin (tgt := 123) (off := 101) G dX7_match_22 c6_22 (by decide) (by decide) rfl (by decide) ?_
                  refine p_aload_n G rfl 0 rfl dX7_match_123 ?_
                  refine p_get G dX7_match_124 fl_X7_9 (k := 0) rfl rfl ?_
                  refine p_bipush G (by decide) (by decide) dX7_match_127 ?_
                  refine p_iald G dX7_match_129 (k := 1) rfl (zt_c _) h (fun c11 h => ?_)
                  (cases h; exact p_iret G hR dX7_match_130 rfl rfl)
                · refine zite h (fun c7_22 h => ?_) (fun c7_22 h => ?_)
                  · refine p_tin (tgt := 131) (off := 109) G dX7_match_22 c7_22 (by decide) (by decide) rfl (by decide) ?_
                    refine p_aload_n G rfl 0 rfl dX7_match_131 ?_
                    refine p_get G dX7_match_132 fl_X7_9 (k := 0) rfl rfl ?_
                    refine p_bipush G (by decide) (by decide) dX7_match_135 ?_
                    refine p_iald G dX7_match_137 (k := 1) rfl (zt_c _) h (fun c12 h => ?_)
                    (cases h; exact p_iret G hR dX7_match_138 rfl rfl)
                  · refine zite h (fun c8_22 h => ?_) (fun c8_22 h => ?_)
                    · refine p_tin (tgt := 139) (off := 117) G dX7_match_22 c8_22 (by decide) (by decide) rfl (by decide) ?_
                      refine p_aload_n G rfl 0 rfl dX7_match_139 ?_
                      refine p_get G dX7_match_140 fl_X7_65 (k := 0) rfl rfl ?_
                      (cases h; exact p_iret G hR dX7_match_143 rfl rfl)
                    · refine zite h (fun c9_22 h => ?_) (fun c9_22 h => ?_)
                      · refine p_tin (tgt := 144) (off := 122) G dX7_match_22 c9_22 (by decide) (by decide) rfl (by decide) ?_
                        refine p_aload_n G rfl 0 rfl dX7_match_144 ?_
                        refine p_get G dX7_match_145 fl_X7_251 (k := 0) rfl rfl ?_
                        (cases h; exact p_iret G hR dX7_match_148 rfl rfl)
                      · refine p_tout (tgt := 149) G dX7_match_22 (by omega) (by decide) ?_
                        refine p_aload_n G rfl 0 rfl dX7_match_149 ?_
                        refine p_get G dX7_match_150 fl_X7_9 (k := 0) rfl rfl ?_
                        refine p_iload_n G rfl 1 rfl dX7_match_153 ?_
                        refine p_iald G dX7_match_154 (k := 1) rfl (zt_c _) h (fun c13 h => ?_)
                        (cases h; exact p_iret G hR dX7_match_155 rfl rfl)
  · refine p_iconst G rfl dX7_match_19 ?_
    (cases h; exact p_iret G hR dX7_match_20 rfl rfl)
set_option maxHeartbeats 4000000 in
set_option maxRecDepth 100000 in
theorem c_X7_number (l : Launch) {D : va_G} {yy : Nat → ClassId} {tk tv a : Nat → Nat} {σ : Mm} {o : Mm × Int64} (h : x_X7_number σ = some o) : CT l yX7_number cX7_number 1 (some .long) rm_X7_number shW D yy tk tv a σ [.ref (a 0)] o.1 (some (.long o.2)) := by
  refine ct_of (Ar := fun a tk => [.ref (a 0)]) (by decide) (Nat.le_of_ble_eq_true rfl) (fun Γ G _ _ hR => ?_)
  have hcs := rt_cs hR
  unfold x_X7_number at h
  refine (?_ : PT Γ 1 shW 0 σ [(0, .ref (ga Γ 0))] [])
  refine p_aload_n G rfl 0 rfl dX7_number_0 ?_
  refine p_iconst G rfl dX7_number_1 ?_
  refine p_putI G dX7_number_2 fp_X7_62 (k := 0) rfl rfl rfl rfl h (fun σ1 h => ?_)
  refine p_aload_n G rfl 0 rfl dX7_number_5 ?_
  refine p_get G dX7_number_6 fl_X7_9 (k := 0) rfl rfl ?_
  refine p_bipush G (by decide) (by decide) dX7_number_9 ?_
  refine p_iald G dX7_number_11 (k := 1) rfl (zt_c _) h (fun c2 h => ?_)
  refine p_i2l G dX7_number_12 ?_
  (cases h; exact p_lret G hR dX7_number_13 rfl rfl)
set_option maxHeartbeats 4000000 in
set_option maxRecDepth 100000 in
theorem c_X7_isWrapped (l : Launch) {D : va_G} {yy : Nat → ClassId} {tk tv a : Nat → Nat} {σ : Mm} {p1 : Int64} {o : Int} (h : x_X7_isWrapped σ p1 = some o) : CT l yX7_isWrapped cX7_isWrapped 4 (some .boolean) rm_X7_isWrapped shW D yy tk tv a σ [.ref (a 0), .long p1] σ (some (.int (zJ o))) := by
  refine ct_of (Ar := fun a tk => [.ref (a 0), .long p1]) (by decide) (Nat.le_of_ble_eq_true rfl) (fun Γ G _ _ hR => ?_)
  have hcs := rt_cs hR
  unfold x_X7_isWrapped at h
  refine (?_ : PT Γ 4 shW 0 σ [(0, .ref (ga Γ 0)), (1, .long p1)] [])
  refine p_lload_n G rfl 1 rfl dX7_isWrapped_0 ?_
  obtain ⟨v1, hc, h⟩ := bnd_some h
  refine p_callS0 G dX7_isWrapped_1 lk_X7_164 (c_X7_firstOf (gl Γ) hc) (As := [.long p1]) rfl zk_29 rfl (Nat.le_of_ble_eq_true rfl) ⟨rfl, rfl, Nat.le_of_ble_eq_true rfl, Nat.le_of_ble_eq_true rfl⟩ hcs ?_
  refine p_bipush G (by decide) (by decide) dX7_isWrapped_4 ?_
  refine p_iremK G dX7_isWrapped_6 (by decide) ?_
  refine p_istore_n (lv' := fun v2 => [(3, .int (zJ v2)), (0, .ref (ga Γ 0)), (1, .long p1)]) G rfl dX7_isWrapped_7 h (by decide) (fun _ => rfl) (fun v2 h => ?_)
  refine p_lload_n G rfl 2 rfl dX7_isWrapped_8 ?_
  obtain ⟨v3, hc, h⟩ := bnd_some h
  refine p_callS0 G dX7_isWrapped_9 lk_X7_160 (c_X7_isSetOf (gl Γ) hc) (As := [.long p1]) rfl zk_29 rfl (Nat.le_of_ble_eq_true rfl) ⟨rfl, rfl, Nat.le_of_ble_eq_true rfl, Nat.le_of_ble_eq_true rfl⟩ hcs ?_
  refine p_ifne (tgt := 30) G dX7_isWrapped_12 (by decide) h (fun c6 h => ?_) (fun c6 h => ?_)
  · refine p_iconst G rfl dX7_isWrapped_30 ?_
    (cases h; exact p_zret G hR dX7_isWrapped_31 (by decide) rfl rfl)
  · refine p_iload_n G rfl 0 rfl dX7_isWrapped_15 ?_
    refine p_lload_n G rfl 2 rfl dX7_isWrapped_16 ?_
    obtain ⟨v4, hc, h⟩ := bnd_some h
    refine p_callS0 G dX7_isWrapped_17 lk_X7_103 (c_X7_ones (gl Γ) hc) (As := [.long p1]) rfl zk_29 rfl (Nat.le_of_ble_eq_true rfl) ⟨rfl, rfl, Nat.le_of_ble_eq_true rfl, Nat.le_of_ble_eq_true rfl⟩ hcs ?_
    refine p_iadd G dX7_isWrapped_20 ?_
    refine p_bipush G (by decide) (by decide) dX7_isWrapped_21 ?_
    refine p_icmple (tgt := 30) G dX7_isWrapped_23 (by decide) h (fun c5 h => ?_) (fun c5 h => ?_)
    · refine p_iconst G rfl dX7_isWrapped_30 ?_
      (cases h; exact p_zret G hR dX7_isWrapped_31 (by decide) rfl rfl)
    · refine p_iconst G rfl dX7_isWrapped_26 ?_
      refine p_goto (tgt := 31) G dX7_isWrapped_27 (by decide) ?_
      (cases h; exact p_zret G hR dX7_isWrapped_31 (by decide) rfl rfl)
set_option maxHeartbeats 4000000 in
set_option maxRecDepth 100000 in
theorem c_X7_countMelds (l : Launch) {D : va_G} {yy : Nat → ClassId} {tk tv a : Nat → Nat} {σ : Mm} {p1 : Int} {o : Int} (h : x_X7_countMelds σ p1 = some o) : CT l yX7_countMelds cX7_countMelds 5 (some .int) rm_X7_countMelds shW D yy tk tv a σ [.ref (a 0), .int (zJ p1)] σ (some (.int (zJ o))) := by
  refine ct_of (Ar := fun a tk => [.ref (a 0), .int (zJ p1)]) (by decide) (Nat.le_of_ble_eq_true rfl) (fun Γ G _ _ hR => ?_)
  have hcs := rt_cs hR
  unfold x_X7_countMelds at h
  refine (?_ : PT Γ 5 shW 0 σ [(0, .ref (ga Γ 0)), (1, .int (zJ p1))] [])
  refine p_iconst G rfl dX7_countMelds_0 ?_
  refine p_istore_nU (lv' := [(2, .int (zJ (0 : Int))), (0, .ref (ga Γ 0)), (1, .int (zJ p1))]) G rfl dX7_countMelds_1 (by decide) rfl ?_
  refine p_iconst G rfl dX7_countMelds_2 ?_
  refine p_istore_nU (lv' := [(3, .int (zJ (0 : Int))), (2, .int (zJ (0 : Int))), (0, .ref (ga Γ 0)), (1, .int (zJ p1))]) G rfl dX7_countMelds_3 (by decide) rfl ?_
  refine p_lv [2, 3, 1, 0] rfl ?_
  obtain ⟨e32, hl4, h⟩ := bnd_some h
  have hX4_85 : ∀ (v33 : Int), v33 = e32 → PT Γ 5 shW 85 σ [(2, .int (zJ v33))] [] := by
    intro v33 he
    subst he
    refine p_iload_n G rfl 0 rfl dX7_countMelds_85 ?_
    (cases h; exact p_iret G hR dX7_countMelds_86 rfl rfl)
  refine lup_walk (s := ((0 : Int), (0 : Int))) (At := fun s : Int × Int => PT Γ 5 shW 4 σ [(0, .ref (ga Γ 0)), (1, .int (zJ p1)), (2, .int (zJ s.1)), (3, .int (zJ s.2))] []) (fun s r hf hin4 hout4 => ?_) hl4
  obtain ⟨u2_4, u3_4⟩ := s
  have h : x_X7_countMelds_b4 σ p1 u2_4 u3_4 = some r := hf
  clear hf
  unfold x_X7_countMelds_b4 at h
  refine (?_ : PT Γ 5 shW 4 σ [(0, .ref (ga Γ 0)), (1, .int (zJ p1)), (2, .int (zJ u2_4)), (3, .int (zJ u3_4))] [])
  refine p_iload_n G rfl 3 rfl dX7_countMelds_4 ?_
  refine p_aload_n G rfl 0 rfl dX7_countMelds_5 ?_
  refine p_get G dX7_countMelds_6 fl_X7_137 (k := 0) rfl rfl ?_
  refine p_icmpge (tgt := 85) G dX7_countMelds_9 (by decide) h (fun c30 h => ?_) (fun c30 h => ?_)
  · refine p_lv [2] rfl ?_
    have he := hout4 _ (Option.some.inj h).symm
    subst he
    exact hX4_85 _ rfl
  · refine p_iload_n G rfl 1 rfl dX7_countMelds_12 ?_
    refine p_iconst G rfl dX7_countMelds_13 ?_
    refine p_icmpne (tgt := 29) G dX7_countMelds_14 (by decide) h (fun c29 h => ?_) (fun c29 h => ?_)
    · refine p_iload_n G rfl 1 rfl dX7_countMelds_29 ?_
      refine p_iconst G rfl dX7_countMelds_30 ?_
      refine p_icmpne (tgt := 54) G dX7_countMelds_31 (by decide) h (fun c21 h => ?_) (fun c21 h => ?_)
      · refine p_aload_n G rfl 0 rfl dX7_countMelds_54 ?_
        refine p_aload_n G rfl 0 rfl dX7_countMelds_55 ?_
        refine p_get G dX7_countMelds_56 fl_X7_44 (k := 0) rfl rfl ?_
        refine p_iload_n G rfl 3 rfl dX7_countMelds_59 ?_
        refine p_lald G dX7_countMelds_60 (k := 23) rfl (zt_c _) h (fun c1 h => ?_)
        obtain ⟨v2, hc, h⟩ := bnd_some h
        refine p_callVi G dX7_countMelds_61 lk_X7_335 (c_X7_isWrapped (gl Γ) hc) (As := [.long (zL (σ 23 (zix u3_4)))]) (ci := 7) rfl rfl rfl rfl (Nat.le_of_ble_eq_true rfl) ⟨rfl, rfl, Nat.le_of_ble_eq_true rfl, Nat.le_of_ble_eq_true rfl⟩ hcs ?_
        refine p_istoreU (lv' := [(4, .int (zJ v2)), (0, .ref (ga Γ 0)), (1, .int (zJ p1)), (2, .int (zJ u2_4)), (3, .int (zJ u3_4))]) G dX7_countMelds_64 (by decide) rfl ?_
        refine p_iload_n G rfl 3 rfl dX7_countMelds_66 ?_
        refine p_iload G 0 rfl dX7_countMelds_67 ?_
        refine p_ifeq (tgt := 76) G dX7_countMelds_69 (by decide) h (fun c7 h => ?_) (fun c7 h => ?_)
        · refine p_iconst G rfl dX7_countMelds_76 ?_
          refine p_iadd G dX7_countMelds_77 ?_
          refine p_istore_n (lv' := fun v3 => [(2, .int (zJ v3)), (4, .int (zJ v2)), (0, .ref (ga Γ 0)), (1, .int (zJ p1)), (3, .int (zJ u3_4))]) G rfl dX7_countMelds_78 h (by decide) (fun _ => rfl) (fun v3 h => ?_)
          refine p_iinc (lv' := fun v4 => [(3, .int (zJ v4)), (2, .int (zJ v3)), (4, .int (zJ v2)), (0, .ref (ga Γ 0)), (1, .int (zJ p1))]) G dX7_countMelds_79 h 4 rfl (by decide) (fun _ => rfl) (fun v4 h => ?_)
          refine p_goto (tgt := 4) G dX7_countMelds_82 (by decide) ?_
          refine p_lv [3, 4, 1, 0] rfl ?_
          exact hin4 _ (Option.some.inj h).symm
        · refine p_iconst G rfl dX7_countMelds_72 ?_
          refine p_goto (tgt := 77) G dX7_countMelds_73 (by decide) ?_
          refine p_iadd G dX7_countMelds_77 ?_
          refine p_istore_n (lv' := fun v5 => [(2, .int (zJ v5)), (4, .int (zJ v2)), (0, .ref (ga Γ 0)), (1, .int (zJ p1)), (3, .int (zJ u3_4))]) G rfl dX7_countMelds_78 h (by decide) (fun _ => rfl) (fun v5 h => ?_)
          refine p_iinc (lv' := fun v6 => [(3, .int (zJ v6)), (2, .int (zJ v5)), (4, .int (zJ v2)), (0, .ref (ga Γ 0)), (1, .int (zJ p1))]) G dX7_countMelds_79 h 4 rfl (by decide) (fun _ => rfl) (fun v6 h => ?_)
          refine p_goto (tgt := 4) G dX7_countMelds_82 (by decide) ?_
          refine p_lv [3, 4, 1, 0] rfl ?_
          exact hin4 _ (Option.some.inj h).symm
      · refine p_aload_n G rfl 0 rfl dX7_countMelds_34 ?_
        refine p_get G dX7_countMelds_35 fl_X7_44 (k := 0) rfl rfl ?_
        refine p_iload_n G rfl 3 rfl dX7_countMelds_38 ?_
        refine p_lald G dX7_countMelds_39 (k := 23) rfl (zt_c _) h (fun c8 h => ?_)
        obtain ⟨v9, hc, h⟩ := bnd_some h
        refine p_callS0 G dX7_countMelds_40 lk_X7_160 (c_X7_isSetOf (gl Γ) hc) (As := [.long (zL (σ 23 (zix u3_4)))]) rfl zk_29 rfl (Nat.le_of_ble_eq_true rfl) ⟨rfl, rfl, Nat.le_of_ble_eq_true rfl, Nat.le_of_ble_eq_true rfl⟩ hcs ?_
        refine p_ifne (tgt := 50) G dX7_countMelds_43 (by decide) h (fun c20 h => ?_) (fun c20 h => ?_)
        · refine p_iconst G rfl dX7_countMelds_50 ?_
          refine p_goto (tgt := 64) G dX7_countMelds_51 (by decide) ?_
          refine p_istoreU (lv' := [(4, .int (zJ (0 : Int))), (0, .ref (ga Γ 0)), (1, .int (zJ p1)), (2, .int (zJ u2_4)), (3, .int (zJ u3_4))]) G dX7_countMelds_64 (by decide) rfl ?_
          refine p_iload_n G rfl 3 rfl dX7_countMelds_66 ?_
          refine p_iload G 0 rfl dX7_countMelds_67 ?_
          refine p_ifeq (tgt := 76) G dX7_countMelds_69 (by decide) h (fun c14 h => ?_) (fun c14 h => ?_)
          · refine p_iconst G rfl dX7_countMelds_76 ?_
            refine p_iadd G dX7_countMelds_77 ?_
            refine p_istore_n (lv' := fun v10 => [(2, .int (zJ v10)), (4, .int (zJ (0 : Int))), (0, .ref (ga Γ 0)), (1, .int (zJ p1)), (3, .int (zJ u3_4))]) G rfl dX7_countMelds_78 h (by decide) (fun _ => rfl) (fun v10 h => ?_)
            refine p_iinc (lv' := fun v11 => [(3, .int (zJ v11)), (2, .int (zJ v10)), (4, .int (zJ (0 : Int))), (0, .ref (ga Γ 0)), (1, .int (zJ p1))]) G dX7_countMelds_79 h 4 rfl (by decide) (fun _ => rfl) (fun v11 h => ?_)
            refine p_goto (tgt := 4) G dX7_countMelds_82 (by decide) ?_
            refine p_lv [3, 4, 1, 0] rfl ?_
            exact hin4 _ (Option.some.inj h).symm
          · refine p_iconst G rfl dX7_countMelds_72 ?_
            refine p_goto (tgt := 77) G dX7_countMelds_73 (by decide) ?_
            refine p_iadd G dX7_countMelds_77 ?_
            refine p_istore_n (lv' := fun v12 => [(2, .int (zJ v12)), (4, .int (zJ (0 : Int))), (0, .ref (ga Γ 0)), (1, .int (zJ p1)), (3, .int (zJ u3_4))]) G rfl dX7_countMelds_78 h (by decide) (fun _ => rfl) (fun v12 h => ?_)
            refine p_iinc (lv' := fun v13 => [(3, .int (zJ v13)), (2, .int (zJ v12)), (4, .int (zJ (0 : Int))), (0, .ref (ga Γ 0)), (1, .int (zJ p1))]) G dX7_countMelds_79 h 4 rfl (by decide) (fun _ => rfl) (fun v13 h => ?_)
            refine p_goto (tgt := 4) G dX7_countMelds_82 (by decide) ?_
            refine p_lv [3, 4, 1, 0] rfl ?_
            exact hin4 _ (Option.some.inj h).symm
        · refine p_iconst G rfl dX7_countMelds_46 ?_
          refine p_goto (tgt := 64) G dX7_countMelds_47 (by decide) ?_
          refine p_istoreU (lv' := [(4, .int (zJ (1 : Int))), (0, .ref (ga Γ 0)), (1, .int (zJ p1)), (2, .int (zJ u2_4)), (3, .int (zJ u3_4))]) G dX7_countMelds_64 (by decide) rfl ?_
          refine p_iload_n G rfl 3 rfl dX7_countMelds_66 ?_
          refine p_iload G 0 rfl dX7_countMelds_67 ?_
          refine p_ifeq (tgt := 76) G dX7_countMelds_69 (by decide) h (fun c19 h => ?_) (fun c19 h => ?_)
          · refine p_iconst G rfl dX7_countMelds_76 ?_
            refine p_iadd G dX7_countMelds_77 ?_
            refine p_istore_n (lv' := fun v15 => [(2, .int (zJ v15)), (4, .int (zJ (1 : Int))), (0, .ref (ga Γ 0)), (1, .int (zJ p1)), (3, .int (zJ u3_4))]) G rfl dX7_countMelds_78 h (by decide) (fun _ => rfl) (fun v15 h => ?_)
            refine p_iinc (lv' := fun v16 => [(3, .int (zJ v16)), (2, .int (zJ v15)), (4, .int (zJ (1 : Int))), (0, .ref (ga Γ 0)), (1, .int (zJ p1))]) G dX7_countMelds_79 h 4 rfl (by decide) (fun _ => rfl) (fun v16 h => ?_)
            refine p_goto (tgt := 4) G dX7_countMelds_82 (by decide) ?_
            refine p_lv [3, 4, 1, 0] rfl ?_
            exact hin4 _ (Option.some.inj h).symm
          · refine p_iconst G rfl dX7_countMelds_72 ?_
            refine p_goto (tgt := 77) G dX7_countMelds_73 (by decide) ?_
            refine p_iadd G dX7_countMelds_77 ?_
            refine p_istore_n (lv' := fun v17 => [(2, .int (zJ v17)), (4, .int (zJ (1 : Int))), (0, .ref (ga Γ 0)), (1, .int (zJ p1)), (3, .int (zJ u3_4))]) G rfl dX7_countMelds_78 h (by decide) (fun _ => rfl) (fun v17 h => ?_)
            refine p_iinc (lv' := fun v18 => [(3, .int (zJ v18)), (2, .int (zJ v17)), (4, .int (zJ (1 : Int))), (0, .ref (ga Γ 0)), (1, .int (zJ p1))]) G dX7_countMelds_79 h 4 rfl (by decide) (fun _ => rfl) (fun v18 h => ?_)
            refine p_goto (tgt := 4) G dX7_countMelds_82 (by decide) ?_
            refine p_lv [3, 4, 1, 0] rfl ?_
            exact hin4 _ (Option.some.inj h).symm
    · refine p_aload_n G rfl 0 rfl dX7_countMelds_17 ?_
      refine p_get G dX7_countMelds_18 fl_X7_44 (k := 0) rfl rfl ?_
      refine p_iload_n G rfl 3 rfl dX7_countMelds_21 ?_
      refine p_lald G dX7_countMelds_22 (k := 23) rfl (zt_c _) h (fun c22 h => ?_)
      obtain ⟨v23, hc, h⟩ := bnd_some h
      refine p_callS0 G dX7_countMelds_23 lk_X7_160 (c_X7_isSetOf (gl Γ) hc) (As := [.long (zL (σ 23 (zix u3_4)))]) rfl zk_29 rfl (Nat.le_of_ble_eq_true rfl) ⟨rfl, rfl, Nat.le_of_ble_eq_true rfl, Nat.le_of_ble_eq_true rfl⟩ hcs ?_
      refine p_goto (tgt := 64) G dX7_countMelds_26 (by decide) ?_
      refine p_istoreU (lv' := [(4, .int (zJ v23)), (0, .ref (ga Γ 0)), (1, .int (zJ p1)), (2, .int (zJ u2_4)), (3, .int (zJ u3_4))]) G dX7_countMelds_64 (by decide) rfl ?_
      refine p_iload_n G rfl 3 rfl dX7_countMelds_66 ?_
      refine p_iload G 0 rfl dX7_countMelds_67 ?_
      refine p_ifeq (tgt := 76) G dX7_countMelds_69 (by decide) h (fun c28 h => ?_) (fun c28 h => ?_)
      · refine p_iconst G rfl dX7_countMelds_76 ?_
        refine p_iadd G dX7_countMelds_77 ?_
        refine p_istore_n (lv' := fun v24 => [(2, .int (zJ v24)), (4, .int (zJ v23)), (0, .ref (ga Γ 0)), (1, .int (zJ p1)), (3, .int (zJ u3_4))]) G rfl dX7_countMelds_78 h (by decide) (fun _ => rfl) (fun v24 h => ?_)
        refine p_iinc (lv' := fun v25 => [(3, .int (zJ v25)), (2, .int (zJ v24)), (4, .int (zJ v23)), (0, .ref (ga Γ 0)), (1, .int (zJ p1))]) G dX7_countMelds_79 h 4 rfl (by decide) (fun _ => rfl) (fun v25 h => ?_)
        refine p_goto (tgt := 4) G dX7_countMelds_82 (by decide) ?_
        refine p_lv [3, 4, 1, 0] rfl ?_
        exact hin4 _ (Option.some.inj h).symm
      · refine p_iconst G rfl dX7_countMelds_72 ?_
        refine p_goto (tgt := 77) G dX7_countMelds_73 (by decide) ?_
        refine p_iadd G dX7_countMelds_77 ?_
        refine p_istore_n (lv' := fun v26 => [(2, .int (zJ v26)), (4, .int (zJ v23)), (0, .ref (ga Γ 0)), (1, .int (zJ p1)), (3, .int (zJ u3_4))]) G rfl dX7_countMelds_78 h (by decide) (fun _ => rfl) (fun v26 h => ?_)
        refine p_iinc (lv' := fun v27 => [(3, .int (zJ v27)), (2, .int (zJ v26)), (4, .int (zJ v23)), (0, .ref (ga Γ 0)), (1, .int (zJ p1))]) G dX7_countMelds_79 h 4 rfl (by decide) (fun _ => rfl) (fun v27 h => ?_)
        refine p_goto (tgt := 4) G dX7_countMelds_82 (by decide) ?_
        refine p_lv [3, 4, 1, 0] rfl ?_
        exact hin4 _ (Option.some.inj h).symm
set_option maxHeartbeats 4000000 in
set_option maxRecDepth 100000 in
theorem c_X7_player (l : Launch) {D : va_G} {yy : Nat → ClassId} {tk tv a : Nat → Nat} {σ : Mm} {p1 : Int} {p2 : Int} {o : Mm × Int} (h : x_X7_player σ p1 p2 = some o) : CT l yX7_player cX7_player 3 (some .int) rm_X7_player shW D yy tk tv a σ [.ref (a 0), .int (zJ p1), .int (zJ p2)] o.1 (some (.int (zJ o.2))) := by
  refine ct_of (Ar := fun a tk => [.ref (a 0), .int (zJ p1), .int (zJ p2)]) (by decide) (Nat.le_of_ble_eq_true rfl) (fun Γ G _ _ hR => ?_)
  have hcs := rt_cs hR
  unfold x_X7_player at h
  refine (?_ : PT Γ 3 shW 0 σ [(0, .ref (ga Γ 0)), (1, .int (zJ p1)), (2, .int (zJ p2))] [])
  refine p_aload_n G rfl 0 rfl dX7_player_0 ?_
  refine p_iconst G rfl dX7_player_1 ?_
  refine p_putI G dX7_player_2 fp_X7_62 (k := 0) rfl rfl rfl rfl h (fun σ1 h => ?_)
  refine p_aload_n G rfl 0 rfl dX7_player_5 ?_
  refine p_iload_n G rfl 1 rfl dX7_player_6 ?_
  obtain ⟨⟨σ2, v3⟩, hc, h⟩ := bnd_some h
  rw [un2_mk] at h
  refine p_callVi G dX7_player_7 lk_X7_338 (c_X7_noPlayer (gl Γ) hc) (As := [.int (zJ p1)]) (ci := 7) rfl rfl rfl rfl (Nat.le_of_ble_eq_true rfl) ⟨rfl, rfl, Nat.le_of_ble_eq_true rfl, Nat.le_of_ble_eq_true rfl⟩ hcs ?_
  refine p_ifne (tgt := 27) G dX7_player_10 (by decide) h (fun c14 h => ?_) (fun c14 h => ?_)
  · refine p_iconst G rfl dX7_player_27 ?_
    (cases h; exact p_iret G hR dX7_player_28 rfl rfl)
  · refine p_aload_n G rfl 0 rfl dX7_player_13 ?_
    refine p_iload_n G rfl 2 rfl dX7_player_14 ?_
    refine p_i2l G dX7_player_15 ?_
    refine p_lconst G (v := 0) (by decide) dX7_player_16 ?_
    refine p_ldc2 G gm_1534 dX7_player_17 ?_
    refine p_iconst G rfl dX7_player_20 ?_
    obtain ⟨⟨σ4, v5⟩, hc, h⟩ := bnd_some h
    rw [un2_mk] at h
    refine p_callVi G dX7_player_21 lk_X7_72 (c_X7_bad (gl Γ) hc) (As := [.long (zi2l p2), .long (0 : Int64), .long (7 : Int64), .int (zJ (1 : Int))]) (ci := 7) rfl rfl rfl rfl (Nat.le_of_ble_eq_true rfl) ⟨rfl, rfl, Nat.le_of_ble_eq_true rfl, Nat.le_of_ble_eq_true rfl⟩ hcs ?_
    refine p_ifeq (tgt := 29) G dX7_player_24 (by decide) h (fun c13 h => ?_) (fun c13 h => ?_)
    · refine p_aload_n G rfl 0 rfl dX7_player_29 ?_
      refine p_iload_n G rfl 1 rfl dX7_player_30 ?_
      obtain ⟨σ6, hc, h⟩ := bnd_some h
      refine p_callVi G dX7_player_31 lk_X7_177 (c_X7_layOutOf (gl Γ) hc) (As := [.int (zJ p1)]) (ci := 7) rfl rfl rfl rfl (Nat.le_of_ble_eq_true rfl) ⟨rfl, rfl, Nat.le_of_ble_eq_true rfl, Nat.le_of_ble_eq_true rfl⟩ hcs ?_
      refine p_iload_n G rfl 2 rfl dX7_player_34 ?_
      refine zite h (fun c0_35 h => ?_) (fun c0_35 h => ?_)
      · refine p_tin (tgt := 76) (off := 41) G dX7_player_35 c0_35 (by decide) (by decide) rfl (by decide) ?_
        refine p_aload_n G rfl 0 rfl dX7_player_76 ?_
        refine p_get G dX7_player_77 fl_X7_100 (k := 0) rfl rfl ?_
        (cases h; exact p_iret G hR dX7_player_80 rfl rfl)
      · refine zite h (fun c1_35 h => ?_) (fun c1_35 h => ?_)
        · refine p_tin (tgt := 81) (off := 46) G dX7_player_35 c1_35 (by decide) (by decide) rfl (by decide) ?_
          refine p_aload_n G rfl 0 rfl dX7_player_81 ?_
          refine p_get G dX7_player_82 fl_X7_134 (k := 0) rfl rfl ?_
          (cases h; exact p_iret G hR dX7_player_85 rfl rfl)
        · refine zite h (fun c2_35 h => ?_) (fun c2_35 h => ?_)
          · refine p_tin (tgt := 86) (off := 51) G dX7_player_35 c2_35 (by decide) (by decide) rfl (by decide) ?_
            refine p_aload_n G rfl 0 rfl dX7_player_86 ?_
            refine p_get G dX7_player_87 fl_X7_137 (k := 0) rfl rfl ?_
            (cases h; exact p_iret G hR dX7_player_90 rfl rfl)
          · refine zite h (fun c3_35 h => ?_) (fun c3_35 h => ?_)
            · refine p_tin (tgt := 91) (off := 56) G dX7_player_35 c3_35 (by decide) (by decide) rfl (by decide) ?_
              refine p_aload_n G rfl 0 rfl dX7_player_91 ?_
              refine p_get G dX7_player_92 fl_X7_140 (k := 0) rfl rfl ?_
              obtain ⟨v7, hc, h⟩ := bnd_some h
              refine p_callS0 G dX7_player_95 lk_X7_103 (c_X7_ones (gl Γ) hc) (As := [.long (zL (σ6 0 18))]) rfl zk_29 rfl (Nat.le_of_ble_eq_true rfl) ⟨rfl, rfl, Nat.le_of_ble_eq_true rfl, Nat.le_of_ble_eq_true rfl⟩ hcs ?_
              (cases h; exact p_iret G hR dX7_player_98 rfl rfl)
            · refine zite h (fun c4_35 h => ?_) (fun c4_35 h => ?_)
              · refine p_tin (tgt := 115) (off := 80) G dX7_player_35 c4_35 (by decide) (by decide) rfl (by decide) ?_
                refine p_aload_n G rfl 0 rfl dX7_player_115 ?_
                refine p_iload_n G rfl 2 rfl dX7_player_116 ?_
                obtain ⟨v8, hc, h⟩ := bnd_some h
                refine p_callVi G dX7_player_117 lk_X7_343 (c_X7_countMelds (gl Γ) hc) (As := [.int (zJ p2)]) (ci := 7) rfl rfl rfl rfl (Nat.le_of_ble_eq_true rfl) ⟨rfl, rfl, Nat.le_of_ble_eq_true rfl, Nat.le_of_ble_eq_true rfl⟩ hcs ?_
                (cases h; exact p_iret G hR dX7_player_120 rfl rfl)
              · refine zite h (fun c5_35 h => ?_) (fun c5_35 h => ?_)
                · refine p_tin (tgt := 115) (off := 80) G dX7_player_35 c5_35 (by decide) (by decide) rfl (by decide) ?_
                  refine p_aload_n G rfl 0 rfl dX7_player_115 ?_
                  refine p_iload_n G rfl 2 rfl dX7_player_116 ?_
                  obtain ⟨v9, hc, h⟩ := bnd_some h
                  refine p_callVi G dX7_player_117 lk_X7_343 (c_X7_countMelds (gl Γ) hc) (As := [.int (zJ p2)]) (ci := 7) rfl rfl rfl rfl (Nat.le_of_ble_eq_true rfl) ⟨rfl, rfl, Nat.le_of_ble_eq_true rfl, Nat.le_of_ble_eq_true rfl⟩ hcs ?_
                  (cases h; exact p_iret G hR dX7_player_120 rfl rfl)
                · refine zite h (fun c6_35 h => ?_) (fun c6_35 h => ?_)
                  · refine p_tin (tgt := 99) (off := 64) G dX7_player_35 c6_35 (by decide) (by decide) rfl (by decide) ?_
                    refine p_aload_n G rfl 0 rfl dX7_player_99 ?_
                    refine p_iconst G rfl dX7_player_100 ?_
                    refine p_aload_n G rfl 0 rfl dX7_player_101 ?_
                    refine p_get G dX7_player_102 fl_X7_100 (k := 0) rfl rfl ?_
                    refine p_ishl G dX7_player_105 ?_
                    refine p_iconst G rfl dX7_player_106 ?_
                    refine p_isub G dX7_player_107 ?_
                    obtain ⟨v10, hc, h⟩ := bnd_some h
                    refine p_callVi G dX7_player_108 lk_X7_144 (c_X7_cardsOf (gl Γ) hc) (As := [.int (zJ ((zshl (1 : Int) (σ6 0 12)) - (1 : Int)))]) (ci := 7) rfl rfl rfl rfl (Nat.le_of_ble_eq_true rfl) ⟨rfl, rfl, Nat.le_of_ble_eq_true rfl, Nat.le_of_ble_eq_true rfl⟩ hcs ?_
                    obtain ⟨v11, hc, h⟩ := bnd_some h
                    refine p_callS0 G dX7_player_111 lk_X7_186 (c_X7_pointsOf (gl Γ) hc) (As := [.long v10]) rfl zk_29 rfl (Nat.le_of_ble_eq_true rfl) ⟨rfl, rfl, Nat.le_of_ble_eq_true rfl, Nat.le_of_ble_eq_true rfl⟩ hcs ?_
                    (cases h; exact p_iret G hR dX7_player_114 rfl rfl)
                  · refine p_tout (tgt := 115) G dX7_player_35 (by omega) (by decide) ?_
                    refine p_aload_n G rfl 0 rfl dX7_player_115 ?_
                    refine p_iload_n G rfl 2 rfl dX7_player_116 ?_
                    obtain ⟨v12, hc, h⟩ := bnd_some h
                    refine p_callVi G dX7_player_117 lk_X7_343 (c_X7_countMelds (gl Γ) hc) (As := [.int (zJ p2)]) (ci := 7) rfl rfl rfl rfl (Nat.le_of_ble_eq_true rfl) ⟨rfl, rfl, Nat.le_of_ble_eq_true rfl, Nat.le_of_ble_eq_true rfl⟩ hcs ?_
                    (cases h; exact p_iret G hR dX7_player_120 rfl rfl)
    · refine p_iconst G rfl dX7_player_27 ?_
      (cases h; exact p_iret G hR dX7_player_28 rfl rfl)
set_option maxHeartbeats 4000000 in
set_option maxRecDepth 100000 in
theorem c_X7_card (l : Launch) {D : va_G} {yy : Nat → ClassId} {tk tv a : Nat → Nat} {σ : Mm} {p1 : Int} {p2 : Int} {o : Mm × Int} (h : x_X7_card σ p1 p2 = some o) : CT l yX7_card cX7_card 3 (some .int) rm_X7_card shW D yy tk tv a σ [.ref (a 0), .int (zJ p1), .int (zJ p2)] o.1 (some (.int (zJ o.2))) := by
  refine ct_of (Ar := fun a tk => [.ref (a 0), .int (zJ p1), .int (zJ p2)]) (by decide) (Nat.le_of_ble_eq_true rfl) (fun Γ G _ _ hR => ?_)
  have hcs := rt_cs hR
  unfold x_X7_card at h
  refine (?_ : PT Γ 3 shW 0 σ [(0, .ref (ga Γ 0)), (1, .int (zJ p1)), (2, .int (zJ p2))] [])
  refine p_aload_n G rfl 0 rfl dX7_card_0 ?_
  refine p_iconst G rfl dX7_card_1 ?_
  refine p_putI G dX7_card_2 fp_X7_62 (k := 0) rfl rfl rfl rfl h (fun σ1 h => ?_)
  refine p_aload_n G rfl 0 rfl dX7_card_5 ?_
  refine p_iload_n G rfl 1 rfl dX7_card_6 ?_
  obtain ⟨⟨σ2, v3⟩, hc, h⟩ := bnd_some h
  rw [un2_mk] at h
  refine p_callVi G dX7_card_7 lk_X7_338 (c_X7_noPlayer (gl Γ) hc) (As := [.int (zJ p1)]) (ci := 7) rfl rfl rfl rfl (Nat.le_of_ble_eq_true rfl) ⟨rfl, rfl, Nat.le_of_ble_eq_true rfl, Nat.le_of_ble_eq_true rfl⟩ hcs ?_
  refine p_ifeq (tgt := 15) G dX7_card_10 (by decide) h (fun c8 h => ?_) (fun c8 h => ?_)
  · refine p_aload_n G rfl 0 rfl dX7_card_15 ?_
    refine p_iload_n G rfl 1 rfl dX7_card_16 ?_
    refine p_iconst G rfl dX7_card_17 ?_
    refine p_iconst G rfl dX7_card_18 ?_
    obtain ⟨σ4, hc, h⟩ := bnd_some h
    refine p_callVi G dX7_card_19 lk_X7_148 (c_X7_takeHand (gl Γ) hc) (As := [.int (zJ p1), .int (zJ (-1 : Int)), .int (zJ (-1 : Int))]) (ci := 7) rfl rfl rfl rfl (Nat.le_of_ble_eq_true rfl) ⟨rfl, rfl, Nat.le_of_ble_eq_true rfl, Nat.le_of_ble_eq_true rfl⟩ hcs ?_
    refine p_iload_n G rfl 2 rfl dX7_card_22 ?_
    refine p_iflt (tgt := 34) G dX7_card_23 (by decide) h (fun c7 h => ?_) (fun c7 h => ?_)
    · refine p_iconst G rfl dX7_card_34 ?_
      refine p_goto (tgt := 44) G dX7_card_35 (by decide) ?_
      (cases h; exact p_iret G hR dX7_card_44 rfl rfl)
    · refine p_iload_n G rfl 2 rfl dX7_card_26 ?_
      refine p_aload_n G rfl 0 rfl dX7_card_27 ?_
      refine p_get G dX7_card_28 fl_X7_100 (k := 0) rfl rfl ?_
      refine p_icmplt (tgt := 38) G dX7_card_31 (by decide) h (fun c6 h => ?_) (fun c6 h => ?_)
      · refine p_aload_n G rfl 0 rfl dX7_card_38 ?_
        refine p_get G dX7_card_39 fl_X7_35 (k := 0) rfl rfl ?_
        refine p_iload_n G rfl 2 rfl dX7_card_42 ?_
        refine p_iald G dX7_card_43 (k := 20) rfl (zt_c _) h (fun c5 h => ?_)
        (cases h; exact p_iret G hR dX7_card_44 rfl rfl)
      · refine p_iconst G rfl dX7_card_34 ?_
        refine p_goto (tgt := 44) G dX7_card_35 (by decide) ?_
        (cases h; exact p_iret G hR dX7_card_44 rfl rfl)
  · refine p_iconst G rfl dX7_card_13 ?_
    (cases h; exact p_iret G hR dX7_card_14 rfl rfl)
set_option maxHeartbeats 4000000 in
set_option maxRecDepth 100000 in
theorem c_X7_where (l : Launch) {D : va_G} {yy : Nat → ClassId} {tk tv a : Nat → Nat} {σ : Mm} {p1 : Int} {o : Mm × Int} (h : x_X7_where σ p1 = some o) : CT l yX7_where cX7_where 2 (some .int) rm_X7_where shW D yy tk tv a σ [.ref (a 0), .int (zJ p1)] o.1 (some (.int (zJ o.2))) := by
  refine ct_of (Ar := fun a tk => [.ref (a 0), .int (zJ p1)]) (by decide) (Nat.le_of_ble_eq_true rfl) (fun Γ G _ _ hR => ?_)
  have hcs := rt_cs hR
  unfold x_X7_where at h
  refine (?_ : PT Γ 2 shW 0 σ [(0, .ref (ga Γ 0)), (1, .int (zJ p1))] [])
  refine p_aload_n G rfl 0 rfl dX7_where_0 ?_
  refine p_iconst G rfl dX7_where_1 ?_
  refine p_putI G dX7_where_2 fp_X7_62 (k := 0) rfl rfl rfl rfl h (fun σ1 h => ?_)
  refine p_aload_n G rfl 0 rfl dX7_where_5 ?_
  refine p_iload_n G rfl 1 rfl dX7_where_6 ?_
  refine p_i2l G dX7_where_7 ?_
  refine p_lconst G (v := 0) (by decide) dX7_where_8 ?_
  refine p_ldc2 G gm_1551 dX7_where_9 ?_
  refine p_iconst G rfl dX7_where_12 ?_
  obtain ⟨⟨σ2, v3⟩, hc, h⟩ := bnd_some h
  rw [un2_mk] at h
  refine p_callVi G dX7_where_13 lk_X7_72 (c_X7_bad (gl Γ) hc) (As := [.long (zi2l p1), .long (0 : Int64), .long (51 : Int64), .int (zJ (1 : Int))]) (ci := 7) rfl rfl rfl rfl (Nat.le_of_ble_eq_true rfl) ⟨rfl, rfl, Nat.le_of_ble_eq_true rfl, Nat.le_of_ble_eq_true rfl⟩ hcs ?_
  refine p_ifeq (tgt := 23) G dX7_where_16 (by decide) h (fun c5 h => ?_) (fun c5 h => ?_)
  · refine p_aload_n G rfl 0 rfl dX7_where_23 ?_
    refine p_get G dX7_where_24 fl_X7_9 (k := 0) rfl rfl ?_
    refine p_bipush G (by decide) (by decide) dX7_where_27 ?_
    refine p_iload_n G rfl 1 rfl dX7_where_29 ?_
    refine p_iadd G dX7_where_30 ?_
    refine p_iald G dX7_where_31 (k := 1) rfl (zt_c _) h (fun c4 h => ?_)
    (cases h; exact p_iret G hR dX7_where_32 rfl rfl)
  · refine p_iconst G rfl dX7_where_19 ?_
    refine p_goto (tgt := 32) G dX7_where_20 (by decide) ?_
    (cases h; exact p_iret G hR dX7_where_32 rfl rfl)
set_option maxHeartbeats 4000000 in
set_option maxRecDepth 100000 in
theorem c_X7_meldOf (l : Launch) {D : va_G} {yy : Nat → ClassId} {tk tv a : Nat → Nat} {σ : Mm} {p1 : Int} {p2 : Int} {o : Mm × Int} (h : x_X7_meldOf σ p1 p2 = some o) : CT l yX7_meldOf cX7_meldOf 4 (some .int) rm_X7_meldOf shW D yy tk tv a σ [.ref (a 0), .int (zJ p1), .int (zJ p2)] o.1 (some (.int (zJ o.2))) := by
  refine ct_of (Ar := fun a tk => [.ref (a 0), .int (zJ p1), .int (zJ p2)]) (by decide) (Nat.le_of_ble_eq_true rfl) (fun Γ G _ _ hR => ?_)
  have hcs := rt_cs hR
  unfold x_X7_meldOf at h
  refine (?_ : PT Γ 4 shW 0 σ [(0, .ref (ga Γ 0)), (1, .int (zJ p1)), (2, .int (zJ p2))] [])
  refine p_aload_n G rfl 0 rfl dX7_meldOf_0 ?_
  refine p_iconst G rfl dX7_meldOf_1 ?_
  refine p_putI G dX7_meldOf_2 fp_X7_62 (k := 0) rfl rfl rfl rfl h (fun σ1 h => ?_)
  refine p_aload_n G rfl 0 rfl dX7_meldOf_5 ?_
  refine p_iload_n G rfl 1 rfl dX7_meldOf_6 ?_
  obtain ⟨⟨σ2, v3⟩, hc, h⟩ := bnd_some h
  rw [un2_mk] at h
  refine p_callVi G dX7_meldOf_7 lk_X7_338 (c_X7_noPlayer (gl Γ) hc) (As := [.int (zJ p1)]) (ci := 7) rfl rfl rfl rfl (Nat.le_of_ble_eq_true rfl) ⟨rfl, rfl, Nat.le_of_ble_eq_true rfl, Nat.le_of_ble_eq_true rfl⟩ hcs ?_
  refine p_ifeq (tgt := 15) G dX7_meldOf_10 (by decide) h (fun c15 h => ?_) (fun c15 h => ?_)
  · refine p_aload_n G rfl 0 rfl dX7_meldOf_15 ?_
    refine p_iload_n G rfl 1 rfl dX7_meldOf_16 ?_
    refine p_iload_n G rfl 2 rfl dX7_meldOf_17 ?_
    obtain ⟨v4, hc, h⟩ := bnd_some h
    refine p_callVi G dX7_meldOf_18 lk_X7_76 (c_X7_owns (gl Γ) hc) (As := [.int (zJ p1), .int (zJ p2)]) (ci := 7) rfl rfl rfl rfl (Nat.le_of_ble_eq_true rfl) ⟨rfl, rfl, Nat.le_of_ble_eq_true rfl, Nat.le_of_ble_eq_true rfl⟩ hcs ?_
    refine p_ifne (tgt := 31) G dX7_meldOf_21 (by decide) h (fun c14 h => ?_) (fun c14 h => ?_)
    · refine p_aload_n G rfl 0 rfl dX7_meldOf_31 ?_
      refine p_iload_n G rfl 1 rfl dX7_meldOf_32 ?_
      obtain ⟨σ5, hc, h⟩ := bnd_some h
      refine p_callVi G dX7_meldOf_33 lk_X7_177 (c_X7_layOutOf (gl Γ) hc) (As := [.int (zJ p1)]) (ci := 7) rfl rfl rfl rfl (Nat.le_of_ble_eq_true rfl) ⟨rfl, rfl, Nat.le_of_ble_eq_true rfl, Nat.le_of_ble_eq_true rfl⟩ hcs ?_
      refine p_iconst G rfl dX7_meldOf_36 ?_
      refine p_istore_nU (lv' := [(3, .int (zJ (0 : Int))), (0, .ref (ga Γ 0)), (1, .int (zJ p1)), (2, .int (zJ p2))]) G rfl dX7_meldOf_37 (by decide) rfl ?_
      refine p_lv [1, 3, 0] rfl ?_
      obtain ⟨e11, hl38, h⟩ := bnd_some h
      have hX38_61 : ∀ (v12 : Int), (.inl v12) = e11 → PT Γ 4 shW 61 σ5 [(3, .int (zJ v12))] [] := by
        intro v12 he
        subst he
        rw [zel_l] at h
        refine p_iload_n G rfl 0 rfl dX7_meldOf_61 ?_
        (cases h; exact p_iret G hR dX7_meldOf_62 rfl rfl)
      have hX38_69 : ∀ (_ : Unit), (.inr ()) = e11 → PT Γ 4 shW 69 σ5 [] [] := by
        intro _ he
        subst he
        rw [zel_r] at h
        refine p_iconst G rfl dX7_meldOf_69 ?_
        (cases h; exact p_iret G hR dX7_meldOf_70 rfl rfl)
      refine lup_walk (s := (0 : Int)) (At := fun s : Int => PT Γ 4 shW 38 σ5 [(0, .ref (ga Γ 0)), (2, .int (zJ p2)), (3, .int (zJ s))] []) (fun u3_38 r hf hin38 hout38 => ?_) hl38
      have h : x_X7_meldOf_b38 σ5 p2 u3_38 = some r := hf
      clear hf
      unfold x_X7_meldOf_b38 at h
      refine (?_ : PT Γ 4 shW 38 σ5 [(0, .ref (ga Γ 0)), (2, .int (zJ p2)), (3, .int (zJ u3_38))] [])
      refine p_iload_n G rfl 2 rfl dX7_meldOf_38 ?_
      refine p_aload_n G rfl 0 rfl dX7_meldOf_39 ?_
      refine p_get G dX7_meldOf_40 fl_X7_137 (k := 0) rfl rfl ?_
      refine p_icmpge (tgt := 69) G dX7_meldOf_43 (by decide) h (fun c9 h => ?_) (fun c9 h => ?_)
      · refine p_lv [] rfl ?_
        have he := hout38 _ (Option.some.inj h).symm
        subst he
        exact hX38_69 () rfl
      · refine p_aload_n G rfl 0 rfl dX7_meldOf_46 ?_
        refine p_get G dX7_meldOf_47 fl_X7_44 (k := 0) rfl rfl ?_
        refine p_iload_n G rfl 2 rfl dX7_meldOf_50 ?_
        refine p_lald G dX7_meldOf_51 (k := 23) rfl (zt_c _) h (fun c6 h => ?_)
        refine p_iload_n G rfl 1 rfl dX7_meldOf_52 ?_
        refine p_lshr G dX7_meldOf_53 ?_
        refine p_lconst G (v := 1) (by decide) dX7_meldOf_54 ?_
        refine p_land G dX7_meldOf_55 ?_
        refine p_lconst G (v := 1) (by decide) dX7_meldOf_56 ?_
        refine p_lcmp G dX7_meldOf_57 ?_
        refine p_ifne (tgt := 63) G dX7_meldOf_58 (by decide) h (fun c8 h => ?_) (fun c8 h => ?_)
        · refine p_iinc (lv' := fun v7 => [(3, .int (zJ v7)), (0, .ref (ga Γ 0)), (2, .int (zJ p2))]) G dX7_meldOf_63 h 2 rfl (by decide) (fun _ => rfl) (fun v7 h => ?_)
          refine p_goto (tgt := 38) G dX7_meldOf_66 (by decide) ?_
          refine p_lv [1, 2, 0] rfl ?_
          exact hin38 _ (Option.some.inj h).symm
        · refine p_lv [2] rfl ?_
          have he := hout38 _ (Option.some.inj h).symm
          subst he
          exact hX38_61 _ rfl
    · refine p_aload_n G rfl 0 rfl dX7_meldOf_24 ?_
      refine p_iconst G rfl dX7_meldOf_25 ?_
      refine p_putI G dX7_meldOf_26 fp_X7_62 (k := 0) rfl rfl rfl rfl h (fun σ13 h => ?_)
      refine p_iconst G rfl dX7_meldOf_29 ?_
      (cases h; exact p_iret G hR dX7_meldOf_30 rfl rfl)
  · refine p_iconst G rfl dX7_meldOf_13 ?_
    (cases h; exact p_iret G hR dX7_meldOf_14 rfl rfl)
set_option maxHeartbeats 4000000 in
set_option maxRecDepth 100000 in
theorem c_X7_meld (l : Launch) {D : va_G} {yy : Nat → ClassId} {tk tv a : Nat → Nat} {σ : Mm} {p1 : Int} {p2 : Int} {p3 : Int} {o : Mm × Int} (h : x_X7_meld σ p1 p2 p3 = some o) : CT l yX7_meld cX7_meld 6 (some .int) rm_X7_meld shW D yy tk tv a σ [.ref (a 0), .int (zJ p1), .int (zJ p2), .int (zJ p3)] o.1 (some (.int (zJ o.2))) := by
  refine ct_of (Ar := fun a tk => [.ref (a 0), .int (zJ p1), .int (zJ p2), .int (zJ p3)]) (by decide) (Nat.le_of_ble_eq_true rfl) (fun Γ G _ _ hR => ?_)
  have hcs := rt_cs hR
  unfold x_X7_meld at h
  refine (?_ : PT Γ 6 shW 0 σ [(0, .ref (ga Γ 0)), (1, .int (zJ p1)), (2, .int (zJ p2)), (3, .int (zJ p3))] [])
  refine p_aload_n G rfl 0 rfl dX7_meld_0 ?_
  refine p_iconst G rfl dX7_meld_1 ?_
  refine p_putI G dX7_meld_2 fp_X7_62 (k := 0) rfl rfl rfl rfl h (fun σ1 h => ?_)
  refine p_aload_n G rfl 0 rfl dX7_meld_5 ?_
  refine p_iload_n G rfl 1 rfl dX7_meld_6 ?_
  obtain ⟨⟨σ2, v3⟩, hc, h⟩ := bnd_some h
  rw [un2_mk] at h
  refine p_callVi G dX7_meld_7 lk_X7_338 (c_X7_noPlayer (gl Γ) hc) (As := [.int (zJ p1)]) (ci := 7) rfl rfl rfl rfl (Nat.le_of_ble_eq_true rfl) ⟨rfl, rfl, Nat.le_of_ble_eq_true rfl, Nat.le_of_ble_eq_true rfl⟩ hcs ?_
  refine p_ifne (tgt := 27) G dX7_meld_10 (by decide) h (fun c20 h => ?_) (fun c20 h => ?_)
  · refine p_iconst G rfl dX7_meld_27 ?_
    (cases h; exact p_iret G hR dX7_meld_28 rfl rfl)
  · refine p_aload_n G rfl 0 rfl dX7_meld_13 ?_
    refine p_iload_n G rfl 3 rfl dX7_meld_14 ?_
    refine p_i2l G dX7_meld_15 ?_
    refine p_lconst G (v := 0) (by decide) dX7_meld_16 ?_
    refine p_ldc2 G gm_1560 dX7_meld_17 ?_
    refine p_iconst G rfl dX7_meld_20 ?_
    obtain ⟨⟨σ4, v5⟩, hc, h⟩ := bnd_some h
    rw [un2_mk] at h
    refine p_callVi G dX7_meld_21 lk_X7_72 (c_X7_bad (gl Γ) hc) (As := [.long (zi2l p3), .long (0 : Int64), .long (3 : Int64), .int (zJ (1 : Int))]) (ci := 7) rfl rfl rfl rfl (Nat.le_of_ble_eq_true rfl) ⟨rfl, rfl, Nat.le_of_ble_eq_true rfl, Nat.le_of_ble_eq_true rfl⟩ hcs ?_
    refine p_ifeq (tgt := 29) G dX7_meld_24 (by decide) h (fun c19 h => ?_) (fun c19 h => ?_)
    · refine p_aload_n G rfl 0 rfl dX7_meld_29 ?_
      refine p_iload_n G rfl 1 rfl dX7_meld_30 ?_
      obtain ⟨σ6, hc, h⟩ := bnd_some h
      refine p_callVi G dX7_meld_31 lk_X7_177 (c_X7_layOutOf (gl Γ) hc) (As := [.int (zJ p1)]) (ci := 7) rfl rfl rfl rfl (Nat.le_of_ble_eq_true rfl) ⟨rfl, rfl, Nat.le_of_ble_eq_true rfl, Nat.le_of_ble_eq_true rfl⟩ hcs ?_
      refine p_iload_n G rfl 2 rfl dX7_meld_34 ?_
      refine p_iflt (tgt := 46) G dX7_meld_35 (by decide) h (fun c18 h => ?_) (fun c18 h => ?_)
      · refine p_iconst G rfl dX7_meld_46 ?_
        (cases h; exact p_iret G hR dX7_meld_47 rfl rfl)
      · refine p_iload_n G rfl 2 rfl dX7_meld_38 ?_
        refine p_aload_n G rfl 0 rfl dX7_meld_39 ?_
        refine p_get G dX7_meld_40 fl_X7_137 (k := 0) rfl rfl ?_
        refine p_icmplt (tgt := 48) G dX7_meld_43 (by decide) h (fun c17 h => ?_) (fun c17 h => ?_)
        · refine p_aload_n G rfl 0 rfl dX7_meld_48 ?_
          refine p_get G dX7_meld_49 fl_X7_44 (k := 0) rfl rfl ?_
          refine p_iload_n G rfl 2 rfl dX7_meld_52 ?_
          refine p_lald G dX7_meld_53 (k := 23) rfl (zt_c _) h (fun c7 h => ?_)
          refine p_lstore (lv' := fun v8 => [(4, .long v8), (0, .ref (ga Γ 0)), (1, .int (zJ p1)), (2, .int (zJ p2)), (3, .int (zJ p3))]) G dX7_meld_54 h (by decide) (fun _ => rfl) (fun v8 h => ?_)
          refine p_iload_n G rfl 4 rfl dX7_meld_56 ?_
          refine zite h (fun c0_57 h => ?_) (fun c0_57 h => ?_)
          · refine p_tin (tgt := 84) (off := 27) G dX7_meld_57 c0_57 (by decide) (by decide) rfl (by decide) ?_
            refine p_lload G 0 rfl dX7_meld_84 ?_
            obtain ⟨v9, hc, h⟩ := bnd_some h
            refine p_callS0 G dX7_meld_86 lk_X7_103 (c_X7_ones (gl Γ) hc) (As := [.long v8]) rfl zk_29 rfl (Nat.le_of_ble_eq_true rfl) ⟨rfl, rfl, Nat.le_of_ble_eq_true rfl, Nat.le_of_ble_eq_true rfl⟩ hcs ?_
            (cases h; exact p_iret G hR dX7_meld_89 rfl rfl)
          · refine zite h (fun c1_57 h => ?_) (fun c1_57 h => ?_)
            · refine p_tin (tgt := 90) (off := 33) G dX7_meld_57 c1_57 (by decide) (by decide) rfl (by decide) ?_
              refine p_lload G 0 rfl dX7_meld_90 ?_
              obtain ⟨v10, hc, h⟩ := bnd_some h
              refine p_callS0 G dX7_meld_92 lk_X7_160 (c_X7_isSetOf (gl Γ) hc) (As := [.long v8]) rfl zk_29 rfl (Nat.le_of_ble_eq_true rfl) ⟨rfl, rfl, Nat.le_of_ble_eq_true rfl, Nat.le_of_ble_eq_true rfl⟩ hcs ?_
              refine p_ifeq (tgt := 102) G dX7_meld_95 (by decide) h (fun c11 h => ?_) (fun c11 h => ?_)
              · refine p_iconst G rfl dX7_meld_102 ?_
                (cases h; exact p_iret G hR dX7_meld_103 rfl rfl)
              · refine p_iconst G rfl dX7_meld_98 ?_
                refine p_goto (tgt := 103) G dX7_meld_99 (by decide) ?_
                (cases h; exact p_iret G hR dX7_meld_103 rfl rfl)
            · refine zite h (fun c2_57 h => ?_) (fun c2_57 h => ?_)
              · refine p_tin (tgt := 104) (off := 47) G dX7_meld_57 c2_57 (by decide) (by decide) rfl (by decide) ?_
                refine p_lload G 0 rfl dX7_meld_104 ?_
                obtain ⟨v12, hc, h⟩ := bnd_some h
                refine p_callS0 G dX7_meld_106 lk_X7_160 (c_X7_isSetOf (gl Γ) hc) (As := [.long v8]) rfl zk_29 rfl (Nat.le_of_ble_eq_true rfl) ⟨rfl, rfl, Nat.le_of_ble_eq_true rfl, Nat.le_of_ble_eq_true rfl⟩ hcs ?_
                refine p_ifeq (tgt := 123) G dX7_meld_109 (by decide) h (fun c15 h => ?_) (fun c15 h => ?_)
                · refine p_lload G 0 rfl dX7_meld_123 ?_
                  obtain ⟨v13, hc, h⟩ := bnd_some h
                  refine p_callS0 G dX7_meld_125 lk_X7_164 (c_X7_firstOf (gl Γ) hc) (As := [.long v8]) rfl zk_29 rfl (Nat.le_of_ble_eq_true rfl) ⟨rfl, rfl, Nat.le_of_ble_eq_true rfl, Nat.le_of_ble_eq_true rfl⟩ hcs ?_
                  (cases h; exact p_iret G hR dX7_meld_128 rfl rfl)
                · refine p_lload G 0 rfl dX7_meld_112 ?_
                  obtain ⟨v14, hc, h⟩ := bnd_some h
                  refine p_callS0 G dX7_meld_114 lk_X7_155 (c_X7_lowest (gl Γ) hc) (As := [.long v8]) rfl zk_29 rfl (Nat.le_of_ble_eq_true rfl) ⟨rfl, rfl, Nat.le_of_ble_eq_true rfl, Nat.le_of_ble_eq_true rfl⟩ hcs ?_
                  refine p_bipush G (by decide) (by decide) dX7_meld_117 ?_
                  refine p_iremK G dX7_meld_119 (by decide) ?_
                  refine p_goto (tgt := 128) G dX7_meld_120 (by decide) ?_
                  (cases h; exact p_iret G hR dX7_meld_128 rfl rfl)
              · refine p_tout (tgt := 129) G dX7_meld_57 (by omega) (by decide) ?_
                refine p_lload G 0 rfl dX7_meld_129 ?_
                obtain ⟨v16, hc, h⟩ := bnd_some h
                refine p_callS0 G dX7_meld_131 lk_X7_186 (c_X7_pointsOf (gl Γ) hc) (As := [.long v8]) rfl zk_29 rfl (Nat.le_of_ble_eq_true rfl) ⟨rfl, rfl, Nat.le_of_ble_eq_true rfl, Nat.le_of_ble_eq_true rfl⟩ hcs ?_
                (cases h; exact p_iret G hR dX7_meld_134 rfl rfl)
        · refine p_iconst G rfl dX7_meld_46 ?_
          (cases h; exact p_iret G hR dX7_meld_47 rfl rfl)
    · refine p_iconst G rfl dX7_meld_27 ?_
      (cases h; exact p_iret G hR dX7_meld_28 rfl rfl)
set_option maxHeartbeats 4000000 in
set_option maxRecDepth 100000 in
theorem c_X7_restWithout (l : Launch) {D : va_G} {yy : Nat → ClassId} {tk tv a : Nat → Nat} {σ : Mm} {p1 : Int} {o : Mm × Int} (h : x_X7_restWithout σ p1 = some o) : CT l yX7_restWithout cX7_restWithout 2 (some .int) rm_X7_restWithout shW D yy tk tv a σ [.ref (a 0), .int (zJ p1)] o.1 (some (.int (zJ o.2))) := by
  refine ct_of (Ar := fun a tk => [.ref (a 0), .int (zJ p1)]) (by decide) (Nat.le_of_ble_eq_true rfl) (fun Γ G _ _ hR => ?_)
  have hcs := rt_cs hR
  unfold x_X7_restWithout at h
  refine (?_ : PT Γ 2 shW 0 σ [(0, .ref (ga Γ 0)), (1, .int (zJ p1))] [])
  refine p_aload_n G rfl 0 rfl dX7_restWithout_0 ?_
  refine p_iconst G rfl dX7_restWithout_1 ?_
  refine p_putI G dX7_restWithout_2 fp_X7_62 (k := 0) rfl rfl rfl rfl h (fun σ1 h => ?_)
  refine p_aload_n G rfl 0 rfl dX7_restWithout_5 ?_
  refine p_iload_n G rfl 1 rfl dX7_restWithout_6 ?_
  obtain ⟨⟨σ2, v3⟩, hc, h⟩ := bnd_some h
  rw [un2_mk] at h
  refine p_callVi G dX7_restWithout_7 lk_X7_229 (c_X7_noCard (gl Γ) hc) (As := [.int (zJ p1)]) (ci := 7) rfl rfl rfl rfl (Nat.le_of_ble_eq_true rfl) ⟨rfl, rfl, Nat.le_of_ble_eq_true rfl, Nat.le_of_ble_eq_true rfl⟩ hcs ?_
  refine p_ifeq (tgt := 17) G dX7_restWithout_10 (by decide) h (fun c6 h => ?_) (fun c6 h => ?_)
  · refine p_aload_n G rfl 0 rfl dX7_restWithout_17 ?_
    refine p_iload_n G rfl 1 rfl dX7_restWithout_18 ?_
    obtain ⟨⟨σ4, v5⟩, hc, h⟩ := bnd_some h
    rw [un2_mk] at h
    refine p_callVi G dX7_restWithout_19 lk_X7_195 (c_X7_restWithoutCard (gl Γ) hc) (As := [.int (zJ p1)]) (ci := 7) rfl rfl rfl rfl (Nat.le_of_ble_eq_true rfl) ⟨rfl, rfl, Nat.le_of_ble_eq_true rfl, Nat.le_of_ble_eq_true rfl⟩ hcs ?_
    (cases h; exact p_iret G hR dX7_restWithout_22 rfl rfl)
  · refine p_iconst G rfl dX7_restWithout_13 ?_
    refine p_goto (tgt := 22) G dX7_restWithout_14 (by decide) ?_
    (cases h; exact p_iret G hR dX7_restWithout_22 rfl rfl)
set_option maxHeartbeats 4000000 in
set_option maxRecDepth 100000 in
theorem c_X7_canDrop (l : Launch) {D : va_G} {yy : Nat → ClassId} {tk tv a : Nat → Nat} {σ : Mm} {o : Int} (h : x_X7_canDrop σ = some o) : CT l yX7_canDrop cX7_canDrop 1 (some .boolean) rm_X7_canDrop shW D yy tk tv a σ [.ref (a 0)] σ (some (.int (zJ o))) := by
  refine ct_of (Ar := fun a tk => [.ref (a 0)]) (by decide) (Nat.le_of_ble_eq_true rfl) (fun Γ G _ _ hR => ?_)
  have hcs := rt_cs hR
  unfold x_X7_canDrop at h
  refine (?_ : PT Γ 1 shW 0 σ [(0, .ref (ga Γ 0))] [])
  refine p_aload_n G rfl 0 rfl dX7_canDrop_0 ?_
  refine p_get G dX7_canDrop_1 fl_X7_9 (k := 0) rfl rfl ?_
  refine p_bipush G (by decide) (by decide) dX7_canDrop_4 ?_
  refine p_iald G dX7_canDrop_6 (k := 1) rfl (zt_c _) h (fun c1 h => ?_)
  refine p_ifne (tgt := 24) G dX7_canDrop_7 (by decide) h (fun c4 h => ?_) (fun c4 h => ?_)
  · refine p_iconst G rfl dX7_canDrop_24 ?_
    (cases h; exact p_zret G hR dX7_canDrop_25 (by decide) rfl rfl)
  · refine p_aload_n G rfl 0 rfl dX7_canDrop_10 ?_
    refine p_get G dX7_canDrop_11 fl_X7_9 (k := 0) rfl rfl ?_
    refine p_iconst G rfl dX7_canDrop_14 ?_
    refine p_iald G dX7_canDrop_15 (k := 1) rfl (zt_c _) h (fun c2 h => ?_)
    refine p_iconst G rfl dX7_canDrop_16 ?_
    refine p_icmpne (tgt := 24) G dX7_canDrop_17 (by decide) h (fun c3 h => ?_) (fun c3 h => ?_)
    · refine p_iconst G rfl dX7_canDrop_24 ?_
      (cases h; exact p_zret G hR dX7_canDrop_25 (by decide) rfl rfl)
    · refine p_iconst G rfl dX7_canDrop_20 ?_
      refine p_goto (tgt := 25) G dX7_canDrop_21 (by decide) ?_
      (cases h; exact p_zret G hR dX7_canDrop_25 (by decide) rfl rfl)
set_option maxHeartbeats 4000000 in
set_option maxRecDepth 100000 in
theorem c_X7_leastBehind (l : Launch) {D : va_G} {yy : Nat → ClassId} {tk tv a : Nat → Nat} {σ : Mm} {p1 : Int} {o : Mm × Int} (h : x_X7_leastBehind σ p1 = some o) : CT l yX7_leastBehind cX7_leastBehind 6 (some .int) rm_X7_leastBehind shW D yy tk tv a σ [.ref (a 0), .int (zJ p1)] o.1 (some (.int (zJ o.2))) := by
  refine ct_of (Ar := fun a tk => [.ref (a 0), .int (zJ p1)]) (by decide) (Nat.le_of_ble_eq_true rfl) (fun Γ G _ _ hR => ?_)
  have hcs := rt_cs hR
  unfold x_X7_leastBehind at h
  refine (?_ : PT Γ 6 shW 0 σ [(0, .ref (ga Γ 0)), (1, .int (zJ p1))] [])
  refine p_aload_n G rfl 0 rfl dX7_leastBehind_0 ?_
  obtain ⟨⟨σ1, v2⟩, hc, h⟩ := bnd_some h
  rw [un2_mk] at h
  refine p_callVi G dX7_leastBehind_1 lk_X7_130 (c_X7_findRests (gl Γ) hc) (As := []) (ci := 7) rfl rfl rfl rfl (Nat.le_of_ble_eq_true rfl) ⟨rfl, rfl, Nat.le_of_ble_eq_true rfl, Nat.le_of_ble_eq_true rfl⟩ hcs ?_
  refine p_istore_nU (lv' := [(2, .int (zJ v2)), (0, .ref (ga Γ 0)), (1, .int (zJ p1))]) G rfl dX7_leastBehind_4 (by decide) rfl ?_
  refine p_ldcw (x := 2147483647) G gm_1577 (by decide) dX7_leastBehind_5 ?_
  refine p_istore_nU (lv' := [(3, .int (zJ (2147483647 : Int))), (2, .int (zJ v2)), (0, .ref (ga Γ 0)), (1, .int (zJ p1))]) G rfl dX7_leastBehind_8 (by decide) rfl ?_
  refine p_iconst G rfl dX7_leastBehind_9 ?_
  refine p_istoreU (lv' := [(4, .int (zJ (0 : Int))), (3, .int (zJ (2147483647 : Int))), (2, .int (zJ v2)), (0, .ref (ga Γ 0)), (1, .int (zJ p1))]) G dX7_leastBehind_10 (by decide) rfl ?_
  refine p_lv [3, 4, 1, 0] rfl ?_
  obtain ⟨e13, hl12, h⟩ := bnd_some h
  have hX12_73 : ∀ (v14 : Int), v14 = e13 → PT Γ 6 shW 73 σ1 [(3, .int (zJ v14))] [] := by
    intro v14 he
    subst he
    refine p_iload_n G rfl 0 rfl dX7_leastBehind_73 ?_
    (cases h; exact p_iret G hR dX7_leastBehind_74 rfl rfl)
  refine lup_walk (s := ((2147483647 : Int), (0 : Int))) (At := fun s : Int × Int => PT Γ 6 shW 12 σ1 [(0, .ref (ga Γ 0)), (1, .int (zJ p1)), (3, .int (zJ s.1)), (4, .int (zJ s.2))] []) (fun s r hf hin12 hout12 => ?_) hl12
  obtain ⟨u3_12, u4_12⟩ := s
  have h : x_X7_leastBehind_b12 σ1 p1 u3_12 u4_12 = some r := hf
  clear hf
  unfold x_X7_leastBehind_b12 at h
  refine (?_ : PT Γ 6 shW 12 σ1 [(0, .ref (ga Γ 0)), (1, .int (zJ p1)), (3, .int (zJ u3_12)), (4, .int (zJ u4_12))] [])
  refine p_iload G 3 rfl dX7_leastBehind_12 ?_
  refine p_aload_n G rfl 0 rfl dX7_leastBehind_14 ?_
  refine p_get G dX7_leastBehind_15 fl_X7_100 (k := 0) rfl rfl ?_
  refine p_icmpge (tgt := 73) G dX7_leastBehind_18 (by decide) h (fun c11 h => ?_) (fun c11 h => ?_)
  · refine p_lv [2] rfl ?_
    have he := hout12 _ (Option.some.inj h).symm
    subst he
    exact hX12_73 _ rfl
  · refine p_aload_n G rfl 0 rfl dX7_leastBehind_21 ?_
    refine p_get G dX7_leastBehind_22 fl_X7_41 (k := 0) rfl rfl ?_
    refine p_iconst G rfl dX7_leastBehind_25 ?_
    refine p_aload_n G rfl 0 rfl dX7_leastBehind_26 ?_
    refine p_get G dX7_leastBehind_27 fl_X7_100 (k := 0) rfl rfl ?_
    refine p_ishl G dX7_leastBehind_30 ?_
    refine p_iconst G rfl dX7_leastBehind_31 ?_
    refine p_isub G dX7_leastBehind_32 ?_
    refine p_iconst G rfl dX7_leastBehind_33 ?_
    refine p_iload G 3 rfl dX7_leastBehind_34 ?_
    refine p_ishl G dX7_leastBehind_36 ?_
    refine p_iconst G rfl dX7_leastBehind_37 ?_
    refine p_ixor G dX7_leastBehind_38 ?_
    refine p_iand G dX7_leastBehind_39 ?_
    refine p_iald G dX7_leastBehind_40 (k := 22) rfl (zt_c _) h (fun c3 h => ?_)
    refine p_istore (lv' := fun v4 => [(5, .int (zJ v4)), (0, .ref (ga Γ 0)), (1, .int (zJ p1)), (3, .int (zJ u3_12)), (4, .int (zJ u4_12))]) G dX7_leastBehind_41 h (by decide) (fun _ => rfl) (fun v4 h => ?_)
    refine p_aload_n G rfl 1 rfl dX7_leastBehind_43 ?_
    refine p_get G dX7_leastBehind_44 fl_X7_35 (k := 0) rfl rfl ?_
    refine p_iload G 4 rfl dX7_leastBehind_47 ?_
    refine p_iald G dX7_leastBehind_49 (k := 20) rfl (zt_c _) h (fun c5 h => ?_)
    refine p_iload_n G rfl 2 rfl dX7_leastBehind_50 ?_
    refine p_icmpeq (tgt := 65) G dX7_leastBehind_51 (by decide) h (fun c10 h => ?_) (fun c10 h => ?_)
    · refine p_iload_n G rfl 3 rfl dX7_leastBehind_65 ?_
      refine p_istore_nU (lv' := [(3, .int (zJ u3_12)), (5, .int (zJ v4)), (0, .ref (ga Γ 0)), (1, .int (zJ p1)), (4, .int (zJ u4_12))]) G rfl dX7_leastBehind_66 (by decide) rfl ?_
      refine p_iinc (lv' := fun v6 => [(4, .int (zJ v6)), (3, .int (zJ u3_12)), (5, .int (zJ v4)), (0, .ref (ga Γ 0)), (1, .int (zJ p1))]) G dX7_leastBehind_67 h 4 rfl (by decide) (fun _ => rfl) (fun v6 h => ?_)
      refine p_goto (tgt := 12) G dX7_leastBehind_70 (by decide) ?_
      refine p_lv [3, 4, 1, 0] rfl ?_
      exact hin12 _ (Option.some.inj h).symm
    · refine p_iload G 0 rfl dX7_leastBehind_54 ?_
      refine p_iload_n G rfl 3 rfl dX7_leastBehind_56 ?_
      refine p_icmpge (tgt := 65) G dX7_leastBehind_57 (by decide) h (fun c9 h => ?_) (fun c9 h => ?_)
      · refine p_iload_n G rfl 3 rfl dX7_leastBehind_65 ?_
        refine p_istore_nU (lv' := [(3, .int (zJ u3_12)), (5, .int (zJ v4)), (0, .ref (ga Γ 0)), (1, .int (zJ p1)), (4, .int (zJ u4_12))]) G rfl dX7_leastBehind_66 (by decide) rfl ?_
        refine p_iinc (lv' := fun v7 => [(4, .int (zJ v7)), (3, .int (zJ u3_12)), (5, .int (zJ v4)), (0, .ref (ga Γ 0)), (1, .int (zJ p1))]) G dX7_leastBehind_67 h 4 rfl (by decide) (fun _ => rfl) (fun v7 h => ?_)
        refine p_goto (tgt := 12) G dX7_leastBehind_70 (by decide) ?_
        refine p_lv [3, 4, 1, 0] rfl ?_
        exact hin12 _ (Option.some.inj h).symm
      · refine p_iload G 0 rfl dX7_leastBehind_60 ?_
        refine p_goto (tgt := 66) G dX7_leastBehind_62 (by decide) ?_
        refine p_istore_nU (lv' := [(3, .int (zJ v4)), (5, .int (zJ v4)), (0, .ref (ga Γ 0)), (1, .int (zJ p1)), (4, .int (zJ u4_12))]) G rfl dX7_leastBehind_66 (by decide) rfl ?_
        refine p_iinc (lv' := fun v8 => [(4, .int (zJ v8)), (3, .int (zJ v4)), (5, .int (zJ v4)), (0, .ref (ga Γ 0)), (1, .int (zJ p1))]) G dX7_leastBehind_67 h 4 rfl (by decide) (fun _ => rfl) (fun v8 h => ?_)
        refine p_goto (tgt := 12) G dX7_leastBehind_70 (by decide) ?_
        refine p_lv [3, 4, 1, 0] rfl ?_
        exact hin12 _ (Option.some.inj h).symm
set_option maxHeartbeats 4000000 in
set_option maxRecDepth 100000 in
theorem c_X7_bestDrop (l : Launch) {D : va_G} {yy : Nat → ClassId} {tk tv a : Nat → Nat} {σ : Mm} {o : Mm × Int} (h : x_X7_bestDrop σ = some o) : CT l yX7_bestDrop cX7_bestDrop 5 (some .int) rm_X7_bestDrop shW D yy tk tv a σ [.ref (a 0)] o.1 (some (.int (zJ o.2))) := by
  refine ct_of (Ar := fun a tk => [.ref (a 0)]) (by decide) (Nat.le_of_ble_eq_true rfl) (fun Γ G _ _ hR => ?_)
  have hcs := rt_cs hR
  unfold x_X7_bestDrop at h
  refine (?_ : PT Γ 5 shW 0 σ [(0, .ref (ga Γ 0))] [])
  refine p_aload_n G rfl 0 rfl dX7_bestDrop_0 ?_
  refine p_iconst G rfl dX7_bestDrop_1 ?_
  refine p_putI G dX7_bestDrop_2 fp_X7_62 (k := 0) rfl rfl rfl rfl h (fun σ1 h => ?_)
  refine p_aload_n G rfl 0 rfl dX7_bestDrop_5 ?_
  obtain ⟨v2, hc, h⟩ := bnd_some h
  refine p_callVi G dX7_bestDrop_6 lk_X7_353 (c_X7_canDrop (gl Γ) hc) (As := []) (ci := 7) rfl rfl rfl rfl (Nat.le_of_ble_eq_true rfl) ⟨rfl, rfl, Nat.le_of_ble_eq_true rfl, Nat.le_of_ble_eq_true rfl⟩ hcs ?_
  refine p_ifne (tgt := 14) G dX7_bestDrop_9 (by decide) h (fun c31 h => ?_) (fun c31 h => ?_)
  · refine p_aload_n G rfl 0 rfl dX7_bestDrop_14 ?_
    refine p_aload_n G rfl 0 rfl dX7_bestDrop_15 ?_
    refine p_get G dX7_bestDrop_16 fl_X7_9 (k := 0) rfl rfl ?_
    refine p_iconst G rfl dX7_bestDrop_19 ?_
    refine p_iald G dX7_bestDrop_20 (k := 1) rfl (zt_c _) h (fun c3 h => ?_)
    refine p_iconst G rfl dX7_bestDrop_21 ?_
    refine p_iconst G rfl dX7_bestDrop_22 ?_
    obtain ⟨σ4, hc, h⟩ := bnd_some h
    refine p_callVi G dX7_bestDrop_23 lk_X7_148 (c_X7_takeHand (gl Γ) hc) (As := [.int (zJ (σ1 1 (zix (4 : Int)))), .int (zJ (-1 : Int)), .int (zJ (-1 : Int))]) (ci := 7) rfl rfl rfl rfl (Nat.le_of_ble_eq_true rfl) ⟨rfl, rfl, Nat.le_of_ble_eq_true rfl, Nat.le_of_ble_eq_true rfl⟩ hcs ?_
    refine p_aload_n G rfl 0 rfl dX7_bestDrop_26 ?_
    refine p_aload_n G rfl 0 rfl dX7_bestDrop_27 ?_
    refine p_get G dX7_bestDrop_28 fl_X7_9 (k := 0) rfl rfl ?_
    refine p_bipush G (by decide) (by decide) dX7_bestDrop_31 ?_
    refine p_iald G dX7_bestDrop_33 (k := 1) rfl (zt_c _) h (fun c5 h => ?_)
    obtain ⟨⟨σ6, v7⟩, hc, h⟩ := bnd_some h
    rw [un2_mk] at h
    refine p_callVi G dX7_bestDrop_34 lk_X7_356 (c_X7_leastBehind (gl Γ) hc) (As := [.int (zJ (σ4 1 (zix (7 : Int))))]) (ci := 7) rfl rfl rfl rfl (Nat.le_of_ble_eq_true rfl) ⟨rfl, rfl, Nat.le_of_ble_eq_true rfl, Nat.le_of_ble_eq_true rfl⟩ hcs ?_
    refine p_istore_nU (lv' := [(1, .int (zJ v7)), (0, .ref (ga Γ 0))]) G rfl dX7_bestDrop_37 (by decide) rfl ?_
    refine p_iconst G rfl dX7_bestDrop_38 ?_
    refine p_istore_nU (lv' := [(2, .int (zJ (-1 : Int))), (1, .int (zJ v7)), (0, .ref (ga Γ 0))]) G rfl dX7_bestDrop_39 (by decide) rfl ?_
    refine p_iconst G rfl dX7_bestDrop_40 ?_
    refine p_istore_nU (lv' := [(3, .int (zJ (0 : Int))), (2, .int (zJ (-1 : Int))), (1, .int (zJ v7)), (0, .ref (ga Γ 0))]) G rfl dX7_bestDrop_41 (by decide) rfl ?_
    refine p_lv [3, 2, 1, 0] rfl ?_
    obtain ⟨e29, hl42, h⟩ := bnd_some h
    have hX42_139 : ∀ (v30 : Int), v30 = e29 → PT Γ 5 shW 139 σ6 [(2, .int (zJ v30))] [] := by
      intro v30 he
      subst he
      refine p_iload_n G rfl 0 rfl dX7_bestDrop_139 ?_
      (cases h; exact p_iret G hR dX7_bestDrop_140 rfl rfl)
    refine lup_walk (s := ((-1 : Int), (0 : Int))) (At := fun s : Int × Int => PT Γ 5 shW 42 σ6 [(0, .ref (ga Γ 0)), (1, .int (zJ v7)), (2, .int (zJ s.1)), (3, .int (zJ s.2))] []) (fun s r hf hin42 hout42 => ?_) hl42
    obtain ⟨u2_42, u3_42⟩ := s
    have h : x_X7_bestDrop_b42 σ6 v7 u2_42 u3_42 = some r := hf
    clear hf
    have j94 : ∀ (v2_94 : Int) (v3_94 : Int) (w0_94 : Int), x_X7_bestDrop_j94_42 σ6 v7 v2_94 v3_94 w0_94 = some r → PT Γ 5 shW 94 σ6 [(0, .ref (ga Γ 0)), (1, .int (zJ v7)), (2, .int (zJ v2_94)), (3, .int (zJ v3_94))] [.int (zJ w0_94)] := by
      intro v2_94 v3_94 w0_94 h
      unfold x_X7_bestDrop_j94_42 at h
      refine p_istoreU (lv' := [(4, .int (zJ w0_94)), (0, .ref (ga Γ 0)), (1, .int (zJ v7)), (2, .int (zJ v2_94)), (3, .int (zJ v3_94))]) G dX7_bestDrop_94 (by decide) rfl ?_
      refine p_iload G 0 rfl dX7_bestDrop_96 ?_
      refine p_ifeq (tgt := 131) G dX7_bestDrop_98 (by decide) h (fun c23 h => ?_) (fun c23 h => ?_)
      · refine p_iload_n G rfl 3 rfl dX7_bestDrop_131 ?_
        refine p_istore_nU (lv' := [(2, .int (zJ v2_94)), (4, .int (zJ w0_94)), (0, .ref (ga Γ 0)), (1, .int (zJ v7)), (3, .int (zJ v3_94))]) G rfl dX7_bestDrop_132 (by decide) rfl ?_
        refine p_iinc (lv' := fun v10 => [(3, .int (zJ v10)), (2, .int (zJ v2_94)), (4, .int (zJ w0_94)), (0, .ref (ga Γ 0)), (1, .int (zJ v7))]) G dX7_bestDrop_133 h 4 rfl (by decide) (fun _ => rfl) (fun v10 h => ?_)
        refine p_goto (tgt := 42) G dX7_bestDrop_136 (by decide) ?_
        refine p_lv [3, 4, 1, 0] rfl ?_
        exact hin42 _ (Option.some.inj h).symm
      · refine p_iload_n G rfl 3 rfl dX7_bestDrop_101 ?_
        refine p_iconst G rfl dX7_bestDrop_102 ?_
        refine p_icmpeq (tgt := 122) G dX7_bestDrop_103 (by decide) h (fun c22 h => ?_) (fun c22 h => ?_)
        · refine p_aload_n G rfl 1 rfl dX7_bestDrop_122 ?_
          refine p_get G dX7_bestDrop_123 fl_X7_35 (k := 0) rfl rfl ?_
          refine p_iload_n G rfl 4 rfl dX7_bestDrop_126 ?_
          refine p_iald G dX7_bestDrop_127 (k := 20) rfl (zt_c _) h (fun c11 h => ?_)
          refine p_goto (tgt := 132) G dX7_bestDrop_128 (by decide) ?_
          refine p_istore_n (lv' := fun v12 => [(2, .int (zJ v12)), (4, .int (zJ w0_94)), (0, .ref (ga Γ 0)), (1, .int (zJ v7)), (3, .int (zJ v3_94))]) G rfl dX7_bestDrop_132 h (by decide) (fun _ => rfl) (fun v12 h => ?_)
          refine p_iinc (lv' := fun v13 => [(3, .int (zJ v13)), (2, .int (zJ v12)), (4, .int (zJ w0_94)), (0, .ref (ga Γ 0)), (1, .int (zJ v7))]) G dX7_bestDrop_133 h 4 rfl (by decide) (fun _ => rfl) (fun v13 h => ?_)
          refine p_goto (tgt := 42) G dX7_bestDrop_136 (by decide) ?_
          refine p_lv [3, 4, 1, 0] rfl ?_
          exact hin42 _ (Option.some.inj h).symm
        · refine p_aload_n G rfl 1 rfl dX7_bestDrop_106 ?_
          refine p_get G dX7_bestDrop_107 fl_X7_35 (k := 0) rfl rfl ?_
          refine p_iload_n G rfl 4 rfl dX7_bestDrop_110 ?_
          refine p_iald G dX7_bestDrop_111 (k := 20) rfl (zt_c _) h (fun c14 h => ?_)
          obtain ⟨v15, hc, h⟩ := bnd_some h
          refine p_callS0 G dX7_bestDrop_112 lk_X7_80 (c_X7_points (gl Γ) hc) (As := [.int (zJ (σ6 20 (zix v3_94)))]) rfl zk_29 rfl (Nat.le_of_ble_eq_true rfl) ⟨rfl, rfl, Nat.le_of_ble_eq_true rfl, Nat.le_of_ble_eq_true rfl⟩ hcs ?_
          refine p_iload_n G rfl 3 rfl dX7_bestDrop_115 ?_
          obtain ⟨v16, hc, h⟩ := bnd_some h
          refine p_callS0 G dX7_bestDrop_116 lk_X7_80 (c_X7_points (gl Γ) hc) (As := [.int (zJ v2_94)]) rfl zk_29 rfl (Nat.le_of_ble_eq_true rfl) ⟨rfl, rfl, Nat.le_of_ble_eq_true rfl, Nat.le_of_ble_eq_true rfl⟩ hcs ?_
          refine p_icmple (tgt := 131) G dX7_bestDrop_119 (by decide) h (fun c21 h => ?_) (fun c21 h => ?_)
          · refine p_iload_n G rfl 3 rfl dX7_bestDrop_131 ?_
            refine p_istore_nU (lv' := [(2, .int (zJ v2_94)), (4, .int (zJ w0_94)), (0, .ref (ga Γ 0)), (1, .int (zJ v7)), (3, .int (zJ v3_94))]) G rfl dX7_bestDrop_132 (by decide) rfl ?_
            refine p_iinc (lv' := fun v17 => [(3, .int (zJ v17)), (2, .int (zJ v2_94)), (4, .int (zJ w0_94)), (0, .ref (ga Γ 0)), (1, .int (zJ v7))]) G dX7_bestDrop_133 h 4 rfl (by decide) (fun _ => rfl) (fun v17 h => ?_)
            refine p_goto (tgt := 42) G dX7_bestDrop_136 (by decide) ?_
            refine p_lv [3, 4, 1, 0] rfl ?_
            exact hin42 _ (Option.some.inj h).symm
          · refine p_aload_n G rfl 1 rfl dX7_bestDrop_122 ?_
            refine p_get G dX7_bestDrop_123 fl_X7_35 (k := 0) rfl rfl ?_
            refine p_iload_n G rfl 4 rfl dX7_bestDrop_126 ?_
            refine p_iald G dX7_bestDrop_127 (k := 20) rfl (zt_c _) h (fun c18 h => ?_)
            refine p_goto (tgt := 132) G dX7_bestDrop_128 (by decide) ?_
            refine p_istore_n (lv' := fun v19 => [(2, .int (zJ v19)), (4, .int (zJ w0_94)), (0, .ref (ga Γ 0)), (1, .int (zJ v7)), (3, .int (zJ v3_94))]) G rfl dX7_bestDrop_132 h (by decide) (fun _ => rfl) (fun v19 h => ?_)
            refine p_iinc (lv' := fun v20 => [(3, .int (zJ v20)), (2, .int (zJ v19)), (4, .int (zJ w0_94)), (0, .ref (ga Γ 0)), (1, .int (zJ v7))]) G dX7_bestDrop_133 h 4 rfl (by decide) (fun _ => rfl) (fun v20 h => ?_)
            refine p_goto (tgt := 42) G dX7_bestDrop_136 (by decide) ?_
            refine p_lv [3, 4, 1, 0] rfl ?_
            exact hin42 _ (Option.some.inj h).symm
    have j93 : ∀ (v2_93 : Int) (v3_93 : Int), x_X7_bestDrop_j93_42 σ6 v7 v2_93 v3_93 = some r → PT Γ 5 shW 93 σ6 [(0, .ref (ga Γ 0)), (1, .int (zJ v7)), (2, .int (zJ v2_93)), (3, .int (zJ v3_93))] [] := by
      intro v2_93 v3_93 h
      unfold x_X7_bestDrop_j93_42 at h
      refine p_iconst G rfl dX7_bestDrop_93 ?_
      exact j94 _ _ _ h
    unfold x_X7_bestDrop_b42 at h
    refine (?_ : PT Γ 5 shW 42 σ6 [(0, .ref (ga Γ 0)), (1, .int (zJ v7)), (2, .int (zJ u2_42)), (3, .int (zJ u3_42))] [])
    refine p_iload_n G rfl 3 rfl dX7_bestDrop_42 ?_
    refine p_aload_n G rfl 0 rfl dX7_bestDrop_43 ?_
    refine p_get G dX7_bestDrop_44 fl_X7_100 (k := 0) rfl rfl ?_
    refine p_icmpge (tgt := 139) G dX7_bestDrop_47 (by decide) h (fun c27 h => ?_) (fun c27 h => ?_)
    · refine p_lv [2] rfl ?_
      have he := hout42 _ (Option.some.inj h).symm
      subst he
      exact hX42_139 _ rfl
    · refine p_aload_n G rfl 0 rfl dX7_bestDrop_50 ?_
      refine p_get G dX7_bestDrop_51 fl_X7_35 (k := 0) rfl rfl ?_
      refine p_iload_n G rfl 3 rfl dX7_bestDrop_54 ?_
      refine p_iald G dX7_bestDrop_55 (k := 20) rfl (zt_c _) h (fun c8 h => ?_)
      refine p_aload_n G rfl 0 rfl dX7_bestDrop_56 ?_
      refine p_get G dX7_bestDrop_57 fl_X7_9 (k := 0) rfl rfl ?_
      refine p_bipush G (by decide) (by decide) dX7_bestDrop_60 ?_
      refine p_iald G dX7_bestDrop_62 (k := 1) rfl (zt_c _) h (fun c9 h => ?_)
      refine p_icmpeq (tgt := 93) G dX7_bestDrop_63 (by decide) h (fun c26 h => ?_) (fun c26 h => ?_)
      · exact j93 _ _ h
      · refine p_aload_n G rfl 0 rfl dX7_bestDrop_66 ?_
        refine p_get G dX7_bestDrop_67 fl_X7_41 (k := 0) rfl rfl ?_
        refine p_iconst G rfl dX7_bestDrop_70 ?_
        refine p_aload_n G rfl 0 rfl dX7_bestDrop_71 ?_
        refine p_get G dX7_bestDrop_72 fl_X7_100 (k := 0) rfl rfl ?_
        refine p_ishl G dX7_bestDrop_75 ?_
        refine p_iconst G rfl dX7_bestDrop_76 ?_
        refine p_isub G dX7_bestDrop_77 ?_
        refine p_iconst G rfl dX7_bestDrop_78 ?_
        refine p_iload_n G rfl 3 rfl dX7_bestDrop_79 ?_
        refine p_ishl G dX7_bestDrop_80 ?_
        refine p_iconst G rfl dX7_bestDrop_81 ?_
        refine p_ixor G dX7_bestDrop_82 ?_
        refine p_iand G dX7_bestDrop_83 ?_
        refine p_iald G dX7_bestDrop_84 (k := 22) rfl (zt_c _) h (fun c24 h => ?_)
        refine p_iload_n G rfl 1 rfl dX7_bestDrop_85 ?_
        refine p_icmpne (tgt := 93) G dX7_bestDrop_86 (by decide) h (fun c25 h => ?_) (fun c25 h => ?_)
        · exact j93 _ _ h
        · refine p_iconst G rfl dX7_bestDrop_89 ?_
          refine p_goto (tgt := 94) G dX7_bestDrop_90 (by decide) ?_
          exact j94 _ _ _ h
  · refine p_iconst G rfl dX7_bestDrop_12 ?_
    (cases h; exact p_iret G hR dX7_bestDrop_13 rfl rfl)
set_option maxHeartbeats 4000000 in
set_option maxRecDepth 100000 in
theorem c_X7_restByPile (l : Launch) {D : va_G} {yy : Nat → ClassId} {tk tv a : Nat → Nat} {σ : Mm} {o : Mm × Int} (h : x_X7_restByPile σ = some o) : CT l yX7_restByPile cX7_restByPile 1 (some .int) rm_X7_restByPile shW D yy tk tv a σ [.ref (a 0)] o.1 (some (.int (zJ o.2))) := by
  refine ct_of (Ar := fun a tk => [.ref (a 0)]) (by decide) (Nat.le_of_ble_eq_true rfl) (fun Γ G _ _ hR => ?_)
  have hcs := rt_cs hR
  unfold x_X7_restByPile at h
  refine (?_ : PT Γ 1 shW 0 σ [(0, .ref (ga Γ 0))] [])
  refine p_aload_n G rfl 0 rfl dX7_restByPile_0 ?_
  refine p_iconst G rfl dX7_restByPile_1 ?_
  refine p_putI G dX7_restByPile_2 fp_X7_62 (k := 0) rfl rfl rfl rfl h (fun σ1 h => ?_)
  refine p_aload_n G rfl 0 rfl dX7_restByPile_5 ?_
  obtain ⟨v2, hc, h⟩ := bnd_some h
  refine p_callVi G dX7_restByPile_6 lk_X7_218 (c_X7_noDraw (gl Γ) hc) (As := []) (ci := 7) rfl rfl rfl rfl (Nat.le_of_ble_eq_true rfl) ⟨rfl, rfl, Nat.le_of_ble_eq_true rfl, Nat.le_of_ble_eq_true rfl⟩ hcs ?_
  refine p_ifne (tgt := 22) G dX7_restByPile_9 (by decide) h (fun c11 h => ?_) (fun c11 h => ?_)
  · refine p_iconst G rfl dX7_restByPile_22 ?_
    (cases h; exact p_iret G hR dX7_restByPile_23 rfl rfl)
  · refine p_aload_n G rfl 0 rfl dX7_restByPile_12 ?_
    refine p_get G dX7_restByPile_13 fl_X7_9 (k := 0) rfl rfl ?_
    refine p_bipush G (by decide) (by decide) dX7_restByPile_16 ?_
    refine p_iald G dX7_restByPile_18 (k := 1) rfl (zt_c _) h (fun c3 h => ?_)
    refine p_ifne (tgt := 24) G dX7_restByPile_19 (by decide) h (fun c10 h => ?_) (fun c10 h => ?_)
    · refine p_aload_n G rfl 0 rfl dX7_restByPile_24 ?_
      refine p_aload_n G rfl 0 rfl dX7_restByPile_25 ?_
      refine p_get G dX7_restByPile_26 fl_X7_9 (k := 0) rfl rfl ?_
      refine p_iconst G rfl dX7_restByPile_29 ?_
      refine p_iald G dX7_restByPile_30 (k := 1) rfl (zt_c _) h (fun c4 h => ?_)
      refine p_iconst G rfl dX7_restByPile_31 ?_
      refine p_aload_n G rfl 0 rfl dX7_restByPile_32 ?_
      obtain ⟨v5, hc, h⟩ := bnd_some h
      refine p_callVi G dX7_restByPile_33 lk_X7_198 (c_X7_topOfPile (gl Γ) hc) (As := []) (ci := 7) rfl rfl rfl rfl (Nat.le_of_ble_eq_true rfl) ⟨rfl, rfl, Nat.le_of_ble_eq_true rfl, Nat.le_of_ble_eq_true rfl⟩ hcs ?_
      obtain ⟨σ6, hc, h⟩ := bnd_some h
      refine p_callVi G dX7_restByPile_36 lk_X7_148 (c_X7_takeHand (gl Γ) hc) (As := [.int (zJ (σ1 1 (zix (4 : Int)))), .int (zJ (-1 : Int)), .int (zJ v5)]) (ci := 7) rfl rfl rfl rfl (Nat.le_of_ble_eq_true rfl) ⟨rfl, rfl, Nat.le_of_ble_eq_true rfl, Nat.le_of_ble_eq_true rfl⟩ hcs ?_
      refine p_aload_n G rfl 0 rfl dX7_restByPile_39 ?_
      refine p_aload_n G rfl 0 rfl dX7_restByPile_40 ?_
      obtain ⟨v7, hc, h⟩ := bnd_some h
      refine p_callVi G dX7_restByPile_41 lk_X7_198 (c_X7_topOfPile (gl Γ) hc) (As := []) (ci := 7) rfl rfl rfl rfl (Nat.le_of_ble_eq_true rfl) ⟨rfl, rfl, Nat.le_of_ble_eq_true rfl, Nat.le_of_ble_eq_true rfl⟩ hcs ?_
      obtain ⟨⟨σ8, v9⟩, hc, h⟩ := bnd_some h
      rw [un2_mk] at h
      refine p_callVi G dX7_restByPile_44 lk_X7_356 (c_X7_leastBehind (gl Γ) hc) (As := [.int (zJ v7)]) (ci := 7) rfl rfl rfl rfl (Nat.le_of_ble_eq_true rfl) ⟨rfl, rfl, Nat.le_of_ble_eq_true rfl, Nat.le_of_ble_eq_true rfl⟩ hcs ?_
      (cases h; exact p_iret G hR dX7_restByPile_47 rfl rfl)
    · refine p_iconst G rfl dX7_restByPile_22 ?_
      (cases h; exact p_iret G hR dX7_restByPile_23 rfl rfl)
set_option maxHeartbeats 4000000 in
set_option maxRecDepth 100000 in
theorem c_X7_helping (l : Launch) {D : va_G} {yy : Nat → ClassId} {tk tv a : Nat → Nat} {σ : Mm} {p1 : Int} {o : Mm × Int} (h : x_X7_helping σ p1 = some o) : CT l yX7_helping cX7_helping 5 (some .int) rm_X7_helping shW D yy tk tv a σ [.ref (a 0), .int (zJ p1)] o.1 (some (.int (zJ o.2))) := by
  refine ct_of (Ar := fun a tk => [.ref (a 0), .int (zJ p1)]) (by decide) (Nat.le_of_ble_eq_true rfl) (fun Γ G _ _ hR => ?_)
  have hcs := rt_cs hR
  unfold x_X7_helping at h
  refine (?_ : PT Γ 5 shW 0 σ [(0, .ref (ga Γ 0)), (1, .int (zJ p1))] [])
  refine p_aload_n G rfl 0 rfl dX7_helping_0 ?_
  refine p_iconst G rfl dX7_helping_1 ?_
  refine p_putI G dX7_helping_2 fp_X7_62 (k := 0) rfl rfl rfl rfl h (fun σ1 h => ?_)
  refine p_aload_n G rfl 0 rfl dX7_helping_5 ?_
  refine p_iload_n G rfl 1 rfl dX7_helping_6 ?_
  obtain ⟨⟨σ2, v3⟩, hc, h⟩ := bnd_some h
  rw [un2_mk] at h
  refine p_callVi G dX7_helping_7 lk_X7_338 (c_X7_noPlayer (gl Γ) hc) (As := [.int (zJ p1)]) (ci := 7) rfl rfl rfl rfl (Nat.le_of_ble_eq_true rfl) ⟨rfl, rfl, Nat.le_of_ble_eq_true rfl, Nat.le_of_ble_eq_true rfl⟩ hcs ?_
  refine p_ifeq (tgt := 15) G dX7_helping_10 (by decide) h (fun c25 h => ?_) (fun c25 h => ?_)
  · refine p_aload_n G rfl 0 rfl dX7_helping_15 ?_
    refine p_iload_n G rfl 1 rfl dX7_helping_16 ?_
    refine p_iconst G rfl dX7_helping_17 ?_
    refine p_iconst G rfl dX7_helping_18 ?_
    obtain ⟨σ4, hc, h⟩ := bnd_some h
    refine p_callVi G dX7_helping_19 lk_X7_148 (c_X7_takeHand (gl Γ) hc) (As := [.int (zJ p1), .int (zJ (-1 : Int)), .int (zJ (-1 : Int))]) (ci := 7) rfl rfl rfl rfl (Nat.le_of_ble_eq_true rfl) ⟨rfl, rfl, Nat.le_of_ble_eq_true rfl, Nat.le_of_ble_eq_true rfl⟩ hcs ?_
    refine p_aload_n G rfl 0 rfl dX7_helping_22 ?_
    refine p_get G dX7_helping_23 fl_X7_100 (k := 0) rfl rfl ?_
    refine p_aload_n G rfl 0 rfl dX7_helping_26 ?_
    refine p_get G dX7_helping_27 fl_X7_9 (k := 0) rfl rfl ?_
    refine p_iconst G rfl dX7_helping_30 ?_
    refine p_iald G dX7_helping_31 (k := 1) rfl (zt_c _) h (fun c5 h => ?_)
    refine p_icmple (tgt := 37) G dX7_helping_32 (by decide) h (fun c24 h => ?_) (fun c24 h => ?_)
    · refine p_aload_n G rfl 0 rfl dX7_helping_37 ?_
      obtain ⟨⟨σ6, v7⟩, hc, h⟩ := bnd_some h
      rw [un2_mk] at h
      refine p_callVi G dX7_helping_38 lk_X7_130 (c_X7_findRests (gl Γ) hc) (As := []) (ci := 7) rfl rfl rfl rfl (Nat.le_of_ble_eq_true rfl) ⟨rfl, rfl, Nat.le_of_ble_eq_true rfl, Nat.le_of_ble_eq_true rfl⟩ hcs ?_
      refine p_istore_nU (lv' := [(2, .int (zJ v7)), (0, .ref (ga Γ 0)), (1, .int (zJ p1))]) G rfl dX7_helping_41 (by decide) rfl ?_
      refine p_iconst G rfl dX7_helping_42 ?_
      refine p_istore_nU (lv' := [(3, .int (zJ (0 : Int))), (2, .int (zJ v7)), (0, .ref (ga Γ 0)), (1, .int (zJ p1))]) G rfl dX7_helping_43 (by decide) rfl ?_
      refine p_iconst G rfl dX7_helping_44 ?_
      refine p_istoreU (lv' := [(4, .int (zJ (0 : Int))), (3, .int (zJ (0 : Int))), (2, .int (zJ v7)), (0, .ref (ga Γ 0)), (1, .int (zJ p1))]) G dX7_helping_45 (by decide) rfl ?_
      refine p_lv [3, 4, 2, 1, 0] rfl ?_
      obtain ⟨e21, hl47, h⟩ := bnd_some h
      have hX47_96 : ∀ (σ22 : Mm) (v23 : Int), (σ22, v23) = e21 → PT Γ 5 shW 96 σ22 [(3, .int (zJ v23))] [] := by
        intro σ22 v23 he
        subst he
        rw [un2_mk] at h
        refine p_iload_n G rfl 0 rfl dX7_helping_96 ?_
        (cases h; exact p_iret G hR dX7_helping_97 rfl rfl)
      refine lup_walk (s := (σ6, (0 : Int), (0 : Int))) (At := fun s : Mm × Int × Int => PT Γ 5 shW 47 s.1 [(0, .ref (ga Γ 0)), (1, .int (zJ p1)), (2, .int (zJ v7)), (3, .int (zJ s.2.1)), (4, .int (zJ s.2.2))] []) (fun s r hf hin47 hout47 => ?_) hl47
      obtain ⟨σ47, u3_47, u4_47⟩ := s
      have h : x_X7_helping_b47 p1 v7 σ47 u3_47 u4_47 = some r := hf
      clear hf
      unfold x_X7_helping_b47 at h
      refine (?_ : PT Γ 5 shW 47 σ47 [(0, .ref (ga Γ 0)), (1, .int (zJ p1)), (2, .int (zJ v7)), (3, .int (zJ u3_47)), (4, .int (zJ u4_47))] [])
      refine p_iload G 4 rfl dX7_helping_47 ?_
      refine p_bipush G (by decide) (by decide) dX7_helping_49 ?_
      refine p_icmpge (tgt := 96) G dX7_helping_51 (by decide) h (fun c19 h => ?_) (fun c19 h => ?_)
      · refine p_lv [3] rfl ?_
        have he := hout47 _ (Option.some.inj h).symm
        subst he
        exact hX47_96 _ _ rfl
      · refine p_aload_n G rfl 0 rfl dX7_helping_54 ?_
        refine p_iload_n G rfl 1 rfl dX7_helping_55 ?_
        refine p_iload G 4 rfl dX7_helping_56 ?_
        obtain ⟨v8, hc, h⟩ := bnd_some h
        refine p_callVi G dX7_helping_58 lk_X7_76 (c_X7_owns (gl Γ) hc) (As := [.int (zJ p1), .int (zJ u4_47)]) (ci := 7) rfl rfl rfl rfl (Nat.le_of_ble_eq_true rfl) ⟨rfl, rfl, Nat.le_of_ble_eq_true rfl, Nat.le_of_ble_eq_true rfl⟩ hcs ?_
        refine p_ifne (tgt := 90) G dX7_helping_61 (by decide) h (fun c18 h => ?_) (fun c18 h => ?_)
        · refine p_iinc (lv' := fun v9 => [(4, .int (zJ v9)), (0, .ref (ga Γ 0)), (1, .int (zJ p1)), (2, .int (zJ v7)), (3, .int (zJ u3_47))]) G dX7_helping_90 h 4 rfl (by decide) (fun _ => rfl) (fun v9 h => ?_)
          refine p_goto (tgt := 47) G dX7_helping_93 (by decide) ?_
          refine p_lv [1, 2, 3, 4, 0] rfl ?_
          exact hin47 _ (Option.some.inj h).symm
        · refine p_aload_n G rfl 0 rfl dX7_helping_64 ?_
          refine p_iload_n G rfl 1 rfl dX7_helping_65 ?_
          refine p_iconst G rfl dX7_helping_66 ?_
          refine p_iload G 4 rfl dX7_helping_67 ?_
          obtain ⟨σ10, hc, h⟩ := bnd_some h
          refine p_callVi G dX7_helping_69 lk_X7_148 (c_X7_takeHand (gl Γ) hc) (As := [.int (zJ p1), .int (zJ (-1 : Int)), .int (zJ u4_47)]) (ci := 7) rfl rfl rfl rfl (Nat.le_of_ble_eq_true rfl) ⟨rfl, rfl, Nat.le_of_ble_eq_true rfl, Nat.le_of_ble_eq_true rfl⟩ hcs ?_
          refine p_iload_n G rfl 3 rfl dX7_helping_72 ?_
          refine p_aload_n G rfl 0 rfl dX7_helping_73 ?_
          refine p_iload G 4 rfl dX7_helping_74 ?_
          obtain ⟨⟨σ11, v12⟩, hc, h⟩ := bnd_some h
          rw [un2_mk] at h
          refine p_callVi G dX7_helping_76 lk_X7_356 (c_X7_leastBehind (gl Γ) hc) (As := [.int (zJ u4_47)]) (ci := 7) rfl rfl rfl rfl (Nat.le_of_ble_eq_true rfl) ⟨rfl, rfl, Nat.le_of_ble_eq_true rfl, Nat.le_of_ble_eq_true rfl⟩ hcs ?_
          refine p_iload_n G rfl 2 rfl dX7_helping_79 ?_
          refine p_icmpge (tgt := 87) G dX7_helping_80 (by decide) h (fun c17 h => ?_) (fun c17 h => ?_)
          · refine p_iconst G rfl dX7_helping_87 ?_
            refine p_iadd G dX7_helping_88 ?_
            refine p_istore_n (lv' := fun v13 => [(3, .int (zJ v13)), (0, .ref (ga Γ 0)), (1, .int (zJ p1)), (2, .int (zJ v7)), (4, .int (zJ u4_47))]) G rfl dX7_helping_89 h (by decide) (fun _ => rfl) (fun v13 h => ?_)
            refine p_iinc (lv' := fun v14 => [(4, .int (zJ v14)), (3, .int (zJ v13)), (0, .ref (ga Γ 0)), (1, .int (zJ p1)), (2, .int (zJ v7))]) G dX7_helping_90 h 4 rfl (by decide) (fun _ => rfl) (fun v14 h => ?_)
            refine p_goto (tgt := 47) G dX7_helping_93 (by decide) ?_
            refine p_lv [2, 3, 4, 1, 0] rfl ?_
            exact hin47 _ (Option.some.inj h).symm
          · refine p_iconst G rfl dX7_helping_83 ?_
            refine p_goto (tgt := 88) G dX7_helping_84 (by decide) ?_
            refine p_iadd G dX7_helping_88 ?_
            refine p_istore_n (lv' := fun v15 => [(3, .int (zJ v15)), (0, .ref (ga Γ 0)), (1, .int (zJ p1)), (2, .int (zJ v7)), (4, .int (zJ u4_47))]) G rfl dX7_helping_89 h (by decide) (fun _ => rfl) (fun v15 h => ?_)
            refine p_iinc (lv' := fun v16 => [(4, .int (zJ v16)), (3, .int (zJ v15)), (0, .ref (ga Γ 0)), (1, .int (zJ p1)), (2, .int (zJ v7))]) G dX7_helping_90 h 4 rfl (by decide) (fun _ => rfl) (fun v16 h => ?_)
            refine p_goto (tgt := 47) G dX7_helping_93 (by decide) ?_
            refine p_lv [2, 3, 4, 1, 0] rfl ?_
            exact hin47 _ (Option.some.inj h).symm
    · refine p_iconst G rfl dX7_helping_35 ?_
      (cases h; exact p_iret G hR dX7_helping_36 rfl rfl)
  · refine p_iconst G rfl dX7_helping_13 ?_
    (cases h; exact p_iret G hR dX7_helping_14 rfl rfl)
set_option maxHeartbeats 4000000 in
set_option maxRecDepth 100000 in
theorem c_X7_ifKnock (l : Launch) {D : va_G} {yy : Nat → ClassId} {tk tv a : Nat → Nat} {σ : Mm} {p1 : Int} {p2 : Int} {o : Mm × Int} (h : x_X7_ifKnock σ p1 p2 = some o) : CT l yX7_ifKnock cX7_ifKnock 3 (some .int) rm_X7_ifKnock shW D yy tk tv a σ [.ref (a 0), .int (zJ p1), .int (zJ p2)] o.1 (some (.int (zJ o.2))) := by
  refine ct_of (Ar := fun a tk => [.ref (a 0), .int (zJ p1), .int (zJ p2)]) (by decide) (Nat.le_of_ble_eq_true rfl) (fun Γ G _ _ hR => ?_)
  have hcs := rt_cs hR
  unfold x_X7_ifKnock at h
  refine (?_ : PT Γ 3 shW 0 σ [(0, .ref (ga Γ 0)), (1, .int (zJ p1)), (2, .int (zJ p2))] [])
  refine p_aload_n G rfl 0 rfl dX7_ifKnock_0 ?_
  refine p_iconst G rfl dX7_ifKnock_1 ?_
  refine p_putI G dX7_ifKnock_2 fp_X7_62 (k := 0) rfl rfl rfl rfl h (fun σ1 h => ?_)
  refine p_aload_n G rfl 0 rfl dX7_ifKnock_5 ?_
  refine p_iload_n G rfl 1 rfl dX7_ifKnock_6 ?_
  obtain ⟨⟨σ2, v3⟩, hc, h⟩ := bnd_some h
  rw [un2_mk] at h
  refine p_callVi G dX7_ifKnock_7 lk_X7_229 (c_X7_noCard (gl Γ) hc) (As := [.int (zJ p1)]) (ci := 7) rfl rfl rfl rfl (Nat.le_of_ble_eq_true rfl) ⟨rfl, rfl, Nat.le_of_ble_eq_true rfl, Nat.le_of_ble_eq_true rfl⟩ hcs ?_
  refine p_ifne (tgt := 27) G dX7_ifKnock_10 (by decide) h (fun c15 h => ?_) (fun c15 h => ?_)
  · refine p_iconst G rfl dX7_ifKnock_27 ?_
    (cases h; exact p_iret G hR dX7_ifKnock_28 rfl rfl)
  · refine p_aload_n G rfl 0 rfl dX7_ifKnock_13 ?_
    refine p_iload_n G rfl 2 rfl dX7_ifKnock_14 ?_
    refine p_i2l G dX7_ifKnock_15 ?_
    refine p_lconst G (v := 0) (by decide) dX7_ifKnock_16 ?_
    refine p_ldc2 G gm_1560 dX7_ifKnock_17 ?_
    refine p_iconst G rfl dX7_ifKnock_20 ?_
    obtain ⟨⟨σ4, v5⟩, hc, h⟩ := bnd_some h
    rw [un2_mk] at h
    refine p_callVi G dX7_ifKnock_21 lk_X7_72 (c_X7_bad (gl Γ) hc) (As := [.long (zi2l p2), .long (0 : Int64), .long (3 : Int64), .int (zJ (2 : Int))]) (ci := 7) rfl rfl rfl rfl (Nat.le_of_ble_eq_true rfl) ⟨rfl, rfl, Nat.le_of_ble_eq_true rfl, Nat.le_of_ble_eq_true rfl⟩ hcs ?_
    refine p_ifeq (tgt := 29) G dX7_ifKnock_24 (by decide) h (fun c14 h => ?_) (fun c14 h => ?_)
    · refine p_iload_n G rfl 2 rfl dX7_ifKnock_29 ?_
      refine p_ifne (tgt := 39) G dX7_ifKnock_30 (by decide) h (fun c13 h => ?_) (fun c13 h => ?_)
      · refine p_aload_n G rfl 0 rfl dX7_ifKnock_39 ?_
        obtain ⟨v6, hc, h⟩ := bnd_some h
        refine p_callVi G dX7_ifKnock_40 lk_X7_353 (c_X7_canDrop (gl Γ) hc) (As := []) (ci := 7) rfl rfl rfl rfl (Nat.le_of_ble_eq_true rfl) ⟨rfl, rfl, Nat.le_of_ble_eq_true rfl, Nat.le_of_ble_eq_true rfl⟩ hcs ?_
        refine p_ifne (tgt := 48) G dX7_ifKnock_43 (by decide) h (fun c10 h => ?_) (fun c10 h => ?_)
        · refine p_aload_n G rfl 0 rfl dX7_ifKnock_48 ?_
          refine p_iload_n G rfl 1 rfl dX7_ifKnock_49 ?_
          obtain ⟨σ7, hc, h⟩ := bnd_some h
          refine p_callVi G dX7_ifKnock_50 lk_X7_211 (c_X7_findKnock (gl Γ) hc) (As := [.int (zJ p1)]) (ci := 7) rfl rfl rfl rfl (Nat.le_of_ble_eq_true rfl) ⟨rfl, rfl, Nat.le_of_ble_eq_true rfl, Nat.le_of_ble_eq_true rfl⟩ hcs ?_
          refine p_iload_n G rfl 2 rfl dX7_ifKnock_53 ?_
          refine p_iconst G rfl dX7_ifKnock_54 ?_
          refine p_icmpne (tgt := 65) G dX7_ifKnock_55 (by decide) h (fun c9 h => ?_) (fun c9 h => ?_)
          · refine p_iload_n G rfl 2 rfl dX7_ifKnock_65 ?_
            refine p_iconst G rfl dX7_ifKnock_66 ?_
            refine p_icmpne (tgt := 77) G dX7_ifKnock_67 (by decide) h (fun c8 h => ?_) (fun c8 h => ?_)
            · refine p_aload_n G rfl 0 rfl dX7_ifKnock_77 ?_
              refine p_get G dX7_ifKnock_78 fl_X7_180 (k := 0) rfl rfl ?_
              (cases h; exact p_iret G hR dX7_ifKnock_81 rfl rfl)
            · refine p_aload_n G rfl 0 rfl dX7_ifKnock_70 ?_
              refine p_get G dX7_ifKnock_71 fl_X7_189 (k := 0) rfl rfl ?_
              refine p_goto (tgt := 81) G dX7_ifKnock_74 (by decide) ?_
              (cases h; exact p_iret G hR dX7_ifKnock_81 rfl rfl)
          · refine p_aload_n G rfl 0 rfl dX7_ifKnock_58 ?_
            refine p_get G dX7_ifKnock_59 fl_X7_174 (k := 0) rfl rfl ?_
            refine p_goto (tgt := 81) G dX7_ifKnock_62 (by decide) ?_
            (cases h; exact p_iret G hR dX7_ifKnock_81 rfl rfl)
        · refine p_iconst G rfl dX7_ifKnock_46 ?_
          (cases h; exact p_iret G hR dX7_ifKnock_47 rfl rfl)
      · refine p_aload_n G rfl 0 rfl dX7_ifKnock_33 ?_
        refine p_iload_n G rfl 1 rfl dX7_ifKnock_34 ?_
        obtain ⟨⟨σ11, v12⟩, hc, h⟩ := bnd_some h
        rw [un2_mk] at h
        refine p_callVi G dX7_ifKnock_35 lk_X7_235 (c_X7_noKnock (gl Γ) hc) (As := [.int (zJ p1)]) (ci := 7) rfl rfl rfl rfl (Nat.le_of_ble_eq_true rfl) ⟨rfl, rfl, Nat.le_of_ble_eq_true rfl, Nat.le_of_ble_eq_true rfl⟩ hcs ?_
        (cases h; exact p_iret G hR dX7_ifKnock_38 rfl rfl)
    · refine p_iconst G rfl dX7_ifKnock_27 ?_
      (cases h; exact p_iret G hR dX7_ifKnock_28 rfl rfl)
set_option maxHeartbeats 4000000 in
set_option maxRecDepth 100000 in
theorem c_X7_needed (l : Launch) {D : va_G} {yy : Nat → ClassId} {tk tv a : Nat → Nat} {σ : Mm} {o : Mm × Int} (h : x_X7_needed σ = some o) : CT l yX7_needed cX7_needed 1 (some .int) rm_X7_needed shW D yy tk tv a σ [.ref (a 0)] o.1 (some (.int (zJ o.2))) := by
  refine ct_of (Ar := fun a tk => [.ref (a 0)]) (by decide) (Nat.le_of_ble_eq_true rfl) (fun Γ G _ _ hR => ?_)
  have hcs := rt_cs hR
  unfold x_X7_needed at h
  refine (?_ : PT Γ 1 shW 0 σ [(0, .ref (ga Γ 0))] [])
  refine p_aload_n G rfl 0 rfl dX7_needed_0 ?_
  refine p_iconst G rfl dX7_needed_1 ?_
  refine p_putI G dX7_needed_2 fp_X7_62 (k := 0) rfl rfl rfl rfl h (fun σ1 h => ?_)
  refine p_aload_n G rfl 0 rfl dX7_needed_5 ?_
  obtain ⟨v2, hc, h⟩ := bnd_some h
  refine p_callVi G dX7_needed_6 lk_X7_353 (c_X7_canDrop (gl Γ) hc) (As := []) (ci := 7) rfl rfl rfl rfl (Nat.le_of_ble_eq_true rfl) ⟨rfl, rfl, Nat.le_of_ble_eq_true rfl, Nat.le_of_ble_eq_true rfl⟩ hcs ?_
  refine p_ifne (tgt := 14) G dX7_needed_9 (by decide) h (fun c8 h => ?_) (fun c8 h => ?_)
  · refine p_aload_n G rfl 0 rfl dX7_needed_14 ?_
    refine p_aload_n G rfl 0 rfl dX7_needed_15 ?_
    refine p_get G dX7_needed_16 fl_X7_9 (k := 0) rfl rfl ?_
    refine p_iconst G rfl dX7_needed_19 ?_
    refine p_iald G dX7_needed_20 (k := 1) rfl (zt_c _) h (fun c3 h => ?_)
    refine p_iconst G rfl dX7_needed_21 ?_
    refine p_iconst G rfl dX7_needed_22 ?_
    obtain ⟨σ4, hc, h⟩ := bnd_some h
    refine p_callVi G dX7_needed_23 lk_X7_148 (c_X7_takeHand (gl Γ) hc) (As := [.int (zJ (σ1 1 (zix (4 : Int)))), .int (zJ (-1 : Int)), .int (zJ (-1 : Int))]) (ci := 7) rfl rfl rfl rfl (Nat.le_of_ble_eq_true rfl) ⟨rfl, rfl, Nat.le_of_ble_eq_true rfl, Nat.le_of_ble_eq_true rfl⟩ hcs ?_
    refine p_aload_n G rfl 0 rfl dX7_needed_26 ?_
    refine p_aload_n G rfl 0 rfl dX7_needed_27 ?_
    refine p_get G dX7_needed_28 fl_X7_9 (k := 0) rfl rfl ?_
    refine p_bipush G (by decide) (by decide) dX7_needed_31 ?_
    refine p_iald G dX7_needed_33 (k := 1) rfl (zt_c _) h (fun c5 h => ?_)
    obtain ⟨⟨σ6, v7⟩, hc, h⟩ := bnd_some h
    rw [un2_mk] at h
    refine p_callVi G dX7_needed_34 lk_X7_356 (c_X7_leastBehind (gl Γ) hc) (As := [.int (zJ (σ4 1 (zix (7 : Int))))]) (ci := 7) rfl rfl rfl rfl (Nat.le_of_ble_eq_true rfl) ⟨rfl, rfl, Nat.le_of_ble_eq_true rfl, Nat.le_of_ble_eq_true rfl⟩ hcs ?_
    (cases h; exact p_iret G hR dX7_needed_37 rfl rfl)
  · refine p_iconst G rfl dX7_needed_12 ?_
    (cases h; exact p_iret G hR dX7_needed_13 rfl rfl)
set_option maxHeartbeats 4000000 in
set_option maxRecDepth 100000 in
theorem c_X7_kindOf (l : Launch) {D : va_G} {yy : Nat → ClassId} {tk tv a : Nat → Nat} {σ : Mm} {p0 : Int64} {o : Int} (h : x_X7_kindOf p0 = some o) : CT l yX7_kindOf cX7_kindOf 10 (some .int) rm_X7_kindOf shN D yy tk tv a σ [.long p0] σ (some (.int (zJ o))) := by
  refine ct_of (Ar := fun a tk => [.long p0]) (by decide) (Nat.le_of_ble_eq_true rfl) (fun Γ G _ _ hR => ?_)
  have hcs := rt_cs hR
  unfold x_X7_kindOf at h
  refine (?_ : PT Γ 10 shN 0 σ [(0, .long p0)] [])
  refine p_lload_n G rfl 0 rfl dX7_kindOf_0 ?_
  obtain ⟨v1, hc, h⟩ := bnd_some h
  refine p_callS0 G dX7_kindOf_1 lk_X7_103 (c_X7_ones (gl Γ) hc) (As := [.long p0]) rfl zk_1 rfl (Nat.le_of_ble_eq_true rfl) ⟨rfl, rfl, Nat.le_of_ble_eq_true rfl, Nat.le_of_ble_eq_true rfl⟩ hcs ?_
  refine p_istore_nU (lv' := [(2, .int (zJ v1)), (0, .long p0)]) G rfl dX7_kindOf_4 (by decide) rfl ?_
  refine p_iload_n G rfl 0 rfl dX7_kindOf_5 ?_
  refine p_iconst G rfl dX7_kindOf_6 ?_
  refine p_icmpge (tgt := 12) G dX7_kindOf_7 (by decide) h (fun c31 h => ?_) (fun c31 h => ?_)
  · refine p_lload_n G rfl 1 rfl dX7_kindOf_12 ?_
    obtain ⟨v2, hc, h⟩ := bnd_some h
    refine p_callS0 G dX7_kindOf_13 lk_X7_160 (c_X7_isSetOf (gl Γ) hc) (As := [.long p0]) rfl zk_1 rfl (Nat.le_of_ble_eq_true rfl) ⟨rfl, rfl, Nat.le_of_ble_eq_true rfl, Nat.le_of_ble_eq_true rfl⟩ hcs ?_
    refine p_ifeq (tgt := 21) G dX7_kindOf_16 (by decide) h (fun c30 h => ?_) (fun c30 h => ?_)
    · refine p_lload_n G rfl 1 rfl dX7_kindOf_21 ?_
      obtain ⟨v3, hc, h⟩ := bnd_some h
      refine p_callS0 G dX7_kindOf_22 lk_X7_155 (c_X7_lowest (gl Γ) hc) (As := [.long p0]) rfl zk_1 rfl (Nat.le_of_ble_eq_true rfl) ⟨rfl, rfl, Nat.le_of_ble_eq_true rfl, Nat.le_of_ble_eq_true rfl⟩ hcs ?_
      refine p_bipush G (by decide) (by decide) dX7_kindOf_25 ?_
      refine p_idivK G dX7_kindOf_27 (by decide) ?_
      refine p_bipush G (by decide) (by decide) dX7_kindOf_28 ?_
      refine p_imul G dX7_kindOf_30 ?_
      refine p_istore_n (lv' := fun v4 => [(3, .int (zJ v4)), (2, .int (zJ v1)), (0, .long p0)]) G rfl dX7_kindOf_31 h (by decide) (fun _ => rfl) (fun v4 h => ?_)
      refine p_lload_n G rfl 2 rfl dX7_kindOf_32 ?_
      refine p_iload_n G rfl 0 rfl dX7_kindOf_33 ?_
      refine p_lshr G dX7_kindOf_34 ?_
      refine p_lstore (lv' := fun v5 => [(4, .long v5), (3, .int (zJ v4)), (2, .int (zJ v1)), (0, .long p0)]) G dX7_kindOf_35 h (by decide) (fun _ => rfl) (fun v5 h => ?_)
      refine p_lload G 0 rfl dX7_kindOf_37 ?_
      refine p_ldc2 G gm_1602 dX7_kindOf_39 ?_
      refine p_lcmp G dX7_kindOf_42 ?_
      refine p_iflt (tgt := 48) G dX7_kindOf_43 (by decide) h (fun c29 h => ?_) (fun c29 h => ?_)
      · refine p_iconst G rfl dX7_kindOf_48 ?_
        refine p_istoreU (lv' := [(6, .int (zJ (0 : Int))), (4, .long v5), (3, .int (zJ v4)), (2, .int (zJ v1)), (0, .long p0)]) G dX7_kindOf_49 (by decide) rfl ?_
        refine p_iconst G rfl dX7_kindOf_51 ?_
        refine p_istoreU (lv' := [(7, .int (zJ (0 : Int))), (6, .int (zJ (0 : Int))), (4, .long v5), (3, .int (zJ v4)), (2, .int (zJ v1)), (0, .long p0)]) G dX7_kindOf_52 (by decide) rfl ?_
        refine p_lv [2, 1, 0] rfl ?_
        obtain ⟨e26, hl54, h⟩ := bnd_some h
        have hX54_133 : ∀ (v27 : Int), v27 = e26 → PT Γ 10 shN 133 σ [(6, .int (zJ v27))] [] := by
          intro v27 he
          subst he
          refine p_iload G 0 rfl dX7_kindOf_133 ?_
          refine p_iconst G rfl dX7_kindOf_135 ?_
          refine p_icmpgt (tgt := 143) G dX7_kindOf_136 (by decide) h (fun c28 h => ?_) (fun c28 h => ?_)
          · refine p_iconst G rfl dX7_kindOf_143 ?_
            (cases h; exact p_iret G hR dX7_kindOf_144 rfl rfl)
          · refine p_iconst G rfl dX7_kindOf_139 ?_
            refine p_goto (tgt := 144) G dX7_kindOf_140 (by decide) ?_
            (cases h; exact p_iret G hR dX7_kindOf_144 rfl rfl)
        refine lup_walk (s := ((0 : Int), (0 : Int))) (At := fun s : Int × Int => PT Γ 10 shN 54 σ [(4, .long v5), (6, .int (zJ s.1)), (7, .int (zJ s.2))] []) (fun s r hf hin54 hout54 => ?_) hl54
        obtain ⟨u6_54, u7_54⟩ := s
        have h : x_X7_kindOf_b54 v5 u6_54 u7_54 = some r := hf
        clear hf
        have j78 : ∀ (v6_78 : Int) (v7_78 : Int) (w0_78 : Int), x_X7_kindOf_j78_54 v5 v6_78 v7_78 w0_78 = some r → PT Γ 10 shN 78 σ [(4, .long v5), (6, .int (zJ v6_78)), (7, .int (zJ v7_78))] [.int (zJ w0_78)] := by
          intro v6_78 v7_78 w0_78 h
          unfold x_X7_kindOf_j78_54 at h
          refine p_istoreU (lv' := [(8, .int (zJ w0_78)), (4, .long v5), (6, .int (zJ v6_78)), (7, .int (zJ v7_78))]) G dX7_kindOf_78 (by decide) rfl ?_
          refine p_lload G 1 rfl dX7_kindOf_80 ?_
          refine p_iload G 3 rfl dX7_kindOf_82 ?_
          refine p_bipush G (by decide) (by decide) dX7_kindOf_84 ?_
          refine p_iadd G dX7_kindOf_86 ?_
          refine p_iconst G rfl dX7_kindOf_87 ?_
          refine p_isub G dX7_kindOf_88 ?_
          refine p_bipush G (by decide) (by decide) dX7_kindOf_89 ?_
          refine p_iremK G dX7_kindOf_91 (by decide) ?_
          refine p_lshr G dX7_kindOf_92 ?_
          refine p_lconst G (v := 1) (by decide) dX7_kindOf_93 ?_
          refine p_land G dX7_kindOf_94 ?_
          refine p_lconst G (v := 1) (by decide) dX7_kindOf_95 ?_
          refine p_lcmp G dX7_kindOf_96 ?_
          refine p_ifne (tgt := 104) G dX7_kindOf_97 (by decide) h (fun c22 h => ?_) (fun c22 h => ?_)
          · refine p_iconst G rfl dX7_kindOf_104 ?_
            refine p_istoreU (lv' := [(9, .int (zJ (0 : Int))), (8, .int (zJ w0_78)), (4, .long v5), (6, .int (zJ v6_78)), (7, .int (zJ v7_78))]) G dX7_kindOf_105 (by decide) rfl ?_
            refine p_iload G 3 rfl dX7_kindOf_107 ?_
            refine p_iload G 1 rfl dX7_kindOf_109 ?_
            refine p_ifeq (tgt := 123) G dX7_kindOf_111 (by decide) h (fun c13 h => ?_) (fun c13 h => ?_)
            · refine p_iconst G rfl dX7_kindOf_123 ?_
              refine p_iadd G dX7_kindOf_124 ?_
              refine p_istore (lv' := fun v6 => [(6, .int (zJ v6)), (9, .int (zJ (0 : Int))), (8, .int (zJ w0_78)), (4, .long v5), (7, .int (zJ v7_78))]) G dX7_kindOf_125 h (by decide) (fun _ => rfl) (fun v6 h => ?_)
              refine p_iinc (lv' := fun v7 => [(7, .int (zJ v7)), (6, .int (zJ v6)), (9, .int (zJ (0 : Int))), (8, .int (zJ w0_78)), (4, .long v5)]) G dX7_kindOf_127 h 4 rfl (by decide) (fun _ => rfl) (fun v7 h => ?_)
              refine p_goto (tgt := 54) G dX7_kindOf_130 (by decide) ?_
              refine p_lv [4, 1, 0] rfl ?_
              exact hin54 _ (Option.some.inj h).symm
            · refine p_iload G 0 rfl dX7_kindOf_114 ?_
              refine p_ifne (tgt := 123) G dX7_kindOf_116 (by decide) h (fun c12 h => ?_) (fun c12 h => ?_)
              · refine p_iconst G rfl dX7_kindOf_123 ?_
                refine p_iadd G dX7_kindOf_124 ?_
                refine p_istore (lv' := fun v8 => [(6, .int (zJ v8)), (9, .int (zJ (0 : Int))), (8, .int (zJ w0_78)), (4, .long v5), (7, .int (zJ v7_78))]) G dX7_kindOf_125 h (by decide) (fun _ => rfl) (fun v8 h => ?_)
                refine p_iinc (lv' := fun v9 => [(7, .int (zJ v9)), (6, .int (zJ v8)), (9, .int (zJ (0 : Int))), (8, .int (zJ w0_78)), (4, .long v5)]) G dX7_kindOf_127 h 4 rfl (by decide) (fun _ => rfl) (fun v9 h => ?_)
                refine p_goto (tgt := 54) G dX7_kindOf_130 (by decide) ?_
                refine p_lv [4, 1, 0] rfl ?_
                exact hin54 _ (Option.some.inj h).symm
              · refine p_iconst G rfl dX7_kindOf_119 ?_
                refine p_goto (tgt := 124) G dX7_kindOf_120 (by decide) ?_
                refine p_iadd G dX7_kindOf_124 ?_
                refine p_istore (lv' := fun v10 => [(6, .int (zJ v10)), (9, .int (zJ (0 : Int))), (8, .int (zJ w0_78)), (4, .long v5), (7, .int (zJ v7_78))]) G dX7_kindOf_125 h (by decide) (fun _ => rfl) (fun v10 h => ?_)
                refine p_iinc (lv' := fun v11 => [(7, .int (zJ v11)), (6, .int (zJ v10)), (9, .int (zJ (0 : Int))), (8, .int (zJ w0_78)), (4, .long v5)]) G dX7_kindOf_127 h 4 rfl (by decide) (fun _ => rfl) (fun v11 h => ?_)
                refine p_goto (tgt := 54) G dX7_kindOf_130 (by decide) ?_
                refine p_lv [4, 1, 0] rfl ?_
                exact hin54 _ (Option.some.inj h).symm
          · refine p_iconst G rfl dX7_kindOf_100 ?_
            refine p_goto (tgt := 105) G dX7_kindOf_101 (by decide) ?_
            refine p_istoreU (lv' := [(9, .int (zJ (1 : Int))), (8, .int (zJ w0_78)), (4, .long v5), (6, .int (zJ v6_78)), (7, .int (zJ v7_78))]) G dX7_kindOf_105 (by decide) rfl ?_
            refine p_iload G 3 rfl dX7_kindOf_107 ?_
            refine p_iload G 1 rfl dX7_kindOf_109 ?_
            refine p_ifeq (tgt := 123) G dX7_kindOf_111 (by decide) h (fun c21 h => ?_) (fun c21 h => ?_)
            · refine p_iconst G rfl dX7_kindOf_123 ?_
              refine p_iadd G dX7_kindOf_124 ?_
              refine p_istore (lv' := fun v14 => [(6, .int (zJ v14)), (9, .int (zJ (1 : Int))), (8, .int (zJ w0_78)), (4, .long v5), (7, .int (zJ v7_78))]) G dX7_kindOf_125 h (by decide) (fun _ => rfl) (fun v14 h => ?_)
              refine p_iinc (lv' := fun v15 => [(7, .int (zJ v15)), (6, .int (zJ v14)), (9, .int (zJ (1 : Int))), (8, .int (zJ w0_78)), (4, .long v5)]) G dX7_kindOf_127 h 4 rfl (by decide) (fun _ => rfl) (fun v15 h => ?_)
              refine p_goto (tgt := 54) G dX7_kindOf_130 (by decide) ?_
              refine p_lv [4, 1, 0] rfl ?_
              exact hin54 _ (Option.some.inj h).symm
            · refine p_iload G 0 rfl dX7_kindOf_114 ?_
              refine p_ifne (tgt := 123) G dX7_kindOf_116 (by decide) h (fun c20 h => ?_) (fun c20 h => ?_)
              · refine p_iconst G rfl dX7_kindOf_123 ?_
                refine p_iadd G dX7_kindOf_124 ?_
                refine p_istore (lv' := fun v16 => [(6, .int (zJ v16)), (9, .int (zJ (1 : Int))), (8, .int (zJ w0_78)), (4, .long v5), (7, .int (zJ v7_78))]) G dX7_kindOf_125 h (by decide) (fun _ => rfl) (fun v16 h => ?_)
                refine p_iinc (lv' := fun v17 => [(7, .int (zJ v17)), (6, .int (zJ v16)), (9, .int (zJ (1 : Int))), (8, .int (zJ w0_78)), (4, .long v5)]) G dX7_kindOf_127 h 4 rfl (by decide) (fun _ => rfl) (fun v17 h => ?_)
                refine p_goto (tgt := 54) G dX7_kindOf_130 (by decide) ?_
                refine p_lv [4, 1, 0] rfl ?_
                exact hin54 _ (Option.some.inj h).symm
              · refine p_iconst G rfl dX7_kindOf_119 ?_
                refine p_goto (tgt := 124) G dX7_kindOf_120 (by decide) ?_
                refine p_iadd G dX7_kindOf_124 ?_
                refine p_istore (lv' := fun v18 => [(6, .int (zJ v18)), (9, .int (zJ (1 : Int))), (8, .int (zJ w0_78)), (4, .long v5), (7, .int (zJ v7_78))]) G dX7_kindOf_125 h (by decide) (fun _ => rfl) (fun v18 h => ?_)
                refine p_iinc (lv' := fun v19 => [(7, .int (zJ v19)), (6, .int (zJ v18)), (9, .int (zJ (1 : Int))), (8, .int (zJ w0_78)), (4, .long v5)]) G dX7_kindOf_127 h 4 rfl (by decide) (fun _ => rfl) (fun v19 h => ?_)
                refine p_goto (tgt := 54) G dX7_kindOf_130 (by decide) ?_
                refine p_lv [4, 1, 0] rfl ?_
                exact hin54 _ (Option.some.inj h).symm
        unfold x_X7_kindOf_b54 at h
        refine (?_ : PT Γ 10 shN 54 σ [(4, .long v5), (6, .int (zJ u6_54)), (7, .int (zJ u7_54))] [])
        refine p_iload G 2 rfl dX7_kindOf_54 ?_
        refine p_bipush G (by decide) (by decide) dX7_kindOf_56 ?_
        refine p_icmpge (tgt := 133) G dX7_kindOf_58 (by decide) h (fun c24 h => ?_) (fun c24 h => ?_)
        · refine p_lv [1] rfl ?_
          have he := hout54 _ (Option.some.inj h).symm
          subst he
          exact hX54_133 _ rfl
        · refine p_lload G 0 rfl dX7_kindOf_61 ?_
          refine p_iload G 2 rfl dX7_kindOf_63 ?_
          refine p_lshr G dX7_kindOf_65 ?_
          refine p_lconst G (v := 1) (by decide) dX7_kindOf_66 ?_
          refine p_land G dX7_kindOf_67 ?_
          refine p_lconst G (v := 1) (by decide) dX7_kindOf_68 ?_
          refine p_lcmp G dX7_kindOf_69 ?_
          refine p_ifne (tgt := 77) G dX7_kindOf_70 (by decide) h (fun c23 h => ?_) (fun c23 h => ?_)
          · refine p_iconst G rfl dX7_kindOf_77 ?_
            exact j78 _ _ _ h
          · refine p_iconst G rfl dX7_kindOf_73 ?_
            refine p_goto (tgt := 78) G dX7_kindOf_74 (by decide) ?_
            exact j78 _ _ _ h
      · refine p_iconst G rfl dX7_kindOf_46 ?_
        (cases h; exact p_iret G hR dX7_kindOf_47 rfl rfl)
    · refine p_iconst G rfl dX7_kindOf_19 ?_
      (cases h; exact p_iret G hR dX7_kindOf_20 rfl rfl)
  · refine p_iconst G rfl dX7_kindOf_10 ?_
    (cases h; exact p_iret G hR dX7_kindOf_11 rfl rfl)
set_option maxHeartbeats 4000000 in
set_option maxRecDepth 100000 in
theorem c_X7_kind (l : Launch) {D : va_G} {yy : Nat → ClassId} {tk tv a : Nat → Nat} {σ : Mm} {p1 : Int64} {o : Mm × Int} (h : x_X7_kind σ p1 = some o) : CT l yX7_kind cX7_kind 3 (some .int) rm_X7_kind shW D yy tk tv a σ [.ref (a 0), .long p1] o.1 (some (.int (zJ o.2))) := by
  refine ct_of (Ar := fun a tk => [.ref (a 0), .long p1]) (by decide) (Nat.le_of_ble_eq_true rfl) (fun Γ G _ _ hR => ?_)
  have hcs := rt_cs hR
  unfold x_X7_kind at h
  refine (?_ : PT Γ 3 shW 0 σ [(0, .ref (ga Γ 0)), (1, .long p1)] [])
  refine p_aload_n G rfl 0 rfl dX7_kind_0 ?_
  refine p_iconst G rfl dX7_kind_1 ?_
  refine p_putI G dX7_kind_2 fp_X7_62 (k := 0) rfl rfl rfl rfl h (fun σ1 h => ?_)
  refine p_aload_n G rfl 0 rfl dX7_kind_5 ?_
  refine p_lload_n G rfl 1 rfl dX7_kind_6 ?_
  refine p_lconst G (v := 0) (by decide) dX7_kind_7 ?_
  refine p_ldc2 G gm_1598 dX7_kind_8 ?_
  refine p_iconst G rfl dX7_kind_11 ?_
  obtain ⟨⟨σ2, v3⟩, hc, h⟩ := bnd_some h
  rw [un2_mk] at h
  refine p_callVi G dX7_kind_12 lk_X7_72 (c_X7_bad (gl Γ) hc) (As := [.long p1, .long (0 : Int64), .long (4503599627370495 : Int64), .int (zJ (1 : Int))]) (ci := 7) rfl rfl rfl rfl (Nat.le_of_ble_eq_true rfl) ⟨rfl, rfl, Nat.le_of_ble_eq_true rfl, Nat.le_of_ble_eq_true rfl⟩ hcs ?_
  refine p_ifeq (tgt := 22) G dX7_kind_15 (by decide) h (fun c5 h => ?_) (fun c5 h => ?_)
  · refine p_lload_n G rfl 1 rfl dX7_kind_22 ?_
    obtain ⟨v4, hc, h⟩ := bnd_some h
    refine p_callS0 G dX7_kind_23 lk_X7_363 (c_X7_kindOf (gl Γ) hc) (As := [.long p1]) rfl zk_29 rfl (Nat.le_of_ble_eq_true rfl) ⟨rfl, rfl, Nat.le_of_ble_eq_true rfl, Nat.le_of_ble_eq_true rfl⟩ hcs ?_
    (cases h; exact p_iret G hR dX7_kind_26 rfl rfl)
  · refine p_iconst G rfl dX7_kind_18 ?_
    refine p_goto (tgt := 26) G dX7_kind_19 (by decide) ?_
    (cases h; exact p_iret G hR dX7_kind_26 rfl rfl)
set_option maxHeartbeats 4000000 in
set_option maxRecDepth 100000 in
theorem c_X7_size (l : Launch) {D : va_G} {yy : Nat → ClassId} {tk tv a : Nat → Nat} {σ : Mm} {p0 : Int} {o : Int} (h : x_X7_size p0 = some o) : CT l yX7_size cX7_size 1 (some .int) rm_X7_size shN D yy tk tv a σ [.int (zJ p0)] σ (some (.int (zJ o))) := by
  refine ct_of (Ar := fun a tk => [.int (zJ p0)]) (by decide) (Nat.le_of_ble_eq_true rfl) (fun Γ G _ _ hR => ?_)
  have hcs := rt_cs hR
  unfold x_X7_size at h
  refine (?_ : PT Γ 1 shN 0 σ [(0, .int (zJ p0))] [])
  refine p_iload_n G rfl 0 rfl dX7_size_0 ?_
  refine p_ifge (tgt := 9) G dX7_size_1 (by decide) h (fun c1 h => ?_) (fun c1 h => ?_)
  · refine p_iload_n G rfl 0 rfl dX7_size_9 ?_
    (cases h; exact p_iret G hR dX7_size_10 rfl rfl)
  · refine p_iload_n G rfl 0 rfl dX7_size_4 ?_
    refine p_ineg G dX7_size_5 ?_
    refine p_goto (tgt := 10) G dX7_size_6 (by decide) ?_
    (cases h; exact p_iret G hR dX7_size_10 rfl rfl)
set_option maxHeartbeats 4000000 in
set_option maxRecDepth 100000 in
theorem c_X7_wrongHand (l : Launch) {D : va_G} {yy : Nat → ClassId} {tk tv a : Nat → Nat} {σ : Mm} {p1 : Int} {o : Mm × Int} (h : x_X7_wrongHand σ p1 = some o) : CT l yX7_wrongHand cX7_wrongHand 5 (some .int) rm_X7_wrongHand shW D yy tk tv a σ [.ref (a 0), .int (zJ p1)] o.1 (some (.int (zJ o.2))) := by
  refine ct_of (Ar := fun a tk => [.ref (a 0), .int (zJ p1)]) (by decide) (Nat.le_of_ble_eq_true rfl) (fun Γ G _ _ hR => ?_)
  have hcs := rt_cs hR
  unfold x_X7_wrongHand at h
  refine (?_ : PT Γ 5 shW 0 σ [(0, .ref (ga Γ 0)), (1, .int (zJ p1))] [])
  refine p_aload_n G rfl 0 rfl dX7_wrongHand_0 ?_
  refine p_iload_n G rfl 1 rfl dX7_wrongHand_1 ?_
  obtain ⟨σ1, hc, h⟩ := bnd_some h
  refine p_callVi G dX7_wrongHand_2 lk_X7_177 (c_X7_layOutOf (gl Γ) hc) (As := [.int (zJ p1)]) (ci := 7) rfl rfl rfl rfl (Nat.le_of_ble_eq_true rfl) ⟨rfl, rfl, Nat.le_of_ble_eq_true rfl, Nat.le_of_ble_eq_true rfl⟩ hcs ?_
  refine p_aload_n G rfl 0 rfl dX7_wrongHand_5 ?_
  refine p_get G dX7_wrongHand_6 fl_X7_134 (k := 0) rfl rfl ?_
  refine p_aload_n G rfl 0 rfl dX7_wrongHand_9 ?_
  refine p_iconst G rfl dX7_wrongHand_10 ?_
  refine p_aload_n G rfl 0 rfl dX7_wrongHand_11 ?_
  refine p_get G dX7_wrongHand_12 fl_X7_100 (k := 0) rfl rfl ?_
  refine p_ishl G dX7_wrongHand_15 ?_
  refine p_iconst G rfl dX7_wrongHand_16 ?_
  refine p_isub G dX7_wrongHand_17 ?_
  obtain ⟨v2, hc, h⟩ := bnd_some h
  refine p_callVi G dX7_wrongHand_18 lk_X7_144 (c_X7_cardsOf (gl Γ) hc) (As := [.int (zJ ((zshl (1 : Int) (σ1 0 12)) - (1 : Int)))]) (ci := 7) rfl rfl rfl rfl (Nat.le_of_ble_eq_true rfl) ⟨rfl, rfl, Nat.le_of_ble_eq_true rfl, Nat.le_of_ble_eq_true rfl⟩ hcs ?_
  obtain ⟨v3, hc, h⟩ := bnd_some h
  refine p_callS0 G dX7_wrongHand_21 lk_X7_186 (c_X7_pointsOf (gl Γ) hc) (As := [.long v2]) rfl zk_29 rfl (Nat.le_of_ble_eq_true rfl) ⟨rfl, rfl, Nat.le_of_ble_eq_true rfl, Nat.le_of_ble_eq_true rfl⟩ hcs ?_
  refine p_isub G dX7_wrongHand_24 ?_
  refine p_istore_n (lv' := fun v4 => [(2, .int (zJ v4)), (0, .ref (ga Γ 0)), (1, .int (zJ p1))]) G rfl dX7_wrongHand_25 h (by decide) (fun _ => rfl) (fun v4 h => ?_)
  refine p_iconst G rfl dX7_wrongHand_26 ?_
  refine p_istore_nU (lv' := [(3, .int (zJ (0 : Int))), (2, .int (zJ v4)), (0, .ref (ga Γ 0)), (1, .int (zJ p1))]) G rfl dX7_wrongHand_27 (by decide) rfl ?_
  refine p_iconst G rfl dX7_wrongHand_28 ?_
  refine p_istoreU (lv' := [(4, .int (zJ (0 : Int))), (3, .int (zJ (0 : Int))), (2, .int (zJ v4)), (0, .ref (ga Γ 0)), (1, .int (zJ p1))]) G dX7_wrongHand_29 (by decide) rfl ?_
  refine p_lv [3, 2, 1, 0] rfl ?_
  obtain ⟨e17, hl31, h⟩ := bnd_some h
  have hX31_80 : ∀ (v18 : Int) (v19 : Int), (v18, v19) = e17 → PT Γ 5 shW 80 σ1 [(2, .int (zJ v18)), (3, .int (zJ v19))] [] := by
    intro v18 v19 he
    subst he
    rw [un2_mk] at h
    refine p_iload_n G rfl 0 rfl dX7_wrongHand_80 ?_
    obtain ⟨v20, hc, h⟩ := bnd_some h
    refine p_callS0 G dX7_wrongHand_81 lk_X7_366 (c_X7_size (gl Γ) hc) (As := [.int (zJ v18)]) rfl zk_29 rfl (Nat.le_of_ble_eq_true rfl) ⟨rfl, rfl, Nat.le_of_ble_eq_true rfl, Nat.le_of_ble_eq_true rfl⟩ hcs ?_
    refine p_iload_n G rfl 1 rfl dX7_wrongHand_84 ?_
    refine p_iadd G dX7_wrongHand_85 ?_
    (cases h; exact p_iret G hR dX7_wrongHand_86 rfl rfl)
  refine lup_walk (s := (v4, (0 : Int), (0 : Int))) (At := fun s : Int × Int × Int => PT Γ 5 shW 31 σ1 [(0, .ref (ga Γ 0)), (2, .int (zJ s.1)), (3, .int (zJ s.2.1)), (4, .int (zJ s.2.2))] []) (fun s r hf hin31 hout31 => ?_) hl31
  obtain ⟨u2_31, u3_31, u4_31⟩ := s
  have h : x_X7_wrongHand_b31 σ1 u2_31 u3_31 u4_31 = some r := hf
  clear hf
  unfold x_X7_wrongHand_b31 at h
  refine (?_ : PT Γ 5 shW 31 σ1 [(0, .ref (ga Γ 0)), (2, .int (zJ u2_31)), (3, .int (zJ u3_31)), (4, .int (zJ u4_31))] [])
  refine p_iload G 3 rfl dX7_wrongHand_31 ?_
  refine p_aload_n G rfl 0 rfl dX7_wrongHand_33 ?_
  refine p_get G dX7_wrongHand_34 fl_X7_137 (k := 0) rfl rfl ?_
  refine p_icmpge (tgt := 80) G dX7_wrongHand_37 (by decide) h (fun c15 h => ?_) (fun c15 h => ?_)
  · refine p_lv [1, 2] rfl ?_
    have he := hout31 _ (Option.some.inj h).symm
    subst he
    exact hX31_80 _ _ rfl
  · refine p_iload_n G rfl 1 rfl dX7_wrongHand_40 ?_
    refine p_aload_n G rfl 0 rfl dX7_wrongHand_41 ?_
    refine p_get G dX7_wrongHand_42 fl_X7_44 (k := 0) rfl rfl ?_
    refine p_iload G 3 rfl dX7_wrongHand_45 ?_
    refine p_lald G dX7_wrongHand_47 (k := 23) rfl (zt_c _) h (fun c5 h => ?_)
    obtain ⟨v6, hc, h⟩ := bnd_some h
    refine p_callS0 G dX7_wrongHand_48 lk_X7_186 (c_X7_pointsOf (gl Γ) hc) (As := [.long (zL (σ1 23 (zix u4_31)))]) rfl zk_29 rfl (Nat.le_of_ble_eq_true rfl) ⟨rfl, rfl, Nat.le_of_ble_eq_true rfl, Nat.le_of_ble_eq_true rfl⟩ hcs ?_
    refine p_iadd G dX7_wrongHand_51 ?_
    refine p_istore_n (lv' := fun v7 => [(2, .int (zJ v7)), (0, .ref (ga Γ 0)), (3, .int (zJ u3_31)), (4, .int (zJ u4_31))]) G rfl dX7_wrongHand_52 h (by decide) (fun _ => rfl) (fun v7 h => ?_)
    refine p_iload_n G rfl 2 rfl dX7_wrongHand_53 ?_
    refine p_aload_n G rfl 1 rfl dX7_wrongHand_54 ?_
    refine p_get G dX7_wrongHand_55 fl_X7_44 (k := 0) rfl rfl ?_
    refine p_iload G 3 rfl dX7_wrongHand_58 ?_
    refine p_lald G dX7_wrongHand_60 (k := 23) rfl (zt_c _) h (fun c8 h => ?_)
    obtain ⟨v9, hc, h⟩ := bnd_some h
    refine p_callS0 G dX7_wrongHand_61 lk_X7_363 (c_X7_kindOf (gl Γ) hc) (As := [.long (zL (σ1 23 (zix u4_31)))]) rfl zk_29 rfl (Nat.le_of_ble_eq_true rfl) ⟨rfl, rfl, Nat.le_of_ble_eq_true rfl, Nat.le_of_ble_eq_true rfl⟩ hcs ?_
    refine p_ifne (tgt := 71) G dX7_wrongHand_64 (by decide) h (fun c14 h => ?_) (fun c14 h => ?_)
    · refine p_iconst G rfl dX7_wrongHand_71 ?_
      refine p_iadd G dX7_wrongHand_72 ?_
      refine p_istore_n (lv' := fun v10 => [(3, .int (zJ v10)), (2, .int (zJ v7)), (0, .ref (ga Γ 0)), (4, .int (zJ u4_31))]) G rfl dX7_wrongHand_73 h (by decide) (fun _ => rfl) (fun v10 h => ?_)
      refine p_iinc (lv' := fun v11 => [(4, .int (zJ v11)), (3, .int (zJ v10)), (2, .int (zJ v7)), (0, .ref (ga Γ 0))]) G dX7_wrongHand_74 h 3 rfl (by decide) (fun _ => rfl) (fun v11 h => ?_)
      refine p_goto (tgt := 31) G dX7_wrongHand_77 (by decide) ?_
      refine p_lv [3, 2, 1, 0] rfl ?_
      exact hin31 _ (Option.some.inj h).symm
    · refine p_iconst G rfl dX7_wrongHand_67 ?_
      refine p_goto (tgt := 72) G dX7_wrongHand_68 (by decide) ?_
      refine p_iadd G dX7_wrongHand_72 ?_
      refine p_istore_n (lv' := fun v12 => [(3, .int (zJ v12)), (2, .int (zJ v7)), (0, .ref (ga Γ 0)), (4, .int (zJ u4_31))]) G rfl dX7_wrongHand_73 h (by decide) (fun _ => rfl) (fun v12 h => ?_)
      refine p_iinc (lv' := fun v13 => [(4, .int (zJ v13)), (3, .int (zJ v12)), (2, .int (zJ v7)), (0, .ref (ga Γ 0))]) G dX7_wrongHand_74 h 3 rfl (by decide) (fun _ => rfl) (fun v13 h => ?_)
      refine p_goto (tgt := 31) G dX7_wrongHand_77 (by decide) ?_
      refine p_lv [3, 2, 1, 0] rfl ?_
      exact hin31 _ (Option.some.inj h).symm
set_option maxHeartbeats 4000000 in
set_option maxRecDepth 100000 in
theorem c_X7_gap (l : Launch) {D : va_G} {yy : Nat → ClassId} {tk tv a : Nat → Nat} {σ : Mm} {o : Mm × Int} (h : x_X7_gap σ = some o) : CT l yX7_gap cX7_gap 2 (some .int) rm_X7_gap shW D yy tk tv a σ [.ref (a 0)] o.1 (some (.int (zJ o.2))) := by
  refine ct_of (Ar := fun a tk => [.ref (a 0)]) (by decide) (Nat.le_of_ble_eq_true rfl) (fun Γ G _ _ hR => ?_)
  have hcs := rt_cs hR
  unfold x_X7_gap at h
  refine (?_ : PT Γ 2 shW 0 σ [(0, .ref (ga Γ 0))] [])
  refine p_aload_n G rfl 0 rfl dX7_gap_0 ?_
  refine p_iconst G rfl dX7_gap_1 ?_
  refine p_putI G dX7_gap_2 fp_X7_62 (k := 0) rfl rfl rfl rfl h (fun σ1 h => ?_)
  refine p_aload_n G rfl 0 rfl dX7_gap_5 ?_
  refine p_iconst G rfl dX7_gap_6 ?_
  refine p_iconst G rfl dX7_gap_7 ?_
  refine p_iconst G rfl dX7_gap_8 ?_
  obtain ⟨σ2, hc, h⟩ := bnd_some h
  refine p_callVi G dX7_gap_9 lk_X7_148 (c_X7_takeHand (gl Γ) hc) (As := [.int (zJ (0 : Int)), .int (zJ (-1 : Int)), .int (zJ (-1 : Int))]) (ci := 7) rfl rfl rfl rfl (Nat.le_of_ble_eq_true rfl) ⟨rfl, rfl, Nat.le_of_ble_eq_true rfl, Nat.le_of_ble_eq_true rfl⟩ hcs ?_
  refine p_aload_n G rfl 0 rfl dX7_gap_12 ?_
  refine p_get G dX7_gap_13 fl_X7_100 (k := 0) rfl rfl ?_
  refine p_istore_n (lv' := fun v3 => [(1, .int (zJ v3)), (0, .ref (ga Γ 0))]) G rfl dX7_gap_16 h (by decide) (fun _ => rfl) (fun v3 h => ?_)
  refine p_aload_n G rfl 1 rfl dX7_gap_17 ?_
  refine p_iconst G rfl dX7_gap_18 ?_
  refine p_iconst G rfl dX7_gap_19 ?_
  refine p_iconst G rfl dX7_gap_20 ?_
  obtain ⟨σ4, hc, h⟩ := bnd_some h
  refine p_callVi G dX7_gap_21 lk_X7_148 (c_X7_takeHand (gl Γ) hc) (As := [.int (zJ (1 : Int)), .int (zJ (-1 : Int)), .int (zJ (-1 : Int))]) (ci := 7) rfl rfl rfl rfl (Nat.le_of_ble_eq_true rfl) ⟨rfl, rfl, Nat.le_of_ble_eq_true rfl, Nat.le_of_ble_eq_true rfl⟩ hcs ?_
  refine p_iload_n G rfl 0 rfl dX7_gap_24 ?_
  refine p_aload_n G rfl 1 rfl dX7_gap_25 ?_
  refine p_get G dX7_gap_26 fl_X7_100 (k := 0) rfl rfl ?_
  refine p_aload_n G rfl 1 rfl dX7_gap_29 ?_
  obtain ⟨v5, hc, h⟩ := bnd_some h
  refine p_callVi G dX7_gap_30 lk_X7_204 (c_X7_stocked (gl Γ) hc) (As := []) (ci := 7) rfl rfl rfl rfl (Nat.le_of_ble_eq_true rfl) ⟨rfl, rfl, Nat.le_of_ble_eq_true rfl, Nat.le_of_ble_eq_true rfl⟩ hcs ?_
  refine p_iadd G dX7_gap_33 ?_
  refine p_aload_n G rfl 1 rfl dX7_gap_34 ?_
  refine p_get G dX7_gap_35 fl_X7_9 (k := 0) rfl rfl ?_
  refine p_bipush G (by decide) (by decide) dX7_gap_38 ?_
  refine p_iald G dX7_gap_40 (k := 1) rfl (zt_c _) h (fun c6 h => ?_)
  refine p_iadd G dX7_gap_41 ?_
  refine p_iadd G dX7_gap_42 ?_
  refine p_istore_n (lv' := fun v7 => [(1, .int (zJ v7)), (0, .ref (ga Γ 0))]) G rfl dX7_gap_43 h (by decide) (fun _ => rfl) (fun v7 h => ?_)
  refine p_bipush G (by decide) (by decide) dX7_gap_44 ?_
  refine p_iload_n G rfl 0 rfl dX7_gap_46 ?_
  refine p_isub G dX7_gap_47 ?_
  obtain ⟨v8, hc, h⟩ := bnd_some h
  refine p_callS0 G dX7_gap_48 lk_X7_366 (c_X7_size (gl Γ) hc) (As := [.int (zJ ((52 : Int) - v7))]) rfl zk_29 rfl (Nat.le_of_ble_eq_true rfl) ⟨rfl, rfl, Nat.le_of_ble_eq_true rfl, Nat.le_of_ble_eq_true rfl⟩ hcs ?_
  refine p_aload_n G rfl 1 rfl dX7_gap_51 ?_
  refine p_iconst G rfl dX7_gap_52 ?_
  obtain ⟨⟨σ9, v10⟩, hc, h⟩ := bnd_some h
  rw [un2_mk] at h
  refine p_callVi G dX7_gap_53 lk_X7_369 (c_X7_wrongHand (gl Γ) hc) (As := [.int (zJ (0 : Int))]) (ci := 7) rfl rfl rfl rfl (Nat.le_of_ble_eq_true rfl) ⟨rfl, rfl, Nat.le_of_ble_eq_true rfl, Nat.le_of_ble_eq_true rfl⟩ hcs ?_
  refine p_iadd G dX7_gap_56 ?_
  refine p_aload_n G rfl 1 rfl dX7_gap_57 ?_
  refine p_iconst G rfl dX7_gap_58 ?_
  obtain ⟨⟨σ11, v12⟩, hc, h⟩ := bnd_some h
  rw [un2_mk] at h
  refine p_callVi G dX7_gap_59 lk_X7_369 (c_X7_wrongHand (gl Γ) hc) (As := [.int (zJ (1 : Int))]) (ci := 7) rfl rfl rfl rfl (Nat.le_of_ble_eq_true rfl) ⟨rfl, rfl, Nat.le_of_ble_eq_true rfl, Nat.le_of_ble_eq_true rfl⟩ hcs ?_
  refine p_iadd G dX7_gap_62 ?_
  (cases h; exact p_iret G hR dX7_gap_63 rfl rfl)
set_option maxHeartbeats 4000000 in
set_option maxRecDepth 100000 in
theorem c_X7_say (l : Launch) {D : va_G} {yy : Nat → ClassId} {tk tv a : Nat → Nat} {σ : Mm} {p1 : Int} {o : Mm} (h : x_X7_say σ p1 = some o) : CT l yX7_say cX7_say 2 none rm_X7_say shW D yy tk tv a σ [.ref (a 0), .int (zJ p1)] o none := by
  refine ct_of (Ar := fun a tk => [.ref (a 0), .int (zJ p1)]) (by decide) (Nat.le_of_ble_eq_true rfl) (fun Γ G _ _ hR => ?_)
  have hcs := rt_cs hR
  unfold x_X7_say at h
  refine (?_ : PT Γ 2 shW 0 σ [(0, .ref (ga Γ 0)), (1, .int (zJ p1))] [])
  refine p_aload_n G rfl 0 rfl dX7_say_0 ?_
  refine p_get G dX7_say_1 fl_X7_31 (k := 0) rfl rfl ?_
  refine p_aload_n G rfl 0 rfl dX7_say_4 ?_
  refine p_get G dX7_say_5 fl_X7_374 (k := 0) rfl rfl ?_
  refine p_iload_n G rfl 1 rfl dX7_say_8 ?_
  refine p_i2b G dX7_say_9 ?_
  refine p_bast G dX7_say_10 (k := 19) rfl (zt_c _) rfl h (fun σ1 c2 h => ?_)
  refine p_aload_n G rfl 0 rfl dX7_say_11 ?_
  refine p_dup G rfl dX7_say_12 ?_
  refine p_get G dX7_say_13 fl_X7_374 (k := 0) rfl rfl ?_
  refine p_iconst G rfl dX7_say_16 ?_
  refine p_iadd G dX7_say_17 ?_
  refine p_putI G dX7_say_18 fp_X7_374 (k := 0) rfl rfl rfl rfl h (fun σ3 h => ?_)
  (cases h; exact p_vret G hR dX7_say_21 rfl rfl)
set_option maxHeartbeats 4000000 in
set_option maxRecDepth 100000 in
theorem c_X7_sayCard (l : Launch) {D : va_G} {yy : Nat → ClassId} {tk tv a : Nat → Nat} {σ : Mm} {p1 : Int} {p2 : Int} {o : Mm} (h : x_X7_sayCard σ p1 p2 = some o) : CT l yX7_sayCard cX7_sayCard 3 none rm_X7_sayCard shW D yy tk tv a σ [.ref (a 0), .int (zJ p1), .int (zJ p2)] o none := by
  refine ct_of (Ar := fun a tk => [.ref (a 0), .int (zJ p1), .int (zJ p2)]) (by decide) (Nat.le_of_ble_eq_true rfl) (fun Γ G _ _ hR => ?_)
  have hcs := rt_cs hR
  unfold x_X7_sayCard at h
  refine (?_ : PT Γ 3 shW 0 σ [(0, .ref (ga Γ 0)), (1, .int (zJ p1)), (2, .int (zJ p2))] [])
  have j10 : ∀ (σ_10 : Mm) (v1_10 : Int), x_X7_sayCard_j10 σ_10 v1_10 = some o → PT Γ 3 shW 10 σ_10 [(0, .ref (ga Γ 0)), (1, .int (zJ v1_10))] [] := by
    intro σ_10 v1_10 h
    unfold x_X7_sayCard_j10 at h
    refine p_aload_n G rfl 0 rfl dX7_sayCard_10 ?_
    refine p_ldcSw G 20 (by decide) rfl rfl dX7_sayCard_11 rfl ?_
    refine p_iload_n G rfl 1 rfl dX7_sayCard_14 ?_
    refine p_bipush G (by decide) (by decide) dX7_sayCard_15 ?_
    refine p_iremK G dX7_sayCard_17 (by decide) ?_
    obtain ⟨v1, hc, h⟩ := bnd_some h
    refine p_callT G (zchr_u hc) dX7_sayCard_18 lk_X7_280 (c_J_String_charAt (gl Γ) hc) (As := [.int (zJ (zrem v1_10 (13 : Int)))]) rfl zk_29 rfl (Nat.le_of_ble_eq_true rfl) ⟨rfl, rfl, Nat.le_of_ble_eq_true rfl, Nat.le_of_ble_eq_true rfl⟩ hcs ?_
    obtain ⟨σ2, hc, h⟩ := bnd_some h
    refine p_callVi G dX7_sayCard_21 lk_X7_377 (c_X7_say (gl Γ) hc) (As := [.int (zJ v1)]) (ci := 7) rfl rfl rfl rfl (Nat.le_of_ble_eq_true rfl) ⟨rfl, rfl, Nat.le_of_ble_eq_true rfl, Nat.le_of_ble_eq_true rfl⟩ hcs ?_
    refine p_aload_n G rfl 0 rfl dX7_sayCard_24 ?_
    refine p_ldcSw G 21 (by decide) rfl rfl dX7_sayCard_25 rfl ?_
    refine p_iload_n G rfl 1 rfl dX7_sayCard_28 ?_
    refine p_bipush G (by decide) (by decide) dX7_sayCard_29 ?_
    refine p_idivK G dX7_sayCard_31 (by decide) ?_
    obtain ⟨v3, hc, h⟩ := bnd_some h
    refine p_callT G (zchr_u hc) dX7_sayCard_32 lk_X7_280 (c_J_String_charAt (gl Γ) hc) (As := [.int (zJ (zdiv v1_10 (13 : Int)))]) rfl zk_29 rfl (Nat.le_of_ble_eq_true rfl) ⟨rfl, rfl, Nat.le_of_ble_eq_true rfl, Nat.le_of_ble_eq_true rfl⟩ hcs ?_
    obtain ⟨σ4, hc, h⟩ := bnd_some h
    refine p_callVi G dX7_sayCard_35 lk_X7_377 (c_X7_say (gl Γ) hc) (As := [.int (zJ v3)]) (ci := 7) rfl rfl rfl rfl (Nat.le_of_ble_eq_true rfl) ⟨rfl, rfl, Nat.le_of_ble_eq_true rfl, Nat.le_of_ble_eq_true rfl⟩ hcs ?_
    (cases h; exact p_vret G hR dX7_sayCard_38 rfl rfl)
  refine p_iload_n G rfl 2 rfl dX7_sayCard_0 ?_
  refine p_ifne (tgt := 10) G dX7_sayCard_1 (by decide) h (fun c6 h => ?_) (fun c6 h => ?_)
  · refine p_lv [0, 1] rfl ?_
    exact j10 _ _ h
  · refine p_aload_n G rfl 0 rfl dX7_sayCard_4 ?_
    refine p_bipush G (by decide) (by decide) dX7_sayCard_5 ?_
    obtain ⟨σ5, hc, h⟩ := bnd_some h
    refine p_callVi G dX7_sayCard_7 lk_X7_377 (c_X7_say (gl Γ) hc) (As := [.int (zJ (44 : Int))]) (ci := 7) rfl rfl rfl rfl (Nat.le_of_ble_eq_true rfl) ⟨rfl, rfl, Nat.le_of_ble_eq_true rfl, Nat.le_of_ble_eq_true rfl⟩ hcs ?_
    refine p_lv [0, 1] rfl ?_
    exact j10 _ _ h
set_option maxHeartbeats 4000000 in
set_option maxRecDepth 100000 in
theorem c_X7_sayAscending (l : Launch) {D : va_G} {yy : Nat → ClassId} {tk tv a : Nat → Nat} {σ : Mm} {p1 : Int64} {o : Mm} (h : x_X7_sayAscending σ p1 = some o) : CT l yX7_sayAscending cX7_sayAscending 5 none rm_X7_sayAscending shW D yy tk tv a σ [.ref (a 0), .long p1] o none := by
  refine ct_of (Ar := fun a tk => [.ref (a 0), .long p1]) (by decide) (Nat.le_of_ble_eq_true rfl) (fun Γ G _ _ hR => ?_)
  have hcs := rt_cs hR
  unfold x_X7_sayAscending at h
  refine (?_ : PT Γ 5 shW 0 σ [(0, .ref (ga Γ 0)), (1, .long p1)] [])
  refine p_iconst G rfl dX7_sayAscending_0 ?_
  refine p_istore_nU (lv' := [(3, .int (zJ (0 : Int))), (0, .ref (ga Γ 0)), (1, .long p1)]) G rfl dX7_sayAscending_1 (by decide) rfl ?_
  refine p_iconst G rfl dX7_sayAscending_2 ?_
  refine p_istoreU (lv' := [(4, .int (zJ (0 : Int))), (3, .int (zJ (0 : Int))), (0, .ref (ga Γ 0)), (1, .long p1)]) G dX7_sayAscending_3 (by decide) rfl ?_
  refine p_lv [2, 3, 1, 0] rfl ?_
  obtain ⟨e12, hl5, h⟩ := bnd_some h
  have hX5_47 : ∀ (σ13 : Mm), σ13 = e12 → PT Γ 5 shW 47 σ13 [] [] := by
    intro σ13 he
    subst he
    (cases h; exact p_vret G hR dX7_sayAscending_47 rfl rfl)
  refine lup_walk (s := (σ, (0 : Int), (0 : Int))) (At := fun s : Mm × Int × Int => PT Γ 5 shW 5 s.1 [(0, .ref (ga Γ 0)), (1, .long p1), (3, .int (zJ s.2.1)), (4, .int (zJ s.2.2))] []) (fun s r hf hin5 hout5 => ?_) hl5
  obtain ⟨σ5, u3_5, u4_5⟩ := s
  have h : x_X7_sayAscending_b5 p1 σ5 u3_5 u4_5 = some r := hf
  clear hf
  unfold x_X7_sayAscending_b5 at h
  refine (?_ : PT Γ 5 shW 5 σ5 [(0, .ref (ga Γ 0)), (1, .long p1), (3, .int (zJ u3_5)), (4, .int (zJ u4_5))] [])
  refine p_iload G 3 rfl dX7_sayAscending_5 ?_
  refine p_bipush G (by decide) (by decide) dX7_sayAscending_7 ?_
  refine p_icmpge (tgt := 47) G dX7_sayAscending_9 (by decide) h (fun c10 h => ?_) (fun c10 h => ?_)
  · refine p_lv [] rfl ?_
    have he := hout5 _ (Option.some.inj h).symm
    subst he
    exact hX5_47 _ rfl
  · refine p_lload_n G rfl 1 rfl dX7_sayAscending_12 ?_
    refine p_iload G 3 rfl dX7_sayAscending_13 ?_
    refine p_lshr G dX7_sayAscending_15 ?_
    refine p_lconst G (v := 1) (by decide) dX7_sayAscending_16 ?_
    refine p_land G dX7_sayAscending_17 ?_
    refine p_lconst G (v := 1) (by decide) dX7_sayAscending_18 ?_
    refine p_lcmp G dX7_sayAscending_19 ?_
    refine p_ifne (tgt := 41) G dX7_sayAscending_20 (by decide) h (fun c9 h => ?_) (fun c9 h => ?_)
    · refine p_iinc (lv' := fun v1 => [(4, .int (zJ v1)), (0, .ref (ga Γ 0)), (1, .long p1), (3, .int (zJ u3_5))]) G dX7_sayAscending_41 h 3 rfl (by decide) (fun _ => rfl) (fun v1 h => ?_)
      refine p_goto (tgt := 5) G dX7_sayAscending_44 (by decide) ?_
      refine p_lv [1, 2, 3, 0] rfl ?_
      exact hin5 _ (Option.some.inj h).symm
    · refine p_aload_n G rfl 0 rfl dX7_sayAscending_23 ?_
      refine p_iload G 3 rfl dX7_sayAscending_24 ?_
      refine p_iload_n G rfl 2 rfl dX7_sayAscending_26 ?_
      refine p_ifne (tgt := 34) G dX7_sayAscending_27 (by decide) h (fun c8 h => ?_) (fun c8 h => ?_)
      · refine p_iconst G rfl dX7_sayAscending_34 ?_
        obtain ⟨σ2, hc, h⟩ := bnd_some h
        refine p_callVi G dX7_sayAscending_35 lk_X7_384 (c_X7_sayCard (gl Γ) hc) (As := [.int (zJ u4_5), .int (zJ (0 : Int))]) (ci := 7) rfl rfl rfl rfl (Nat.le_of_ble_eq_true rfl) ⟨rfl, rfl, Nat.le_of_ble_eq_true rfl, Nat.le_of_ble_eq_true rfl⟩ hcs ?_
        refine p_iinc (lv' := fun v3 => [(3, .int (zJ v3)), (0, .ref (ga Γ 0)), (1, .long p1), (4, .int (zJ u4_5))]) G dX7_sayAscending_38 h 2 rfl (by decide) (fun _ => rfl) (fun v3 h => ?_)
        refine p_iinc (lv' := fun v4 => [(4, .int (zJ v4)), (3, .int (zJ v3)), (0, .ref (ga Γ 0)), (1, .long p1)]) G dX7_sayAscending_41 h 3 rfl (by decide) (fun _ => rfl) (fun v4 h => ?_)
        refine p_goto (tgt := 5) G dX7_sayAscending_44 (by decide) ?_
        refine p_lv [2, 3, 1, 0] rfl ?_
        exact hin5 _ (Option.some.inj h).symm
      · refine p_iconst G rfl dX7_sayAscending_30 ?_
        refine p_goto (tgt := 35) G dX7_sayAscending_31 (by decide) ?_
        obtain ⟨σ5, hc, h⟩ := bnd_some h
        refine p_callVi G dX7_sayAscending_35 lk_X7_384 (c_X7_sayCard (gl Γ) hc) (As := [.int (zJ u4_5), .int (zJ (1 : Int))]) (ci := 7) rfl rfl rfl rfl (Nat.le_of_ble_eq_true rfl) ⟨rfl, rfl, Nat.le_of_ble_eq_true rfl, Nat.le_of_ble_eq_true rfl⟩ hcs ?_
        refine p_iinc (lv' := fun v6 => [(3, .int (zJ v6)), (0, .ref (ga Γ 0)), (1, .long p1), (4, .int (zJ u4_5))]) G dX7_sayAscending_38 h 2 rfl (by decide) (fun _ => rfl) (fun v6 h => ?_)
        refine p_iinc (lv' := fun v7 => [(4, .int (zJ v7)), (3, .int (zJ v6)), (0, .ref (ga Γ 0)), (1, .long p1)]) G dX7_sayAscending_41 h 3 rfl (by decide) (fun _ => rfl) (fun v7 h => ?_)
        refine p_goto (tgt := 5) G dX7_sayAscending_44 (by decide) ?_
        refine p_lv [2, 3, 1, 0] rfl ?_
        exact hin5 _ (Option.some.inj h).symm
set_option maxHeartbeats 4000000 in
set_option maxRecDepth 100000 in
theorem c_X7_sayRun (l : Launch) {D : va_G} {yy : Nat → ClassId} {tk tv a : Nat → Nat} {σ : Mm} {p1 : Int64} {o : Mm} (h : x_X7_sayRun σ p1 = some o) : CT l yX7_sayRun cX7_sayRun 6 none rm_X7_sayRun shW D yy tk tv a σ [.ref (a 0), .long p1] o none := by
  refine ct_of (Ar := fun a tk => [.ref (a 0), .long p1]) (by decide) (Nat.le_of_ble_eq_true rfl) (fun Γ G _ _ hR => ?_)
  have hcs := rt_cs hR
  unfold x_X7_sayRun at h
  refine (?_ : PT Γ 6 shW 0 σ [(0, .ref (ga Γ 0)), (1, .long p1)] [])
  refine p_lload_n G rfl 1 rfl dX7_sayRun_0 ?_
  obtain ⟨v1, hc, h⟩ := bnd_some h
  refine p_callS0 G dX7_sayRun_1 lk_X7_164 (c_X7_firstOf (gl Γ) hc) (As := [.long p1]) rfl zk_29 rfl (Nat.le_of_ble_eq_true rfl) ⟨rfl, rfl, Nat.le_of_ble_eq_true rfl, Nat.le_of_ble_eq_true rfl⟩ hcs ?_
  refine p_istore_nU (lv' := [(3, .int (zJ v1)), (0, .ref (ga Γ 0)), (1, .long p1)]) G rfl dX7_sayRun_4 (by decide) rfl ?_
  refine p_iload_n G rfl 0 rfl dX7_sayRun_5 ?_
  refine p_bipush G (by decide) (by decide) dX7_sayRun_6 ?_
  refine p_idivK G dX7_sayRun_8 (by decide) ?_
  refine p_bipush G (by decide) (by decide) dX7_sayRun_9 ?_
  refine p_imul G dX7_sayRun_11 ?_
  refine p_istore (lv' := fun v2 => [(4, .int (zJ v2)), (3, .int (zJ v1)), (0, .ref (ga Γ 0)), (1, .long p1)]) G dX7_sayRun_12 h (by decide) (fun _ => rfl) (fun v2 h => ?_)
  refine p_iconst G rfl dX7_sayRun_14 ?_
  refine p_istoreU (lv' := [(5, .int (zJ (0 : Int))), (4, .int (zJ v2)), (3, .int (zJ v1)), (0, .ref (ga Γ 0)), (1, .long p1)]) G dX7_sayRun_15 (by decide) rfl ?_
  refine p_lv [3, 4, 2, 1, 0] rfl ?_
  obtain ⟨e11, hl17, h⟩ := bnd_some h
  have hX17_59 : ∀ (σ12 : Mm), σ12 = e11 → PT Γ 6 shW 59 σ12 [] [] := by
    intro σ12 he
    subst he
    (cases h; exact p_vret G hR dX7_sayRun_59 rfl rfl)
  refine lup_walk (s := (σ, (0 : Int))) (At := fun s : Mm × Int => PT Γ 6 shW 17 s.1 [(0, .ref (ga Γ 0)), (1, .long p1), (3, .int (zJ v1)), (4, .int (zJ v2)), (5, .int (zJ s.2))] []) (fun s r hf hin17 hout17 => ?_) hl17
  obtain ⟨σ17, u5_17⟩ := s
  have h : x_X7_sayRun_b17 p1 v1 v2 σ17 u5_17 = some r := hf
  clear hf
  unfold x_X7_sayRun_b17 at h
  refine (?_ : PT Γ 6 shW 17 σ17 [(0, .ref (ga Γ 0)), (1, .long p1), (3, .int (zJ v1)), (4, .int (zJ v2)), (5, .int (zJ u5_17))] [])
  refine p_iload G 4 rfl dX7_sayRun_17 ?_
  refine p_lload_n G rfl 1 rfl dX7_sayRun_19 ?_
  obtain ⟨v3, hc, h⟩ := bnd_some h
  refine p_callS0 G dX7_sayRun_20 lk_X7_103 (c_X7_ones (gl Γ) hc) (As := [.long p1]) rfl zk_29 rfl (Nat.le_of_ble_eq_true rfl) ⟨rfl, rfl, Nat.le_of_ble_eq_true rfl, Nat.le_of_ble_eq_true rfl⟩ hcs ?_
  refine p_icmpge (tgt := 59) G dX7_sayRun_23 (by decide) h (fun c9 h => ?_) (fun c9 h => ?_)
  · refine p_lv [] rfl ?_
    have he := hout17 _ (Option.some.inj h).symm
    subst he
    exact hX17_59 _ rfl
  · refine p_aload_n G rfl 0 rfl dX7_sayRun_26 ?_
    refine p_iload G 3 rfl dX7_sayRun_27 ?_
    refine p_iload_n G rfl 2 rfl dX7_sayRun_29 ?_
    refine p_bipush G (by decide) (by decide) dX7_sayRun_30 ?_
    refine p_iremK G dX7_sayRun_32 (by decide) ?_
    refine p_iload G 4 rfl dX7_sayRun_33 ?_
    refine p_iadd G dX7_sayRun_35 ?_
    refine p_bipush G (by decide) (by decide) dX7_sayRun_36 ?_
    refine p_iremK G dX7_sayRun_38 (by decide) ?_
    refine p_iadd G dX7_sayRun_39 ?_
    refine p_iload G 4 rfl dX7_sayRun_40 ?_
    refine p_ifne (tgt := 49) G dX7_sayRun_42 (by decide) h (fun c8 h => ?_) (fun c8 h => ?_)
    · refine p_iconst G rfl dX7_sayRun_49 ?_
      obtain ⟨σ4, hc, h⟩ := bnd_some h
      refine p_callVi G dX7_sayRun_50 lk_X7_384 (c_X7_sayCard (gl Γ) hc) (As := [.int (zJ (v2 + (zrem ((zrem v1 (13 : Int)) + u5_17) (13 : Int)))), .int (zJ (0 : Int))]) (ci := 7) rfl rfl rfl rfl (Nat.le_of_ble_eq_true rfl) ⟨rfl, rfl, Nat.le_of_ble_eq_true rfl, Nat.le_of_ble_eq_true rfl⟩ hcs ?_
      refine p_iinc (lv' := fun v5 => [(5, .int (zJ v5)), (0, .ref (ga Γ 0)), (1, .long p1), (3, .int (zJ v1)), (4, .int (zJ v2))]) G dX7_sayRun_53 h 4 rfl (by decide) (fun _ => rfl) (fun v5 h => ?_)
      refine p_goto (tgt := 17) G dX7_sayRun_56 (by decide) ?_
      refine p_lv [1, 2, 3, 4, 0] rfl ?_
      exact hin17 _ (Option.some.inj h).symm
    · refine p_iconst G rfl dX7_sayRun_45 ?_
      refine p_goto (tgt := 50) G dX7_sayRun_46 (by decide) ?_
      obtain ⟨σ6, hc, h⟩ := bnd_some h
      refine p_callVi G dX7_sayRun_50 lk_X7_384 (c_X7_sayCard (gl Γ) hc) (As := [.int (zJ (v2 + (zrem ((zrem v1 (13 : Int)) + u5_17) (13 : Int)))), .int (zJ (1 : Int))]) (ci := 7) rfl rfl rfl rfl (Nat.le_of_ble_eq_true rfl) ⟨rfl, rfl, Nat.le_of_ble_eq_true rfl, Nat.le_of_ble_eq_true rfl⟩ hcs ?_
      refine p_iinc (lv' := fun v7 => [(5, .int (zJ v7)), (0, .ref (ga Γ 0)), (1, .long p1), (3, .int (zJ v1)), (4, .int (zJ v2))]) G dX7_sayRun_53 h 4 rfl (by decide) (fun _ => rfl) (fun v7 h => ?_)
      refine p_goto (tgt := 17) G dX7_sayRun_56 (by decide) ?_
      refine p_lv [1, 2, 3, 4, 0] rfl ?_
      exact hin17 _ (Option.some.inj h).symm
set_option maxHeartbeats 4000000 in
set_option maxRecDepth 100000 in
theorem c_X7_writeLaying (l : Launch) {D : va_G} {yy : Nat → ClassId} {tk tv a : Nat → Nat} {σ : Mm} {p1 : Int} {o : Mm × Int} (h : x_X7_writeLaying σ p1 = some o) : CT l yX7_writeLaying cX7_writeLaying 3 (some .int) rm_X7_writeLaying shW D yy tk tv a σ [.ref (a 0), .int (zJ p1)] o.1 (some (.int (zJ o.2))) := by
  refine ct_of (Ar := fun a tk => [.ref (a 0), .int (zJ p1)]) (by decide) (Nat.le_of_ble_eq_true rfl) (fun Γ G _ _ hR => ?_)
  have hcs := rt_cs hR
  unfold x_X7_writeLaying at h
  refine (?_ : PT Γ 3 shW 0 σ [(0, .ref (ga Γ 0)), (1, .int (zJ p1))] [])
  refine p_aload_n G rfl 0 rfl dX7_writeLaying_0 ?_
  refine p_iconst G rfl dX7_writeLaying_1 ?_
  refine p_putI G dX7_writeLaying_2 fp_X7_62 (k := 0) rfl rfl rfl rfl h (fun σ1 h => ?_)
  refine p_aload_n G rfl 0 rfl dX7_writeLaying_5 ?_
  refine p_iload_n G rfl 1 rfl dX7_writeLaying_6 ?_
  obtain ⟨⟨σ2, v3⟩, hc, h⟩ := bnd_some h
  rw [un2_mk] at h
  refine p_callVi G dX7_writeLaying_7 lk_X7_338 (c_X7_noPlayer (gl Γ) hc) (As := [.int (zJ p1)]) (ci := 7) rfl rfl rfl rfl (Nat.le_of_ble_eq_true rfl) ⟨rfl, rfl, Nat.le_of_ble_eq_true rfl, Nat.le_of_ble_eq_true rfl⟩ hcs ?_
  refine p_ifeq (tgt := 15) G dX7_writeLaying_10 (by decide) h (fun c28 h => ?_) (fun c28 h => ?_)
  · refine p_aload_n G rfl 0 rfl dX7_writeLaying_15 ?_
    refine p_iload_n G rfl 1 rfl dX7_writeLaying_16 ?_
    obtain ⟨σ4, hc, h⟩ := bnd_some h
    refine p_callVi G dX7_writeLaying_17 lk_X7_177 (c_X7_layOutOf (gl Γ) hc) (As := [.int (zJ p1)]) (ci := 7) rfl rfl rfl rfl (Nat.le_of_ble_eq_true rfl) ⟨rfl, rfl, Nat.le_of_ble_eq_true rfl, Nat.le_of_ble_eq_true rfl⟩ hcs ?_
    refine p_aload_n G rfl 0 rfl dX7_writeLaying_20 ?_
    refine p_iconst G rfl dX7_writeLaying_21 ?_
    refine p_putI G dX7_writeLaying_22 fp_X7_374 (k := 0) rfl rfl rfl rfl h (fun σ5 h => ?_)
    refine p_iconst G rfl dX7_writeLaying_25 ?_
    refine p_istore_nU (lv' := [(2, .int (zJ (0 : Int))), (0, .ref (ga Γ 0)), (1, .int (zJ p1))]) G rfl dX7_writeLaying_26 (by decide) rfl ?_
    refine p_lv [1, 0] rfl ?_
    obtain ⟨e19, hl27, h⟩ := bnd_some h
    have hX27_86 : ∀ (σ20 : Mm), σ20 = e19 → PT Γ 3 shW 86 σ20 [(0, .ref (ga Γ 0))] [] := by
      intro σ20 he
      subst he
      refine p_aload_n G rfl 0 rfl dX7_writeLaying_86 ?_
      refine p_get G dX7_writeLaying_87 fl_X7_140 (k := 0) rfl rfl ?_
      refine p_lconst G (v := 0) (by decide) dX7_writeLaying_90 ?_
      refine p_lcmp G dX7_writeLaying_91 ?_
      refine p_ifeq (tgt := 122) G dX7_writeLaying_92 (by decide) h (fun c27 h => ?_) (fun c27 h => ?_)
      · refine p_aload_n G rfl 0 rfl dX7_writeLaying_122 ?_
        refine p_get G dX7_writeLaying_123 fl_X7_374 (k := 0) rfl rfl ?_
        (cases h; exact p_iret G hR dX7_writeLaying_126 rfl rfl)
      · refine p_aload_n G rfl 0 rfl dX7_writeLaying_95 ?_
        refine p_get G dX7_writeLaying_96 fl_X7_374 (k := 0) rfl rfl ?_
        refine p_ifle (tgt := 108) G dX7_writeLaying_99 (by decide) h (fun c26 h => ?_) (fun c26 h => ?_)
        · refine p_aload_n G rfl 0 rfl dX7_writeLaying_108 ?_
          refine p_bipush G (by decide) (by decide) dX7_writeLaying_109 ?_
          obtain ⟨σ21, hc, h⟩ := bnd_some h
          refine p_callVi G dX7_writeLaying_111 lk_X7_377 (c_X7_say (gl Γ) hc) (As := [.int (zJ (45 : Int))]) (ci := 7) rfl rfl rfl rfl (Nat.le_of_ble_eq_true rfl) ⟨rfl, rfl, Nat.le_of_ble_eq_true rfl, Nat.le_of_ble_eq_true rfl⟩ hcs ?_
          refine p_aload_n G rfl 0 rfl dX7_writeLaying_114 ?_
          refine p_aload_n G rfl 0 rfl dX7_writeLaying_115 ?_
          refine p_get G dX7_writeLaying_116 fl_X7_140 (k := 0) rfl rfl ?_
          obtain ⟨σ22, hc, h⟩ := bnd_some h
          refine p_callVi G dX7_writeLaying_119 lk_X7_388 (c_X7_sayAscending (gl Γ) hc) (As := [.long (zL (σ21 0 18))]) (ci := 7) rfl rfl rfl rfl (Nat.le_of_ble_eq_true rfl) ⟨rfl, rfl, Nat.le_of_ble_eq_true rfl, Nat.le_of_ble_eq_true rfl⟩ hcs ?_
          refine p_aload_n G rfl 0 rfl dX7_writeLaying_122 ?_
          refine p_get G dX7_writeLaying_123 fl_X7_374 (k := 0) rfl rfl ?_
          (cases h; exact p_iret G hR dX7_writeLaying_126 rfl rfl)
        · refine p_aload_n G rfl 0 rfl dX7_writeLaying_102 ?_
          refine p_bipush G (by decide) (by decide) dX7_writeLaying_103 ?_
          obtain ⟨σ23, hc, h⟩ := bnd_some h
          refine p_callVi G dX7_writeLaying_105 lk_X7_377 (c_X7_say (gl Γ) hc) (As := [.int (zJ (32 : Int))]) (ci := 7) rfl rfl rfl rfl (Nat.le_of_ble_eq_true rfl) ⟨rfl, rfl, Nat.le_of_ble_eq_true rfl, Nat.le_of_ble_eq_true rfl⟩ hcs ?_
          refine p_aload_n G rfl 0 rfl dX7_writeLaying_108 ?_
          refine p_bipush G (by decide) (by decide) dX7_writeLaying_109 ?_
          obtain ⟨σ24, hc, h⟩ := bnd_some h
          refine p_callVi G dX7_writeLaying_111 lk_X7_377 (c_X7_say (gl Γ) hc) (As := [.int (zJ (45 : Int))]) (ci := 7) rfl rfl rfl rfl (Nat.le_of_ble_eq_true rfl) ⟨rfl, rfl, Nat.le_of_ble_eq_true rfl, Nat.le_of_ble_eq_true rfl⟩ hcs ?_
          refine p_aload_n G rfl 0 rfl dX7_writeLaying_114 ?_
          refine p_aload_n G rfl 0 rfl dX7_writeLaying_115 ?_
          refine p_get G dX7_writeLaying_116 fl_X7_140 (k := 0) rfl rfl ?_
          obtain ⟨σ25, hc, h⟩ := bnd_some h
          refine p_callVi G dX7_writeLaying_119 lk_X7_388 (c_X7_sayAscending (gl Γ) hc) (As := [.long (zL (σ24 0 18))]) (ci := 7) rfl rfl rfl rfl (Nat.le_of_ble_eq_true rfl) ⟨rfl, rfl, Nat.le_of_ble_eq_true rfl, Nat.le_of_ble_eq_true rfl⟩ hcs ?_
          refine p_aload_n G rfl 0 rfl dX7_writeLaying_122 ?_
          refine p_get G dX7_writeLaying_123 fl_X7_374 (k := 0) rfl rfl ?_
          (cases h; exact p_iret G hR dX7_writeLaying_126 rfl rfl)
    refine lup_walk (s := (σ5, (0 : Int))) (At := fun s : Mm × Int => PT Γ 3 shW 27 s.1 [(0, .ref (ga Γ 0)), (2, .int (zJ s.2))] []) (fun s r hf hin27 hout27 => ?_) hl27
    obtain ⟨σ27, u2_27⟩ := s
    have h : x_X7_writeLaying_b27 σ27 u2_27 = some r := hf
    clear hf
    have j45 : ∀ (σ_45 : Mm) (v2_45 : Int), x_X7_writeLaying_j45_27 σ_45 v2_45 = some r → PT Γ 3 shW 45 σ_45 [(0, .ref (ga Γ 0)), (2, .int (zJ v2_45))] [] := by
      intro σ_45 v2_45 h
      unfold x_X7_writeLaying_j45_27 at h
      refine p_aload_n G rfl 0 rfl dX7_writeLaying_45 ?_
      refine p_get G dX7_writeLaying_46 fl_X7_44 (k := 0) rfl rfl ?_
      refine p_iload_n G rfl 1 rfl dX7_writeLaying_49 ?_
      refine p_lald G dX7_writeLaying_50 (k := 23) rfl (zt_c _) h (fun c6 h => ?_)
      obtain ⟨v7, hc, h⟩ := bnd_some h
      refine p_callS0 G dX7_writeLaying_51 lk_X7_160 (c_X7_isSetOf (gl Γ) hc) (As := [.long (zL (σ_45 23 (zix v2_45)))]) rfl zk_29 rfl (Nat.le_of_ble_eq_true rfl) ⟨rfl, rfl, Nat.le_of_ble_eq_true rfl, Nat.le_of_ble_eq_true rfl⟩ hcs ?_
      refine p_ifeq (tgt := 70) G dX7_writeLaying_54 (by decide) h (fun c14 h => ?_) (fun c14 h => ?_)
      · refine p_aload_n G rfl 0 rfl dX7_writeLaying_70 ?_
        refine p_aload_n G rfl 0 rfl dX7_writeLaying_71 ?_
        refine p_get G dX7_writeLaying_72 fl_X7_44 (k := 0) rfl rfl ?_
        refine p_iload_n G rfl 1 rfl dX7_writeLaying_75 ?_
        refine p_lald G dX7_writeLaying_76 (k := 23) rfl (zt_c _) h (fun c8 h => ?_)
        obtain ⟨σ9, hc, h⟩ := bnd_some h
        refine p_callVi G dX7_writeLaying_77 lk_X7_392 (c_X7_sayRun (gl Γ) hc) (As := [.long (zL (σ_45 23 (zix v2_45)))]) (ci := 7) rfl rfl rfl rfl (Nat.le_of_ble_eq_true rfl) ⟨rfl, rfl, Nat.le_of_ble_eq_true rfl, Nat.le_of_ble_eq_true rfl⟩ hcs ?_
        refine p_iinc (lv' := fun v10 => [(2, .int (zJ v10)), (0, .ref (ga Γ 0))]) G dX7_writeLaying_80 h 1 rfl (by decide) (fun _ => rfl) (fun v10 h => ?_)
        refine p_goto (tgt := 27) G dX7_writeLaying_83 (by decide) ?_
        refine p_lv [1, 0] rfl ?_
        exact hin27 _ (Option.some.inj h).symm
      · refine p_aload_n G rfl 0 rfl dX7_writeLaying_57 ?_
        refine p_aload_n G rfl 0 rfl dX7_writeLaying_58 ?_
        refine p_get G dX7_writeLaying_59 fl_X7_44 (k := 0) rfl rfl ?_
        refine p_iload_n G rfl 1 rfl dX7_writeLaying_62 ?_
        refine p_lald G dX7_writeLaying_63 (k := 23) rfl (zt_c _) h (fun c11 h => ?_)
        obtain ⟨σ12, hc, h⟩ := bnd_some h
        refine p_callVi G dX7_writeLaying_64 lk_X7_388 (c_X7_sayAscending (gl Γ) hc) (As := [.long (zL (σ_45 23 (zix v2_45)))]) (ci := 7) rfl rfl rfl rfl (Nat.le_of_ble_eq_true rfl) ⟨rfl, rfl, Nat.le_of_ble_eq_true rfl, Nat.le_of_ble_eq_true rfl⟩ hcs ?_
        refine p_goto (tgt := 80) G dX7_writeLaying_67 (by decide) ?_
        refine p_iinc (lv' := fun v13 => [(2, .int (zJ v13)), (0, .ref (ga Γ 0))]) G dX7_writeLaying_80 h 1 rfl (by decide) (fun _ => rfl) (fun v13 h => ?_)
        refine p_goto (tgt := 27) G dX7_writeLaying_83 (by decide) ?_
        refine p_lv [1, 0] rfl ?_
        exact hin27 _ (Option.some.inj h).symm
    unfold x_X7_writeLaying_b27 at h
    refine (?_ : PT Γ 3 shW 27 σ27 [(0, .ref (ga Γ 0)), (2, .int (zJ u2_27))] [])
    refine p_iload_n G rfl 1 rfl dX7_writeLaying_27 ?_
    refine p_aload_n G rfl 0 rfl dX7_writeLaying_28 ?_
    refine p_get G dX7_writeLaying_29 fl_X7_137 (k := 0) rfl rfl ?_
    refine p_icmpge (tgt := 86) G dX7_writeLaying_32 (by decide) h (fun c17 h => ?_) (fun c17 h => ?_)
    · refine p_lv [0] rfl ?_
      have he := hout27 _ (Option.some.inj h).symm
      subst he
      exact hX27_86 _ rfl
    · refine p_iload_n G rfl 1 rfl dX7_writeLaying_35 ?_
      refine p_ifle (tgt := 45) G dX7_writeLaying_36 (by decide) h (fun c16 h => ?_) (fun c16 h => ?_)
      · exact j45 _ _ h
      · refine p_aload_n G rfl 0 rfl dX7_writeLaying_39 ?_
        refine p_bipush G (by decide) (by decide) dX7_writeLaying_40 ?_
        obtain ⟨σ15, hc, h⟩ := bnd_some h
        refine p_callVi G dX7_writeLaying_42 lk_X7_377 (c_X7_say (gl Γ) hc) (As := [.int (zJ (32 : Int))]) (ci := 7) rfl rfl rfl rfl (Nat.le_of_ble_eq_true rfl) ⟨rfl, rfl, Nat.le_of_ble_eq_true rfl, Nat.le_of_ble_eq_true rfl⟩ hcs ?_
        exact j45 _ _ h
  · refine p_iconst G rfl dX7_writeLaying_13 ?_
    (cases h; exact p_iret G hR dX7_writeLaying_14 rfl rfl)
set_option maxHeartbeats 4000000 in
set_option maxRecDepth 100000 in
theorem c_X7_reportByte (l : Launch) {D : va_G} {yy : Nat → ClassId} {tk tv a : Nat → Nat} {σ : Mm} {p1 : Int} {o : Mm × Int} (h : x_X7_reportByte σ p1 = some o) : CT l yX7_reportByte cX7_reportByte 2 (some .int) rm_X7_reportByte shW D yy tk tv a σ [.ref (a 0), .int (zJ p1)] o.1 (some (.int (zJ o.2))) := by
  refine ct_of (Ar := fun a tk => [.ref (a 0), .int (zJ p1)]) (by decide) (Nat.le_of_ble_eq_true rfl) (fun Γ G _ _ hR => ?_)
  have hcs := rt_cs hR
  unfold x_X7_reportByte at h
  refine (?_ : PT Γ 2 shW 0 σ [(0, .ref (ga Γ 0)), (1, .int (zJ p1))] [])
  refine p_aload_n G rfl 0 rfl dX7_reportByte_0 ?_
  refine p_iconst G rfl dX7_reportByte_1 ?_
  refine p_putI G dX7_reportByte_2 fp_X7_62 (k := 0) rfl rfl rfl rfl h (fun σ1 h => ?_)
  refine p_iload_n G rfl 1 rfl dX7_reportByte_5 ?_
  refine p_iflt (tgt := 17) G dX7_reportByte_6 (by decide) h (fun c4 h => ?_) (fun c4 h => ?_)
  · refine p_iconst G rfl dX7_reportByte_17 ?_
    refine p_goto (tgt := 27) G dX7_reportByte_18 (by decide) ?_
    (cases h; exact p_iret G hR dX7_reportByte_27 rfl rfl)
  · refine p_iload_n G rfl 1 rfl dX7_reportByte_9 ?_
    refine p_aload_n G rfl 0 rfl dX7_reportByte_10 ?_
    refine p_get G dX7_reportByte_11 fl_X7_374 (k := 0) rfl rfl ?_
    refine p_icmplt (tgt := 21) G dX7_reportByte_14 (by decide) h (fun c3 h => ?_) (fun c3 h => ?_)
    · refine p_aload_n G rfl 0 rfl dX7_reportByte_21 ?_
      refine p_get G dX7_reportByte_22 fl_X7_31 (k := 0) rfl rfl ?_
      refine p_iload_n G rfl 1 rfl dX7_reportByte_25 ?_
      refine p_bald G dX7_reportByte_26 (k := 19) rfl (zt_c _) h (fun c2 h => ?_)
      (cases h; exact p_iret G hR dX7_reportByte_27 rfl rfl)
    · refine p_iconst G rfl dX7_reportByte_17 ?_
      refine p_goto (tgt := 27) G dX7_reportByte_18 (by decide) ?_
      (cases h; exact p_iret G hR dX7_reportByte_27 rfl rfl)
