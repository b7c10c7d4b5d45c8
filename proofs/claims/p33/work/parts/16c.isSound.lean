set_option maxHeartbeats 4000000 in
set_option maxRecDepth 100000 in
theorem c_L_isSound (l : Launch) {D : va_G} {yy : Nat → ClassId} {tk tv a : Nat → Nat} {σ : Mm} {o : Mm × Int} (h : x_L_isSound σ = some o) : CTN l yL_isSound cL_isSound 4 (some .boolean) rm_L_isSound shX shX D yy tk tv a σ [.ref (a 0)] o.1 (some (.int (zJ o.2))) 5 52 := by
  refine ctn_of (Ar := fun a tk => [.ref (a 0)]) (by decide) (Nat.le_of_ble_eq_true rfl) (fun h => by cases h) (fun Γ G _ hM hR => ?_)
  have hcs := mk_cs G hM (Nat.le_of_ble_eq_true rfl) (Nat.le_of_ble_eq_true rfl)
  unfold x_L_isSound at h
  refine (?_ : PT Γ 4 shX 0 σ [(0, .ref (ga Γ 0))] [])
  refine p_ext (shg := shSg) G hR hM zx_isSound h (fun Γ9 G hR hM hga σ0 h => ?_)
  rw [← hga]
  clear hga hcs
  revert hM hR G
  generalize Γ9 = Γ
  intro G hR hM
  refine (?_ : PT Γ 4 shSg 0 σ0 [(0, .ref (ga Γ 0))] [])
  have hcs := mk_cs G hM (Nat.le_of_ble_eq_true rfl) (Nat.le_of_ble_eq_true rfl)
  refine p_aload_n G rfl 0 rfl dL_isSound_0 ?_
  obtain ⟨⟨σ1, v2⟩, hc, h⟩ := bnd_some h
  rw [un2_mk] at h
  refine p_callV G zl_106 dL_isSound_1 lk_L_145 (c_X6_gap (gl Γ) hc) (As := []) (ci := 8) rfl zk_106 (zs_x zs_106 _) rfl rfl rfl (Nat.le_of_ble_eq_true rfl) ⟨rfl, rfl, Nat.le_of_ble_eq_true rfl, Nat.le_of_ble_eq_true rfl⟩ hcs ?_
  refine p_nm h (fun σ3 h => ?_)
  refine p_ifeq (tgt := 9) G dL_isSound_4 (by decide) h (fun c55 h => ?_) (fun c55 h => ?_)
  · refine p_iconst G rfl dL_isSound_9 ?_
    refine p_newaSt (ins := .return_) (lv' := fun a => [(1, .ref (a 101)), (0, .ref (a 0))]) (kf := 200) (j := 0) (K := 101) (N := 4) (c1 := 0) (kd := 0) (ir := 1) (ln := 1) G hR hM gm_135 dL_isSound_10 (fun a H locs mc ms ls hl k => lv_astore_n G.1 G.2.1 dL_isSound_12 rfl hl (by decide) rfl k) rfl (by decide +kernel) (by decide +kernel) (by decide +kernel) (fun _ => rfl) (fun _ _ h => h) (fun j2 => by unfold zFk; rw [if_neg (by decide)]; unfold zF; rw [zt_c]; exact congrArg Value.int (show (0 : Int32) = zJ 0 by decide)) (by decide) (by decide) (by decide) (by decide) (Nat.le_of_ble_eq_true rfl) (Nat.le_of_ble_eq_true rfl) h (fun a e => (by have q0 := e 0 (by decide +kernel); simp only [q0]; rfl)) (fun Γ G hR hM σ4 h => ?_)
    refine (?_ : PT Γ 4 shSg 13 σ4 [(1, .ref (ga Γ 101)), (0, .ref (ga Γ 0))] [])
    have hcs := mk_cs G hM (Nat.le_of_ble_eq_true rfl) (Nat.le_of_ble_eq_true rfl)
    refine zift h (fun hf h => ?_)
    refine p_conv (s9 := shS) G [(200, 0)] hR hM zk_107 hf (fun Γ9 G hR hM hga => ?_)
    rw [← hga]
    clear hga hcs
    revert hM hR G
    generalize Γ9 = Γ
    intro G hR hM
    refine (?_ : PT Γ 4 shS 13 σ4 [(1, .ref (ga Γ 101)), (0, .ref (ga Γ 0))] [])
    have hcs := mk_cs G hM (Nat.le_of_ble_eq_true rfl) (Nat.le_of_ble_eq_true rfl)
    refine p_iconst G rfl dL_isSound_13 ?_
    refine p_istore_nU (lv' := [(2, .int (zJ (0 : Int))), (1, .ref (ga Γ 101)), (0, .ref (ga Γ 0))]) G rfl dL_isSound_14 (by decide) rfl ?_
    refine p_lv [2, 1, 0] rfl ?_
    obtain ⟨e12, hl15, h⟩ := bnd_some h
    have hX15_38 : ∀ (σ13 : Mm), σ13 = e12 → PT Γ 4 shS 38 σ13 [(0, .ref (ga Γ 0)), (1, .ref (ga Γ 101))] [] := by
      intro σ13 he
      subst he
      refine p_aload_n G rfl 0 rfl dL_isSound_38 ?_
      refine p_iconst G rfl dL_isSound_39 ?_
      obtain ⟨v14, hc, h⟩ := bnd_some h
      refine p_callHPr (np := 2) G zl_108 dL_isSound_40 gm_970 gm_971 gm_26 gm_972 (by decide +kernel) (c_L_match (gl Γ) hc) (As := [.ref (ga Γ 0), .int (zJ (0 : Int))]) rfl zk_108 (zs_x zs_108 _) rfl (Nat.le_of_ble_eq_true rfl) ⟨rfl, rfl, Nat.le_of_ble_eq_true rfl, Nat.le_of_ble_eq_true rfl⟩ hcs ?_
      refine p_istore_nU (lv' := [(2, .int (zJ v14)), (0, .ref (ga Γ 0)), (1, .ref (ga Γ 101))]) G rfl dL_isSound_43 (by decide) rfl ?_
      refine p_aload_n G rfl 1 rfl dL_isSound_44 ?_
      refine p_iconst G rfl dL_isSound_45 ?_
      obtain ⟨v15, hc, h⟩ := bnd_some h
      refine p_callHPr (np := 2) G zl_108 dL_isSound_46 gm_970 gm_971 gm_26 gm_972 (by decide +kernel) (c_L_match (gl Γ) hc) (As := [.ref (ga Γ 0), .int (zJ (4 : Int))]) rfl zk_108 (zs_x zs_108 _) rfl (Nat.le_of_ble_eq_true rfl) ⟨rfl, rfl, Nat.le_of_ble_eq_true rfl, Nat.le_of_ble_eq_true rfl⟩ hcs ?_
      refine p_istore_nU (lv' := [(3, .int (zJ v15)), (2, .int (zJ v14)), (0, .ref (ga Γ 0)), (1, .ref (ga Γ 101))]) G rfl dL_isSound_49 (by decide) rfl ?_
      refine p_aload_n G rfl 3 rfl dL_isSound_50 ?_
      refine p_iconst G rfl dL_isSound_51 ?_
      refine p_iald G dL_isSound_52 (k := 101) rfl (zt_c _) h (fun c16 h => ?_)
      refine p_aload_n G rfl 2 rfl dL_isSound_53 ?_
      refine p_iconst G rfl dL_isSound_54 ?_
      refine p_iconst G rfl dL_isSound_55 ?_
      obtain ⟨⟨σ17, v18⟩, hc, h⟩ := bnd_some h
      rw [un2_mk] at h
      refine p_callHP (np := 3) G zl_108 dL_isSound_56 gm_994 gm_995 gm_26 gm_996 (by decide +kernel) (c_L_player (gl Γ) hc) (As := [.ref (ga Γ 0), .int (zJ (0 : Int)), .int (zJ (0 : Int))]) rfl zk_108 (zs_x zs_108 _) rfl (Nat.le_of_ble_eq_true rfl) ⟨rfl, rfl, Nat.le_of_ble_eq_true rfl, Nat.le_of_ble_eq_true rfl⟩ hcs ?_
      refine p_nm h (fun σ19 h => ?_)
      refine p_icmpne (tgt := 98) G dL_isSound_59 (by decide) h (fun c54 h => ?_) (fun c54 h => ?_)
      · refine p_iconst G rfl dL_isSound_98 ?_
        (cases h; exact p_zretN G hM (Nat.le_of_ble_eq_true rfl) (Nat.le_of_ble_eq_true rfl) (rtn_up hR (fun _ _ h => h) (zpr_up (by decide +kernel))) dL_isSound_99 (by decide) rfl rfl)
      · refine p_aload_n G rfl 3 rfl dL_isSound_62 ?_
        refine p_iconst G rfl dL_isSound_63 ?_
        refine p_iald G dL_isSound_64 (k := 101) rfl (zt_c _) h (fun c20 h => ?_)
        refine p_aload_n G rfl 2 rfl dL_isSound_65 ?_
        refine p_iconst G rfl dL_isSound_66 ?_
        refine p_iconst G rfl dL_isSound_67 ?_
        obtain ⟨⟨σ21, v22⟩, hc, h⟩ := bnd_some h
        rw [un2_mk] at h
        refine p_callHP (np := 3) G zl_108 dL_isSound_68 gm_994 gm_995 gm_26 gm_996 (by decide +kernel) (c_L_player (gl Γ) hc) (As := [.ref (ga Γ 0), .int (zJ (1 : Int)), .int (zJ (0 : Int))]) rfl zk_108 (zs_x zs_108 _) rfl (Nat.le_of_ble_eq_true rfl) ⟨rfl, rfl, Nat.le_of_ble_eq_true rfl, Nat.le_of_ble_eq_true rfl⟩ hcs ?_
        refine p_nm h (fun σ23 h => ?_)
        refine p_icmpne (tgt := 98) G dL_isSound_71 (by decide) h (fun c53 h => ?_) (fun c53 h => ?_)
        · refine p_iconst G rfl dL_isSound_98 ?_
          (cases h; exact p_zretN G hM (Nat.le_of_ble_eq_true rfl) (Nat.le_of_ble_eq_true rfl) (rtn_up hR (fun _ _ h => h) (zpr_up (by decide +kernel))) dL_isSound_99 (by decide) rfl rfl)
        · refine p_aload_n G rfl 3 rfl dL_isSound_74 ?_
          refine p_iconst G rfl dL_isSound_75 ?_
          refine p_iald G dL_isSound_76 (k := 101) rfl (zt_c _) h (fun c24 h => ?_)
          refine p_aload_n G rfl 2 rfl dL_isSound_77 ?_
          refine p_bipush G (by decide) (by decide) dL_isSound_78 ?_
          obtain ⟨v25, hc, h⟩ := bnd_some h
          refine p_callHPr (np := 2) G zl_108 dL_isSound_80 gm_970 gm_971 gm_26 gm_972 (by decide +kernel) (c_L_match (gl Γ) hc) (As := [.ref (ga Γ 0), .int (zJ (9 : Int))]) rfl zk_108 (zs_x zs_108 _) rfl (Nat.le_of_ble_eq_true rfl) ⟨rfl, rfl, Nat.le_of_ble_eq_true rfl, Nat.le_of_ble_eq_true rfl⟩ hcs ?_
          refine p_icmpne (tgt := 98) G dL_isSound_83 (by decide) h (fun c52 h => ?_) (fun c52 h => ?_)
          · refine p_iconst G rfl dL_isSound_98 ?_
            (cases h; exact p_zretN G hM (Nat.le_of_ble_eq_true rfl) (Nat.le_of_ble_eq_true rfl) (rtn_up hR (fun _ _ h => h) (zpr_up (by decide +kernel))) dL_isSound_99 (by decide) rfl rfl)
          · refine p_aload_n G rfl 3 rfl dL_isSound_86 ?_
            refine p_iconst G rfl dL_isSound_87 ?_
            refine p_iald G dL_isSound_88 (k := 101) rfl (zt_c _) h (fun c26 h => ?_)
            refine p_aload_n G rfl 2 rfl dL_isSound_89 ?_
            refine p_bipush G (by decide) (by decide) dL_isSound_90 ?_
            obtain ⟨v27, hc, h⟩ := bnd_some h
            refine p_callHPr (np := 2) G zl_108 dL_isSound_92 gm_970 gm_971 gm_26 gm_972 (by decide +kernel) (c_L_match (gl Γ) hc) (As := [.ref (ga Γ 0), .int (zJ (8 : Int))]) rfl zk_108 (zs_x zs_108 _) rfl (Nat.le_of_ble_eq_true rfl) ⟨rfl, rfl, Nat.le_of_ble_eq_true rfl, Nat.le_of_ble_eq_true rfl⟩ hcs ?_
            refine p_icmpeq (tgt := 100) G dL_isSound_95 (by decide) h (fun c51 h => ?_) (fun c51 h => ?_)
            · refine p_aload_n G rfl 3 rfl dL_isSound_100 ?_
              refine p_iconst G rfl dL_isSound_101 ?_
              refine p_iload_n G rfl 0 rfl dL_isSound_102 ?_
              refine p_isub G dL_isSound_103 ?_
              refine p_iald G dL_isSound_104 (k := 101) rfl (zt_c _) h (fun c28 h => ?_)
              refine p_iload_n G rfl 1 rfl dL_isSound_105 ?_
              refine p_icmpne (tgt := 131) G dL_isSound_106 (by decide) h (fun c50 h => ?_) (fun c50 h => ?_)
              · refine p_iconst G rfl dL_isSound_131 ?_
                (cases h; exact p_zretN G hM (Nat.le_of_ble_eq_true rfl) (Nat.le_of_ble_eq_true rfl) (rtn_up hR (fun _ _ h => h) (zpr_up (by decide +kernel))) dL_isSound_132 (by decide) rfl rfl)
              · refine p_aload_n G rfl 2 rfl dL_isSound_109 ?_
                refine p_bipush G (by decide) (by decide) dL_isSound_110 ?_
                obtain ⟨v29, hc, h⟩ := bnd_some h
                refine p_callHPr (np := 2) G zl_108 dL_isSound_112 gm_970 gm_971 gm_26 gm_972 (by decide +kernel) (c_L_match (gl Γ) hc) (As := [.ref (ga Γ 0), .int (zJ (6 : Int))]) rfl zk_108 (zs_x zs_108 _) rfl (Nat.le_of_ble_eq_true rfl) ⟨rfl, rfl, Nat.le_of_ble_eq_true rfl, Nat.le_of_ble_eq_true rfl⟩ hcs ?_
                refine p_ifne (tgt := 133) G dL_isSound_115 (by decide) h (fun c49 h => ?_) (fun c49 h => ?_)
                · refine p_aload_n G rfl 2 rfl dL_isSound_133 ?_
                  refine p_iconst G rfl dL_isSound_134 ?_
                  obtain ⟨⟨σ30, v31⟩, hc, h⟩ := bnd_some h
                  rw [un2_mk] at h
                  refine p_callSN (lv' := fun a => [(3, .int (zJ v15)), (2, .int (zJ v14)), (0, .ref (a 0)), (1, .ref (a 101))]) (st' := fun a => []) G (rtn_gr hR (zpg_up (by decide +kernel))) hM zl_108 dL_isSound_135 lk_L_148 (c_L_isLaid (gl Γ) hc) (As := [.ref (ga Γ 0), .int (zJ (0 : Int))]) rfl zk_108 (by decide +kernel) (by decide +kernel) (zs_x zs_108 _) rfl (Nat.le_of_ble_eq_true rfl) ⟨rfl, rfl, Nat.le_of_ble_eq_true rfl, Nat.le_of_ble_eq_true rfl⟩ (Nat.le_of_ble_eq_true rfl) (Nat.le_of_ble_eq_true rfl) h (fun a e => by have q0 := e 0 _ rfl rfl; have q101 := e 101 _ rfl rfl; exact ⟨by simp only [q0, q101], by rfl⟩) (fun Γ G hR hM σ32 h => ?_)
                  refine (?_ : PT Γ 4 shS 138 σ32 [(3, .int (zJ v15)), (2, .int (zJ v14)), (0, .ref (ga Γ 0)), (1, .ref (ga Γ 101))] [.int (zJ v31)])
                  have hcs := mk_cs G hM (Nat.le_of_ble_eq_true rfl) (Nat.le_of_ble_eq_true rfl)
                  refine p_ifeq (tgt := 153) G dL_isSound_138 (by decide) h (fun c37 h => ?_) (fun c37 h => ?_)
                  · refine p_iconst G rfl dL_isSound_153 ?_
                    (cases h; exact p_zretN G hM (Nat.le_of_ble_eq_true rfl) (Nat.le_of_ble_eq_true rfl) (rtn_up hR (fun _ _ h => h) (zpr_up (by decide +kernel))) dL_isSound_154 (by decide) rfl rfl)
                  · refine p_aload_n G rfl 2 rfl dL_isSound_141 ?_
                    refine p_iconst G rfl dL_isSound_142 ?_
                    obtain ⟨⟨σ33, v34⟩, hc, h⟩ := bnd_some h
                    rw [un2_mk] at h
                    refine p_callSN (lv' := fun a => [(3, .int (zJ v15)), (2, .int (zJ v14)), (0, .ref (a 0)), (1, .ref (a 101))]) (st' := fun a => []) G (rtn_gr hR (zpg_up (by decide +kernel))) hM zl_108 dL_isSound_143 lk_L_148 (c_L_isLaid (gl Γ) hc) (As := [.ref (ga Γ 0), .int (zJ (1 : Int))]) rfl zk_108 (by decide +kernel) (by decide +kernel) (zs_x zs_108 _) rfl (Nat.le_of_ble_eq_true rfl) ⟨rfl, rfl, Nat.le_of_ble_eq_true rfl, Nat.le_of_ble_eq_true rfl⟩ (Nat.le_of_ble_eq_true rfl) (Nat.le_of_ble_eq_true rfl) h (fun a e => by have q0 := e 0 _ rfl rfl; have q101 := e 101 _ rfl rfl; exact ⟨by simp only [q0, q101], by rfl⟩) (fun Γ G hR hM σ35 h => ?_)
                    refine (?_ : PT Γ 4 shS 146 σ35 [(3, .int (zJ v15)), (2, .int (zJ v14)), (0, .ref (ga Γ 0)), (1, .ref (ga Γ 101))] [.int (zJ v34)])
                    have hcs := mk_cs G hM (Nat.le_of_ble_eq_true rfl) (Nat.le_of_ble_eq_true rfl)
                    refine p_ifeq (tgt := 153) G dL_isSound_146 (by decide) h (fun c36 h => ?_) (fun c36 h => ?_)
                    · refine p_iconst G rfl dL_isSound_153 ?_
                      (cases h; exact p_zretN G hM (Nat.le_of_ble_eq_true rfl) (Nat.le_of_ble_eq_true rfl) (rtn_up hR (fun _ _ h => h) (zpr_up (by decide +kernel))) dL_isSound_154 (by decide) rfl rfl)
                    · refine p_iconst G rfl dL_isSound_149 ?_
                      refine p_goto (tgt := 154) G dL_isSound_150 (by decide) ?_
                      (cases h; exact p_zretN G hM (Nat.le_of_ble_eq_true rfl) (Nat.le_of_ble_eq_true rfl) (rtn_up hR (fun _ _ h => h) (zpr_up (by decide +kernel))) dL_isSound_154 (by decide) rfl rfl)
                · refine p_aload_n G rfl 3 rfl dL_isSound_118 ?_
                  refine p_iload_n G rfl 0 rfl dL_isSound_119 ?_
                  refine p_iald G dL_isSound_120 (k := 101) rfl (zt_c _) h (fun c38 h => ?_)
                  refine p_iload_n G rfl 1 rfl dL_isSound_121 ?_
                  refine p_aload_n G rfl 2 rfl dL_isSound_122 ?_
                  refine p_iconst G rfl dL_isSound_123 ?_
                  obtain ⟨v39, hc, h⟩ := bnd_some h
                  refine p_callHPr (np := 2) G zl_108 dL_isSound_124 gm_970 gm_971 gm_26 gm_972 (by decide +kernel) (c_L_match (gl Γ) hc) (As := [.ref (ga Γ 0), .int (zJ (5 : Int))]) rfl zk_108 (zs_x zs_108 _) rfl (Nat.le_of_ble_eq_true rfl) ⟨rfl, rfl, Nat.le_of_ble_eq_true rfl, Nat.le_of_ble_eq_true rfl⟩ hcs ?_
                  refine p_iadd G dL_isSound_127 ?_
                  refine p_icmpeq (tgt := 133) G dL_isSound_128 (by decide) h (fun c48 h => ?_) (fun c48 h => ?_)
                  · refine p_aload_n G rfl 2 rfl dL_isSound_133 ?_
                    refine p_iconst G rfl dL_isSound_134 ?_
                    obtain ⟨⟨σ40, v41⟩, hc, h⟩ := bnd_some h
                    rw [un2_mk] at h
                    refine p_callSN (lv' := fun a => [(3, .int (zJ v15)), (2, .int (zJ v14)), (0, .ref (a 0)), (1, .ref (a 101))]) (st' := fun a => []) G (rtn_gr hR (zpg_up (by decide +kernel))) hM zl_108 dL_isSound_135 lk_L_148 (c_L_isLaid (gl Γ) hc) (As := [.ref (ga Γ 0), .int (zJ (0 : Int))]) rfl zk_108 (by decide +kernel) (by decide +kernel) (zs_x zs_108 _) rfl (Nat.le_of_ble_eq_true rfl) ⟨rfl, rfl, Nat.le_of_ble_eq_true rfl, Nat.le_of_ble_eq_true rfl⟩ (Nat.le_of_ble_eq_true rfl) (Nat.le_of_ble_eq_true rfl) h (fun a e => by have q0 := e 0 _ rfl rfl; have q101 := e 101 _ rfl rfl; exact ⟨by simp only [q0, q101], by rfl⟩) (fun Γ G hR hM σ42 h => ?_)
                    refine (?_ : PT Γ 4 shS 138 σ42 [(3, .int (zJ v15)), (2, .int (zJ v14)), (0, .ref (ga Γ 0)), (1, .ref (ga Γ 101))] [.int (zJ v41)])
                    have hcs := mk_cs G hM (Nat.le_of_ble_eq_true rfl) (Nat.le_of_ble_eq_true rfl)
                    refine p_ifeq (tgt := 153) G dL_isSound_138 (by decide) h (fun c47 h => ?_) (fun c47 h => ?_)
                    · refine p_iconst G rfl dL_isSound_153 ?_
                      (cases h; exact p_zretN G hM (Nat.le_of_ble_eq_true rfl) (Nat.le_of_ble_eq_true rfl) (rtn_up hR (fun _ _ h => h) (zpr_up (by decide +kernel))) dL_isSound_154 (by decide) rfl rfl)
                    · refine p_aload_n G rfl 2 rfl dL_isSound_141 ?_
                      refine p_iconst G rfl dL_isSound_142 ?_
                      obtain ⟨⟨σ43, v44⟩, hc, h⟩ := bnd_some h
                      rw [un2_mk] at h
                      refine p_callSN (lv' := fun a => [(3, .int (zJ v15)), (2, .int (zJ v14)), (0, .ref (a 0)), (1, .ref (a 101))]) (st' := fun a => []) G (rtn_gr hR (zpg_up (by decide +kernel))) hM zl_108 dL_isSound_143 lk_L_148 (c_L_isLaid (gl Γ) hc) (As := [.ref (ga Γ 0), .int (zJ (1 : Int))]) rfl zk_108 (by decide +kernel) (by decide +kernel) (zs_x zs_108 _) rfl (Nat.le_of_ble_eq_true rfl) ⟨rfl, rfl, Nat.le_of_ble_eq_true rfl, Nat.le_of_ble_eq_true rfl⟩ (Nat.le_of_ble_eq_true rfl) (Nat.le_of_ble_eq_true rfl) h (fun a e => by have q0 := e 0 _ rfl rfl; have q101 := e 101 _ rfl rfl; exact ⟨by simp only [q0, q101], by rfl⟩) (fun Γ G hR hM σ45 h => ?_)
                      refine (?_ : PT Γ 4 shS 146 σ45 [(3, .int (zJ v15)), (2, .int (zJ v14)), (0, .ref (ga Γ 0)), (1, .ref (ga Γ 101))] [.int (zJ v44)])
                      have hcs := mk_cs G hM (Nat.le_of_ble_eq_true rfl) (Nat.le_of_ble_eq_true rfl)
                      refine p_ifeq (tgt := 153) G dL_isSound_146 (by decide) h (fun c46 h => ?_) (fun c46 h => ?_)
                      · refine p_iconst G rfl dL_isSound_153 ?_
                        (cases h; exact p_zretN G hM (Nat.le_of_ble_eq_true rfl) (Nat.le_of_ble_eq_true rfl) (rtn_up hR (fun _ _ h => h) (zpr_up (by decide +kernel))) dL_isSound_154 (by decide) rfl rfl)
                      · refine p_iconst G rfl dL_isSound_149 ?_
                        refine p_goto (tgt := 154) G dL_isSound_150 (by decide) ?_
                        (cases h; exact p_zretN G hM (Nat.le_of_ble_eq_true rfl) (Nat.le_of_ble_eq_true rfl) (rtn_up hR (fun _ _ h => h) (zpr_up (by decide +kernel))) dL_isSound_154 (by decide) rfl rfl)
                  · refine p_iconst G rfl dL_isSound_131 ?_
                    (cases h; exact p_zretN G hM (Nat.le_of_ble_eq_true rfl) (Nat.le_of_ble_eq_true rfl) (rtn_up hR (fun _ _ h => h) (zpr_up (by decide +kernel))) dL_isSound_132 (by decide) rfl rfl)
            · refine p_iconst G rfl dL_isSound_98 ?_
              (cases h; exact p_zretN G hM (Nat.le_of_ble_eq_true rfl) (Nat.le_of_ble_eq_true rfl) (rtn_up hR (fun _ _ h => h) (zpr_up (by decide +kernel))) dL_isSound_99 (by decide) rfl rfl)
    refine lup_walk (s := (σ4, (0 : Int))) (At := fun s : Mm × Int => PT Γ 4 shS 15 s.1 [(0, .ref (ga Γ 0)), (1, .ref (ga Γ 101)), (2, .int (zJ s.2))] []) (fun s r hf hin15 hout15 => ?_) hl15
    obtain ⟨σ15, u2_15⟩ := s
    have h : x_L_isSound_b15 σ15 u2_15 = some r := hf
    clear hf
    unfold x_L_isSound_b15 at h
    refine (?_ : PT Γ 4 shS 15 σ15 [(0, .ref (ga Γ 0)), (1, .ref (ga Γ 101)), (2, .int (zJ u2_15))] [])
    refine p_iload_n G rfl 2 rfl dL_isSound_15 ?_
    refine p_bipush G (by decide) (by decide) dL_isSound_16 ?_
    refine p_icmpge (tgt := 38) G dL_isSound_18 (by decide) h (fun c10 h => ?_) (fun c10 h => ?_)
    · refine p_lv [0, 1] rfl ?_
      have he := hout15 _ (Option.some.inj h).symm
      subst he
      exact hX15_38 _ rfl
    · refine p_aload_n G rfl 1 rfl dL_isSound_21 ?_
      refine p_aload_n G rfl 0 rfl dL_isSound_22 ?_
      refine p_iload_n G rfl 2 rfl dL_isSound_23 ?_
      obtain ⟨v5, hc, h⟩ := bnd_some h
      refine p_callHPr (np := 2) G zl_108 dL_isSound_24 gm_1111 gm_1112 gm_26 gm_1113 (by decide +kernel) (c_L_where (gl Γ) hc) (As := [.ref (ga Γ 0), .int (zJ u2_15)]) rfl zk_108 (zs_x zs_108 _) rfl (Nat.le_of_ble_eq_true rfl) ⟨rfl, rfl, Nat.le_of_ble_eq_true rfl, Nat.le_of_ble_eq_true rfl⟩ hcs ?_
      refine p_dup2 G rfl rfl dL_isSound_27 ?_
      refine p_iald G dL_isSound_28 (k := 101) rfl (zt_c _) h (fun c6 h => ?_)
      refine p_iconst G rfl dL_isSound_29 ?_
      refine p_iadd G dL_isSound_30 ?_
      refine p_iast G dL_isSound_31 (k := 101) rfl (zt_c _) rfl h (fun σ7 c8 h => ?_)
      refine p_iinc (lv' := fun v9 => [(2, .int (zJ v9)), (0, .ref (ga Γ 0)), (1, .ref (ga Γ 101))]) G dL_isSound_32 h 2 rfl (by decide) (fun _ => rfl) (fun v9 h => ?_)
      refine p_goto (tgt := 15) G dL_isSound_35 (by decide) ?_
      refine p_lv [1, 2, 0] rfl ?_
      exact hin15 _ (Option.some.inj h).symm
  · refine p_iconst G rfl dL_isSound_7 ?_
    (cases h; exact p_zretN G hM (Nat.le_of_ble_eq_true rfl) (Nat.le_of_ble_eq_true rfl) (rtn_up hR (fun _ _ h => h) (zpr_up (by decide +kernel))) dL_isSound_8 (by decide) rfl rfl)
