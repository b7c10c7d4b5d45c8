set_option maxHeartbeats 4000000 in
set_option maxRecDepth 100000 in
theorem c_L_isLaid (l : Launch) {D : va_G} {yy : Nat → ClassId} {tk tv a : Nat → Nat} {σ : Mm} {p1 : Int} {o : Mm × Int} (h : x_L_isLaid σ p1 = some o) : CTN l yL_isLaid cL_isLaid 13 (some .boolean) rm_L_isLaid shX shX D yy tk tv a σ [.ref (a 0), .int (zJ p1)] o.1 (some (.int (zJ o.2))) 2 24 := by
  refine ctn_of (Ar := fun a tk => [.ref (a 0), .int (zJ p1)]) (by decide) (Nat.le_of_ble_eq_true rfl) (fun h => by cases h) (fun Γ G _ hM hR => ?_)
  have hcs := mk_cs G hM (Nat.le_of_ble_eq_true rfl) (Nat.le_of_ble_eq_true rfl)
  unfold x_L_isLaid at h
  refine (?_ : PT Γ 13 shX 0 σ [(0, .ref (ga Γ 0)), (1, .int (zJ p1))] [])
  refine p_ext (shg := shIg) G hR hM zx_isLaid h (fun Γ9 G hR hM hga σ0 h => ?_)
  rw [← hga]
  clear hga hcs
  revert hM hR G
  generalize Γ9 = Γ
  intro G hR hM
  refine (?_ : PT Γ 13 shIg 0 σ0 [(0, .ref (ga Γ 0)), (1, .int (zJ p1))] [])
  have hcs := mk_cs G hM (Nat.le_of_ble_eq_true rfl) (Nat.le_of_ble_eq_true rfl)
  refine p_aload_n G rfl 0 rfl dL_isLaid_0 ?_
  refine p_iload_n G rfl 1 rfl dL_isLaid_1 ?_
  refine p_iconst G rfl dL_isLaid_2 ?_
  obtain ⟨⟨σ1, v2⟩, hc, h⟩ := bnd_some h
  rw [un2_mk] at h
  refine p_callHP (np := 3) G zl_102 dL_isLaid_3 gm_994 gm_995 gm_26 gm_996 (by decide +kernel) (c_L_player (gl Γ) hc) (As := [.ref (ga Γ 0), .int (zJ p1), .int (zJ (0 : Int))]) rfl zk_102 (zs_x zs_102 _) rfl (Nat.le_of_ble_eq_true rfl) ⟨rfl, rfl, Nat.le_of_ble_eq_true rfl, Nat.le_of_ble_eq_true rfl⟩ hcs ?_
  refine p_nm h (fun σ3 h => ?_)
  refine p_istore_nU (lv' := [(2, .int (zJ v2)), (0, .ref (ga Γ 0)), (1, .int (zJ p1))]) G rfl dL_isLaid_6 (by decide) rfl ?_
  refine p_aload_n G rfl 1 rfl dL_isLaid_7 ?_
  refine p_iload_n G rfl 2 rfl dL_isLaid_8 ?_
  refine p_iconst G rfl dL_isLaid_9 ?_
  obtain ⟨⟨σ4, v5⟩, hc, h⟩ := bnd_some h
  rw [un2_mk] at h
  refine p_callHP (np := 3) G zl_102 dL_isLaid_10 gm_994 gm_995 gm_26 gm_996 (by decide +kernel) (c_L_player (gl Γ) hc) (As := [.ref (ga Γ 0), .int (zJ p1), .int (zJ (2 : Int))]) rfl zk_102 (zs_x zs_102 _) rfl (Nat.le_of_ble_eq_true rfl) ⟨rfl, rfl, Nat.le_of_ble_eq_true rfl, Nat.le_of_ble_eq_true rfl⟩ hcs ?_
  refine p_nm h (fun σ6 h => ?_)
  refine p_istore_nU (lv' := [(3, .int (zJ v5)), (2, .int (zJ v2)), (0, .ref (ga Γ 0)), (1, .int (zJ p1))]) G rfl dL_isLaid_13 (by decide) rfl ?_
  refine p_bipush G (by decide) (by decide) dL_isLaid_14 ?_
  refine p_newaSt (ins := .return_) (lv' := fun a => [(4, .ref (a 101)), (3, .int (zJ v5)), (2, .int (zJ v2)), (0, .ref (a 0)), (1, .int (zJ p1))]) (kf := 200) (j := 0) (K := 101) (N := 12) (c1 := 0) (kd := 0) (ir := 4) (ln := 2) G hR hM gm_135 dL_isLaid_16 (fun a H locs mc ms ls hl k => lv_astore G.1 G.2.1 dL_isLaid_18 hl (by decide) rfl k) rfl (by decide +kernel) (by decide +kernel) (by decide +kernel) (fun _ => rfl) (fun _ _ h => h) (fun j2 => by unfold zFk; rw [if_neg (by decide)]; unfold zF; rw [zt_c]; exact congrArg Value.int (show (0 : Int32) = zJ 0 by decide)) (by decide) (by decide) (by decide) (by decide) (Nat.le_of_ble_eq_true rfl) (Nat.le_of_ble_eq_true rfl) h (fun a e => (by have q0 := e 0 (by decide +kernel); simp only [q0]; rfl)) (fun Γ G hR hM σ7 h => ?_)
  refine (?_ : PT Γ 13 shIg 20 σ7 [(4, .ref (ga Γ 101)), (3, .int (zJ v5)), (2, .int (zJ v2)), (0, .ref (ga Γ 0)), (1, .int (zJ p1))] [])
  have hcs := mk_cs G hM (Nat.le_of_ble_eq_true rfl) (Nat.le_of_ble_eq_true rfl)
  refine p_bipush G (by decide) (by decide) dL_isLaid_20 ?_
  refine p_newaSt (ins := .return_) (lv' := fun a => [(5, .ref (a 102)), (4, .ref (a 101)), (3, .int (zJ v5)), (2, .int (zJ v2)), (0, .ref (a 0)), (1, .int (zJ p1))]) (kf := 200) (j := 1) (K := 102) (N := 12) (c1 := 1) (kd := 1) (ir := 5) (ln := 2) G hR hM gm_136 dL_isLaid_22 (fun a H locs mc ms ls hl k => lv_astore G.1 G.2.1 dL_isLaid_24 hl (by decide) rfl k) rfl (by decide +kernel) (by decide +kernel) (by decide +kernel) (fun _ => rfl) (fun _ _ h => h) (fun j2 => by unfold zFk; rw [if_neg (by decide)]; unfold zF; rw [zt_c]; exact congrArg Value.long (show (0 : Int64) = zL 0 by decide)) (by decide) (by decide) (by decide) (by decide) (Nat.le_of_ble_eq_true rfl) (Nat.le_of_ble_eq_true rfl) h (fun a e => (by have q0 := e 0 (by decide +kernel); have q101 := e 101 (by decide +kernel); simp only [q0, q101]; rfl)) (fun Γ G hR hM σ8 h => ?_)
  refine (?_ : PT Γ 13 shIg 26 σ8 [(5, .ref (ga Γ 102)), (4, .ref (ga Γ 101)), (3, .int (zJ v5)), (2, .int (zJ v2)), (0, .ref (ga Γ 0)), (1, .int (zJ p1))] [])
  have hcs := mk_cs G hM (Nat.le_of_ble_eq_true rfl) (Nat.le_of_ble_eq_true rfl)
  refine zift h (fun hf h => ?_)
  refine p_conv (s9 := shI) G [(200, 0), (200, 1)] hR hM zk_103 hf (fun Γ9 G hR hM hga => ?_)
  rw [← hga]
  clear hga hcs
  revert hM hR G
  generalize Γ9 = Γ
  intro G hR hM
  refine (?_ : PT Γ 13 shI 26 σ8 [(5, .ref (ga Γ 102)), (4, .ref (ga Γ 101)), (3, .int (zJ v5)), (2, .int (zJ v2)), (0, .ref (ga Γ 0)), (1, .int (zJ p1))] [])
  have hcs := mk_cs G hM (Nat.le_of_ble_eq_true rfl) (Nat.le_of_ble_eq_true rfl)
  refine p_iconst G rfl dL_isLaid_26 ?_
  refine p_istoreU (lv' := [(6, .int (zJ (0 : Int))), (5, .ref (ga Γ 102)), (4, .ref (ga Γ 101)), (3, .int (zJ v5)), (2, .int (zJ v2)), (0, .ref (ga Γ 0)), (1, .int (zJ p1))]) G dL_isLaid_27 (by decide) rfl ?_
  refine p_iconst G rfl dL_isLaid_29 ?_
  refine p_istoreU (lv' := [(7, .int (zJ (0 : Int))), (6, .int (zJ (0 : Int))), (5, .ref (ga Γ 102)), (4, .ref (ga Γ 101)), (3, .int (zJ v5)), (2, .int (zJ v2)), (0, .ref (ga Γ 0)), (1, .int (zJ p1))]) G dL_isLaid_30 (by decide) rfl ?_
  refine p_iconst G rfl dL_isLaid_32 ?_
  refine p_istoreU (lv' := [(8, .int (zJ (0 : Int))), (7, .int (zJ (0 : Int))), (6, .int (zJ (0 : Int))), (5, .ref (ga Γ 102)), (4, .ref (ga Γ 101)), (3, .int (zJ v5)), (2, .int (zJ v2)), (0, .ref (ga Γ 0)), (1, .int (zJ p1))]) G dL_isLaid_33 (by decide) rfl ?_
  refine p_iconst G rfl dL_isLaid_35 ?_
  refine p_istoreU (lv' := [(9, .int (zJ (-1 : Int))), (8, .int (zJ (0 : Int))), (7, .int (zJ (0 : Int))), (6, .int (zJ (0 : Int))), (5, .ref (ga Γ 102)), (4, .ref (ga Γ 101)), (3, .int (zJ v5)), (2, .int (zJ v2)), (0, .ref (ga Γ 0)), (1, .int (zJ p1))]) G dL_isLaid_36 (by decide) rfl ?_
  refine p_iconst G rfl dL_isLaid_38 ?_
  refine p_istoreU (lv' := [(10, .int (zJ (0 : Int))), (9, .int (zJ (-1 : Int))), (8, .int (zJ (0 : Int))), (7, .int (zJ (0 : Int))), (6, .int (zJ (0 : Int))), (5, .ref (ga Γ 102)), (4, .ref (ga Γ 101)), (3, .int (zJ v5)), (2, .int (zJ v2)), (0, .ref (ga Γ 0)), (1, .int (zJ p1))]) G dL_isLaid_39 (by decide) rfl ?_
  refine p_lv [9, 10, 8, 7, 6, 5, 4, 3, 2, 1, 0] rfl ?_
  obtain ⟨e34, hl41, h⟩ := bnd_some h
  have hX41_73 : ∀ (σ35 : Mm), (.inl σ35) = e34 → PT Γ 13 shI 73 σ35 [] [] := by
    intro σ35 he
    subst he
    rw [zel_l] at h
    refine p_iconst G rfl dL_isLaid_73 ?_
    (cases h; exact p_zretN G hM (Nat.le_of_ble_eq_true rfl) (Nat.le_of_ble_eq_true rfl) (rtn_up hR (fun _ _ h => h) (zpr_up (by decide +kernel))) dL_isLaid_74 (by decide) rfl rfl)
  have hX41_131 : ∀ (σ36 : Mm), (.inr (.inl σ36)) = e34 → PT Γ 13 shI 131 σ36 [] [] := by
    intro σ36 he
    subst he
    rw [zel_r] at h
    rw [zel_l] at h
    refine p_iconst G rfl dL_isLaid_131 ?_
    (cases h; exact p_zretN G hM (Nat.le_of_ble_eq_true rfl) (Nat.le_of_ble_eq_true rfl) (rtn_up hR (fun _ _ h => h) (zpr_up (by decide +kernel))) dL_isLaid_132 (by decide) rfl rfl)
  have hX41_160 : ∀ (σ37 : Mm) (v38 : Int) (v39 : Int) (v40 : Int), (.inr (.inr (σ37, v38, v39, v40))) = e34 → PT Γ 13 shI 160 σ37 [(0, .ref (ga Γ 0)), (1, .int (zJ p1)), (2, .int (zJ v2)), (3, .int (zJ v5)), (4, .ref (ga Γ 101)), (5, .ref (ga Γ 102)), (6, .int (zJ v38)), (7, .int (zJ v39)), (8, .int (zJ v40))] [] := by
    intro σ37 v38 v39 v40 he
    subst he
    rw [zel_r] at h
    rw [zel_r] at h
    rw [un4_mk] at h
    refine p_iconst G rfl dL_isLaid_160 ?_
    refine p_istoreU (lv' := [(10, .int (zJ (0 : Int))), (0, .ref (ga Γ 0)), (1, .int (zJ p1)), (2, .int (zJ v2)), (3, .int (zJ v5)), (4, .ref (ga Γ 101)), (5, .ref (ga Γ 102)), (6, .int (zJ v38)), (7, .int (zJ v39)), (8, .int (zJ v40))]) G dL_isLaid_161 (by decide) rfl ?_
    refine p_iconst G rfl dL_isLaid_163 ?_
    refine p_istoreU (lv' := [(11, .int (zJ (0 : Int))), (10, .int (zJ (0 : Int))), (0, .ref (ga Γ 0)), (1, .int (zJ p1)), (2, .int (zJ v2)), (3, .int (zJ v5)), (4, .ref (ga Γ 101)), (5, .ref (ga Γ 102)), (6, .int (zJ v38)), (7, .int (zJ v39)), (8, .int (zJ v40))]) G dL_isLaid_164 (by decide) rfl ?_
    refine p_lv [2, 3, 4, 5, 6, 7, 8, 9, 10, 1, 0] rfl ?_
    obtain ⟨e62, hl166, h⟩ := bnd_some h
    have hX166_210 : ∀ (σ63 : Mm), (.inl σ63) = e62 → PT Γ 13 shI 210 σ63 [] [] := by
      intro σ63 he
      subst he
      rw [zel_l] at h
      refine p_iconst G rfl dL_isLaid_210 ?_
      (cases h; exact p_zretN G hM (Nat.le_of_ble_eq_true rfl) (Nat.le_of_ble_eq_true rfl) (rtn_up hR (fun _ _ h => h) (zpr_up (by decide +kernel))) dL_isLaid_211 (by decide) rfl rfl)
    have hX166_239 : ∀ (σ64 : Mm) (v65 : Int), (.inr (σ64, v65)) = e62 → PT Γ 13 shI 239 σ64 [(0, .ref (ga Γ 0)), (1, .int (zJ p1)), (2, .int (zJ v2)), (3, .int (zJ v5)), (6, .int (zJ v38)), (7, .int (zJ v39)), (8, .int (zJ v40)), (10, .int (zJ v65))] [] := by
      intro σ64 v65 he
      subst he
      rw [zel_r] at h
      rw [un2_mk] at h
      refine p_iload G 4 rfl dL_isLaid_239 ?_
      refine p_aload_n G rfl 0 rfl dL_isLaid_241 ?_
      refine p_iload_n G rfl 1 rfl dL_isLaid_242 ?_
      refine p_iconst G rfl dL_isLaid_243 ?_
      obtain ⟨⟨σ66, v67⟩, hc, h⟩ := bnd_some h
      rw [un2_mk] at h
      refine p_callHP (np := 3) G zl_104 dL_isLaid_244 gm_994 gm_995 gm_26 gm_996 (by decide +kernel) (c_L_player (gl Γ) hc) (As := [.ref (ga Γ 0), .int (zJ p1), .int (zJ (3 : Int))]) rfl zk_104 (zs_x zs_104 _) rfl (Nat.le_of_ble_eq_true rfl) ⟨rfl, rfl, Nat.le_of_ble_eq_true rfl, Nat.le_of_ble_eq_true rfl⟩ hcs ?_
      refine p_nm h (fun σ68 h => ?_)
      refine p_icmpne (tgt := 322) G dL_isLaid_247 (by decide) h (fun c91 h => ?_) (fun c91 h => ?_)
      · refine p_iconst G rfl dL_isLaid_322 ?_
        (cases h; exact p_zretN G hM (Nat.le_of_ble_eq_true rfl) (Nat.le_of_ble_eq_true rfl) (rtn_up hR (fun _ _ h => h) (zpr_up (by decide +kernel))) dL_isLaid_323 (by decide) rfl rfl)
      · refine p_iload G 5 rfl dL_isLaid_250 ?_
        refine p_aload_n G rfl 0 rfl dL_isLaid_252 ?_
        refine p_iload_n G rfl 1 rfl dL_isLaid_253 ?_
        refine p_iconst G rfl dL_isLaid_254 ?_
        obtain ⟨⟨σ69, v70⟩, hc, h⟩ := bnd_some h
        rw [un2_mk] at h
        refine p_callHP (np := 3) G zl_104 dL_isLaid_255 gm_994 gm_995 gm_26 gm_996 (by decide +kernel) (c_L_player (gl Γ) hc) (As := [.ref (ga Γ 0), .int (zJ p1), .int (zJ (1 : Int))]) rfl zk_104 (zs_x zs_104 _) rfl (Nat.le_of_ble_eq_true rfl) ⟨rfl, rfl, Nat.le_of_ble_eq_true rfl, Nat.le_of_ble_eq_true rfl⟩ hcs ?_
        refine p_nm h (fun σ71 h => ?_)
        refine p_icmpne (tgt := 322) G dL_isLaid_258 (by decide) h (fun c90 h => ?_) (fun c90 h => ?_)
        · refine p_iconst G rfl dL_isLaid_322 ?_
          (cases h; exact p_zretN G hM (Nat.le_of_ble_eq_true rfl) (Nat.le_of_ble_eq_true rfl) (rtn_up hR (fun _ _ h => h) (zpr_up (by decide +kernel))) dL_isLaid_323 (by decide) rfl rfl)
        · refine p_iload G 6 rfl dL_isLaid_261 ?_
          refine p_aload_n G rfl 0 rfl dL_isLaid_263 ?_
          refine p_iload_n G rfl 1 rfl dL_isLaid_264 ?_
          refine p_bipush G (by decide) (by decide) dL_isLaid_265 ?_
          obtain ⟨⟨σ72, v73⟩, hc, h⟩ := bnd_some h
          rw [un2_mk] at h
          refine p_callHP (np := 3) G zl_104 dL_isLaid_267 gm_994 gm_995 gm_26 gm_996 (by decide +kernel) (c_L_player (gl Γ) hc) (As := [.ref (ga Γ 0), .int (zJ p1), .int (zJ (6 : Int))]) rfl zk_104 (zs_x zs_104 _) rfl (Nat.le_of_ble_eq_true rfl) ⟨rfl, rfl, Nat.le_of_ble_eq_true rfl, Nat.le_of_ble_eq_true rfl⟩ hcs ?_
          refine p_nm h (fun σ74 h => ?_)
          refine p_icmpne (tgt := 322) G dL_isLaid_270 (by decide) h (fun c89 h => ?_) (fun c89 h => ?_)
          · refine p_iconst G rfl dL_isLaid_322 ?_
            (cases h; exact p_zretN G hM (Nat.le_of_ble_eq_true rfl) (Nat.le_of_ble_eq_true rfl) (rtn_up hR (fun _ _ h => h) (zpr_up (by decide +kernel))) dL_isLaid_323 (by decide) rfl rfl)
          · refine p_iload G 7 rfl dL_isLaid_273 ?_
            refine p_aload_n G rfl 0 rfl dL_isLaid_275 ?_
            refine p_iload_n G rfl 1 rfl dL_isLaid_276 ?_
            refine p_iconst G rfl dL_isLaid_277 ?_
            obtain ⟨⟨σ75, v76⟩, hc, h⟩ := bnd_some h
            rw [un2_mk] at h
            refine p_callHP (np := 3) G zl_104 dL_isLaid_278 gm_994 gm_995 gm_26 gm_996 (by decide +kernel) (c_L_player (gl Γ) hc) (As := [.ref (ga Γ 0), .int (zJ p1), .int (zJ (4 : Int))]) rfl zk_104 (zs_x zs_104 _) rfl (Nat.le_of_ble_eq_true rfl) ⟨rfl, rfl, Nat.le_of_ble_eq_true rfl, Nat.le_of_ble_eq_true rfl⟩ hcs ?_
            refine p_nm h (fun σ77 h => ?_)
            refine p_icmpne (tgt := 322) G dL_isLaid_281 (by decide) h (fun c88 h => ?_) (fun c88 h => ?_)
            · refine p_iconst G rfl dL_isLaid_322 ?_
              (cases h; exact p_zretN G hM (Nat.le_of_ble_eq_true rfl) (Nat.le_of_ble_eq_true rfl) (rtn_up hR (fun _ _ h => h) (zpr_up (by decide +kernel))) dL_isLaid_323 (by decide) rfl rfl)
            · refine p_iload_n G rfl 3 rfl dL_isLaid_284 ?_
              refine p_iload G 7 rfl dL_isLaid_285 ?_
              refine p_isub G dL_isLaid_287 ?_
              refine p_aload_n G rfl 0 rfl dL_isLaid_288 ?_
              refine p_iload_n G rfl 1 rfl dL_isLaid_289 ?_
              refine p_iconst G rfl dL_isLaid_290 ?_
              obtain ⟨⟨σ78, v79⟩, hc, h⟩ := bnd_some h
              rw [un2_mk] at h
              refine p_callHP (np := 3) G zl_104 dL_isLaid_291 gm_994 gm_995 gm_26 gm_996 (by decide +kernel) (c_L_player (gl Γ) hc) (As := [.ref (ga Γ 0), .int (zJ p1), .int (zJ (5 : Int))]) rfl zk_104 (zs_x zs_104 _) rfl (Nat.le_of_ble_eq_true rfl) ⟨rfl, rfl, Nat.le_of_ble_eq_true rfl, Nat.le_of_ble_eq_true rfl⟩ hcs ?_
              refine p_nm h (fun σ80 h => ?_)
              refine p_icmpne (tgt := 322) G dL_isLaid_294 (by decide) h (fun c87 h => ?_) (fun c87 h => ?_)
              · refine p_iconst G rfl dL_isLaid_322 ?_
                (cases h; exact p_zretN G hM (Nat.le_of_ble_eq_true rfl) (Nat.le_of_ble_eq_true rfl) (rtn_up hR (fun _ _ h => h) (zpr_up (by decide +kernel))) dL_isLaid_323 (by decide) rfl rfl)
              · refine p_aload_n G rfl 0 rfl dL_isLaid_297 ?_
                refine p_iload_n G rfl 1 rfl dL_isLaid_298 ?_
                refine p_iload_n G rfl 2 rfl dL_isLaid_299 ?_
                obtain ⟨v81, hc, h⟩ := bnd_some h
                refine p_callHPr (np := 3) G zl_104 dL_isLaid_300 gm_1021 gm_1022 gm_26 gm_1023 (by decide +kernel) (c_L_card (gl Γ) hc) (As := [.ref (ga Γ 0), .int (zJ p1), .int (zJ v2)]) rfl zk_104 (zs_x zs_104 _) rfl (Nat.le_of_ble_eq_true rfl) ⟨rfl, rfl, Nat.le_of_ble_eq_true rfl, Nat.le_of_ble_eq_true rfl⟩ hcs ?_
                refine p_iconst G rfl dL_isLaid_303 ?_
                refine p_icmpne (tgt := 322) G dL_isLaid_304 (by decide) h (fun c86 h => ?_) (fun c86 h => ?_)
                · refine p_iconst G rfl dL_isLaid_322 ?_
                  (cases h; exact p_zretN G hM (Nat.le_of_ble_eq_true rfl) (Nat.le_of_ble_eq_true rfl) (rtn_up hR (fun _ _ h => h) (zpr_up (by decide +kernel))) dL_isLaid_323 (by decide) rfl rfl)
                · refine p_aload_n G rfl 0 rfl dL_isLaid_307 ?_
                  refine p_iload_n G rfl 1 rfl dL_isLaid_308 ?_
                  refine p_iload_n G rfl 3 rfl dL_isLaid_309 ?_
                  refine p_iconst G rfl dL_isLaid_310 ?_
                  obtain ⟨⟨σ82, v83⟩, hc, h⟩ := bnd_some h
                  rw [un2_mk] at h
                  refine p_callHP (np := 4) G zl_104 dL_isLaid_311 gm_1150 gm_1151 gm_26 gm_1152 (by decide +kernel) (c_L_meld (gl Γ) hc) (As := [.ref (ga Γ 0), .int (zJ p1), .int (zJ v5), .int (zJ (0 : Int))]) rfl zk_104 (zs_x zs_104 _) rfl (Nat.le_of_ble_eq_true rfl) ⟨rfl, rfl, Nat.le_of_ble_eq_true rfl, Nat.le_of_ble_eq_true rfl⟩ hcs ?_
                  refine p_nm h (fun σ84 h => ?_)
                  refine p_iconst G rfl dL_isLaid_314 ?_
                  refine p_icmpne (tgt := 322) G dL_isLaid_315 (by decide) h (fun c85 h => ?_) (fun c85 h => ?_)
                  · refine p_iconst G rfl dL_isLaid_322 ?_
                    (cases h; exact p_zretN G hM (Nat.le_of_ble_eq_true rfl) (Nat.le_of_ble_eq_true rfl) (rtn_up hR (fun _ _ h => h) (zpr_up (by decide +kernel))) dL_isLaid_323 (by decide) rfl rfl)
                  · refine p_iconst G rfl dL_isLaid_318 ?_
                    refine p_goto (tgt := 323) G dL_isLaid_319 (by decide) ?_
                    (cases h; exact p_zretN G hM (Nat.le_of_ble_eq_true rfl) (Nat.le_of_ble_eq_true rfl) (rtn_up hR (fun _ _ h => h) (zpr_up (by decide +kernel))) dL_isLaid_323 (by decide) rfl rfl)
    refine lup_walk (s := (σ37, (0 : Int), (0 : Int))) (At := fun s : Mm × Int × Int => PT Γ 13 shI 166 s.1 [(0, .ref (ga Γ 0)), (1, .int (zJ p1)), (2, .int (zJ v2)), (3, .int (zJ v5)), (4, .ref (ga Γ 101)), (5, .ref (ga Γ 102)), (6, .int (zJ v38)), (7, .int (zJ v39)), (8, .int (zJ v40)), (10, .int (zJ s.2.1)), (11, .int (zJ s.2.2))] []) (fun s r hf hin166 hout166 => ?_) hl166
    obtain ⟨σ166, u10_166, u11_166⟩ := s
    have h : x_L_isLaid_b166 p1 v2 v5 v38 v39 v40 σ166 u10_166 u11_166 = some r := hf
    clear hf
    unfold x_L_isLaid_b166 at h
    refine (?_ : PT Γ 13 shI 166 σ166 [(0, .ref (ga Γ 0)), (1, .int (zJ p1)), (2, .int (zJ v2)), (3, .int (zJ v5)), (4, .ref (ga Γ 101)), (5, .ref (ga Γ 102)), (6, .int (zJ v38)), (7, .int (zJ v39)), (8, .int (zJ v40)), (10, .int (zJ u10_166)), (11, .int (zJ u11_166))] [])
    refine p_iload G 10 rfl dL_isLaid_166 ?_
    refine p_iload_n G rfl 3 rfl dL_isLaid_168 ?_
    refine p_icmpge (tgt := 239) G dL_isLaid_169 (by decide) h (fun c60 h => ?_) (fun c60 h => ?_)
    · refine p_lv [0, 1, 2, 3, 6, 7, 8, 9] rfl ?_
      have he := hout166 _ (Option.some.inj h).symm
      subst he
      exact hX166_239 _ _ rfl
    · refine p_aload_n G rfl 0 rfl dL_isLaid_172 ?_
      refine p_aload G 5 rfl dL_isLaid_173 ?_
      refine p_iload G 10 rfl dL_isLaid_175 ?_
      refine p_lald G dL_isLaid_177 (k := 102) rfl (zt_c _) h (fun c41 h => ?_)
      obtain ⟨v42, hc, h⟩ := bnd_some h
      refine p_callHPr (np := 2) G zl_104 dL_isLaid_178 gm_1141 gm_1142 gm_26 gm_1143 (by decide +kernel) (c_L_kind (gl Γ) hc) (As := [.ref (ga Γ 0), .long (zL (σ166 102 (zix u11_166)))]) rfl zk_104 (zs_x zs_104 _) rfl (Nat.le_of_ble_eq_true rfl) ⟨rfl, rfl, Nat.le_of_ble_eq_true rfl, Nat.le_of_ble_eq_true rfl⟩ hcs ?_
      refine p_aload_n G rfl 0 rfl dL_isLaid_181 ?_
      refine p_iload_n G rfl 1 rfl dL_isLaid_182 ?_
      refine p_iload G 10 rfl dL_isLaid_183 ?_
      refine p_iconst G rfl dL_isLaid_185 ?_
      obtain ⟨⟨σ43, v44⟩, hc, h⟩ := bnd_some h
      rw [un2_mk] at h
      refine p_callHP (np := 4) G zl_104 dL_isLaid_186 gm_1150 gm_1151 gm_26 gm_1152 (by decide +kernel) (c_L_meld (gl Γ) hc) (As := [.ref (ga Γ 0), .int (zJ p1), .int (zJ u11_166), .int (zJ (1 : Int))]) rfl zk_104 (zs_x zs_104 _) rfl (Nat.le_of_ble_eq_true rfl) ⟨rfl, rfl, Nat.le_of_ble_eq_true rfl, Nat.le_of_ble_eq_true rfl⟩ hcs ?_
      refine p_nm h (fun σ45 h => ?_)
      refine p_iconst G rfl dL_isLaid_189 ?_
      refine p_iadd G dL_isLaid_190 ?_
      refine p_icmpne (tgt := 210) G dL_isLaid_191 (by decide) h (fun c59 h => ?_) (fun c59 h => ?_)
      · refine p_lv [] rfl ?_
        have he := hout166 _ (Option.some.inj h).symm
        subst he
        exact hX166_210 _ rfl
      · refine p_aload G 4 rfl dL_isLaid_194 ?_
        refine p_iload G 10 rfl dL_isLaid_196 ?_
        refine p_iald G dL_isLaid_198 (k := 101) rfl (zt_c _) h (fun c46 h => ?_)
        refine p_aload_n G rfl 0 rfl dL_isLaid_199 ?_
        refine p_iload_n G rfl 1 rfl dL_isLaid_200 ?_
        refine p_iload G 10 rfl dL_isLaid_201 ?_
        refine p_iconst G rfl dL_isLaid_203 ?_
        obtain ⟨⟨σ47, v48⟩, hc, h⟩ := bnd_some h
        rw [un2_mk] at h
        refine p_callHP (np := 4) G zl_104 dL_isLaid_204 gm_1150 gm_1151 gm_26 gm_1152 (by decide +kernel) (c_L_meld (gl Γ) hc) (As := [.ref (ga Γ 0), .int (zJ p1), .int (zJ u11_166), .int (zJ (0 : Int))]) rfl zk_104 (zs_x zs_104 _) rfl (Nat.le_of_ble_eq_true rfl) ⟨rfl, rfl, Nat.le_of_ble_eq_true rfl, Nat.le_of_ble_eq_true rfl⟩ hcs ?_
        refine p_nm h (fun σ49 h => ?_)
        refine p_icmpeq (tgt := 212) G dL_isLaid_207 (by decide) h (fun c58 h => ?_) (fun c58 h => ?_)
        · refine p_iload G 9 rfl dL_isLaid_212 ?_
          refine p_aload_n G rfl 0 rfl dL_isLaid_214 ?_
          refine p_iload_n G rfl 1 rfl dL_isLaid_215 ?_
          refine p_iload G 10 rfl dL_isLaid_216 ?_
          refine p_iconst G rfl dL_isLaid_218 ?_
          obtain ⟨⟨σ50, v51⟩, hc, h⟩ := bnd_some h
          rw [un2_mk] at h
          refine p_callHP (np := 4) G zl_104 dL_isLaid_219 gm_1150 gm_1151 gm_26 gm_1152 (by decide +kernel) (c_L_meld (gl Γ) hc) (As := [.ref (ga Γ 0), .int (zJ p1), .int (zJ u11_166), .int (zJ (1 : Int))]) rfl zk_104 (zs_x zs_104 _) rfl (Nat.le_of_ble_eq_true rfl) ⟨rfl, rfl, Nat.le_of_ble_eq_true rfl, Nat.le_of_ble_eq_true rfl⟩ hcs ?_
          refine p_nm h (fun σ52 h => ?_)
          refine p_ifne (tgt := 229) G dL_isLaid_222 (by decide) h (fun c57 h => ?_) (fun c57 h => ?_)
          · refine p_iconst G rfl dL_isLaid_229 ?_
            refine p_iadd G dL_isLaid_230 ?_
            refine p_istore (lv' := fun v53 => [(10, .int (zJ v53)), (0, .ref (ga Γ 0)), (1, .int (zJ p1)), (2, .int (zJ v2)), (3, .int (zJ v5)), (4, .ref (ga Γ 101)), (5, .ref (ga Γ 102)), (6, .int (zJ v38)), (7, .int (zJ v39)), (8, .int (zJ v40)), (11, .int (zJ u11_166))]) G dL_isLaid_231 h (by decide) (fun _ => rfl) (fun v53 h => ?_)
            refine p_iinc (lv' := fun v54 => [(11, .int (zJ v54)), (10, .int (zJ v53)), (0, .ref (ga Γ 0)), (1, .int (zJ p1)), (2, .int (zJ v2)), (3, .int (zJ v5)), (4, .ref (ga Γ 101)), (5, .ref (ga Γ 102)), (6, .int (zJ v38)), (7, .int (zJ v39)), (8, .int (zJ v40))]) G dL_isLaid_233 h 10 rfl (by decide) (fun _ => rfl) (fun v54 h => ?_)
            refine p_goto (tgt := 166) G dL_isLaid_236 (by decide) ?_
            refine p_lv [2, 3, 4, 5, 6, 7, 8, 9, 10, 1, 0] rfl ?_
            exact hin166 _ (Option.some.inj h).symm
          · refine p_iconst G rfl dL_isLaid_225 ?_
            refine p_goto (tgt := 230) G dL_isLaid_226 (by decide) ?_
            refine p_iadd G dL_isLaid_230 ?_
            refine p_istore (lv' := fun v55 => [(10, .int (zJ v55)), (0, .ref (ga Γ 0)), (1, .int (zJ p1)), (2, .int (zJ v2)), (3, .int (zJ v5)), (4, .ref (ga Γ 101)), (5, .ref (ga Γ 102)), (6, .int (zJ v38)), (7, .int (zJ v39)), (8, .int (zJ v40)), (11, .int (zJ u11_166))]) G dL_isLaid_231 h (by decide) (fun _ => rfl) (fun v55 h => ?_)
            refine p_iinc (lv' := fun v56 => [(11, .int (zJ v56)), (10, .int (zJ v55)), (0, .ref (ga Γ 0)), (1, .int (zJ p1)), (2, .int (zJ v2)), (3, .int (zJ v5)), (4, .ref (ga Γ 101)), (5, .ref (ga Γ 102)), (6, .int (zJ v38)), (7, .int (zJ v39)), (8, .int (zJ v40))]) G dL_isLaid_233 h 10 rfl (by decide) (fun _ => rfl) (fun v56 h => ?_)
            refine p_goto (tgt := 166) G dL_isLaid_236 (by decide) ?_
            refine p_lv [2, 3, 4, 5, 6, 7, 8, 9, 10, 1, 0] rfl ?_
            exact hin166 _ (Option.some.inj h).symm
        · refine p_lv [] rfl ?_
          have he := hout166 _ (Option.some.inj h).symm
          subst he
          exact hX166_210 _ rfl
  refine lup_walk (s := (σ8, (0 : Int), (0 : Int), (0 : Int), (-1 : Int), (0 : Int))) (At := fun s : Mm × Int × Int × Int × Int × Int => PT Γ 13 shI 41 s.1 [(0, .ref (ga Γ 0)), (1, .int (zJ p1)), (2, .int (zJ v2)), (3, .int (zJ v5)), (4, .ref (ga Γ 101)), (5, .ref (ga Γ 102)), (6, .int (zJ s.2.1)), (7, .int (zJ s.2.2.1)), (8, .int (zJ s.2.2.2.1)), (9, .int (zJ s.2.2.2.2.1)), (10, .int (zJ s.2.2.2.2.2))] []) (fun s r hf hin41 hout41 => ?_) hl41
  obtain ⟨σ41, u6_41, u7_41, u8_41, u9_41, u10_41⟩ := s
  have h : x_L_isLaid_b41 p1 v2 v5 σ41 u6_41 u7_41 u8_41 u9_41 u10_41 = some r := hf
  clear hf
  unfold x_L_isLaid_b41 at h
  refine (?_ : PT Γ 13 shI 41 σ41 [(0, .ref (ga Γ 0)), (1, .int (zJ p1)), (2, .int (zJ v2)), (3, .int (zJ v5)), (4, .ref (ga Γ 101)), (5, .ref (ga Γ 102)), (6, .int (zJ u6_41)), (7, .int (zJ u7_41)), (8, .int (zJ u8_41)), (9, .int (zJ u9_41)), (10, .int (zJ u10_41))] [])
  refine p_iload G 10 rfl dL_isLaid_41 ?_
  refine p_iload_n G rfl 2 rfl dL_isLaid_43 ?_
  refine p_icmpge (tgt := 160) G dL_isLaid_44 (by decide) h (fun c32 h => ?_) (fun c32 h => ?_)
  · refine p_lv [0, 1, 2, 3, 4, 5, 6, 7, 8] rfl ?_
    have he := hout41 _ (Option.some.inj h).symm
    subst he
    exact hX41_160 _ _ _ _ rfl
  · refine p_aload_n G rfl 0 rfl dL_isLaid_47 ?_
    refine p_iload_n G rfl 1 rfl dL_isLaid_48 ?_
    refine p_iload G 10 rfl dL_isLaid_49 ?_
    obtain ⟨v9, hc, h⟩ := bnd_some h
    refine p_callHPr (np := 3) G zl_104 dL_isLaid_51 gm_1021 gm_1022 gm_26 gm_1023 (by decide +kernel) (c_L_card (gl Γ) hc) (As := [.ref (ga Γ 0), .int (zJ p1), .int (zJ u10_41)]) rfl zk_104 (zs_x zs_104 _) rfl (Nat.le_of_ble_eq_true rfl) ⟨rfl, rfl, Nat.le_of_ble_eq_true rfl, Nat.le_of_ble_eq_true rfl⟩ hcs ?_
    refine p_istoreU (lv' := [(11, .int (zJ v9)), (0, .ref (ga Γ 0)), (1, .int (zJ p1)), (2, .int (zJ v2)), (3, .int (zJ v5)), (4, .ref (ga Γ 101)), (5, .ref (ga Γ 102)), (6, .int (zJ u6_41)), (7, .int (zJ u7_41)), (8, .int (zJ u8_41)), (9, .int (zJ u9_41)), (10, .int (zJ u10_41))]) G dL_isLaid_54 (by decide) rfl ?_
    refine p_iload G 0 rfl dL_isLaid_56 ?_
    refine p_iload G 10 rfl dL_isLaid_58 ?_
    refine p_icmple (tgt := 73) G dL_isLaid_60 (by decide) h (fun c31 h => ?_) (fun c31 h => ?_)
    · refine p_lv [] rfl ?_
      have he := hout41 _ (Option.some.inj h).symm
      subst he
      exact hX41_73 _ rfl
    · refine p_aload_n G rfl 1 rfl dL_isLaid_63 ?_
      refine p_iload G 0 rfl dL_isLaid_64 ?_
      obtain ⟨v10, hc, h⟩ := bnd_some h
      refine p_callHPr (np := 2) G zl_104 dL_isLaid_66 gm_1111 gm_1112 gm_26 gm_1113 (by decide +kernel) (c_L_where (gl Γ) hc) (As := [.ref (ga Γ 0), .int (zJ v9)]) rfl zk_104 (zs_x zs_104 _) rfl (Nat.le_of_ble_eq_true rfl) ⟨rfl, rfl, Nat.le_of_ble_eq_true rfl, Nat.le_of_ble_eq_true rfl⟩ hcs ?_
      refine p_iload_n G rfl 2 rfl dL_isLaid_69 ?_
      refine p_icmpeq (tgt := 75) G dL_isLaid_70 (by decide) h (fun c30 h => ?_) (fun c30 h => ?_)
      · refine p_iload G 0 rfl dL_isLaid_75 ?_
        refine p_istoreU (lv' := [(9, .int (zJ v9)), (11, .int (zJ v9)), (0, .ref (ga Γ 0)), (1, .int (zJ p1)), (2, .int (zJ v2)), (3, .int (zJ v5)), (4, .ref (ga Γ 101)), (5, .ref (ga Γ 102)), (6, .int (zJ u6_41)), (7, .int (zJ u7_41)), (8, .int (zJ u8_41)), (10, .int (zJ u10_41))]) G dL_isLaid_77 (by decide) rfl ?_
        refine p_iload G 10 rfl dL_isLaid_79 ?_
        refine p_iload G 1 rfl dL_isLaid_81 ?_
        obtain ⟨v11, hc, h⟩ := bnd_some h
        refine p_callS0 G dL_isLaid_83 lk_L_134 (c_L_points (gl Γ) hc) (As := [.int (zJ v9)]) rfl zk_105 rfl (Nat.le_of_ble_eq_true rfl) ⟨rfl, rfl, Nat.le_of_ble_eq_true rfl, Nat.le_of_ble_eq_true rfl⟩ hcs ?_
        refine p_iadd G dL_isLaid_86 ?_
        refine p_istore (lv' := fun v12 => [(8, .int (zJ v12)), (9, .int (zJ v9)), (11, .int (zJ v9)), (0, .ref (ga Γ 0)), (1, .int (zJ p1)), (2, .int (zJ v2)), (3, .int (zJ v5)), (4, .ref (ga Γ 101)), (5, .ref (ga Γ 102)), (6, .int (zJ u6_41)), (7, .int (zJ u7_41)), (10, .int (zJ u10_41))]) G dL_isLaid_87 h (by decide) (fun _ => rfl) (fun v12 h => ?_)
        refine p_aload_n G rfl 3 rfl dL_isLaid_89 ?_
        refine p_iload_n G rfl 4 rfl dL_isLaid_90 ?_
        refine p_iload G 2 rfl dL_isLaid_91 ?_
        obtain ⟨⟨σ13, v14⟩, hc, h⟩ := bnd_some h
        rw [un2_mk] at h
        refine p_callHP (np := 3) G zl_104 dL_isLaid_93 gm_1130 gm_1131 gm_26 gm_1132 (by decide +kernel) (c_L_meldOf (gl Γ) hc) (As := [.ref (ga Γ 0), .int (zJ p1), .int (zJ v9)]) rfl zk_104 (zs_x zs_104 _) rfl (Nat.le_of_ble_eq_true rfl) ⟨rfl, rfl, Nat.le_of_ble_eq_true rfl, Nat.le_of_ble_eq_true rfl⟩ hcs ?_
        refine p_nm h (fun σ15 h => ?_)
        refine p_istoreU (lv' := [(12, .int (zJ v14)), (8, .int (zJ v12)), (9, .int (zJ v9)), (11, .int (zJ v9)), (0, .ref (ga Γ 0)), (1, .int (zJ p1)), (2, .int (zJ v2)), (3, .int (zJ v5)), (4, .ref (ga Γ 101)), (5, .ref (ga Γ 102)), (6, .int (zJ u6_41)), (7, .int (zJ u7_41)), (10, .int (zJ u10_41))]) G dL_isLaid_96 (by decide) rfl ?_
        refine p_iload G 0 rfl dL_isLaid_98 ?_
        refine p_iconst G rfl dL_isLaid_100 ?_
        refine p_icmpne (tgt := 120) G dL_isLaid_101 (by decide) h (fun c29 h => ?_) (fun c29 h => ?_)
        · refine p_iload G 0 rfl dL_isLaid_120 ?_
          refine p_iflt (tgt := 131) G dL_isLaid_122 (by decide) h (fun c24 h => ?_) (fun c24 h => ?_)
          · refine p_lv [] rfl ?_
            have he := hout41 _ (Option.some.inj h).symm
            subst he
            exact hX41_131 _ rfl
          · refine p_iload G 0 rfl dL_isLaid_125 ?_
            refine p_iload_n G rfl 7 rfl dL_isLaid_127 ?_
            refine p_icmplt (tgt := 133) G dL_isLaid_128 (by decide) h (fun c23 h => ?_) (fun c23 h => ?_)
            · refine p_aload G 8 rfl dL_isLaid_133 ?_
              refine p_iload G 0 rfl dL_isLaid_135 ?_
              refine p_dup2 G rfl rfl dL_isLaid_137 ?_
              refine p_iald G dL_isLaid_138 (k := 101) rfl (zt_c _) h (fun c16 h => ?_)
              refine p_iconst G rfl dL_isLaid_139 ?_
              refine p_iadd G dL_isLaid_140 ?_
              refine p_iast G dL_isLaid_141 (k := 101) rfl (zt_c _) rfl h (fun σ17 c18 h => ?_)
              refine p_aload G 9 rfl dL_isLaid_142 ?_
              refine p_iload G 0 rfl dL_isLaid_144 ?_
              refine p_dup2 G rfl rfl dL_isLaid_146 ?_
              refine p_lald G dL_isLaid_147 (k := 102) rfl (zt_c _) h (fun c19 h => ?_)
              refine p_lconst G (v := 1) (by decide) dL_isLaid_148 ?_
              refine p_iload G 3 rfl dL_isLaid_149 ?_
              refine p_lshl G dL_isLaid_151 ?_
              refine p_lor G dL_isLaid_152 ?_
              refine p_last G dL_isLaid_153 (k := 102) rfl (zt_c _) rfl h (fun σ20 c21 h => ?_)
              refine p_iinc (lv' := fun v22 => [(10, .int (zJ v22)), (12, .int (zJ v14)), (8, .int (zJ v12)), (9, .int (zJ v9)), (11, .int (zJ v9)), (0, .ref (ga Γ 0)), (1, .int (zJ p1)), (2, .int (zJ v2)), (3, .int (zJ v5)), (4, .ref (ga Γ 101)), (5, .ref (ga Γ 102)), (6, .int (zJ u6_41)), (7, .int (zJ u7_41))]) G dL_isLaid_154 h 12 rfl (by decide) (fun _ => rfl) (fun v22 h => ?_)
              refine p_goto (tgt := 41) G dL_isLaid_157 (by decide) ?_
              refine p_lv [5, 6, 7, 8, 9, 10, 11, 12, 2, 3, 0] rfl ?_
              exact hin41 _ (Option.some.inj h).symm
            · refine p_lv [] rfl ?_
              have he := hout41 _ (Option.some.inj h).symm
              subst he
              exact hX41_131 _ rfl
        · refine p_iinc (lv' := fun v25 => [(6, .int (zJ v25)), (12, .int (zJ v14)), (8, .int (zJ v12)), (9, .int (zJ v9)), (11, .int (zJ v9)), (0, .ref (ga Γ 0)), (1, .int (zJ p1)), (2, .int (zJ v2)), (3, .int (zJ v5)), (4, .ref (ga Γ 101)), (5, .ref (ga Γ 102)), (7, .int (zJ u7_41)), (10, .int (zJ u10_41))]) G dL_isLaid_104 h 10 rfl (by decide) (fun _ => rfl) (fun v25 h => ?_)
          refine p_iload G 11 rfl dL_isLaid_107 ?_
          refine p_iload G 4 rfl dL_isLaid_109 ?_
          obtain ⟨v26, hc, h⟩ := bnd_some h
          refine p_callS0 G dL_isLaid_111 lk_L_134 (c_L_points (gl Γ) hc) (As := [.int (zJ v9)]) rfl zk_105 rfl (Nat.le_of_ble_eq_true rfl) ⟨rfl, rfl, Nat.le_of_ble_eq_true rfl, Nat.le_of_ble_eq_true rfl⟩ hcs ?_
          refine p_iadd G dL_isLaid_114 ?_
          refine p_istore (lv' := fun v27 => [(7, .int (zJ v27)), (6, .int (zJ v25)), (12, .int (zJ v14)), (8, .int (zJ v12)), (9, .int (zJ v9)), (11, .int (zJ v9)), (0, .ref (ga Γ 0)), (1, .int (zJ p1)), (2, .int (zJ v2)), (3, .int (zJ v5)), (4, .ref (ga Γ 101)), (5, .ref (ga Γ 102)), (10, .int (zJ u10_41))]) G dL_isLaid_115 h (by decide) (fun _ => rfl) (fun v27 h => ?_)
          refine p_goto (tgt := 154) G dL_isLaid_117 (by decide) ?_
          refine p_iinc (lv' := fun v28 => [(10, .int (zJ v28)), (7, .int (zJ v27)), (6, .int (zJ v25)), (12, .int (zJ v14)), (8, .int (zJ v12)), (9, .int (zJ v9)), (11, .int (zJ v9)), (0, .ref (ga Γ 0)), (1, .int (zJ p1)), (2, .int (zJ v2)), (3, .int (zJ v5)), (4, .ref (ga Γ 101)), (5, .ref (ga Γ 102))]) G dL_isLaid_154 h 12 rfl (by decide) (fun _ => rfl) (fun v28 h => ?_)
          refine p_goto (tgt := 41) G dL_isLaid_157 (by decide) ?_
          refine p_lv [7, 8, 9, 10, 11, 12, 2, 1, 4, 5, 0] rfl ?_
          exact hin41 _ (Option.some.inj h).symm
      · refine p_lv [] rfl ?_
        have he := hout41 _ (Option.some.inj h).symm
        subst he
        exact hX41_73 _ rfl
