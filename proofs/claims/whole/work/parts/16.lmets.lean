set_option maxHeartbeats 4000000 in
set_option maxRecDepth 100000 in
theorem c_L_drop (l : Launch) (hl : l.stackTraces = false) {D : va_G} {yy : Nat → ClassId} {tk tv a : Nat → Nat} {σ : Mm} {p1 : Int} {o : Mm × Int} (h : x_L_drop σ p1 = some o) : CTH l yL_drop cL_drop 4 (some .int) [(0, 9, 12, 13)] rm_L_drop shXo D yy tk tv a σ [.ref (a 0), .int (zJ p1), .ref (a 101)] o.1 (some (.int (zJ o.2))) 5 125 := by
  refine cth_of (Ar := fun a tk => [.ref (a 0), .int (zJ p1), .ref (a 101)]) (by decide) (Nat.le_of_ble_eq_true rfl) (fun h => by cases h) (fun Γ G _ hM hR htab => ?_)
  have hcs := mk_cs G hM (Nat.le_of_ble_eq_true rfl) (Nat.le_of_ble_eq_true rfl)
  unfold x_L_drop at h
  refine (?_ : PT Γ 4 shXo 0 σ [(0, .ref (ga Γ 0)), (1, .int (zJ p1)), (2, .ref (ga Γ 101))] [])
  refine p_aload_n G rfl 2 rfl dL_drop_0 ?_
  refine p_iconst G rfl dL_drop_1 ?_
  refine p_aload_n G rfl 0 rfl dL_drop_2 ?_
  refine p_iload_n G rfl 1 rfl dL_drop_3 ?_
  obtain ⟨r_, hc, h⟩ := bnd_some h
  rcases r_ with ⟨σ1, v2⟩ | e
  · rw [zel_l] at h
    rw [un2_mk] at h
    refine p_callVN (lv' := fun a => [(0, .ref (a 0)), (1, .int (zJ p1)), (2, .ref (a 101))]) (st' := fun a => [.int (zJ (0 : Int)), .ref (a 101)]) G hR hM zl_70 dL_drop_4 lk_L_7 (c_X6_drop (gl Γ) hc) (As := [.int (zJ p1)]) (ci := 6) rfl zk_70 (by decide +kernel) (by decide +kernel) (zs_x zs_70 _) rfl rfl rfl (Nat.le_of_ble_eq_true rfl) ⟨rfl, rfl, Nat.le_of_ble_eq_true rfl, Nat.le_of_ble_eq_true rfl⟩ (Nat.le_of_ble_eq_true rfl) (Nat.le_of_ble_eq_true rfl) h (fun a e => by have q0 := e 0 _ rfl rfl; have q101 := e 101 _ rfl rfl; exact ⟨by simp only [q0, q101], by simp only [q0, q101]⟩) (fun Γ G hR hM σ3 h => ?_)
    refine (?_ : PT Γ 4 shXo 7 σ3 [(0, .ref (ga Γ 0)), (1, .int (zJ p1)), (2, .ref (ga Γ 101))] [.int (zJ v2), .int (zJ (0 : Int)), .ref (ga Γ 101)])
    have hcs := mk_cs G hM (Nat.le_of_ble_eq_true rfl) (Nat.le_of_ble_eq_true rfl)
    refine p_i2l G dL_drop_7 ?_
    refine p_last G dL_drop_8 (k := 101) rfl (zt_c _) rfl h (fun σ4 c5 h => ?_)
    refine p_goto (tgt := 15) G dL_drop_9 (by decide) ?_
    refine p_iconst G rfl dL_drop_15 ?_
    (cases h; exact p_iretN G hM (Nat.le_of_ble_eq_true rfl) (Nat.le_of_ble_eq_true rfl) hR dL_drop_16 rfl rfl)
  · rw [zel_r] at h
    refine zite h (fun ce h => ?_) (fun ce0 h => ?_)
    · subst ce
      refine p_catch (e := 1) G hR hM htab zl_70 [] (0, 9, 12, 13) [] rfl "java/util/NoSuchElementException" (fun z hz => absurd hz List.not_mem_nil) (by decide) (by decide) gm_826 gm_837 dL_drop_4 lk_L_7 gm_827 (cx_X6_drop (gl Γ) (by rw [hM.1]; exact hl) hc) (As := [.int (zJ p1)]) (ci := 6) rfl zk_70 (zs_x zs_70 _) rfl rfl rfl (Nat.le_of_ble_eq_true rfl) ⟨rfl, rfl, Nat.le_of_ble_eq_true rfl, Nat.le_of_ble_eq_true rfl⟩ (Nat.le_of_ble_eq_true rfl) (Nat.le_of_ble_eq_true rfl) (fun Γ9 G hR hM hga q => ?_)
      rw [← hga]
      clear hga hcs htab
      revert hM hR G
      generalize Γ9 = Γ
      intro G hR hM
      have hcs := mk_cs G hM (Nat.le_of_ble_eq_true rfl) (Nat.le_of_ble_eq_true rfl)
      refine (?_ : PT Γ 4 shXo 12 σ [(0, .ref (ga Γ 0)), (1, .int (zJ p1)), (2, .ref (ga Γ 101))] [.ref q])
      refine p_astore_n (lv' := [(3, .ref q), (0, .ref (ga Γ 0)), (1, .int (zJ p1)), (2, .ref (ga Γ 101))]) G rfl dL_drop_12 (by decide) rfl ?_
      refine p_iconst G rfl dL_drop_13 ?_
      (cases h; exact p_iretN G hM (Nat.le_of_ble_eq_true rfl) (Nat.le_of_ble_eq_true rfl) hR dL_drop_14 rfl rfl)
    · cases h
set_option maxHeartbeats 4000000 in
set_option maxRecDepth 100000 in
theorem c_L_knock (l : Launch) (hl : l.stackTraces = false) {D : va_G} {yy : Nat → ClassId} {tk tv a : Nat → Nat} {σ : Mm} {p1 : Int} {o : Mm × Int} (h : x_L_knock σ p1 = some o) : CTH l yL_knock cL_knock 4 (some .int) [(0, 9, 12, 13)] rm_L_knock shXo D yy tk tv a σ [.ref (a 0), .int (zJ p1), .ref (a 101)] o.1 (some (.int (zJ o.2))) 5 125 := by
  refine cth_of (Ar := fun a tk => [.ref (a 0), .int (zJ p1), .ref (a 101)]) (by decide) (Nat.le_of_ble_eq_true rfl) (fun h => by cases h) (fun Γ G _ hM hR htab => ?_)
  have hcs := mk_cs G hM (Nat.le_of_ble_eq_true rfl) (Nat.le_of_ble_eq_true rfl)
  unfold x_L_knock at h
  refine (?_ : PT Γ 4 shXo 0 σ [(0, .ref (ga Γ 0)), (1, .int (zJ p1)), (2, .ref (ga Γ 101))] [])
  refine p_aload_n G rfl 2 rfl dL_knock_0 ?_
  refine p_iconst G rfl dL_knock_1 ?_
  refine p_aload_n G rfl 0 rfl dL_knock_2 ?_
  refine p_iload_n G rfl 1 rfl dL_knock_3 ?_
  obtain ⟨r_, hc, h⟩ := bnd_some h
  rcases r_ with ⟨σ1, v2⟩ | e
  · rw [zel_l] at h
    rw [un2_mk] at h
    refine p_callVN (lv' := fun a => [(0, .ref (a 0)), (1, .int (zJ p1)), (2, .ref (a 101))]) (st' := fun a => [.int (zJ (0 : Int)), .ref (a 101)]) G hR hM zl_70 dL_knock_4 lk_L_15 (c_X6_knock (gl Γ) hc) (As := [.int (zJ p1)]) (ci := 6) rfl zk_70 (by decide +kernel) (by decide +kernel) (zs_x zs_70 _) rfl rfl rfl (Nat.le_of_ble_eq_true rfl) ⟨rfl, rfl, Nat.le_of_ble_eq_true rfl, Nat.le_of_ble_eq_true rfl⟩ (Nat.le_of_ble_eq_true rfl) (Nat.le_of_ble_eq_true rfl) h (fun a e => by have q0 := e 0 _ rfl rfl; have q101 := e 101 _ rfl rfl; exact ⟨by simp only [q0, q101], by simp only [q0, q101]⟩) (fun Γ G hR hM σ3 h => ?_)
    refine (?_ : PT Γ 4 shXo 7 σ3 [(0, .ref (ga Γ 0)), (1, .int (zJ p1)), (2, .ref (ga Γ 101))] [.int (zJ v2), .int (zJ (0 : Int)), .ref (ga Γ 101)])
    have hcs := mk_cs G hM (Nat.le_of_ble_eq_true rfl) (Nat.le_of_ble_eq_true rfl)
    refine p_i2l G dL_knock_7 ?_
    refine p_last G dL_knock_8 (k := 101) rfl (zt_c _) rfl h (fun σ4 c5 h => ?_)
    refine p_goto (tgt := 15) G dL_knock_9 (by decide) ?_
    refine p_iconst G rfl dL_knock_15 ?_
    (cases h; exact p_iretN G hM (Nat.le_of_ble_eq_true rfl) (Nat.le_of_ble_eq_true rfl) hR dL_knock_16 rfl rfl)
  · rw [zel_r] at h
    refine zite h (fun ce h => ?_) (fun ce0 h => ?_)
    · subst ce
      refine p_catch (e := 1) G hR hM htab zl_70 [] (0, 9, 12, 13) [] rfl "java/util/NoSuchElementException" (fun z hz => absurd hz List.not_mem_nil) (by decide) (by decide) gm_826 gm_837 dL_knock_4 lk_L_15 gm_907 (cx_X6_knock (gl Γ) (by rw [hM.1]; exact hl) hc) (As := [.int (zJ p1)]) (ci := 6) rfl zk_70 (zs_x zs_70 _) rfl rfl rfl (Nat.le_of_ble_eq_true rfl) ⟨rfl, rfl, Nat.le_of_ble_eq_true rfl, Nat.le_of_ble_eq_true rfl⟩ (Nat.le_of_ble_eq_true rfl) (Nat.le_of_ble_eq_true rfl) (fun Γ9 G hR hM hga q => ?_)
      rw [← hga]
      clear hga hcs htab
      revert hM hR G
      generalize Γ9 = Γ
      intro G hR hM
      have hcs := mk_cs G hM (Nat.le_of_ble_eq_true rfl) (Nat.le_of_ble_eq_true rfl)
      refine (?_ : PT Γ 4 shXo 12 σ [(0, .ref (ga Γ 0)), (1, .int (zJ p1)), (2, .ref (ga Γ 101))] [.ref q])
      refine p_astore_n (lv' := [(3, .ref q), (0, .ref (ga Γ 0)), (1, .int (zJ p1)), (2, .ref (ga Γ 101))]) G rfl dL_knock_12 (by decide) rfl ?_
      refine p_iconst G rfl dL_knock_13 ?_
      (cases h; exact p_iretN G hM (Nat.le_of_ble_eq_true rfl) (Nat.le_of_ble_eq_true rfl) hR dL_knock_14 rfl rfl)
    · cases h
set_option maxHeartbeats 4000000 in
set_option maxRecDepth 100000 in
theorem c_L_set (l : Launch) (hl : l.stackTraces = false) {D : va_G} {yy : Nat → ClassId} {tk tv a : Nat → Nat} {σ : Mm} {p1 : Int} {p2 : Int} {o : Mm × Int} (h : x_L_set σ p1 p2 = some o) : CTH l yL_set cL_set 5 (some .int) [(0, 10, 13, 22)] rm_L_set shXo D yy tk tv a σ [.ref (a 0), .int (zJ p1), .int (zJ p2), .ref (a 101)] o.1 (some (.int (zJ o.2))) 5 125 := by
  refine cth_of (Ar := fun a tk => [.ref (a 0), .int (zJ p1), .int (zJ p2), .ref (a 101)]) (by decide) (Nat.le_of_ble_eq_true rfl) (fun h => by cases h) (fun Γ G _ hM hR htab => ?_)
  have hcs := mk_cs G hM (Nat.le_of_ble_eq_true rfl) (Nat.le_of_ble_eq_true rfl)
  unfold x_L_set at h
  refine (?_ : PT Γ 5 shXo 0 σ [(0, .ref (ga Γ 0)), (1, .int (zJ p1)), (2, .int (zJ p2)), (3, .ref (ga Γ 101))] [])
  refine p_aload_n G rfl 3 rfl dL_set_0 ?_
  refine p_iconst G rfl dL_set_1 ?_
  refine p_aload_n G rfl 0 rfl dL_set_2 ?_
  refine p_iload_n G rfl 1 rfl dL_set_3 ?_
  refine p_iload_n G rfl 2 rfl dL_set_4 ?_
  obtain ⟨r_, hc, h⟩ := bnd_some h
  rcases r_ with ⟨σ1, v2⟩ | e
  · rw [zel_l] at h
    rw [un2_mk] at h
    refine p_callVN (lv' := fun a => [(0, .ref (a 0)), (1, .int (zJ p1)), (2, .int (zJ p2)), (3, .ref (a 101))]) (st' := fun a => [.int (zJ (0 : Int)), .ref (a 101)]) G hR hM zl_70 dL_set_5 lk_L_18 (c_X6_set (gl Γ) hc) (As := [.int (zJ p1), .int (zJ p2)]) (ci := 6) rfl zk_70 (by decide +kernel) (by decide +kernel) (zs_x zs_70 _) rfl rfl rfl (Nat.le_of_ble_eq_true rfl) ⟨rfl, rfl, Nat.le_of_ble_eq_true rfl, Nat.le_of_ble_eq_true rfl⟩ (Nat.le_of_ble_eq_true rfl) (Nat.le_of_ble_eq_true rfl) h (fun a e => by have q0 := e 0 _ rfl rfl; have q101 := e 101 _ rfl rfl; exact ⟨by simp only [q0, q101], by simp only [q0, q101]⟩) (fun Γ G hR hM σ3 h => ?_)
    refine (?_ : PT Γ 5 shXo 8 σ3 [(0, .ref (ga Γ 0)), (1, .int (zJ p1)), (2, .int (zJ p2)), (3, .ref (ga Γ 101))] [.int (zJ v2), .int (zJ (0 : Int)), .ref (ga Γ 101)])
    have hcs := mk_cs G hM (Nat.le_of_ble_eq_true rfl) (Nat.le_of_ble_eq_true rfl)
    refine p_i2l G dL_set_8 ?_
    refine p_last G dL_set_9 (k := 101) rfl (zt_c _) rfl h (fun σ4 c5 h => ?_)
    refine p_goto (tgt := 17) G dL_set_10 (by decide) ?_
    refine p_iconst G rfl dL_set_17 ?_
    (cases h; exact p_iretN G hM (Nat.le_of_ble_eq_true rfl) (Nat.le_of_ble_eq_true rfl) hR dL_set_18 rfl rfl)
  · rw [zel_r] at h
    refine zite h (fun ce h => ?_) (fun ce0 h => ?_)
    · subst ce
      refine p_catch (e := 0) G hR hM htab zl_70 [] (0, 10, 13, 22) [] rfl "java/lang/IllegalArgumentException" (fun z hz => absurd hz List.not_mem_nil) (by decide) (by decide) gm_919 gm_932 dL_set_5 lk_L_18 gm_920 (cx_X6_set (gl Γ) (by rw [hM.1]; exact hl) hc) (As := [.int (zJ p1), .int (zJ p2)]) (ci := 6) rfl zk_70 (zs_x zs_70 _) rfl rfl rfl (Nat.le_of_ble_eq_true rfl) ⟨rfl, rfl, Nat.le_of_ble_eq_true rfl, Nat.le_of_ble_eq_true rfl⟩ (Nat.le_of_ble_eq_true rfl) (Nat.le_of_ble_eq_true rfl) (fun Γ9 G hR hM hga q => ?_)
      rw [← hga]
      clear hga hcs htab
      revert hM hR G
      generalize Γ9 = Γ
      intro G hR hM
      have hcs := mk_cs G hM (Nat.le_of_ble_eq_true rfl) (Nat.le_of_ble_eq_true rfl)
      refine (?_ : PT Γ 5 shXo 13 σ [(0, .ref (ga Γ 0)), (1, .int (zJ p1)), (2, .int (zJ p2)), (3, .ref (ga Γ 101))] [.ref q])
      refine p_astore (lv' := [(4, .ref q), (0, .ref (ga Γ 0)), (1, .int (zJ p1)), (2, .int (zJ p2)), (3, .ref (ga Γ 101))]) G dL_set_13 (by decide) rfl ?_
      refine p_iconst G rfl dL_set_15 ?_
      (cases h; exact p_iretN G hM (Nat.le_of_ble_eq_true rfl) (Nat.le_of_ble_eq_true rfl) hR dL_set_16 rfl rfl)
    · cases h
set_option maxHeartbeats 4000000 in
set_option maxRecDepth 100000 in
theorem c_L_keep (l : Launch) (hl : l.stackTraces = false) {D : va_G} {yy : Nat → ClassId} {tk tv a : Nat → Nat} {σ : Mm} {p1 : Int} {o : Mm × Int} (h : x_L_keep σ p1 = some o) : CTH l yL_keep cL_keep 4 (some .int) [(0, 9, 12, 22)] rm_L_keep shXo D yy tk tv a σ [.ref (a 0), .int (zJ p1), .ref (a 101)] o.1 (some (.int (zJ o.2))) 5 125 := by
  refine cth_of (Ar := fun a tk => [.ref (a 0), .int (zJ p1), .ref (a 101)]) (by decide) (Nat.le_of_ble_eq_true rfl) (fun h => by cases h) (fun Γ G _ hM hR htab => ?_)
  have hcs := mk_cs G hM (Nat.le_of_ble_eq_true rfl) (Nat.le_of_ble_eq_true rfl)
  unfold x_L_keep at h
  refine (?_ : PT Γ 4 shXo 0 σ [(0, .ref (ga Γ 0)), (1, .int (zJ p1)), (2, .ref (ga Γ 101))] [])
  refine p_aload_n G rfl 2 rfl dL_keep_0 ?_
  refine p_iconst G rfl dL_keep_1 ?_
  refine p_aload_n G rfl 0 rfl dL_keep_2 ?_
  refine p_iload_n G rfl 1 rfl dL_keep_3 ?_
  obtain ⟨r_, hc, h⟩ := bnd_some h
  rcases r_ with ⟨σ1, v2⟩ | e
  · rw [zel_l] at h
    rw [un2_mk] at h
    refine p_callVN (lv' := fun a => [(0, .ref (a 0)), (1, .int (zJ p1)), (2, .ref (a 101))]) (st' := fun a => [.int (zJ (0 : Int)), .ref (a 101)]) G hR hM zl_70 dL_keep_4 lk_L_24 (c_X6_keep (gl Γ) hc) (As := [.int (zJ p1)]) (ci := 6) rfl zk_70 (by decide +kernel) (by decide +kernel) (zs_x zs_70 _) rfl rfl rfl (Nat.le_of_ble_eq_true rfl) ⟨rfl, rfl, Nat.le_of_ble_eq_true rfl, Nat.le_of_ble_eq_true rfl⟩ (Nat.le_of_ble_eq_true rfl) (Nat.le_of_ble_eq_true rfl) h (fun a e => by have q0 := e 0 _ rfl rfl; have q101 := e 101 _ rfl rfl; exact ⟨by simp only [q0, q101], by simp only [q0, q101]⟩) (fun Γ G hR hM σ3 h => ?_)
    refine (?_ : PT Γ 4 shXo 7 σ3 [(0, .ref (ga Γ 0)), (1, .int (zJ p1)), (2, .ref (ga Γ 101))] [.int (zJ v2), .int (zJ (0 : Int)), .ref (ga Γ 101)])
    have hcs := mk_cs G hM (Nat.le_of_ble_eq_true rfl) (Nat.le_of_ble_eq_true rfl)
    refine p_i2l G dL_keep_7 ?_
    refine p_last G dL_keep_8 (k := 101) rfl (zt_c _) rfl h (fun σ4 c5 h => ?_)
    refine p_goto (tgt := 15) G dL_keep_9 (by decide) ?_
    refine p_iconst G rfl dL_keep_15 ?_
    (cases h; exact p_iretN G hM (Nat.le_of_ble_eq_true rfl) (Nat.le_of_ble_eq_true rfl) hR dL_keep_16 rfl rfl)
  · rw [zel_r] at h
    refine zite h (fun ce h => ?_) (fun ce0 h => ?_)
    · subst ce
      refine p_catch (e := 0) G hR hM htab zl_70 [] (0, 9, 12, 22) [] rfl "java/lang/IllegalArgumentException" (fun z hz => absurd hz List.not_mem_nil) (by decide) (by decide) gm_919 gm_932 dL_keep_4 lk_L_24 gm_949 (cx_X6_keep (gl Γ) (by rw [hM.1]; exact hl) hc) (As := [.int (zJ p1)]) (ci := 6) rfl zk_70 (zs_x zs_70 _) rfl rfl rfl (Nat.le_of_ble_eq_true rfl) ⟨rfl, rfl, Nat.le_of_ble_eq_true rfl, Nat.le_of_ble_eq_true rfl⟩ (Nat.le_of_ble_eq_true rfl) (Nat.le_of_ble_eq_true rfl) (fun Γ9 G hR hM hga q => ?_)
      rw [← hga]
      clear hga hcs htab
      revert hM hR G
      generalize Γ9 = Γ
      intro G hR hM
      have hcs := mk_cs G hM (Nat.le_of_ble_eq_true rfl) (Nat.le_of_ble_eq_true rfl)
      refine (?_ : PT Γ 4 shXo 12 σ [(0, .ref (ga Γ 0)), (1, .int (zJ p1)), (2, .ref (ga Γ 101))] [.ref q])
      refine p_astore_n (lv' := [(3, .ref q), (0, .ref (ga Γ 0)), (1, .int (zJ p1)), (2, .ref (ga Γ 101))]) G rfl dL_keep_12 (by decide) rfl ?_
      refine p_iconst G rfl dL_keep_13 ?_
      (cases h; exact p_iretN G hM (Nat.le_of_ble_eq_true rfl) (Nat.le_of_ble_eq_true rfl) hR dL_keep_14 rfl rfl)
    · cases h
set_option maxHeartbeats 4000000 in
set_option maxRecDepth 100000 in
theorem c_L_restore (l : Launch) (hl : l.stackTraces = false) {D : va_G} {yy : Nat → ClassId} {tk tv a : Nat → Nat} {σ : Mm} {p1 : Int} {o : Mm × Int} (h : x_L_restore σ p1 = some o) : CTH l yL_restore cL_restore 4 (some .int) [(0, 9, 12, 22), (0, 9, 15, 30)] rm_L_restore shXo D yy tk tv a σ [.ref (a 0), .int (zJ p1), .ref (a 101)] o.1 (some (.int (zJ o.2))) 1 6 := by
  refine cth_of (Ar := fun a tk => [.ref (a 0), .int (zJ p1), .ref (a 101)]) (by decide) (Nat.le_of_ble_eq_true rfl) (fun h => by cases h) (fun Γ G _ hM hR htab => ?_)
  have hcs := mk_cs G hM (Nat.le_of_ble_eq_true rfl) (Nat.le_of_ble_eq_true rfl)
  unfold x_L_restore at h
  refine (?_ : PT Γ 4 shXo 0 σ [(0, .ref (ga Γ 0)), (1, .int (zJ p1)), (2, .ref (ga Γ 101))] [])
  refine p_aload_n G rfl 2 rfl dL_restore_0 ?_
  refine p_iconst G rfl dL_restore_1 ?_
  refine p_aload_n G rfl 0 rfl dL_restore_2 ?_
  refine p_iload_n G rfl 1 rfl dL_restore_3 ?_
  obtain ⟨r_, hc, h⟩ := bnd_some h
  rcases r_ with ⟨σ1, v2⟩ | e
  · rw [zel_l] at h
    rw [un2_mk] at h
    refine p_callV G zl_70 dL_restore_4 lk_L_27 (c_X6_restore (gl Γ) hc) (As := [.int (zJ p1)]) (ci := 6) rfl zk_70 (zs_x zs_70 _) rfl rfl rfl (Nat.le_of_ble_eq_true rfl) ⟨rfl, rfl, Nat.le_of_ble_eq_true rfl, Nat.le_of_ble_eq_true rfl⟩ hcs ?_
    refine p_nm h (fun σ3 h => ?_)
    refine p_i2l G dL_restore_7 ?_
    refine p_last G dL_restore_8 (k := 101) rfl (zt_c _) rfl h (fun σ4 c5 h => ?_)
    refine p_goto (tgt := 18) G dL_restore_9 (by decide) ?_
    refine p_iconst G rfl dL_restore_18 ?_
    (cases h; exact p_iretN G hM (Nat.le_of_ble_eq_true rfl) (Nat.le_of_ble_eq_true rfl) hR dL_restore_19 rfl rfl)
  · rw [zel_r] at h
    refine zite h (fun ce h => ?_) (fun ce0 h => ?_)
    · subst ce
      refine p_catch (e := 0) G hR hM htab zl_70 [] (0, 9, 12, 22) [(0, 9, 15, 30)] rfl "java/lang/IllegalArgumentException" (fun z hz => absurd hz List.not_mem_nil) (by decide) (by decide) gm_919 gm_932 dL_restore_4 lk_L_27 gm_957 (cx_X6_restore (gl Γ) (by rw [hM.1]; exact hl) hc) (As := [.int (zJ p1)]) (ci := 6) rfl zk_70 (zs_x zs_70 _) rfl rfl rfl (Nat.le_of_ble_eq_true rfl) ⟨rfl, rfl, Nat.le_of_ble_eq_true rfl, Nat.le_of_ble_eq_true rfl⟩ (Nat.le_of_ble_eq_true rfl) (Nat.le_of_ble_eq_true rfl) (fun Γ9 G hR hM hga q => ?_)
      rw [← hga]
      clear hga hcs htab
      revert hM hR G
      generalize Γ9 = Γ
      intro G hR hM
      have hcs := mk_cs G hM (Nat.le_of_ble_eq_true rfl) (Nat.le_of_ble_eq_true rfl)
      refine (?_ : PT Γ 4 shXo 12 σ [(0, .ref (ga Γ 0)), (1, .int (zJ p1)), (2, .ref (ga Γ 101))] [.ref q])
      refine p_astore_n (lv' := [(3, .ref q), (0, .ref (ga Γ 0)), (1, .int (zJ p1)), (2, .ref (ga Γ 101))]) G rfl dL_restore_12 (by decide) rfl ?_
      refine p_iconst G rfl dL_restore_13 ?_
      (cases h; exact p_iretN G hM (Nat.le_of_ble_eq_true rfl) (Nat.le_of_ble_eq_true rfl) hR dL_restore_14 rfl rfl)
    · refine zite h (fun ce h => ?_) (fun ce1 h => ?_)
      · subst ce
        refine p_catch (e := 2) G hR hM htab zl_70 [(0, 9, 12, 22)] (0, 9, 15, 30) [] rfl "java/lang/IllegalStateException" (fun z hz => by rw [List.mem_singleton.mp hz]; exact ⟨by decide, "java/lang/IllegalArgumentException", gm_919, G.2.2.2.2.2.2.2.2.2.2.2.2.2.2.2.2.2.2.2.1⟩) (by decide) (by decide) gm_956 gm_963 dL_restore_4 lk_L_27 gm_957 (cx_X6_restore (gl Γ) (by rw [hM.1]; exact hl) hc) (As := [.int (zJ p1)]) (ci := 6) rfl zk_70 (zs_x zs_70 _) rfl rfl rfl (Nat.le_of_ble_eq_true rfl) ⟨rfl, rfl, Nat.le_of_ble_eq_true rfl, Nat.le_of_ble_eq_true rfl⟩ (Nat.le_of_ble_eq_true rfl) (Nat.le_of_ble_eq_true rfl) (fun Γ9 G hR hM hga q => ?_)
        rw [← hga]
        clear hga hcs htab
        revert hM hR G
        generalize Γ9 = Γ
        intro G hR hM
        have hcs := mk_cs G hM (Nat.le_of_ble_eq_true rfl) (Nat.le_of_ble_eq_true rfl)
        refine (?_ : PT Γ 4 shXo 15 σ [(0, .ref (ga Γ 0)), (1, .int (zJ p1)), (2, .ref (ga Γ 101))] [.ref q])
        refine p_astore_n (lv' := [(3, .ref q), (0, .ref (ga Γ 0)), (1, .int (zJ p1)), (2, .ref (ga Γ 101))]) G rfl dL_restore_15 (by decide) rfl ?_
        refine p_iconst G rfl dL_restore_16 ?_
        (cases h; exact p_iretN G hM (Nat.le_of_ble_eq_true rfl) (Nat.le_of_ble_eq_true rfl) hR dL_restore_17 rfl rfl)
      · cases h
set_option maxHeartbeats 4000000 in
set_option maxRecDepth 100000 in
theorem c_L_truncate (l : Launch) (hl : l.stackTraces = false) {D : va_G} {yy : Nat → ClassId} {tk tv a : Nat → Nat} {σ : Mm} {p1 : Int} {o : Mm × Int} (h : x_L_truncate σ p1 = some o) : CTH l yL_truncate cL_truncate 4 (some .int) [(0, 9, 12, 22)] rm_L_truncate shXo D yy tk tv a σ [.ref (a 0), .int (zJ p1), .ref (a 101)] o.1 (some (.int (zJ o.2))) 1 6 := by
  refine cth_of (Ar := fun a tk => [.ref (a 0), .int (zJ p1), .ref (a 101)]) (by decide) (Nat.le_of_ble_eq_true rfl) (fun h => by cases h) (fun Γ G _ hM hR htab => ?_)
  have hcs := mk_cs G hM (Nat.le_of_ble_eq_true rfl) (Nat.le_of_ble_eq_true rfl)
  unfold x_L_truncate at h
  refine (?_ : PT Γ 4 shXo 0 σ [(0, .ref (ga Γ 0)), (1, .int (zJ p1)), (2, .ref (ga Γ 101))] [])
  refine p_aload_n G rfl 2 rfl dL_truncate_0 ?_
  refine p_iconst G rfl dL_truncate_1 ?_
  refine p_aload_n G rfl 0 rfl dL_truncate_2 ?_
  refine p_iload_n G rfl 1 rfl dL_truncate_3 ?_
  obtain ⟨r_, hc, h⟩ := bnd_some h
  rcases r_ with ⟨σ1, v2⟩ | e
  · rw [zel_l] at h
    rw [un2_mk] at h
    refine p_callV G zl_70 dL_truncate_4 lk_L_32 (c_X6_truncate (gl Γ) hc) (As := [.int (zJ p1)]) (ci := 6) rfl zk_70 (zs_x zs_70 _) rfl rfl rfl (Nat.le_of_ble_eq_true rfl) ⟨rfl, rfl, Nat.le_of_ble_eq_true rfl, Nat.le_of_ble_eq_true rfl⟩ hcs ?_
    refine p_nm h (fun σ3 h => ?_)
    refine p_i2l G dL_truncate_7 ?_
    refine p_last G dL_truncate_8 (k := 101) rfl (zt_c _) rfl h (fun σ4 c5 h => ?_)
    refine p_goto (tgt := 15) G dL_truncate_9 (by decide) ?_
    refine p_iconst G rfl dL_truncate_15 ?_
    (cases h; exact p_iretN G hM (Nat.le_of_ble_eq_true rfl) (Nat.le_of_ble_eq_true rfl) hR dL_truncate_16 rfl rfl)
  · rw [zel_r] at h
    refine zite h (fun ce h => ?_) (fun ce0 h => ?_)
    · subst ce
      refine p_catch (e := 0) G hR hM htab zl_70 [] (0, 9, 12, 22) [] rfl "java/lang/IllegalArgumentException" (fun z hz => absurd hz List.not_mem_nil) (by decide) (by decide) gm_919 gm_932 dL_truncate_4 lk_L_32 gm_984 (cx_X6_truncate (gl Γ) (by rw [hM.1]; exact hl) hc) (As := [.int (zJ p1)]) (ci := 6) rfl zk_70 (zs_x zs_70 _) rfl rfl rfl (Nat.le_of_ble_eq_true rfl) ⟨rfl, rfl, Nat.le_of_ble_eq_true rfl, Nat.le_of_ble_eq_true rfl⟩ (Nat.le_of_ble_eq_true rfl) (Nat.le_of_ble_eq_true rfl) (fun Γ9 G hR hM hga q => ?_)
      rw [← hga]
      clear hga hcs htab
      revert hM hR G
      generalize Γ9 = Γ
      intro G hR hM
      have hcs := mk_cs G hM (Nat.le_of_ble_eq_true rfl) (Nat.le_of_ble_eq_true rfl)
      refine (?_ : PT Γ 4 shXo 12 σ [(0, .ref (ga Γ 0)), (1, .int (zJ p1)), (2, .ref (ga Γ 101))] [.ref q])
      refine p_astore_n (lv' := [(3, .ref q), (0, .ref (ga Γ 0)), (1, .int (zJ p1)), (2, .ref (ga Γ 101))]) G rfl dL_truncate_12 (by decide) rfl ?_
      refine p_iconst G rfl dL_truncate_13 ?_
      (cases h; exact p_iretN G hM (Nat.le_of_ble_eq_true rfl) (Nat.le_of_ble_eq_true rfl) hR dL_truncate_14 rfl rfl)
    · cases h
set_option maxHeartbeats 4000000 in
set_option maxRecDepth 100000 in
theorem c_L_match (l : Launch) (hl : l.stackTraces = false) {D : va_G} {yy : Nat → ClassId} {tk tv a : Nat → Nat} {σ : Mm} {p1 : Int} {o : Mm × Int} (h : x_L_match σ p1 = some o) : CTH l yL_match cL_match 4 (some .int) [(0, 9, 12, 22)] rm_L_match shXo D yy tk tv a σ [.ref (a 0), .int (zJ p1), .ref (a 101)] o.1 (some (.int (zJ o.2))) 1 6 := by
  refine cth_of (Ar := fun a tk => [.ref (a 0), .int (zJ p1), .ref (a 101)]) (by decide) (Nat.le_of_ble_eq_true rfl) (fun h => by cases h) (fun Γ G _ hM hR htab => ?_)
  have hcs := mk_cs G hM (Nat.le_of_ble_eq_true rfl) (Nat.le_of_ble_eq_true rfl)
  unfold x_L_match at h
  refine (?_ : PT Γ 4 shXo 0 σ [(0, .ref (ga Γ 0)), (1, .int (zJ p1)), (2, .ref (ga Γ 101))] [])
  refine p_aload_n G rfl 2 rfl dL_match_0 ?_
  refine p_iconst G rfl dL_match_1 ?_
  refine p_aload_n G rfl 0 rfl dL_match_2 ?_
  refine p_iload_n G rfl 1 rfl dL_match_3 ?_
  obtain ⟨r_, hc, h⟩ := bnd_some h
  rcases r_ with v1 | e
  · rw [zel_l] at h
    refine p_callVr G zl_70 dL_match_4 lk_L_35 (c_X6_match (gl Γ) hc) (As := [.int (zJ p1)]) (ci := 6) rfl zk_70 (zs_x zs_70 _) rfl rfl rfl (Nat.le_of_ble_eq_true rfl) ⟨rfl, rfl, Nat.le_of_ble_eq_true rfl, Nat.le_of_ble_eq_true rfl⟩ hcs ?_
    refine p_i2l G dL_match_7 ?_
    refine p_last G dL_match_8 (k := 101) rfl (zt_c _) rfl h (fun σ2 c3 h => ?_)
    refine p_goto (tgt := 15) G dL_match_9 (by decide) ?_
    refine p_iconst G rfl dL_match_15 ?_
    (cases h; exact p_iretN G hM (Nat.le_of_ble_eq_true rfl) (Nat.le_of_ble_eq_true rfl) hR dL_match_16 rfl rfl)
  · rw [zel_r] at h
    refine zite h (fun ce h => ?_) (fun ce0 h => ?_)
    · subst ce
      refine p_catch (e := 0) G hR hM htab zl_70 [] (0, 9, 12, 22) [] rfl "java/lang/IllegalArgumentException" (fun z hz => absurd hz List.not_mem_nil) (by decide) (by decide) gm_919 gm_932 dL_match_4 lk_L_35 gm_991 (cx_X6_match (gl Γ) (by rw [hM.1]; exact hl) hc) (As := [.int (zJ p1)]) (ci := 6) rfl zk_70 (zs_x zs_70 _) rfl rfl rfl (Nat.le_of_ble_eq_true rfl) ⟨rfl, rfl, Nat.le_of_ble_eq_true rfl, Nat.le_of_ble_eq_true rfl⟩ (Nat.le_of_ble_eq_true rfl) (Nat.le_of_ble_eq_true rfl) (fun Γ9 G hR hM hga q => ?_)
      rw [← hga]
      clear hga hcs htab
      revert hM hR G
      generalize Γ9 = Γ
      intro G hR hM
      have hcs := mk_cs G hM (Nat.le_of_ble_eq_true rfl) (Nat.le_of_ble_eq_true rfl)
      refine (?_ : PT Γ 4 shXo 12 σ [(0, .ref (ga Γ 0)), (1, .int (zJ p1)), (2, .ref (ga Γ 101))] [.ref q])
      refine p_astore_n (lv' := [(3, .ref q), (0, .ref (ga Γ 0)), (1, .int (zJ p1)), (2, .ref (ga Γ 101))]) G rfl dL_match_12 (by decide) rfl ?_
      refine p_iconst G rfl dL_match_13 ?_
      (cases h; exact p_iretN G hM (Nat.le_of_ble_eq_true rfl) (Nat.le_of_ble_eq_true rfl) hR dL_match_14 rfl rfl)
    · cases h
set_option maxHeartbeats 4000000 in
set_option maxRecDepth 100000 in
theorem c_L_player (l : Launch) (hl : l.stackTraces = false) {D : va_G} {yy : Nat → ClassId} {tk tv a : Nat → Nat} {σ : Mm} {p1 : Int} {p2 : Int} {o : Mm × Int} (h : x_L_player σ p1 p2 = some o) : CTH l yL_player cL_player 5 (some .int) [(0, 10, 13, 22)] rm_L_player shXo D yy tk tv a σ [.ref (a 0), .int (zJ p1), .int (zJ p2), .ref (a 101)] o.1 (some (.int (zJ o.2))) 1 6 := by
  refine cth_of (Ar := fun a tk => [.ref (a 0), .int (zJ p1), .int (zJ p2), .ref (a 101)]) (by decide) (Nat.le_of_ble_eq_true rfl) (fun h => by cases h) (fun Γ G _ hM hR htab => ?_)
  have hcs := mk_cs G hM (Nat.le_of_ble_eq_true rfl) (Nat.le_of_ble_eq_true rfl)
  unfold x_L_player at h
  refine (?_ : PT Γ 5 shXo 0 σ [(0, .ref (ga Γ 0)), (1, .int (zJ p1)), (2, .int (zJ p2)), (3, .ref (ga Γ 101))] [])
  refine p_aload_n G rfl 3 rfl dL_player_0 ?_
  refine p_iconst G rfl dL_player_1 ?_
  refine p_aload_n G rfl 0 rfl dL_player_2 ?_
  refine p_iload_n G rfl 1 rfl dL_player_3 ?_
  refine p_iload_n G rfl 2 rfl dL_player_4 ?_
  obtain ⟨r_, hc, h⟩ := bnd_some h
  rcases r_ with ⟨σ1, v2⟩ | e
  · rw [zel_l] at h
    rw [un2_mk] at h
    refine p_callV G zl_70 dL_player_5 lk_L_38 (c_X6_player (gl Γ) hc) (As := [.int (zJ p1), .int (zJ p2)]) (ci := 6) rfl zk_70 (zs_x zs_70 _) rfl rfl rfl (Nat.le_of_ble_eq_true rfl) ⟨rfl, rfl, Nat.le_of_ble_eq_true rfl, Nat.le_of_ble_eq_true rfl⟩ hcs ?_
    refine p_nm h (fun σ3 h => ?_)
    refine p_i2l G dL_player_8 ?_
    refine p_last G dL_player_9 (k := 101) rfl (zt_c _) rfl h (fun σ4 c5 h => ?_)
    refine p_goto (tgt := 17) G dL_player_10 (by decide) ?_
    refine p_iconst G rfl dL_player_17 ?_
    (cases h; exact p_iretN G hM (Nat.le_of_ble_eq_true rfl) (Nat.le_of_ble_eq_true rfl) hR dL_player_18 rfl rfl)
  · rw [zel_r] at h
    refine zite h (fun ce h => ?_) (fun ce0 h => ?_)
    · subst ce
      refine p_catch (e := 0) G hR hM htab zl_70 [] (0, 10, 13, 22) [] rfl "java/lang/IllegalArgumentException" (fun z hz => absurd hz List.not_mem_nil) (by decide) (by decide) gm_919 gm_932 dL_player_5 lk_L_38 gm_1003 (cx_X6_player (gl Γ) (by rw [hM.1]; exact hl) hc) (As := [.int (zJ p1), .int (zJ p2)]) (ci := 6) rfl zk_70 (zs_x zs_70 _) rfl rfl rfl (Nat.le_of_ble_eq_true rfl) ⟨rfl, rfl, Nat.le_of_ble_eq_true rfl, Nat.le_of_ble_eq_true rfl⟩ (Nat.le_of_ble_eq_true rfl) (Nat.le_of_ble_eq_true rfl) (fun Γ9 G hR hM hga q => ?_)
      rw [← hga]
      clear hga hcs htab
      revert hM hR G
      generalize Γ9 = Γ
      intro G hR hM
      have hcs := mk_cs G hM (Nat.le_of_ble_eq_true rfl) (Nat.le_of_ble_eq_true rfl)
      refine (?_ : PT Γ 5 shXo 13 σ [(0, .ref (ga Γ 0)), (1, .int (zJ p1)), (2, .int (zJ p2)), (3, .ref (ga Γ 101))] [.ref q])
      refine p_astore (lv' := [(4, .ref q), (0, .ref (ga Γ 0)), (1, .int (zJ p1)), (2, .int (zJ p2)), (3, .ref (ga Γ 101))]) G dL_player_13 (by decide) rfl ?_
      refine p_iconst G rfl dL_player_15 ?_
      (cases h; exact p_iretN G hM (Nat.le_of_ble_eq_true rfl) (Nat.le_of_ble_eq_true rfl) hR dL_player_16 rfl rfl)
    · cases h
set_option maxHeartbeats 4000000 in
set_option maxRecDepth 100000 in
theorem c_L_card (l : Launch) (hl : l.stackTraces = false) {D : va_G} {yy : Nat → ClassId} {tk tv a : Nat → Nat} {σ : Mm} {p1 : Int} {p2 : Int} {o : Mm × Int} (h : x_L_card σ p1 p2 = some o) : CTH l yL_card cL_card 5 (some .int) [(0, 10, 13, 22)] rm_L_card shXo D yy tk tv a σ [.ref (a 0), .int (zJ p1), .int (zJ p2), .ref (a 101)] o.1 (some (.int (zJ o.2))) 1 6 := by
  refine cth_of (Ar := fun a tk => [.ref (a 0), .int (zJ p1), .int (zJ p2), .ref (a 101)]) (by decide) (Nat.le_of_ble_eq_true rfl) (fun h => by cases h) (fun Γ G _ hM hR htab => ?_)
  have hcs := mk_cs G hM (Nat.le_of_ble_eq_true rfl) (Nat.le_of_ble_eq_true rfl)
  unfold x_L_card at h
  refine (?_ : PT Γ 5 shXo 0 σ [(0, .ref (ga Γ 0)), (1, .int (zJ p1)), (2, .int (zJ p2)), (3, .ref (ga Γ 101))] [])
  refine p_aload_n G rfl 3 rfl dL_card_0 ?_
  refine p_iconst G rfl dL_card_1 ?_
  refine p_aload_n G rfl 0 rfl dL_card_2 ?_
  refine p_iload_n G rfl 1 rfl dL_card_3 ?_
  refine p_iload_n G rfl 2 rfl dL_card_4 ?_
  obtain ⟨r_, hc, h⟩ := bnd_some h
  rcases r_ with v1 | e
  · rw [zel_l] at h
    refine p_callVr G zl_70 dL_card_5 lk_L_42 (c_X6_card (gl Γ) hc) (As := [.int (zJ p1), .int (zJ p2)]) (ci := 6) rfl zk_70 (zs_x zs_70 _) rfl rfl rfl (Nat.le_of_ble_eq_true rfl) ⟨rfl, rfl, Nat.le_of_ble_eq_true rfl, Nat.le_of_ble_eq_true rfl⟩ hcs ?_
    refine p_i2l G dL_card_8 ?_
    refine p_last G dL_card_9 (k := 101) rfl (zt_c _) rfl h (fun σ2 c3 h => ?_)
    refine p_goto (tgt := 17) G dL_card_10 (by decide) ?_
    refine p_iconst G rfl dL_card_17 ?_
    (cases h; exact p_iretN G hM (Nat.le_of_ble_eq_true rfl) (Nat.le_of_ble_eq_true rfl) hR dL_card_18 rfl rfl)
  · rw [zel_r] at h
    refine zite h (fun ce h => ?_) (fun ce0 h => ?_)
    · subst ce
      refine p_catch (e := 0) G hR hM htab zl_70 [] (0, 10, 13, 22) [] rfl "java/lang/IllegalArgumentException" (fun z hz => absurd hz List.not_mem_nil) (by decide) (by decide) gm_919 gm_932 dL_card_5 lk_L_42 gm_1021 (cx_X6_card (gl Γ) (by rw [hM.1]; exact hl) hc) (As := [.int (zJ p1), .int (zJ p2)]) (ci := 6) rfl zk_70 (zs_x zs_70 _) rfl rfl rfl (Nat.le_of_ble_eq_true rfl) ⟨rfl, rfl, Nat.le_of_ble_eq_true rfl, Nat.le_of_ble_eq_true rfl⟩ (Nat.le_of_ble_eq_true rfl) (Nat.le_of_ble_eq_true rfl) (fun Γ9 G hR hM hga q => ?_)
      rw [← hga]
      clear hga hcs htab
      revert hM hR G
      generalize Γ9 = Γ
      intro G hR hM
      have hcs := mk_cs G hM (Nat.le_of_ble_eq_true rfl) (Nat.le_of_ble_eq_true rfl)
      refine (?_ : PT Γ 5 shXo 13 σ [(0, .ref (ga Γ 0)), (1, .int (zJ p1)), (2, .int (zJ p2)), (3, .ref (ga Γ 101))] [.ref q])
      refine p_astore (lv' := [(4, .ref q), (0, .ref (ga Γ 0)), (1, .int (zJ p1)), (2, .int (zJ p2)), (3, .ref (ga Γ 101))]) G dL_card_13 (by decide) rfl ?_
      refine p_iconst G rfl dL_card_15 ?_
      (cases h; exact p_iretN G hM (Nat.le_of_ble_eq_true rfl) (Nat.le_of_ble_eq_true rfl) hR dL_card_16 rfl rfl)
    · cases h
set_option maxHeartbeats 4000000 in
set_option maxRecDepth 100000 in
theorem c_L_where (l : Launch) (hl : l.stackTraces = false) {D : va_G} {yy : Nat → ClassId} {tk tv a : Nat → Nat} {σ : Mm} {p1 : Int} {o : Mm × Int} (h : x_L_where σ p1 = some o) : CTH l yL_where cL_where 4 (some .int) [(0, 9, 12, 22)] rm_L_where shXo D yy tk tv a σ [.ref (a 0), .int (zJ p1), .ref (a 101)] o.1 (some (.int (zJ o.2))) 1 6 := by
  refine cth_of (Ar := fun a tk => [.ref (a 0), .int (zJ p1), .ref (a 101)]) (by decide) (Nat.le_of_ble_eq_true rfl) (fun h => by cases h) (fun Γ G _ hM hR htab => ?_)
  have hcs := mk_cs G hM (Nat.le_of_ble_eq_true rfl) (Nat.le_of_ble_eq_true rfl)
  unfold x_L_where at h
  refine (?_ : PT Γ 4 shXo 0 σ [(0, .ref (ga Γ 0)), (1, .int (zJ p1)), (2, .ref (ga Γ 101))] [])
  refine p_aload_n G rfl 2 rfl dL_where_0 ?_
  refine p_iconst G rfl dL_where_1 ?_
  refine p_aload_n G rfl 0 rfl dL_where_2 ?_
  refine p_iload_n G rfl 1 rfl dL_where_3 ?_
  obtain ⟨r_, hc, h⟩ := bnd_some h
  rcases r_ with v1 | e
  · rw [zel_l] at h
    refine p_callVr G zl_70 dL_where_4 lk_L_45 (c_X6_where (gl Γ) hc) (As := [.int (zJ p1)]) (ci := 6) rfl zk_70 (zs_x zs_70 _) rfl rfl rfl (Nat.le_of_ble_eq_true rfl) ⟨rfl, rfl, Nat.le_of_ble_eq_true rfl, Nat.le_of_ble_eq_true rfl⟩ hcs ?_
    refine p_i2l G dL_where_7 ?_
    refine p_last G dL_where_8 (k := 101) rfl (zt_c _) rfl h (fun σ2 c3 h => ?_)
    refine p_goto (tgt := 15) G dL_where_9 (by decide) ?_
    refine p_iconst G rfl dL_where_15 ?_
    (cases h; exact p_iretN G hM (Nat.le_of_ble_eq_true rfl) (Nat.le_of_ble_eq_true rfl) hR dL_where_16 rfl rfl)
  · rw [zel_r] at h
    refine zite h (fun ce h => ?_) (fun ce0 h => ?_)
    · subst ce
      refine p_catch (e := 0) G hR hM htab zl_70 [] (0, 9, 12, 22) [] rfl "java/lang/IllegalArgumentException" (fun z hz => absurd hz List.not_mem_nil) (by decide) (by decide) gm_919 gm_932 dL_where_4 lk_L_45 gm_1028 (cx_X6_where (gl Γ) (by rw [hM.1]; exact hl) hc) (As := [.int (zJ p1)]) (ci := 6) rfl zk_70 (zs_x zs_70 _) rfl rfl rfl (Nat.le_of_ble_eq_true rfl) ⟨rfl, rfl, Nat.le_of_ble_eq_true rfl, Nat.le_of_ble_eq_true rfl⟩ (Nat.le_of_ble_eq_true rfl) (Nat.le_of_ble_eq_true rfl) (fun Γ9 G hR hM hga q => ?_)
      rw [← hga]
      clear hga hcs htab
      revert hM hR G
      generalize Γ9 = Γ
      intro G hR hM
      have hcs := mk_cs G hM (Nat.le_of_ble_eq_true rfl) (Nat.le_of_ble_eq_true rfl)
      refine (?_ : PT Γ 4 shXo 12 σ [(0, .ref (ga Γ 0)), (1, .int (zJ p1)), (2, .ref (ga Γ 101))] [.ref q])
      refine p_astore_n (lv' := [(3, .ref q), (0, .ref (ga Γ 0)), (1, .int (zJ p1)), (2, .ref (ga Γ 101))]) G rfl dL_where_12 (by decide) rfl ?_
      refine p_iconst G rfl dL_where_13 ?_
      (cases h; exact p_iretN G hM (Nat.le_of_ble_eq_true rfl) (Nat.le_of_ble_eq_true rfl) hR dL_where_14 rfl rfl)
    · cases h
set_option maxHeartbeats 4000000 in
set_option maxRecDepth 100000 in
theorem c_L_meldOf (l : Launch) (hl : l.stackTraces = false) {D : va_G} {yy : Nat → ClassId} {tk tv a : Nat → Nat} {σ : Mm} {p1 : Int} {p2 : Int} {o : Mm × Int} (h : x_L_meldOf σ p1 p2 = some o) : CTH l yL_meldOf cL_meldOf 5 (some .int) [(0, 10, 13, 22), (0, 10, 17, 13)] rm_L_meldOf shXo D yy tk tv a σ [.ref (a 0), .int (zJ p1), .int (zJ p2), .ref (a 101)] o.1 (some (.int (zJ o.2))) 1 6 := by
  refine cth_of (Ar := fun a tk => [.ref (a 0), .int (zJ p1), .int (zJ p2), .ref (a 101)]) (by decide) (Nat.le_of_ble_eq_true rfl) (fun h => by cases h) (fun Γ G _ hM hR htab => ?_)
  have hcs := mk_cs G hM (Nat.le_of_ble_eq_true rfl) (Nat.le_of_ble_eq_true rfl)
  unfold x_L_meldOf at h
  refine (?_ : PT Γ 5 shXo 0 σ [(0, .ref (ga Γ 0)), (1, .int (zJ p1)), (2, .int (zJ p2)), (3, .ref (ga Γ 101))] [])
  refine p_aload_n G rfl 3 rfl dL_meldOf_0 ?_
  refine p_iconst G rfl dL_meldOf_1 ?_
  refine p_aload_n G rfl 0 rfl dL_meldOf_2 ?_
  refine p_iload_n G rfl 1 rfl dL_meldOf_3 ?_
  refine p_iload_n G rfl 2 rfl dL_meldOf_4 ?_
  obtain ⟨r_, hc, h⟩ := bnd_some h
  rcases r_ with ⟨σ1, v2⟩ | e
  · rw [zel_l] at h
    rw [un2_mk] at h
    refine p_callV G zl_70 dL_meldOf_5 lk_L_48 (c_X6_meldOf (gl Γ) hc) (As := [.int (zJ p1), .int (zJ p2)]) (ci := 6) rfl zk_70 (zs_x zs_70 _) rfl rfl rfl (Nat.le_of_ble_eq_true rfl) ⟨rfl, rfl, Nat.le_of_ble_eq_true rfl, Nat.le_of_ble_eq_true rfl⟩ hcs ?_
    refine p_nm h (fun σ3 h => ?_)
    refine p_i2l G dL_meldOf_8 ?_
    refine p_last G dL_meldOf_9 (k := 101) rfl (zt_c _) rfl h (fun σ4 c5 h => ?_)
    refine p_goto (tgt := 21) G dL_meldOf_10 (by decide) ?_
    refine p_iconst G rfl dL_meldOf_21 ?_
    (cases h; exact p_iretN G hM (Nat.le_of_ble_eq_true rfl) (Nat.le_of_ble_eq_true rfl) hR dL_meldOf_22 rfl rfl)
  · rw [zel_r] at h
    refine zite h (fun ce h => ?_) (fun ce0 h => ?_)
    · subst ce
      refine p_catch (e := 0) G hR hM htab zl_70 [] (0, 10, 13, 22) [(0, 10, 17, 13)] rfl "java/lang/IllegalArgumentException" (fun z hz => absurd hz List.not_mem_nil) (by decide) (by decide) gm_919 gm_932 dL_meldOf_5 lk_L_48 gm_1040 (cx_X6_meldOf (gl Γ) (by rw [hM.1]; exact hl) hc) (As := [.int (zJ p1), .int (zJ p2)]) (ci := 6) rfl zk_70 (zs_x zs_70 _) rfl rfl rfl (Nat.le_of_ble_eq_true rfl) ⟨rfl, rfl, Nat.le_of_ble_eq_true rfl, Nat.le_of_ble_eq_true rfl⟩ (Nat.le_of_ble_eq_true rfl) (Nat.le_of_ble_eq_true rfl) (fun Γ9 G hR hM hga q => ?_)
      rw [← hga]
      clear hga hcs htab
      revert hM hR G
      generalize Γ9 = Γ
      intro G hR hM
      have hcs := mk_cs G hM (Nat.le_of_ble_eq_true rfl) (Nat.le_of_ble_eq_true rfl)
      refine (?_ : PT Γ 5 shXo 13 σ [(0, .ref (ga Γ 0)), (1, .int (zJ p1)), (2, .int (zJ p2)), (3, .ref (ga Γ 101))] [.ref q])
      refine p_astore (lv' := [(4, .ref q), (0, .ref (ga Γ 0)), (1, .int (zJ p1)), (2, .int (zJ p2)), (3, .ref (ga Γ 101))]) G dL_meldOf_13 (by decide) rfl ?_
      refine p_iconst G rfl dL_meldOf_15 ?_
      (cases h; exact p_iretN G hM (Nat.le_of_ble_eq_true rfl) (Nat.le_of_ble_eq_true rfl) hR dL_meldOf_16 rfl rfl)
    · refine zite h (fun ce h => ?_) (fun ce1 h => ?_)
      · subst ce
        refine p_catch (e := 1) G hR hM htab zl_70 [(0, 10, 13, 22)] (0, 10, 17, 13) [] rfl "java/util/NoSuchElementException" (fun z hz => by rw [List.mem_singleton.mp hz]; exact ⟨by decide, "java/lang/IllegalArgumentException", gm_919, G.2.2.2.2.2.2.2.2.2.2.2.2.2.2.2.2.2.2.2.2.1⟩) (by decide) (by decide) gm_826 gm_837 dL_meldOf_5 lk_L_48 gm_1040 (cx_X6_meldOf (gl Γ) (by rw [hM.1]; exact hl) hc) (As := [.int (zJ p1), .int (zJ p2)]) (ci := 6) rfl zk_70 (zs_x zs_70 _) rfl rfl rfl (Nat.le_of_ble_eq_true rfl) ⟨rfl, rfl, Nat.le_of_ble_eq_true rfl, Nat.le_of_ble_eq_true rfl⟩ (Nat.le_of_ble_eq_true rfl) (Nat.le_of_ble_eq_true rfl) (fun Γ9 G hR hM hga q => ?_)
        rw [← hga]
        clear hga hcs htab
        revert hM hR G
        generalize Γ9 = Γ
        intro G hR hM
        have hcs := mk_cs G hM (Nat.le_of_ble_eq_true rfl) (Nat.le_of_ble_eq_true rfl)
        refine (?_ : PT Γ 5 shXo 17 σ [(0, .ref (ga Γ 0)), (1, .int (zJ p1)), (2, .int (zJ p2)), (3, .ref (ga Γ 101))] [.ref q])
        refine p_astore (lv' := [(4, .ref q), (0, .ref (ga Γ 0)), (1, .int (zJ p1)), (2, .int (zJ p2)), (3, .ref (ga Γ 101))]) G dL_meldOf_17 (by decide) rfl ?_
        refine p_iconst G rfl dL_meldOf_19 ?_
        (cases h; exact p_iretN G hM (Nat.le_of_ble_eq_true rfl) (Nat.le_of_ble_eq_true rfl) hR dL_meldOf_20 rfl rfl)
      · cases h
set_option maxHeartbeats 4000000 in
set_option maxRecDepth 100000 in
theorem c_L_meld (l : Launch) (hl : l.stackTraces = false) {D : va_G} {yy : Nat → ClassId} {tk tv a : Nat → Nat} {σ : Mm} {p1 : Int} {p2 : Int} {p3 : Int} {o : Mm × Int} (h : x_L_meld σ p1 p2 p3 = some o) : CTH l yL_meld cL_meld 6 (some .int) [(0, 12, 15, 22)] rm_L_meld shXo D yy tk tv a σ [.ref (a 0), .int (zJ p1), .int (zJ p2), .int (zJ p3), .ref (a 101)] o.1 (some (.int (zJ o.2))) 1 6 := by
  refine cth_of (Ar := fun a tk => [.ref (a 0), .int (zJ p1), .int (zJ p2), .int (zJ p3), .ref (a 101)]) (by decide) (Nat.le_of_ble_eq_true rfl) (fun h => by cases h) (fun Γ G _ hM hR htab => ?_)
  have hcs := mk_cs G hM (Nat.le_of_ble_eq_true rfl) (Nat.le_of_ble_eq_true rfl)
  unfold x_L_meld at h
  refine (?_ : PT Γ 6 shXo 0 σ [(0, .ref (ga Γ 0)), (1, .int (zJ p1)), (2, .int (zJ p2)), (3, .int (zJ p3)), (4, .ref (ga Γ 101))] [])
  refine p_aload G 4 rfl dL_meld_0 ?_
  refine p_iconst G rfl dL_meld_2 ?_
  refine p_aload_n G rfl 0 rfl dL_meld_3 ?_
  refine p_iload_n G rfl 1 rfl dL_meld_4 ?_
  refine p_iload_n G rfl 2 rfl dL_meld_5 ?_
  refine p_iload_n G rfl 3 rfl dL_meld_6 ?_
  obtain ⟨r_, hc, h⟩ := bnd_some h
  rcases r_ with ⟨σ1, v2⟩ | e
  · rw [zel_l] at h
    rw [un2_mk] at h
    refine p_callV G zl_70 dL_meld_7 lk_L_51 (c_X6_meld (gl Γ) hc) (As := [.int (zJ p1), .int (zJ p2), .int (zJ p3)]) (ci := 6) rfl zk_70 (zs_x zs_70 _) rfl rfl rfl (Nat.le_of_ble_eq_true rfl) ⟨rfl, rfl, Nat.le_of_ble_eq_true rfl, Nat.le_of_ble_eq_true rfl⟩ hcs ?_
    refine p_nm h (fun σ3 h => ?_)
    refine p_i2l G dL_meld_10 ?_
    refine p_last G dL_meld_11 (k := 101) rfl (zt_c _) rfl h (fun σ4 c5 h => ?_)
    refine p_goto (tgt := 19) G dL_meld_12 (by decide) ?_
    refine p_iconst G rfl dL_meld_19 ?_
    (cases h; exact p_iretN G hM (Nat.le_of_ble_eq_true rfl) (Nat.le_of_ble_eq_true rfl) hR dL_meld_20 rfl rfl)
  · rw [zel_r] at h
    refine zite h (fun ce h => ?_) (fun ce0 h => ?_)
    · subst ce
      refine p_catch (e := 0) G hR hM htab zl_70 [] (0, 12, 15, 22) [] rfl "java/lang/IllegalArgumentException" (fun z hz => absurd hz List.not_mem_nil) (by decide) (by decide) gm_919 gm_932 dL_meld_7 lk_L_51 gm_1051 (cx_X6_meld (gl Γ) (by rw [hM.1]; exact hl) hc) (As := [.int (zJ p1), .int (zJ p2), .int (zJ p3)]) (ci := 6) rfl zk_70 (zs_x zs_70 _) rfl rfl rfl (Nat.le_of_ble_eq_true rfl) ⟨rfl, rfl, Nat.le_of_ble_eq_true rfl, Nat.le_of_ble_eq_true rfl⟩ (Nat.le_of_ble_eq_true rfl) (Nat.le_of_ble_eq_true rfl) (fun Γ9 G hR hM hga q => ?_)
      rw [← hga]
      clear hga hcs htab
      revert hM hR G
      generalize Γ9 = Γ
      intro G hR hM
      have hcs := mk_cs G hM (Nat.le_of_ble_eq_true rfl) (Nat.le_of_ble_eq_true rfl)
      refine (?_ : PT Γ 6 shXo 15 σ [(0, .ref (ga Γ 0)), (1, .int (zJ p1)), (2, .int (zJ p2)), (3, .int (zJ p3)), (4, .ref (ga Γ 101))] [.ref q])
      refine p_astore (lv' := [(5, .ref q), (0, .ref (ga Γ 0)), (1, .int (zJ p1)), (2, .int (zJ p2)), (3, .int (zJ p3)), (4, .ref (ga Γ 101))]) G dL_meld_15 (by decide) rfl ?_
      refine p_iconst G rfl dL_meld_17 ?_
      (cases h; exact p_iretN G hM (Nat.le_of_ble_eq_true rfl) (Nat.le_of_ble_eq_true rfl) hR dL_meld_18 rfl rfl)
    · cases h
set_option maxHeartbeats 4000000 in
set_option maxRecDepth 100000 in
theorem c_L_restWithout (l : Launch) (hl : l.stackTraces = false) {D : va_G} {yy : Nat → ClassId} {tk tv a : Nat → Nat} {σ : Mm} {p1 : Int} {o : Mm × Int} (h : x_L_restWithout σ p1 = some o) : CTH l yL_restWithout cL_restWithout 4 (some .int) [(0, 9, 12, 13)] rm_L_restWithout shXo D yy tk tv a σ [.ref (a 0), .int (zJ p1), .ref (a 101)] o.1 (some (.int (zJ o.2))) 1 6 := by
  refine cth_of (Ar := fun a tk => [.ref (a 0), .int (zJ p1), .ref (a 101)]) (by decide) (Nat.le_of_ble_eq_true rfl) (fun h => by cases h) (fun Γ G _ hM hR htab => ?_)
  have hcs := mk_cs G hM (Nat.le_of_ble_eq_true rfl) (Nat.le_of_ble_eq_true rfl)
  unfold x_L_restWithout at h
  refine (?_ : PT Γ 4 shXo 0 σ [(0, .ref (ga Γ 0)), (1, .int (zJ p1)), (2, .ref (ga Γ 101))] [])
  refine p_aload_n G rfl 2 rfl dL_restWithout_0 ?_
  refine p_iconst G rfl dL_restWithout_1 ?_
  refine p_aload_n G rfl 0 rfl dL_restWithout_2 ?_
  refine p_iload_n G rfl 1 rfl dL_restWithout_3 ?_
  obtain ⟨r_, hc, h⟩ := bnd_some h
  rcases r_ with ⟨σ1, v2⟩ | e
  · rw [zel_l] at h
    rw [un2_mk] at h
    refine p_callV G zl_70 dL_restWithout_4 lk_L_55 (c_X6_restWithout (gl Γ) hc) (As := [.int (zJ p1)]) (ci := 6) rfl zk_70 (zs_x zs_70 _) rfl rfl rfl (Nat.le_of_ble_eq_true rfl) ⟨rfl, rfl, Nat.le_of_ble_eq_true rfl, Nat.le_of_ble_eq_true rfl⟩ hcs ?_
    refine p_nm h (fun σ3 h => ?_)
    refine p_i2l G dL_restWithout_7 ?_
    refine p_last G dL_restWithout_8 (k := 101) rfl (zt_c _) rfl h (fun σ4 c5 h => ?_)
    refine p_goto (tgt := 15) G dL_restWithout_9 (by decide) ?_
    refine p_iconst G rfl dL_restWithout_15 ?_
    (cases h; exact p_iretN G hM (Nat.le_of_ble_eq_true rfl) (Nat.le_of_ble_eq_true rfl) hR dL_restWithout_16 rfl rfl)
  · rw [zel_r] at h
    refine zite h (fun ce h => ?_) (fun ce0 h => ?_)
    · subst ce
      refine p_catch (e := 1) G hR hM htab zl_70 [] (0, 9, 12, 13) [] rfl "java/util/NoSuchElementException" (fun z hz => absurd hz List.not_mem_nil) (by decide) (by decide) gm_826 gm_837 dL_restWithout_4 lk_L_55 gm_1061 (cx_X6_restWithout (gl Γ) (by rw [hM.1]; exact hl) hc) (As := [.int (zJ p1)]) (ci := 6) rfl zk_70 (zs_x zs_70 _) rfl rfl rfl (Nat.le_of_ble_eq_true rfl) ⟨rfl, rfl, Nat.le_of_ble_eq_true rfl, Nat.le_of_ble_eq_true rfl⟩ (Nat.le_of_ble_eq_true rfl) (Nat.le_of_ble_eq_true rfl) (fun Γ9 G hR hM hga q => ?_)
      rw [← hga]
      clear hga hcs htab
      revert hM hR G
      generalize Γ9 = Γ
      intro G hR hM
      have hcs := mk_cs G hM (Nat.le_of_ble_eq_true rfl) (Nat.le_of_ble_eq_true rfl)
      refine (?_ : PT Γ 4 shXo 12 σ [(0, .ref (ga Γ 0)), (1, .int (zJ p1)), (2, .ref (ga Γ 101))] [.ref q])
      refine p_astore_n (lv' := [(3, .ref q), (0, .ref (ga Γ 0)), (1, .int (zJ p1)), (2, .ref (ga Γ 101))]) G rfl dL_restWithout_12 (by decide) rfl ?_
      refine p_iconst G rfl dL_restWithout_13 ?_
      (cases h; exact p_iretN G hM (Nat.le_of_ble_eq_true rfl) (Nat.le_of_ble_eq_true rfl) hR dL_restWithout_14 rfl rfl)
    · cases h
set_option maxHeartbeats 4000000 in
set_option maxRecDepth 100000 in
theorem c_L_helping (l : Launch) (hl : l.stackTraces = false) {D : va_G} {yy : Nat → ClassId} {tk tv a : Nat → Nat} {σ : Mm} {p1 : Int} {o : Mm × Int} (h : x_L_helping σ p1 = some o) : CTH l yL_helping cL_helping 4 (some .int) [(0, 9, 12, 22)] rm_L_helping shXo D yy tk tv a σ [.ref (a 0), .int (zJ p1), .ref (a 101)] o.1 (some (.int (zJ o.2))) 1 6 := by
  refine cth_of (Ar := fun a tk => [.ref (a 0), .int (zJ p1), .ref (a 101)]) (by decide) (Nat.le_of_ble_eq_true rfl) (fun h => by cases h) (fun Γ G _ hM hR htab => ?_)
  have hcs := mk_cs G hM (Nat.le_of_ble_eq_true rfl) (Nat.le_of_ble_eq_true rfl)
  unfold x_L_helping at h
  refine (?_ : PT Γ 4 shXo 0 σ [(0, .ref (ga Γ 0)), (1, .int (zJ p1)), (2, .ref (ga Γ 101))] [])
  refine p_aload_n G rfl 2 rfl dL_helping_0 ?_
  refine p_iconst G rfl dL_helping_1 ?_
  refine p_aload_n G rfl 0 rfl dL_helping_2 ?_
  refine p_iload_n G rfl 1 rfl dL_helping_3 ?_
  obtain ⟨r_, hc, h⟩ := bnd_some h
  rcases r_ with ⟨σ1, v2⟩ | e
  · rw [zel_l] at h
    rw [un2_mk] at h
    refine p_callV G zl_70 dL_helping_4 lk_L_58 (c_X6_helping (gl Γ) hc) (As := [.int (zJ p1)]) (ci := 6) rfl zk_70 (zs_x zs_70 _) rfl rfl rfl (Nat.le_of_ble_eq_true rfl) ⟨rfl, rfl, Nat.le_of_ble_eq_true rfl, Nat.le_of_ble_eq_true rfl⟩ hcs ?_
    refine p_nm h (fun σ3 h => ?_)
    refine p_i2l G dL_helping_7 ?_
    refine p_last G dL_helping_8 (k := 101) rfl (zt_c _) rfl h (fun σ4 c5 h => ?_)
    refine p_goto (tgt := 15) G dL_helping_9 (by decide) ?_
    refine p_iconst G rfl dL_helping_15 ?_
    (cases h; exact p_iretN G hM (Nat.le_of_ble_eq_true rfl) (Nat.le_of_ble_eq_true rfl) hR dL_helping_16 rfl rfl)
  · rw [zel_r] at h
    refine zite h (fun ce h => ?_) (fun ce0 h => ?_)
    · subst ce
      refine p_catch (e := 0) G hR hM htab zl_70 [] (0, 9, 12, 22) [] rfl "java/lang/IllegalArgumentException" (fun z hz => absurd hz List.not_mem_nil) (by decide) (by decide) gm_919 gm_932 dL_helping_4 lk_L_58 gm_1068 (cx_X6_helping (gl Γ) (by rw [hM.1]; exact hl) hc) (As := [.int (zJ p1)]) (ci := 6) rfl zk_70 (zs_x zs_70 _) rfl rfl rfl (Nat.le_of_ble_eq_true rfl) ⟨rfl, rfl, Nat.le_of_ble_eq_true rfl, Nat.le_of_ble_eq_true rfl⟩ (Nat.le_of_ble_eq_true rfl) (Nat.le_of_ble_eq_true rfl) (fun Γ9 G hR hM hga q => ?_)
      rw [← hga]
      clear hga hcs htab
      revert hM hR G
      generalize Γ9 = Γ
      intro G hR hM
      have hcs := mk_cs G hM (Nat.le_of_ble_eq_true rfl) (Nat.le_of_ble_eq_true rfl)
      refine (?_ : PT Γ 4 shXo 12 σ [(0, .ref (ga Γ 0)), (1, .int (zJ p1)), (2, .ref (ga Γ 101))] [.ref q])
      refine p_astore_n (lv' := [(3, .ref q), (0, .ref (ga Γ 0)), (1, .int (zJ p1)), (2, .ref (ga Γ 101))]) G rfl dL_helping_12 (by decide) rfl ?_
      refine p_iconst G rfl dL_helping_13 ?_
      (cases h; exact p_iretN G hM (Nat.le_of_ble_eq_true rfl) (Nat.le_of_ble_eq_true rfl) hR dL_helping_14 rfl rfl)
    · cases h
set_option maxHeartbeats 4000000 in
set_option maxRecDepth 100000 in
theorem c_L_ifKnock (l : Launch) (hl : l.stackTraces = false) {D : va_G} {yy : Nat → ClassId} {tk tv a : Nat → Nat} {σ : Mm} {p1 : Int} {p2 : Int} {o : Mm × Int} (h : x_L_ifKnock σ p1 p2 = some o) : CTH l yL_ifKnock cL_ifKnock 5 (some .int) [(0, 10, 13, 13), (0, 10, 17, 22)] rm_L_ifKnock shXo D yy tk tv a σ [.ref (a 0), .int (zJ p1), .int (zJ p2), .ref (a 101)] o.1 (some (.int (zJ o.2))) 1 6 := by
  refine cth_of (Ar := fun a tk => [.ref (a 0), .int (zJ p1), .int (zJ p2), .ref (a 101)]) (by decide) (Nat.le_of_ble_eq_true rfl) (fun h => by cases h) (fun Γ G _ hM hR htab => ?_)
  have hcs := mk_cs G hM (Nat.le_of_ble_eq_true rfl) (Nat.le_of_ble_eq_true rfl)
  unfold x_L_ifKnock at h
  refine (?_ : PT Γ 5 shXo 0 σ [(0, .ref (ga Γ 0)), (1, .int (zJ p1)), (2, .int (zJ p2)), (3, .ref (ga Γ 101))] [])
  refine p_aload_n G rfl 3 rfl dL_ifKnock_0 ?_
  refine p_iconst G rfl dL_ifKnock_1 ?_
  refine p_aload_n G rfl 0 rfl dL_ifKnock_2 ?_
  refine p_iload_n G rfl 1 rfl dL_ifKnock_3 ?_
  refine p_iload_n G rfl 2 rfl dL_ifKnock_4 ?_
  obtain ⟨r_, hc, h⟩ := bnd_some h
  rcases r_ with ⟨σ1, v2⟩ | e
  · rw [zel_l] at h
    rw [un2_mk] at h
    refine p_callV G zl_70 dL_ifKnock_5 lk_L_61 (c_X6_ifKnock (gl Γ) hc) (As := [.int (zJ p1), .int (zJ p2)]) (ci := 6) rfl zk_70 (zs_x zs_70 _) rfl rfl rfl (Nat.le_of_ble_eq_true rfl) ⟨rfl, rfl, Nat.le_of_ble_eq_true rfl, Nat.le_of_ble_eq_true rfl⟩ hcs ?_
    refine p_nm h (fun σ3 h => ?_)
    refine p_i2l G dL_ifKnock_8 ?_
    refine p_last G dL_ifKnock_9 (k := 101) rfl (zt_c _) rfl h (fun σ4 c5 h => ?_)
    refine p_goto (tgt := 21) G dL_ifKnock_10 (by decide) ?_
    refine p_iconst G rfl dL_ifKnock_21 ?_
    (cases h; exact p_iretN G hM (Nat.le_of_ble_eq_true rfl) (Nat.le_of_ble_eq_true rfl) hR dL_ifKnock_22 rfl rfl)
  · rw [zel_r] at h
    refine zite h (fun ce h => ?_) (fun ce0 h => ?_)
    · subst ce
      refine p_catch (e := 1) G hR hM htab zl_70 [] (0, 10, 13, 13) [(0, 10, 17, 22)] rfl "java/util/NoSuchElementException" (fun z hz => absurd hz List.not_mem_nil) (by decide) (by decide) gm_826 gm_837 dL_ifKnock_5 lk_L_61 gm_1075 (cx_X6_ifKnock (gl Γ) (by rw [hM.1]; exact hl) hc) (As := [.int (zJ p1), .int (zJ p2)]) (ci := 6) rfl zk_70 (zs_x zs_70 _) rfl rfl rfl (Nat.le_of_ble_eq_true rfl) ⟨rfl, rfl, Nat.le_of_ble_eq_true rfl, Nat.le_of_ble_eq_true rfl⟩ (Nat.le_of_ble_eq_true rfl) (Nat.le_of_ble_eq_true rfl) (fun Γ9 G hR hM hga q => ?_)
      rw [← hga]
      clear hga hcs htab
      revert hM hR G
      generalize Γ9 = Γ
      intro G hR hM
      have hcs := mk_cs G hM (Nat.le_of_ble_eq_true rfl) (Nat.le_of_ble_eq_true rfl)
      refine (?_ : PT Γ 5 shXo 13 σ [(0, .ref (ga Γ 0)), (1, .int (zJ p1)), (2, .int (zJ p2)), (3, .ref (ga Γ 101))] [.ref q])
      refine p_astore (lv' := [(4, .ref q), (0, .ref (ga Γ 0)), (1, .int (zJ p1)), (2, .int (zJ p2)), (3, .ref (ga Γ 101))]) G dL_ifKnock_13 (by decide) rfl ?_
      refine p_iconst G rfl dL_ifKnock_15 ?_
      (cases h; exact p_iretN G hM (Nat.le_of_ble_eq_true rfl) (Nat.le_of_ble_eq_true rfl) hR dL_ifKnock_16 rfl rfl)
    · refine zite h (fun ce h => ?_) (fun ce1 h => ?_)
      · subst ce
        refine p_catch (e := 0) G hR hM htab zl_70 [(0, 10, 13, 13)] (0, 10, 17, 22) [] rfl "java/lang/IllegalArgumentException" (fun z hz => by rw [List.mem_singleton.mp hz]; exact ⟨by decide, "java/util/NoSuchElementException", gm_826, G.2.2.2.2.2.2.2.2.2.2.2.2.2.2.2.2.2.2.2.2.2⟩) (by decide) (by decide) gm_919 gm_932 dL_ifKnock_5 lk_L_61 gm_1075 (cx_X6_ifKnock (gl Γ) (by rw [hM.1]; exact hl) hc) (As := [.int (zJ p1), .int (zJ p2)]) (ci := 6) rfl zk_70 (zs_x zs_70 _) rfl rfl rfl (Nat.le_of_ble_eq_true rfl) ⟨rfl, rfl, Nat.le_of_ble_eq_true rfl, Nat.le_of_ble_eq_true rfl⟩ (Nat.le_of_ble_eq_true rfl) (Nat.le_of_ble_eq_true rfl) (fun Γ9 G hR hM hga q => ?_)
        rw [← hga]
        clear hga hcs htab
        revert hM hR G
        generalize Γ9 = Γ
        intro G hR hM
        have hcs := mk_cs G hM (Nat.le_of_ble_eq_true rfl) (Nat.le_of_ble_eq_true rfl)
        refine (?_ : PT Γ 5 shXo 17 σ [(0, .ref (ga Γ 0)), (1, .int (zJ p1)), (2, .int (zJ p2)), (3, .ref (ga Γ 101))] [.ref q])
        refine p_astore (lv' := [(4, .ref q), (0, .ref (ga Γ 0)), (1, .int (zJ p1)), (2, .int (zJ p2)), (3, .ref (ga Γ 101))]) G dL_ifKnock_17 (by decide) rfl ?_
        refine p_iconst G rfl dL_ifKnock_19 ?_
        (cases h; exact p_iretN G hM (Nat.le_of_ble_eq_true rfl) (Nat.le_of_ble_eq_true rfl) hR dL_ifKnock_20 rfl rfl)
      · cases h
set_option maxHeartbeats 4000000 in
set_option maxRecDepth 100000 in
theorem c_L_kind (l : Launch) (hl : l.stackTraces = false) {D : va_G} {yy : Nat → ClassId} {tk tv a : Nat → Nat} {σ : Mm} {p1 : Int64} {o : Mm × Int} (h : x_L_kind σ p1 = some o) : CTH l yL_kind cL_kind 5 (some .int) [(0, 9, 12, 22)] rm_L_kind shXo D yy tk tv a σ [.ref (a 0), .long p1, .ref (a 101)] o.1 (some (.int (zJ o.2))) 1 6 := by
  refine cth_of (Ar := fun a tk => [.ref (a 0), .long p1, .ref (a 101)]) (by decide) (Nat.le_of_ble_eq_true rfl) (fun h => by cases h) (fun Γ G _ hM hR htab => ?_)
  have hcs := mk_cs G hM (Nat.le_of_ble_eq_true rfl) (Nat.le_of_ble_eq_true rfl)
  unfold x_L_kind at h
  refine (?_ : PT Γ 5 shXo 0 σ [(0, .ref (ga Γ 0)), (1, .long p1), (3, .ref (ga Γ 101))] [])
  refine p_aload_n G rfl 2 rfl dL_kind_0 ?_
  refine p_iconst G rfl dL_kind_1 ?_
  refine p_aload_n G rfl 0 rfl dL_kind_2 ?_
  refine p_lload_n G rfl 1 rfl dL_kind_3 ?_
  obtain ⟨r_, hc, h⟩ := bnd_some h
  rcases r_ with v1 | e
  · rw [zel_l] at h
    refine p_callVr G zl_70 dL_kind_4 lk_L_64 (c_X6_kind (gl Γ) hc) (As := [.long p1]) (ci := 6) rfl zk_70 (zs_x zs_70 _) rfl rfl rfl (Nat.le_of_ble_eq_true rfl) ⟨rfl, rfl, Nat.le_of_ble_eq_true rfl, Nat.le_of_ble_eq_true rfl⟩ hcs ?_
    refine p_i2l G dL_kind_7 ?_
    refine p_last G dL_kind_8 (k := 101) rfl (zt_c _) rfl h (fun σ2 c3 h => ?_)
    refine p_goto (tgt := 16) G dL_kind_9 (by decide) ?_
    refine p_iconst G rfl dL_kind_16 ?_
    (cases h; exact p_iretN G hM (Nat.le_of_ble_eq_true rfl) (Nat.le_of_ble_eq_true rfl) hR dL_kind_17 rfl rfl)
  · rw [zel_r] at h
    refine zite h (fun ce h => ?_) (fun ce0 h => ?_)
    · subst ce
      refine p_catch (e := 0) G hR hM htab zl_70 [] (0, 9, 12, 22) [] rfl "java/lang/IllegalArgumentException" (fun z hz => absurd hz List.not_mem_nil) (by decide) (by decide) gm_919 gm_932 dL_kind_4 lk_L_64 gm_1082 (cx_X6_kind (gl Γ) (by rw [hM.1]; exact hl) hc) (As := [.long p1]) (ci := 6) rfl zk_70 (zs_x zs_70 _) rfl rfl rfl (Nat.le_of_ble_eq_true rfl) ⟨rfl, rfl, Nat.le_of_ble_eq_true rfl, Nat.le_of_ble_eq_true rfl⟩ (Nat.le_of_ble_eq_true rfl) (Nat.le_of_ble_eq_true rfl) (fun Γ9 G hR hM hga q => ?_)
      rw [← hga]
      clear hga hcs htab
      revert hM hR G
      generalize Γ9 = Γ
      intro G hR hM
      have hcs := mk_cs G hM (Nat.le_of_ble_eq_true rfl) (Nat.le_of_ble_eq_true rfl)
      refine (?_ : PT Γ 5 shXo 12 σ [(0, .ref (ga Γ 0)), (1, .long p1), (3, .ref (ga Γ 101))] [.ref q])
      refine p_astore (lv' := [(4, .ref q), (0, .ref (ga Γ 0)), (1, .long p1), (3, .ref (ga Γ 101))]) G dL_kind_12 (by decide) rfl ?_
      refine p_iconst G rfl dL_kind_14 ?_
      (cases h; exact p_iretN G hM (Nat.le_of_ble_eq_true rfl) (Nat.le_of_ble_eq_true rfl) hR dL_kind_15 rfl rfl)
    · cases h
set_option maxHeartbeats 4000000 in
set_option maxRecDepth 100000 in
theorem c_L_laid (l : Launch) (hl : l.stackTraces = false) {D : va_G} {yy : Nat → ClassId} {tk tv a : Nat → Nat} {σ : Mm} {p1 : Int} {o : Mm × Int} (h : x_L_laid σ p1 = some o) : CTH l yL_laid cL_laid 4 (some .int) [(0, 9, 12, 22)] rm_L_laid shXd D yy tk tv a σ [.ref (a 0), .int (zJ p1), .ref (a 101)] o.1 (some (.int (zJ o.2))) 1 6 := by
  refine cth_of (Ar := fun a tk => [.ref (a 0), .int (zJ p1), .ref (a 101)]) (by decide) (Nat.le_of_ble_eq_true rfl) (fun h => by cases h) (fun Γ G _ hM hR htab => ?_)
  have hcs := mk_cs G hM (Nat.le_of_ble_eq_true rfl) (Nat.le_of_ble_eq_true rfl)
  unfold x_L_laid at h
  refine (?_ : PT Γ 4 shXd 0 σ [(0, .ref (ga Γ 0)), (1, .int (zJ p1)), (2, .ref (ga Γ 101))] [])
  refine p_aload_n G rfl 2 rfl dL_laid_0 ?_
  refine p_iconst G rfl dL_laid_1 ?_
  refine p_aload_n G rfl 0 rfl dL_laid_2 ?_
  refine p_iload_n G rfl 1 rfl dL_laid_3 ?_
  obtain ⟨r_, hc, h⟩ := bnd_some h
  rcases r_ with ⟨σ1, v2⟩ | e
  · rw [zel_l] at h
    rw [un2_mk] at h
    refine p_callV G zl_71 dL_laid_4 lk_L_68 (c_X6_laid (gl Γ) hc) (As := [.int (zJ p1)]) (ci := 6) rfl zk_71 (zs_x zs_71 _) rfl rfl rfl (Nat.le_of_ble_eq_true rfl) ⟨rfl, rfl, Nat.le_of_ble_eq_true rfl, Nat.le_of_ble_eq_true rfl⟩ hcs ?_
    refine p_nm h (fun σ3 h => ?_)
    refine p_f2d G dL_laid_7 h (fun h => ?_)
    refine p_dast G dL_laid_8 (k := 101) rfl rfl h (fun σ4 c5 h => ?_)
    refine p_goto (tgt := 15) G dL_laid_9 (by decide) ?_
    refine p_iconst G rfl dL_laid_15 ?_
    (cases h; exact p_iretN G hM (Nat.le_of_ble_eq_true rfl) (Nat.le_of_ble_eq_true rfl) hR dL_laid_16 rfl rfl)
  · rw [zel_r] at h
    refine zite h (fun ce h => ?_) (fun ce0 h => ?_)
    · subst ce
      refine p_catch (e := 0) G hR hM htab zl_71 [] (0, 9, 12, 22) [] rfl "java/lang/IllegalArgumentException" (fun z hz => absurd hz List.not_mem_nil) (by decide) (by decide) gm_919 gm_932 dL_laid_4 lk_L_68 gm_1090 (cx_X6_laid (gl Γ) (by rw [hM.1]; exact hl) hc) (As := [.int (zJ p1)]) (ci := 6) rfl zk_71 (zs_x zs_71 _) rfl rfl rfl (Nat.le_of_ble_eq_true rfl) ⟨rfl, rfl, Nat.le_of_ble_eq_true rfl, Nat.le_of_ble_eq_true rfl⟩ (Nat.le_of_ble_eq_true rfl) (Nat.le_of_ble_eq_true rfl) (fun Γ9 G hR hM hga q => ?_)
      rw [← hga]
      clear hga hcs htab
      revert hM hR G
      generalize Γ9 = Γ
      intro G hR hM
      have hcs := mk_cs G hM (Nat.le_of_ble_eq_true rfl) (Nat.le_of_ble_eq_true rfl)
      refine (?_ : PT Γ 4 shXd 12 σ [(0, .ref (ga Γ 0)), (1, .int (zJ p1)), (2, .ref (ga Γ 101))] [.ref q])
      refine p_astore_n (lv' := [(3, .ref q), (0, .ref (ga Γ 0)), (1, .int (zJ p1)), (2, .ref (ga Γ 101))]) G rfl dL_laid_12 (by decide) rfl ?_
      refine p_iconst G rfl dL_laid_13 ?_
      (cases h; exact p_iretN G hM (Nat.le_of_ble_eq_true rfl) (Nat.le_of_ble_eq_true rfl) hR dL_laid_14 rfl rfl)
    · cases h
set_option maxHeartbeats 4000000 in
set_option maxRecDepth 100000 in
theorem c_L_writeLaying (l : Launch) (hl : l.stackTraces = false) {D : va_G} {yy : Nat → ClassId} {tk tv a : Nat → Nat} {σ : Mm} {p1 : Int} {o : Mm × Int} (h : x_L_writeLaying σ p1 = some o) : CTH l yL_writeLaying cL_writeLaying 4 (some .int) [(0, 9, 12, 22)] rm_L_writeLaying shXo D yy tk tv a σ [.ref (a 0), .int (zJ p1), .ref (a 101)] o.1 (some (.int (zJ o.2))) 1 6 := by
  refine cth_of (Ar := fun a tk => [.ref (a 0), .int (zJ p1), .ref (a 101)]) (by decide) (Nat.le_of_ble_eq_true rfl) (fun h => by cases h) (fun Γ G _ hM hR htab => ?_)
  have hcs := mk_cs G hM (Nat.le_of_ble_eq_true rfl) (Nat.le_of_ble_eq_true rfl)
  unfold x_L_writeLaying at h
  refine (?_ : PT Γ 4 shXo 0 σ [(0, .ref (ga Γ 0)), (1, .int (zJ p1)), (2, .ref (ga Γ 101))] [])
  refine p_aload_n G rfl 2 rfl dL_writeLaying_0 ?_
  refine p_iconst G rfl dL_writeLaying_1 ?_
  refine p_aload_n G rfl 0 rfl dL_writeLaying_2 ?_
  refine p_iload_n G rfl 1 rfl dL_writeLaying_3 ?_
  obtain ⟨r_, hc, h⟩ := bnd_some h
  rcases r_ with ⟨σ1, v2⟩ | e
  · rw [zel_l] at h
    rw [un2_mk] at h
    refine p_callV G zl_70 dL_writeLaying_4 lk_L_72 (c_X6_writeLaying (gl Γ) hc) (As := [.int (zJ p1)]) (ci := 6) rfl zk_70 (zs_x zs_70 _) rfl rfl rfl (Nat.le_of_ble_eq_true rfl) ⟨rfl, rfl, Nat.le_of_ble_eq_true rfl, Nat.le_of_ble_eq_true rfl⟩ hcs ?_
    refine p_nm h (fun σ3 h => ?_)
    refine p_i2l G dL_writeLaying_7 ?_
    refine p_last G dL_writeLaying_8 (k := 101) rfl (zt_c _) rfl h (fun σ4 c5 h => ?_)
    refine p_goto (tgt := 15) G dL_writeLaying_9 (by decide) ?_
    refine p_iconst G rfl dL_writeLaying_15 ?_
    (cases h; exact p_iretN G hM (Nat.le_of_ble_eq_true rfl) (Nat.le_of_ble_eq_true rfl) hR dL_writeLaying_16 rfl rfl)
  · rw [zel_r] at h
    refine zite h (fun ce h => ?_) (fun ce0 h => ?_)
    · subst ce
      refine p_catch (e := 0) G hR hM htab zl_70 [] (0, 9, 12, 22) [] rfl "java/lang/IllegalArgumentException" (fun z hz => absurd hz List.not_mem_nil) (by decide) (by decide) gm_919 gm_932 dL_writeLaying_4 lk_L_72 gm_1097 (cx_X6_writeLaying (gl Γ) (by rw [hM.1]; exact hl) hc) (As := [.int (zJ p1)]) (ci := 6) rfl zk_70 (zs_x zs_70 _) rfl rfl rfl (Nat.le_of_ble_eq_true rfl) ⟨rfl, rfl, Nat.le_of_ble_eq_true rfl, Nat.le_of_ble_eq_true rfl⟩ (Nat.le_of_ble_eq_true rfl) (Nat.le_of_ble_eq_true rfl) (fun Γ9 G hR hM hga q => ?_)
      rw [← hga]
      clear hga hcs htab
      revert hM hR G
      generalize Γ9 = Γ
      intro G hR hM
      have hcs := mk_cs G hM (Nat.le_of_ble_eq_true rfl) (Nat.le_of_ble_eq_true rfl)
      refine (?_ : PT Γ 4 shXo 12 σ [(0, .ref (ga Γ 0)), (1, .int (zJ p1)), (2, .ref (ga Γ 101))] [.ref q])
      refine p_astore_n (lv' := [(3, .ref q), (0, .ref (ga Γ 0)), (1, .int (zJ p1)), (2, .ref (ga Γ 101))]) G rfl dL_writeLaying_12 (by decide) rfl ?_
      refine p_iconst G rfl dL_writeLaying_13 ?_
      (cases h; exact p_iretN G hM (Nat.le_of_ble_eq_true rfl) (Nat.le_of_ble_eq_true rfl) hR dL_writeLaying_14 rfl rfl)
    · cases h
