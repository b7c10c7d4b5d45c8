set_option maxHeartbeats 4000000 in
set_option maxRecDepth 100000 in
theorem c_L_cell (l : Launch) {D : va_G} {yy : Nat → ClassId} {tk tv a tk0 tv0 : Nat → Nat} (e1 : tk = tk0) (e2 : tv = tv0) {σ : Mm} {p1 : Int} {o : Int} (h : x_L_cell (zsc tv0) (tk0 1001) p1 = some o) : CT l yL_cell cL_cell 2 (some .int) rm_L_cell shN D yy tk tv a σ [.ref (tk0 1000), .int (zJ p1)] σ (some (.int (zJ o))) := by
  subst e1 e2
  refine ct_ofK (Ar := fun a tk => [.ref (tk 1000), .int (zJ p1)]) (by decide) (Nat.le_of_ble_eq_true rfl) (fun Γ G _ _ e1 e2 hR => ?_)
  have hcs := rt_cs hR
  rw [e1]
  unfold x_L_cell at h
  refine (?_ : PT Γ 2 shN 0 σ [(0, .ref (tk 1000)), (1, .int (zJ p1))] [])
  refine p_iload_n G rfl 1 rfl dL_cell_0 ?_
  refine p_aload_n G rfl 0 rfl dL_cell_1 ?_
  refine p_slenK G e1 dL_cell_2 ?_
  refine p_icmpge (tgt := 12) G dL_cell_3 (by decide) h (fun c2 h => ?_) (fun c2 h => ?_)
  · refine p_iconst G rfl dL_cell_12 ?_
    (cases h; exact p_iret G hR dL_cell_13 rfl rfl)
  · refine p_aload_n G rfl 0 rfl dL_cell_6 ?_
    refine p_iload_n G rfl 1 rfl dL_cell_7 ?_
    refine p_sldK G e1 e2 dL_cell_8 h (fun c1 h => ?_)
    refine p_goto (tgt := 13) G dL_cell_9 (by decide) ?_
    (cases h; exact p_iret G hR dL_cell_13 rfl rfl)
set_option maxHeartbeats 4000000 in
set_option maxRecDepth 100000 in
theorem c_L_of (l : Launch) {D : va_G} {yy : Nat → ClassId} {tk tv a tk0 tv0 : Nat → Nat} (e1 : tk = tk0) (e2 : tv = tv0) {σ : Mm} {p1 : Int} {p2 : Int} {p3 : Int} {o : Int} (h : x_L_of (zsc tv0) (tk0 1001) p1 p2 p3 = some o) : CT l yL_of cL_of 4 (some .int) rm_L_of shN D yy tk tv a σ [.ref (tk0 1000), .int (zJ p1), .int (zJ p2), .int (zJ p3)] σ (some (.int (zJ o))) := by
  subst e1 e2
  refine ct_ofK (Ar := fun a tk => [.ref (tk 1000), .int (zJ p1), .int (zJ p2), .int (zJ p3)]) (by decide) (Nat.le_of_ble_eq_true rfl) (fun Γ G _ _ e1 e2 hR => ?_)
  have hcs := rt_cs hR
  rw [e1]
  unfold x_L_of at h
  refine (?_ : PT Γ 4 shN 0 σ [(0, .ref (tk 1000)), (1, .int (zJ p1)), (2, .int (zJ p2)), (3, .int (zJ p3))] [])
  refine p_iload_n G rfl 2 rfl dL_of_0 ?_
  refine p_aload_n G rfl 0 rfl dL_of_1 ?_
  refine p_iload_n G rfl 1 rfl dL_of_2 ?_
  obtain ⟨v1, hc, h⟩ := bnd_some h
  refine p_callS0 G dL_of_3 lk_L_7 (c_L_cell (gl Γ) e1 e2 hc) (As := [.ref (tk 1000), .int (zJ p1)]) rfl zk_1 rfl (Nat.le_of_ble_eq_true rfl) ⟨rfl, rfl, Nat.le_of_ble_eq_true rfl, Nat.le_of_ble_eq_true rfl⟩ hcs ?_
  refine p_iload_n G rfl 3 rfl dL_of_6 ?_
  obtain ⟨v2, hc, h⟩ := bnd_some h
  refine p_callS0 G dL_of_7 lk_L_13 (c_J_Math_floorMod (gl Γ) hc) (As := [.int (zJ v1), .int (zJ p3)]) rfl zk_1 rfl (Nat.le_of_ble_eq_true rfl) ⟨rfl, rfl, Nat.le_of_ble_eq_true rfl, Nat.le_of_ble_eq_true rfl⟩ hcs ?_
  refine p_iadd G dL_of_10 ?_
  (cases h; exact p_iret G hR dL_of_11 rfl rfl)
set_option maxHeartbeats 4000000 in
set_option maxRecDepth 100000 in
theorem c_L_drop (l : Launch) {D : va_G} {yy : Nat → ClassId} {tk tv a : Nat → Nat} {σ : Mm} {p1 : Int} {o : Mm × Int} (h : x_L_drop σ p1 = some o) : CTH l yL_drop cL_drop 3 (some .int) [(0, 5, 6, 25)] rm_L_drop shX D yy tk tv a σ [.ref (a 0), .int (zJ p1)] o.1 (some (.int (zJ o.2))) 5 125 := by
  refine cth_of (Ar := fun a tk => [.ref (a 0), .int (zJ p1)]) (by decide) (Nat.le_of_ble_eq_true rfl) (fun h => by cases h) (fun Γ G _ hM hR htab => ?_)
  have hcs := mk_cs G hM (Nat.le_of_ble_eq_true rfl) (Nat.le_of_ble_eq_true rfl)
  unfold x_L_drop at h
  refine (?_ : PT Γ 3 shX 0 σ [(0, .ref (ga Γ 0)), (1, .int (zJ p1))] [])
  refine p_aload_n G rfl 0 rfl dL_drop_0 ?_
  refine p_iload_n G rfl 1 rfl dL_drop_1 ?_
  obtain ⟨⟨σ1, v2⟩, hc, h⟩ := bthrn h
  rw [un2_mk] at h
  refine p_callVN (lv' := fun a => [(0, .ref (a 0)), (1, .int (zJ p1))]) (st' := fun a => []) G hR hM zl_101 dL_drop_2 lk_L_19 (c_X6_drop (gl Γ) hc) (As := [.int (zJ p1)]) (ci := 8) rfl zk_101 (by decide +kernel) (by decide +kernel) (zs_x zs_101 _) rfl rfl rfl (Nat.le_of_ble_eq_true rfl) ⟨rfl, rfl, Nat.le_of_ble_eq_true rfl, Nat.le_of_ble_eq_true rfl⟩ (Nat.le_of_ble_eq_true rfl) (Nat.le_of_ble_eq_true rfl) h (fun a e => by have q0 := e 0 _ rfl rfl; exact ⟨by simp only [q0], by rfl⟩) (fun Γ G hR hM σ3 h => ?_)
  refine (?_ : PT Γ 3 shX 5 σ3 [(0, .ref (ga Γ 0)), (1, .int (zJ p1))] [.int (zJ v2)])
  have hcs := mk_cs G hM (Nat.le_of_ble_eq_true rfl) (Nat.le_of_ble_eq_true rfl)
  (cases h; exact p_iretN G hM (Nat.le_of_ble_eq_true rfl) (Nat.le_of_ble_eq_true rfl) hR dL_drop_5 rfl rfl)
set_option maxHeartbeats 4000000 in
set_option maxRecDepth 100000 in
theorem c_L_knock (l : Launch) {D : va_G} {yy : Nat → ClassId} {tk tv a : Nat → Nat} {σ : Mm} {p1 : Int} {o : Mm × Int} (h : x_L_knock σ p1 = some o) : CTH l yL_knock cL_knock 3 (some .int) [(0, 5, 6, 25)] rm_L_knock shX D yy tk tv a σ [.ref (a 0), .int (zJ p1)] o.1 (some (.int (zJ o.2))) 5 125 := by
  refine cth_of (Ar := fun a tk => [.ref (a 0), .int (zJ p1)]) (by decide) (Nat.le_of_ble_eq_true rfl) (fun h => by cases h) (fun Γ G _ hM hR htab => ?_)
  have hcs := mk_cs G hM (Nat.le_of_ble_eq_true rfl) (Nat.le_of_ble_eq_true rfl)
  unfold x_L_knock at h
  refine (?_ : PT Γ 3 shX 0 σ [(0, .ref (ga Γ 0)), (1, .int (zJ p1))] [])
  refine p_aload_n G rfl 0 rfl dL_knock_0 ?_
  refine p_iload_n G rfl 1 rfl dL_knock_1 ?_
  obtain ⟨⟨σ1, v2⟩, hc, h⟩ := bthrn h
  rw [un2_mk] at h
  refine p_callVN (lv' := fun a => [(0, .ref (a 0)), (1, .int (zJ p1))]) (st' := fun a => []) G hR hM zl_101 dL_knock_2 lk_L_27 (c_X6_knock (gl Γ) hc) (As := [.int (zJ p1)]) (ci := 8) rfl zk_101 (by decide +kernel) (by decide +kernel) (zs_x zs_101 _) rfl rfl rfl (Nat.le_of_ble_eq_true rfl) ⟨rfl, rfl, Nat.le_of_ble_eq_true rfl, Nat.le_of_ble_eq_true rfl⟩ (Nat.le_of_ble_eq_true rfl) (Nat.le_of_ble_eq_true rfl) h (fun a e => by have q0 := e 0 _ rfl rfl; exact ⟨by simp only [q0], by rfl⟩) (fun Γ G hR hM σ3 h => ?_)
  refine (?_ : PT Γ 3 shX 5 σ3 [(0, .ref (ga Γ 0)), (1, .int (zJ p1))] [.int (zJ v2)])
  have hcs := mk_cs G hM (Nat.le_of_ble_eq_true rfl) (Nat.le_of_ble_eq_true rfl)
  (cases h; exact p_iretN G hM (Nat.le_of_ble_eq_true rfl) (Nat.le_of_ble_eq_true rfl) hR dL_knock_5 rfl rfl)
set_option maxHeartbeats 4000000 in
set_option maxRecDepth 100000 in
theorem c_L_set (l : Launch) {D : va_G} {yy : Nat → ClassId} {tk tv a : Nat → Nat} {σ : Mm} {p1 : Int} {p2 : Int} {o : Mm × Int} (h : x_L_set σ p1 p2 = some o) : CTH l yL_set cL_set 4 (some .int) [(0, 6, 7, 34)] rm_L_set shX D yy tk tv a σ [.ref (a 0), .int (zJ p1), .int (zJ p2)] o.1 (some (.int (zJ o.2))) 5 125 := by
  refine cth_of (Ar := fun a tk => [.ref (a 0), .int (zJ p1), .int (zJ p2)]) (by decide) (Nat.le_of_ble_eq_true rfl) (fun h => by cases h) (fun Γ G _ hM hR htab => ?_)
  have hcs := mk_cs G hM (Nat.le_of_ble_eq_true rfl) (Nat.le_of_ble_eq_true rfl)
  unfold x_L_set at h
  refine (?_ : PT Γ 4 shX 0 σ [(0, .ref (ga Γ 0)), (1, .int (zJ p1)), (2, .int (zJ p2))] [])
  refine p_aload_n G rfl 0 rfl dL_set_0 ?_
  refine p_iload_n G rfl 1 rfl dL_set_1 ?_
  refine p_iload_n G rfl 2 rfl dL_set_2 ?_
  obtain ⟨⟨σ1, v2⟩, hc, h⟩ := bthrn h
  rw [un2_mk] at h
  refine p_callVN (lv' := fun a => [(0, .ref (a 0)), (1, .int (zJ p1)), (2, .int (zJ p2))]) (st' := fun a => []) G hR hM zl_101 dL_set_3 lk_L_30 (c_X6_set (gl Γ) hc) (As := [.int (zJ p1), .int (zJ p2)]) (ci := 8) rfl zk_101 (by decide +kernel) (by decide +kernel) (zs_x zs_101 _) rfl rfl rfl (Nat.le_of_ble_eq_true rfl) ⟨rfl, rfl, Nat.le_of_ble_eq_true rfl, Nat.le_of_ble_eq_true rfl⟩ (Nat.le_of_ble_eq_true rfl) (Nat.le_of_ble_eq_true rfl) h (fun a e => by have q0 := e 0 _ rfl rfl; exact ⟨by simp only [q0], by rfl⟩) (fun Γ G hR hM σ3 h => ?_)
  refine (?_ : PT Γ 4 shX 6 σ3 [(0, .ref (ga Γ 0)), (1, .int (zJ p1)), (2, .int (zJ p2))] [.int (zJ v2)])
  have hcs := mk_cs G hM (Nat.le_of_ble_eq_true rfl) (Nat.le_of_ble_eq_true rfl)
  (cases h; exact p_iretN G hM (Nat.le_of_ble_eq_true rfl) (Nat.le_of_ble_eq_true rfl) hR dL_set_6 rfl rfl)
set_option maxHeartbeats 4000000 in
set_option maxRecDepth 100000 in
theorem c_L_match (l : Launch) {D : va_G} {yy : Nat → ClassId} {tk tv a : Nat → Nat} {σ : Mm} {p1 : Int} {o : Int} (h : x_L_match σ p1 = some o) : CTHP l yL_match cL_match 3 (some .int) [(0, 5, 6, 34)] rm_L_match shX D yy tk tv a σ [.ref (a 0), .int (zJ p1)] σ (some (.int (zJ o))) := by
  refine cthp_of (Ar := fun a tk => [.ref (a 0), .int (zJ p1)]) (by decide) (Nat.le_of_ble_eq_true rfl) (fun Γ G _ _ hR => ?_)
  have hcs := rt_cs hR
  unfold x_L_match at h
  refine (?_ : PT Γ 3 shX 0 σ [(0, .ref (ga Γ 0)), (1, .int (zJ p1))] [])
  refine p_aload_n G rfl 0 rfl dL_match_0 ?_
  refine p_iload_n G rfl 1 rfl dL_match_1 ?_
  obtain ⟨v1, hc, h⟩ := bthrn h
  refine p_callVi G dL_match_2 lk_L_36 (c_X6_match (gl Γ) hc) (As := [.int (zJ p1)]) (ci := 8) rfl rfl rfl rfl (Nat.le_of_ble_eq_true rfl) ⟨rfl, rfl, Nat.le_of_ble_eq_true rfl, Nat.le_of_ble_eq_true rfl⟩ hcs ?_
  (cases h; exact p_iret G hR dL_match_5 rfl rfl)
set_option maxHeartbeats 4000000 in
set_option maxRecDepth 100000 in
theorem c_L_player (l : Launch) {D : va_G} {yy : Nat → ClassId} {tk tv a : Nat → Nat} {σ : Mm} {p1 : Int} {p2 : Int} {o : Mm × Int} (h : x_L_player σ p1 p2 = some o) : CTHP l yL_player cL_player 4 (some .int) [(0, 6, 7, 34)] rm_L_player shX D yy tk tv a σ [.ref (a 0), .int (zJ p1), .int (zJ p2)] o.1 (some (.int (zJ o.2))) := by
  refine cthp_of (Ar := fun a tk => [.ref (a 0), .int (zJ p1), .int (zJ p2)]) (by decide) (Nat.le_of_ble_eq_true rfl) (fun Γ G _ _ hR => ?_)
  have hcs := rt_cs hR
  unfold x_L_player at h
  refine (?_ : PT Γ 4 shX 0 σ [(0, .ref (ga Γ 0)), (1, .int (zJ p1)), (2, .int (zJ p2))] [])
  refine p_aload_n G rfl 0 rfl dL_player_0 ?_
  refine p_iload_n G rfl 1 rfl dL_player_1 ?_
  refine p_iload_n G rfl 2 rfl dL_player_2 ?_
  obtain ⟨⟨σ1, v2⟩, hc, h⟩ := bthrn h
  rw [un2_mk] at h
  refine p_callVi G dL_player_3 lk_L_39 (c_X6_player (gl Γ) hc) (As := [.int (zJ p1), .int (zJ p2)]) (ci := 8) rfl rfl rfl rfl (Nat.le_of_ble_eq_true rfl) ⟨rfl, rfl, Nat.le_of_ble_eq_true rfl, Nat.le_of_ble_eq_true rfl⟩ hcs ?_
  (cases h; exact p_iret G hR dL_player_6 rfl rfl)
set_option maxHeartbeats 4000000 in
set_option maxRecDepth 100000 in
theorem c_L_card (l : Launch) {D : va_G} {yy : Nat → ClassId} {tk tv a : Nat → Nat} {σ : Mm} {p1 : Int} {p2 : Int} {o : Int} (h : x_L_card σ p1 p2 = some o) : CTHP l yL_card cL_card 4 (some .int) [(0, 6, 7, 34)] rm_L_card shX D yy tk tv a σ [.ref (a 0), .int (zJ p1), .int (zJ p2)] σ (some (.int (zJ o))) := by
  refine cthp_of (Ar := fun a tk => [.ref (a 0), .int (zJ p1), .int (zJ p2)]) (by decide) (Nat.le_of_ble_eq_true rfl) (fun Γ G _ _ hR => ?_)
  have hcs := rt_cs hR
  unfold x_L_card at h
  refine (?_ : PT Γ 4 shX 0 σ [(0, .ref (ga Γ 0)), (1, .int (zJ p1)), (2, .int (zJ p2))] [])
  refine p_aload_n G rfl 0 rfl dL_card_0 ?_
  refine p_iload_n G rfl 1 rfl dL_card_1 ?_
  refine p_iload_n G rfl 2 rfl dL_card_2 ?_
  obtain ⟨v1, hc, h⟩ := bthrn h
  refine p_callVi G dL_card_3 lk_L_42 (c_X6_card (gl Γ) hc) (As := [.int (zJ p1), .int (zJ p2)]) (ci := 8) rfl rfl rfl rfl (Nat.le_of_ble_eq_true rfl) ⟨rfl, rfl, Nat.le_of_ble_eq_true rfl, Nat.le_of_ble_eq_true rfl⟩ hcs ?_
  (cases h; exact p_iret G hR dL_card_6 rfl rfl)
set_option maxHeartbeats 4000000 in
set_option maxRecDepth 100000 in
theorem c_L_where (l : Launch) {D : va_G} {yy : Nat → ClassId} {tk tv a : Nat → Nat} {σ : Mm} {p1 : Int} {o : Int} (h : x_L_where σ p1 = some o) : CTHP l yL_where cL_where 3 (some .int) [(0, 5, 6, 34)] rm_L_where shX D yy tk tv a σ [.ref (a 0), .int (zJ p1)] σ (some (.int (zJ o))) := by
  refine cthp_of (Ar := fun a tk => [.ref (a 0), .int (zJ p1)]) (by decide) (Nat.le_of_ble_eq_true rfl) (fun Γ G _ _ hR => ?_)
  have hcs := rt_cs hR
  unfold x_L_where at h
  refine (?_ : PT Γ 3 shX 0 σ [(0, .ref (ga Γ 0)), (1, .int (zJ p1))] [])
  refine p_aload_n G rfl 0 rfl dL_where_0 ?_
  refine p_iload_n G rfl 1 rfl dL_where_1 ?_
  obtain ⟨v1, hc, h⟩ := bthrn h
  refine p_callVi G dL_where_2 lk_L_45 (c_X6_where (gl Γ) hc) (As := [.int (zJ p1)]) (ci := 8) rfl rfl rfl rfl (Nat.le_of_ble_eq_true rfl) ⟨rfl, rfl, Nat.le_of_ble_eq_true rfl, Nat.le_of_ble_eq_true rfl⟩ hcs ?_
  (cases h; exact p_iret G hR dL_where_5 rfl rfl)
set_option maxHeartbeats 4000000 in
set_option maxRecDepth 100000 in
theorem c_L_meldOf (l : Launch) {D : va_G} {yy : Nat → ClassId} {tk tv a : Nat → Nat} {σ : Mm} {p1 : Int} {p2 : Int} {o : Mm × Int} (h : x_L_meldOf σ p1 p2 = some o) : CTHP l yL_meldOf cL_meldOf 4 (some .int) [(0, 6, 7, 34), (0, 6, 12, 25)] rm_L_meldOf shX D yy tk tv a σ [.ref (a 0), .int (zJ p1), .int (zJ p2)] o.1 (some (.int (zJ o.2))) := by
  refine cthp_of (Ar := fun a tk => [.ref (a 0), .int (zJ p1), .int (zJ p2)]) (by decide) (Nat.le_of_ble_eq_true rfl) (fun Γ G _ _ hR => ?_)
  have hcs := rt_cs hR
  unfold x_L_meldOf at h
  refine (?_ : PT Γ 4 shX 0 σ [(0, .ref (ga Γ 0)), (1, .int (zJ p1)), (2, .int (zJ p2))] [])
  refine p_aload_n G rfl 0 rfl dL_meldOf_0 ?_
  refine p_iload_n G rfl 1 rfl dL_meldOf_1 ?_
  refine p_iload_n G rfl 2 rfl dL_meldOf_2 ?_
  obtain ⟨⟨σ1, v2⟩, hc, h⟩ := bthrn h
  rw [un2_mk] at h
  refine p_callVi G dL_meldOf_3 lk_L_48 (c_X6_meldOf (gl Γ) hc) (As := [.int (zJ p1), .int (zJ p2)]) (ci := 8) rfl rfl rfl rfl (Nat.le_of_ble_eq_true rfl) ⟨rfl, rfl, Nat.le_of_ble_eq_true rfl, Nat.le_of_ble_eq_true rfl⟩ hcs ?_
  (cases h; exact p_iret G hR dL_meldOf_6 rfl rfl)
set_option maxHeartbeats 4000000 in
set_option maxRecDepth 100000 in
theorem c_L_meld (l : Launch) {D : va_G} {yy : Nat → ClassId} {tk tv a : Nat → Nat} {σ : Mm} {p1 : Int} {p2 : Int} {p3 : Int} {o : Mm × Int} (h : x_L_meld σ p1 p2 p3 = some o) : CTHP l yL_meld cL_meld 5 (some .int) [(0, 7, 8, 34)] rm_L_meld shX D yy tk tv a σ [.ref (a 0), .int (zJ p1), .int (zJ p2), .int (zJ p3)] o.1 (some (.int (zJ o.2))) := by
  refine cthp_of (Ar := fun a tk => [.ref (a 0), .int (zJ p1), .int (zJ p2), .int (zJ p3)]) (by decide) (Nat.le_of_ble_eq_true rfl) (fun Γ G _ _ hR => ?_)
  have hcs := rt_cs hR
  unfold x_L_meld at h
  refine (?_ : PT Γ 5 shX 0 σ [(0, .ref (ga Γ 0)), (1, .int (zJ p1)), (2, .int (zJ p2)), (3, .int (zJ p3))] [])
  refine p_aload_n G rfl 0 rfl dL_meld_0 ?_
  refine p_iload_n G rfl 1 rfl dL_meld_1 ?_
  refine p_iload_n G rfl 2 rfl dL_meld_2 ?_
  refine p_iload_n G rfl 3 rfl dL_meld_3 ?_
  obtain ⟨⟨σ1, v2⟩, hc, h⟩ := bthrn h
  rw [un2_mk] at h
  refine p_callVi G dL_meld_4 lk_L_51 (c_X6_meld (gl Γ) hc) (As := [.int (zJ p1), .int (zJ p2), .int (zJ p3)]) (ci := 8) rfl rfl rfl rfl (Nat.le_of_ble_eq_true rfl) ⟨rfl, rfl, Nat.le_of_ble_eq_true rfl, Nat.le_of_ble_eq_true rfl⟩ hcs ?_
  (cases h; exact p_iret G hR dL_meld_7 rfl rfl)
set_option maxHeartbeats 4000000 in
set_option maxRecDepth 100000 in
theorem c_L_restWithout (l : Launch) {D : va_G} {yy : Nat → ClassId} {tk tv a : Nat → Nat} {σ : Mm} {p1 : Int} {o : Mm × Int} (h : x_L_restWithout σ p1 = some o) : CTHP l yL_restWithout cL_restWithout 3 (some .int) [(0, 5, 6, 25)] rm_L_restWithout shX D yy tk tv a σ [.ref (a 0), .int (zJ p1)] o.1 (some (.int (zJ o.2))) := by
  refine cthp_of (Ar := fun a tk => [.ref (a 0), .int (zJ p1)]) (by decide) (Nat.le_of_ble_eq_true rfl) (fun Γ G _ _ hR => ?_)
  have hcs := rt_cs hR
  unfold x_L_restWithout at h
  refine (?_ : PT Γ 3 shX 0 σ [(0, .ref (ga Γ 0)), (1, .int (zJ p1))] [])
  refine p_aload_n G rfl 0 rfl dL_restWithout_0 ?_
  refine p_iload_n G rfl 1 rfl dL_restWithout_1 ?_
  obtain ⟨⟨σ1, v2⟩, hc, h⟩ := bthrn h
  rw [un2_mk] at h
  refine p_callVi G dL_restWithout_2 lk_L_55 (c_X6_restWithout (gl Γ) hc) (As := [.int (zJ p1)]) (ci := 8) rfl rfl rfl rfl (Nat.le_of_ble_eq_true rfl) ⟨rfl, rfl, Nat.le_of_ble_eq_true rfl, Nat.le_of_ble_eq_true rfl⟩ hcs ?_
  (cases h; exact p_iret G hR dL_restWithout_5 rfl rfl)
set_option maxHeartbeats 4000000 in
set_option maxRecDepth 100000 in
theorem c_L_kind (l : Launch) {D : va_G} {yy : Nat → ClassId} {tk tv a : Nat → Nat} {σ : Mm} {p1 : Int64} {o : Int} (h : x_L_kind σ p1 = some o) : CTHP l yL_kind cL_kind 4 (some .int) [(0, 5, 6, 34)] rm_L_kind shX D yy tk tv a σ [.ref (a 0), .long p1] σ (some (.int (zJ o))) := by
  refine cthp_of (Ar := fun a tk => [.ref (a 0), .long p1]) (by decide) (Nat.le_of_ble_eq_true rfl) (fun Γ G _ _ hR => ?_)
  have hcs := rt_cs hR
  unfold x_L_kind at h
  refine (?_ : PT Γ 4 shX 0 σ [(0, .ref (ga Γ 0)), (1, .long p1)] [])
  refine p_aload_n G rfl 0 rfl dL_kind_0 ?_
  refine p_lload_n G rfl 1 rfl dL_kind_1 ?_
  obtain ⟨v1, hc, h⟩ := bthrn h
  refine p_callVi G dL_kind_2 lk_L_58 (c_X6_kind (gl Γ) hc) (As := [.long p1]) (ci := 8) rfl rfl rfl rfl (Nat.le_of_ble_eq_true rfl) ⟨rfl, rfl, Nat.le_of_ble_eq_true rfl, Nat.le_of_ble_eq_true rfl⟩ hcs ?_
  (cases h; exact p_iret G hR dL_kind_5 rfl rfl)
set_option maxHeartbeats 4000000 in
set_option maxRecDepth 100000 in
theorem c_L_act (l : Launch) {D : va_G} {yy : Nat → ClassId} {tk tv a tk0 tv0 : Nat → Nat} (e1 : tk = tk0) (e2 : tv = tv0) {σ : Mm} {p2 : Int} {o : Mm} (h : x_L_act σ (zsc tv0) (tk0 1001) p2 = some o) : CTN l yL_act cL_act 7 none rm_L_act shX shX D yy tk tv a σ [.ref (a 0), .ref (tk0 1000), .int (zJ p2)] o none 30 750 := by
  subst e1 e2
  refine ctn_of (Ar := fun a tk => [.ref (a 0), .ref (tk 1000), .int (zJ p2)]) (by decide) (Nat.le_of_ble_eq_true rfl) (fun h => by cases h) (fun Γ G _ hM hR => ?_)
  have hcs := mk_cs G hM (Nat.le_of_ble_eq_true rfl) (Nat.le_of_ble_eq_true rfl)
  rw [hM.1.2.1]
  unfold x_L_act at h
  refine (?_ : PT Γ 7 shX 0 σ [(0, .ref (ga Γ 0)), (1, .ref (tk 1000)), (2, .int (zJ p2))] [])
  refine p_aload_n G rfl 1 rfl dL_act_0 ?_
  refine p_iload_n G rfl 2 rfl dL_act_1 ?_
  refine p_iconst G rfl dL_act_2 ?_
  refine p_iadd G dL_act_3 ?_
  obtain ⟨v1, hc, h⟩ := bnd_some h
  refine p_callS0 G dL_act_4 lk_L_7 (c_L_cell (gl Γ) hM.1.2.1 hM.1.2.2 hc) (As := [.ref (tk 1000), .int (zJ (p2 + (1 : Int)))]) rfl zk_48 rfl (Nat.le_of_ble_eq_true rfl) ⟨rfl, rfl, Nat.le_of_ble_eq_true rfl, Nat.le_of_ble_eq_true rfl⟩ hcs ?_
  refine p_ldc (x := 2147483647) G gm_969 (by decide) dL_act_7 ?_
  refine p_iand G dL_act_9 ?_
  refine p_istore_n (lv' := fun v2 => [(3, .int (zJ v2)), (0, .ref (ga Γ 0)), (1, .ref (tk 1000)), (2, .int (zJ p2))]) G rfl dL_act_10 h (by decide) (fun _ => rfl) (fun v2 h => ?_)
  refine p_aload_n G rfl 1 rfl dL_act_11 ?_
  refine p_iconst G rfl dL_act_12 ?_
  obtain ⟨v3, hc, h⟩ := bnd_some h
  refine p_callHPr G zl_101 dL_act_13 gm_970 gm_971 gm_26 gm_972 (by decide +kernel) (c_L_match (gl Γ) hc) (As := [.ref (ga Γ 0), .int (zJ (4 : Int))]) rfl zk_101 (zs_x zs_101 _) rfl (Nat.le_of_ble_eq_true rfl) ⟨rfl, rfl, Nat.le_of_ble_eq_true rfl, Nat.le_of_ble_eq_true rfl⟩ hcs ?_
  refine p_istoreU (lv' := [(4, .int (zJ v3)), (3, .int (zJ v2)), (0, .ref (ga Γ 0)), (1, .ref (tk 1000)), (2, .int (zJ p2))]) G dL_act_16 (by decide) rfl ?_
  refine p_aload_n G rfl 2 rfl dL_act_18 ?_
  refine p_iload G 0 rfl dL_act_19 ?_
  refine p_iload_n G rfl 1 rfl dL_act_21 ?_
  refine p_aload_n G rfl 2 rfl dL_act_22 ?_
  refine p_iload G 0 rfl dL_act_23 ?_
  refine p_iconst G rfl dL_act_25 ?_
  obtain ⟨⟨σ4, v5⟩, hc, h⟩ := bnd_some h
  rw [un2_mk] at h
  refine p_callHP G zl_101 dL_act_26 gm_994 gm_995 gm_26 gm_996 (by decide +kernel) (c_L_player (gl Γ) hc) (As := [.ref (ga Γ 0), .int (zJ v3), .int (zJ (0 : Int))]) rfl zk_101 (zs_x zs_101 _) rfl (Nat.le_of_ble_eq_true rfl) ⟨rfl, rfl, Nat.le_of_ble_eq_true rfl, Nat.le_of_ble_eq_true rfl⟩ hcs ?_
  refine p_nm h (fun σ6 h => ?_)
  refine p_irem G dL_act_29 h (fun h => ?_)
  obtain ⟨v7, hc, h⟩ := bnd_some h
  refine p_callHPr G zl_101 dL_act_30 gm_1021 gm_1022 gm_26 gm_1023 (by decide +kernel) (c_L_card (gl Γ) hc) (As := [.ref (ga Γ 0), .int (zJ v3), .int (zJ (zrem v2 v5))]) rfl zk_101 (zs_x zs_101 _) rfl (Nat.le_of_ble_eq_true rfl) ⟨rfl, rfl, Nat.le_of_ble_eq_true rfl, Nat.le_of_ble_eq_true rfl⟩ hcs ?_
  refine p_istoreU (lv' := [(5, .int (zJ v7)), (4, .int (zJ v3)), (3, .int (zJ v2)), (0, .ref (ga Γ 0)), (1, .ref (tk 1000)), (2, .int (zJ p2))]) G dL_act_33 (by decide) rfl ?_
  refine p_aload_n G rfl 3 rfl dL_act_35 ?_
  obtain ⟨⟨σ8, v9⟩, hc, h⟩ := bnd_some h
  rw [un2_mk] at h
  refine p_callVi G dL_act_36 lk_L_112 (c_X6_bestDrop (gl Γ) hc) (As := []) (ci := 8) rfl rfl rfl rfl (Nat.le_of_ble_eq_true rfl) ⟨rfl, rfl, Nat.le_of_ble_eq_true rfl, Nat.le_of_ble_eq_true rfl⟩ hcs ?_
  refine p_istoreU (lv' := [(6, .int (zJ v9)), (5, .int (zJ v7)), (4, .int (zJ v3)), (3, .int (zJ v2)), (0, .ref (ga Γ 0)), (1, .ref (tk 1000)), (2, .int (zJ p2))]) G dL_act_39 (by decide) rfl ?_
  refine p_aload_n G rfl 5 rfl dL_act_41 ?_
  refine p_iload_n G rfl 6 rfl dL_act_42 ?_
  refine p_iconst G rfl dL_act_43 ?_
  refine p_bipush G (by decide) (by decide) dL_act_44 ?_
  obtain ⟨v10, hc, h⟩ := bnd_some h
  refine p_callS0 G dL_act_46 lk_L_72 (c_L_of (gl Γ) hM.1.2.1 hM.1.2.2 hc) (As := [.ref (tk 1000), .int (zJ p2), .int (zJ (0 : Int)), .int (zJ (12 : Int))]) rfl zk_48 rfl (Nat.le_of_ble_eq_true rfl) ⟨rfl, rfl, Nat.le_of_ble_eq_true rfl, Nat.le_of_ble_eq_true rfl⟩ hcs ?_
  refine zite h (fun c0_49 h => ?_) (fun c0_49 h => ?_)
  · refine p_tin (tgt := 108) (off := 59) G dL_act_49 c0_49 (by decide) (by decide) rfl (by decide) ?_
    refine p_aload_n G rfl 4 rfl dL_act_108 ?_
    refine p_iload_n G rfl 3 rfl dL_act_109 ?_
    refine p_iconst G rfl dL_act_110 ?_
    refine p_iremK G dL_act_111 (by decide) ?_
    refine p_ifne (tgt := 119) G dL_act_112 (by decide) h (fun c17 h => ?_) (fun c17 h => ?_)
    · refine p_iconst G rfl dL_act_119 ?_
      obtain ⟨⟨σ11, v12⟩, hc, h⟩ := bnd_some h
      rw [un2_mk] at h
      refine p_callVN (lv' := fun a => [(6, .int (zJ v9)), (5, .int (zJ v7)), (4, .int (zJ v3)), (3, .int (zJ v2)), (0, .ref (a 0)), (1, .ref (tk 1000)), (2, .int (zJ p2))]) (st' := fun a => []) G hR hM zl_101 dL_act_120 lk_L_115 (c_X6_draw (gl Γ) hc) (As := [.int (zJ (0 : Int))]) (ci := 8) rfl zk_101 (by decide +kernel) (by decide +kernel) (zs_x zs_101 _) rfl rfl rfl (Nat.le_of_ble_eq_true rfl) ⟨rfl, rfl, Nat.le_of_ble_eq_true rfl, Nat.le_of_ble_eq_true rfl⟩ (Nat.le_of_ble_eq_true rfl) (Nat.le_of_ble_eq_true rfl) h (fun a e => by have q0 := e 0 _ rfl rfl; exact ⟨by simp only [q0], by rfl⟩) (fun Γ G hR hM σ13 h => ?_)
      refine (?_ : PT Γ 7 shX 123 σ13 [(6, .int (zJ v9)), (5, .int (zJ v7)), (4, .int (zJ v3)), (3, .int (zJ v2)), (0, .ref (ga Γ 0)), (1, .ref (tk 1000)), (2, .int (zJ p2))] [.int (zJ v12)])
      have hcs := mk_cs G hM (Nat.le_of_ble_eq_true rfl) (Nat.le_of_ble_eq_true rfl)
      refine p_pop G rfl dL_act_123 ?_
      refine p_goto (tgt := 240) G dL_act_124 (by decide) ?_
      (cases h; exact p_vretN G hM (Nat.le_of_ble_eq_true rfl) (Nat.le_of_ble_eq_true rfl) hR dL_act_240 rfl rfl)
    · refine p_iconst G rfl dL_act_115 ?_
      refine p_goto (tgt := 120) G dL_act_116 (by decide) ?_
      obtain ⟨⟨σ14, v15⟩, hc, h⟩ := bnd_some h
      rw [un2_mk] at h
      refine p_callVN (lv' := fun a => [(6, .int (zJ v9)), (5, .int (zJ v7)), (4, .int (zJ v3)), (3, .int (zJ v2)), (0, .ref (a 0)), (1, .ref (tk 1000)), (2, .int (zJ p2))]) (st' := fun a => []) G hR hM zl_101 dL_act_120 lk_L_115 (c_X6_draw (gl Γ) hc) (As := [.int (zJ (1 : Int))]) (ci := 8) rfl zk_101 (by decide +kernel) (by decide +kernel) (zs_x zs_101 _) rfl rfl rfl (Nat.le_of_ble_eq_true rfl) ⟨rfl, rfl, Nat.le_of_ble_eq_true rfl, Nat.le_of_ble_eq_true rfl⟩ (Nat.le_of_ble_eq_true rfl) (Nat.le_of_ble_eq_true rfl) h (fun a e => by have q0 := e 0 _ rfl rfl; exact ⟨by simp only [q0], by rfl⟩) (fun Γ G hR hM σ16 h => ?_)
      refine (?_ : PT Γ 7 shX 123 σ16 [(6, .int (zJ v9)), (5, .int (zJ v7)), (4, .int (zJ v3)), (3, .int (zJ v2)), (0, .ref (ga Γ 0)), (1, .ref (tk 1000)), (2, .int (zJ p2))] [.int (zJ v15)])
      have hcs := mk_cs G hM (Nat.le_of_ble_eq_true rfl) (Nat.le_of_ble_eq_true rfl)
      refine p_pop G rfl dL_act_123 ?_
      refine p_goto (tgt := 240) G dL_act_124 (by decide) ?_
      (cases h; exact p_vretN G hM (Nat.le_of_ble_eq_true rfl) (Nat.le_of_ble_eq_true rfl) hR dL_act_240 rfl rfl)
  · refine zite h (fun c1_49 h => ?_) (fun c1_49 h => ?_)
    · refine p_tin (tgt := 108) (off := 59) G dL_act_49 c1_49 (by decide) (by decide) rfl (by decide) ?_
      refine p_aload_n G rfl 4 rfl dL_act_108 ?_
      refine p_iload_n G rfl 3 rfl dL_act_109 ?_
      refine p_iconst G rfl dL_act_110 ?_
      refine p_iremK G dL_act_111 (by decide) ?_
      refine p_ifne (tgt := 119) G dL_act_112 (by decide) h (fun c24 h => ?_) (fun c24 h => ?_)
      · refine p_iconst G rfl dL_act_119 ?_
        obtain ⟨⟨σ18, v19⟩, hc, h⟩ := bnd_some h
        rw [un2_mk] at h
        refine p_callVN (lv' := fun a => [(6, .int (zJ v9)), (5, .int (zJ v7)), (4, .int (zJ v3)), (3, .int (zJ v2)), (0, .ref (a 0)), (1, .ref (tk 1000)), (2, .int (zJ p2))]) (st' := fun a => []) G hR hM zl_101 dL_act_120 lk_L_115 (c_X6_draw (gl Γ) hc) (As := [.int (zJ (0 : Int))]) (ci := 8) rfl zk_101 (by decide +kernel) (by decide +kernel) (zs_x zs_101 _) rfl rfl rfl (Nat.le_of_ble_eq_true rfl) ⟨rfl, rfl, Nat.le_of_ble_eq_true rfl, Nat.le_of_ble_eq_true rfl⟩ (Nat.le_of_ble_eq_true rfl) (Nat.le_of_ble_eq_true rfl) h (fun a e => by have q0 := e 0 _ rfl rfl; exact ⟨by simp only [q0], by rfl⟩) (fun Γ G hR hM σ20 h => ?_)
        refine (?_ : PT Γ 7 shX 123 σ20 [(6, .int (zJ v9)), (5, .int (zJ v7)), (4, .int (zJ v3)), (3, .int (zJ v2)), (0, .ref (ga Γ 0)), (1, .ref (tk 1000)), (2, .int (zJ p2))] [.int (zJ v19)])
        have hcs := mk_cs G hM (Nat.le_of_ble_eq_true rfl) (Nat.le_of_ble_eq_true rfl)
        refine p_pop G rfl dL_act_123 ?_
        refine p_goto (tgt := 240) G dL_act_124 (by decide) ?_
        (cases h; exact p_vretN G hM (Nat.le_of_ble_eq_true rfl) (Nat.le_of_ble_eq_true rfl) hR dL_act_240 rfl rfl)
      · refine p_iconst G rfl dL_act_115 ?_
        refine p_goto (tgt := 120) G dL_act_116 (by decide) ?_
        obtain ⟨⟨σ21, v22⟩, hc, h⟩ := bnd_some h
        rw [un2_mk] at h
        refine p_callVN (lv' := fun a => [(6, .int (zJ v9)), (5, .int (zJ v7)), (4, .int (zJ v3)), (3, .int (zJ v2)), (0, .ref (a 0)), (1, .ref (tk 1000)), (2, .int (zJ p2))]) (st' := fun a => []) G hR hM zl_101 dL_act_120 lk_L_115 (c_X6_draw (gl Γ) hc) (As := [.int (zJ (1 : Int))]) (ci := 8) rfl zk_101 (by decide +kernel) (by decide +kernel) (zs_x zs_101 _) rfl rfl rfl (Nat.le_of_ble_eq_true rfl) ⟨rfl, rfl, Nat.le_of_ble_eq_true rfl, Nat.le_of_ble_eq_true rfl⟩ (Nat.le_of_ble_eq_true rfl) (Nat.le_of_ble_eq_true rfl) h (fun a e => by have q0 := e 0 _ rfl rfl; exact ⟨by simp only [q0], by rfl⟩) (fun Γ G hR hM σ23 h => ?_)
        refine (?_ : PT Γ 7 shX 123 σ23 [(6, .int (zJ v9)), (5, .int (zJ v7)), (4, .int (zJ v3)), (3, .int (zJ v2)), (0, .ref (ga Γ 0)), (1, .ref (tk 1000)), (2, .int (zJ p2))] [.int (zJ v22)])
        have hcs := mk_cs G hM (Nat.le_of_ble_eq_true rfl) (Nat.le_of_ble_eq_true rfl)
        refine p_pop G rfl dL_act_123 ?_
        refine p_goto (tgt := 240) G dL_act_124 (by decide) ?_
        (cases h; exact p_vretN G hM (Nat.le_of_ble_eq_true rfl) (Nat.le_of_ble_eq_true rfl) hR dL_act_240 rfl rfl)
    · refine zite h (fun c2_49 h => ?_) (fun c2_49 h => ?_)
      · refine p_tin (tgt := 108) (off := 59) G dL_act_49 c2_49 (by decide) (by decide) rfl (by decide) ?_
        refine p_aload_n G rfl 4 rfl dL_act_108 ?_
        refine p_iload_n G rfl 3 rfl dL_act_109 ?_
        refine p_iconst G rfl dL_act_110 ?_
        refine p_iremK G dL_act_111 (by decide) ?_
        refine p_ifne (tgt := 119) G dL_act_112 (by decide) h (fun c31 h => ?_) (fun c31 h => ?_)
        · refine p_iconst G rfl dL_act_119 ?_
          obtain ⟨⟨σ25, v26⟩, hc, h⟩ := bnd_some h
          rw [un2_mk] at h
          refine p_callVN (lv' := fun a => [(6, .int (zJ v9)), (5, .int (zJ v7)), (4, .int (zJ v3)), (3, .int (zJ v2)), (0, .ref (a 0)), (1, .ref (tk 1000)), (2, .int (zJ p2))]) (st' := fun a => []) G hR hM zl_101 dL_act_120 lk_L_115 (c_X6_draw (gl Γ) hc) (As := [.int (zJ (0 : Int))]) (ci := 8) rfl zk_101 (by decide +kernel) (by decide +kernel) (zs_x zs_101 _) rfl rfl rfl (Nat.le_of_ble_eq_true rfl) ⟨rfl, rfl, Nat.le_of_ble_eq_true rfl, Nat.le_of_ble_eq_true rfl⟩ (Nat.le_of_ble_eq_true rfl) (Nat.le_of_ble_eq_true rfl) h (fun a e => by have q0 := e 0 _ rfl rfl; exact ⟨by simp only [q0], by rfl⟩) (fun Γ G hR hM σ27 h => ?_)
          refine (?_ : PT Γ 7 shX 123 σ27 [(6, .int (zJ v9)), (5, .int (zJ v7)), (4, .int (zJ v3)), (3, .int (zJ v2)), (0, .ref (ga Γ 0)), (1, .ref (tk 1000)), (2, .int (zJ p2))] [.int (zJ v26)])
          have hcs := mk_cs G hM (Nat.le_of_ble_eq_true rfl) (Nat.le_of_ble_eq_true rfl)
          refine p_pop G rfl dL_act_123 ?_
          refine p_goto (tgt := 240) G dL_act_124 (by decide) ?_
          (cases h; exact p_vretN G hM (Nat.le_of_ble_eq_true rfl) (Nat.le_of_ble_eq_true rfl) hR dL_act_240 rfl rfl)
        · refine p_iconst G rfl dL_act_115 ?_
          refine p_goto (tgt := 120) G dL_act_116 (by decide) ?_
          obtain ⟨⟨σ28, v29⟩, hc, h⟩ := bnd_some h
          rw [un2_mk] at h
          refine p_callVN (lv' := fun a => [(6, .int (zJ v9)), (5, .int (zJ v7)), (4, .int (zJ v3)), (3, .int (zJ v2)), (0, .ref (a 0)), (1, .ref (tk 1000)), (2, .int (zJ p2))]) (st' := fun a => []) G hR hM zl_101 dL_act_120 lk_L_115 (c_X6_draw (gl Γ) hc) (As := [.int (zJ (1 : Int))]) (ci := 8) rfl zk_101 (by decide +kernel) (by decide +kernel) (zs_x zs_101 _) rfl rfl rfl (Nat.le_of_ble_eq_true rfl) ⟨rfl, rfl, Nat.le_of_ble_eq_true rfl, Nat.le_of_ble_eq_true rfl⟩ (Nat.le_of_ble_eq_true rfl) (Nat.le_of_ble_eq_true rfl) h (fun a e => by have q0 := e 0 _ rfl rfl; exact ⟨by simp only [q0], by rfl⟩) (fun Γ G hR hM σ30 h => ?_)
          refine (?_ : PT Γ 7 shX 123 σ30 [(6, .int (zJ v9)), (5, .int (zJ v7)), (4, .int (zJ v3)), (3, .int (zJ v2)), (0, .ref (ga Γ 0)), (1, .ref (tk 1000)), (2, .int (zJ p2))] [.int (zJ v29)])
          have hcs := mk_cs G hM (Nat.le_of_ble_eq_true rfl) (Nat.le_of_ble_eq_true rfl)
          refine p_pop G rfl dL_act_123 ?_
          refine p_goto (tgt := 240) G dL_act_124 (by decide) ?_
          (cases h; exact p_vretN G hM (Nat.le_of_ble_eq_true rfl) (Nat.le_of_ble_eq_true rfl) hR dL_act_240 rfl rfl)
      · refine zite h (fun c3_49 h => ?_) (fun c3_49 h => ?_)
        · refine p_tin (tgt := 108) (off := 59) G dL_act_49 c3_49 (by decide) (by decide) rfl (by decide) ?_
          refine p_aload_n G rfl 4 rfl dL_act_108 ?_
          refine p_iload_n G rfl 3 rfl dL_act_109 ?_
          refine p_iconst G rfl dL_act_110 ?_
          refine p_iremK G dL_act_111 (by decide) ?_
          refine p_ifne (tgt := 119) G dL_act_112 (by decide) h (fun c38 h => ?_) (fun c38 h => ?_)
          · refine p_iconst G rfl dL_act_119 ?_
            obtain ⟨⟨σ32, v33⟩, hc, h⟩ := bnd_some h
            rw [un2_mk] at h
            refine p_callVN (lv' := fun a => [(6, .int (zJ v9)), (5, .int (zJ v7)), (4, .int (zJ v3)), (3, .int (zJ v2)), (0, .ref (a 0)), (1, .ref (tk 1000)), (2, .int (zJ p2))]) (st' := fun a => []) G hR hM zl_101 dL_act_120 lk_L_115 (c_X6_draw (gl Γ) hc) (As := [.int (zJ (0 : Int))]) (ci := 8) rfl zk_101 (by decide +kernel) (by decide +kernel) (zs_x zs_101 _) rfl rfl rfl (Nat.le_of_ble_eq_true rfl) ⟨rfl, rfl, Nat.le_of_ble_eq_true rfl, Nat.le_of_ble_eq_true rfl⟩ (Nat.le_of_ble_eq_true rfl) (Nat.le_of_ble_eq_true rfl) h (fun a e => by have q0 := e 0 _ rfl rfl; exact ⟨by simp only [q0], by rfl⟩) (fun Γ G hR hM σ34 h => ?_)
            refine (?_ : PT Γ 7 shX 123 σ34 [(6, .int (zJ v9)), (5, .int (zJ v7)), (4, .int (zJ v3)), (3, .int (zJ v2)), (0, .ref (ga Γ 0)), (1, .ref (tk 1000)), (2, .int (zJ p2))] [.int (zJ v33)])
            have hcs := mk_cs G hM (Nat.le_of_ble_eq_true rfl) (Nat.le_of_ble_eq_true rfl)
            refine p_pop G rfl dL_act_123 ?_
            refine p_goto (tgt := 240) G dL_act_124 (by decide) ?_
            (cases h; exact p_vretN G hM (Nat.le_of_ble_eq_true rfl) (Nat.le_of_ble_eq_true rfl) hR dL_act_240 rfl rfl)
          · refine p_iconst G rfl dL_act_115 ?_
            refine p_goto (tgt := 120) G dL_act_116 (by decide) ?_
            obtain ⟨⟨σ35, v36⟩, hc, h⟩ := bnd_some h
            rw [un2_mk] at h
            refine p_callVN (lv' := fun a => [(6, .int (zJ v9)), (5, .int (zJ v7)), (4, .int (zJ v3)), (3, .int (zJ v2)), (0, .ref (a 0)), (1, .ref (tk 1000)), (2, .int (zJ p2))]) (st' := fun a => []) G hR hM zl_101 dL_act_120 lk_L_115 (c_X6_draw (gl Γ) hc) (As := [.int (zJ (1 : Int))]) (ci := 8) rfl zk_101 (by decide +kernel) (by decide +kernel) (zs_x zs_101 _) rfl rfl rfl (Nat.le_of_ble_eq_true rfl) ⟨rfl, rfl, Nat.le_of_ble_eq_true rfl, Nat.le_of_ble_eq_true rfl⟩ (Nat.le_of_ble_eq_true rfl) (Nat.le_of_ble_eq_true rfl) h (fun a e => by have q0 := e 0 _ rfl rfl; exact ⟨by simp only [q0], by rfl⟩) (fun Γ G hR hM σ37 h => ?_)
            refine (?_ : PT Γ 7 shX 123 σ37 [(6, .int (zJ v9)), (5, .int (zJ v7)), (4, .int (zJ v3)), (3, .int (zJ v2)), (0, .ref (ga Γ 0)), (1, .ref (tk 1000)), (2, .int (zJ p2))] [.int (zJ v36)])
            have hcs := mk_cs G hM (Nat.le_of_ble_eq_true rfl) (Nat.le_of_ble_eq_true rfl)
            refine p_pop G rfl dL_act_123 ?_
            refine p_goto (tgt := 240) G dL_act_124 (by decide) ?_
            (cases h; exact p_vretN G hM (Nat.le_of_ble_eq_true rfl) (Nat.le_of_ble_eq_true rfl) hR dL_act_240 rfl rfl)
        · refine zite h (fun c4_49 h => ?_) (fun c4_49 h => ?_)
          · refine p_tin (tgt := 127) (off := 78) G dL_act_49 c4_49 (by decide) (by decide) rfl (by decide) ?_
            refine p_aload_n G rfl 4 rfl dL_act_127 ?_
            refine p_iload G 0 rfl dL_act_128 ?_
            refine p_iconst G rfl dL_act_130 ?_
            refine p_icmpeq (tgt := 140) G dL_act_131 (by decide) h (fun c49 h => ?_) (fun c49 h => ?_)
            · refine p_iload G 1 rfl dL_act_140 ?_
              refine p_goto (tgt := 147) G dL_act_142 (by decide) ?_
              obtain ⟨⟨σ39, v40⟩, hc, h⟩ := bnd_some h
              rw [un2_mk] at h
              refine p_callHS (np := 2) (lv' := fun a => [(6, .int (zJ v9)), (5, .int (zJ v7)), (4, .int (zJ v3)), (3, .int (zJ v2)), (0, .ref (a 0)), (1, .ref (tk 1000)), (2, .int (zJ p2))]) (st' := fun a => []) G hR hM zl_101 dL_act_147 gm_1044 gm_1045 gm_26 gm_1046 (by decide +kernel) (c_L_drop (gl Γ) hc) (As := [.ref (ga Γ 0), .int (zJ v7)]) rfl zk_101 (by decide +kernel) (by decide +kernel) (zs_x zs_101 _) rfl (Nat.le_of_ble_eq_true rfl) ⟨rfl, rfl, Nat.le_of_ble_eq_true rfl, Nat.le_of_ble_eq_true rfl⟩ (Nat.le_of_ble_eq_true rfl) (Nat.le_of_ble_eq_true rfl) h (fun a e => by have q0 := e 0 _ rfl rfl; exact ⟨by simp only [q0], by rfl⟩) (fun Γ G hR hM σ41 h => ?_)
              refine (?_ : PT Γ 7 shX 150 σ41 [(6, .int (zJ v9)), (5, .int (zJ v7)), (4, .int (zJ v3)), (3, .int (zJ v2)), (0, .ref (ga Γ 0)), (1, .ref (tk 1000)), (2, .int (zJ p2))] [.int (zJ v40)])
              have hcs := mk_cs G hM (Nat.le_of_ble_eq_true rfl) (Nat.le_of_ble_eq_true rfl)
              refine p_pop G rfl dL_act_150 ?_
              refine p_goto (tgt := 240) G dL_act_151 (by decide) ?_
              (cases h; exact p_vretN G hM (Nat.le_of_ble_eq_true rfl) (Nat.le_of_ble_eq_true rfl) hR dL_act_240 rfl rfl)
            · refine p_iload_n G rfl 3 rfl dL_act_134 ?_
              refine p_iconst G rfl dL_act_135 ?_
              refine p_iremK G dL_act_136 (by decide) ?_
              refine p_ifne (tgt := 145) G dL_act_137 (by decide) h (fun c48 h => ?_) (fun c48 h => ?_)
              · refine p_iload G 0 rfl dL_act_145 ?_
                obtain ⟨⟨σ42, v43⟩, hc, h⟩ := bnd_some h
                rw [un2_mk] at h
                refine p_callHS (np := 2) (lv' := fun a => [(6, .int (zJ v9)), (5, .int (zJ v7)), (4, .int (zJ v3)), (3, .int (zJ v2)), (0, .ref (a 0)), (1, .ref (tk 1000)), (2, .int (zJ p2))]) (st' := fun a => []) G hR hM zl_101 dL_act_147 gm_1044 gm_1045 gm_26 gm_1046 (by decide +kernel) (c_L_drop (gl Γ) hc) (As := [.ref (ga Γ 0), .int (zJ v9)]) rfl zk_101 (by decide +kernel) (by decide +kernel) (zs_x zs_101 _) rfl (Nat.le_of_ble_eq_true rfl) ⟨rfl, rfl, Nat.le_of_ble_eq_true rfl, Nat.le_of_ble_eq_true rfl⟩ (Nat.le_of_ble_eq_true rfl) (Nat.le_of_ble_eq_true rfl) h (fun a e => by have q0 := e 0 _ rfl rfl; exact ⟨by simp only [q0], by rfl⟩) (fun Γ G hR hM σ44 h => ?_)
                refine (?_ : PT Γ 7 shX 150 σ44 [(6, .int (zJ v9)), (5, .int (zJ v7)), (4, .int (zJ v3)), (3, .int (zJ v2)), (0, .ref (ga Γ 0)), (1, .ref (tk 1000)), (2, .int (zJ p2))] [.int (zJ v43)])
                have hcs := mk_cs G hM (Nat.le_of_ble_eq_true rfl) (Nat.le_of_ble_eq_true rfl)
                refine p_pop G rfl dL_act_150 ?_
                refine p_goto (tgt := 240) G dL_act_151 (by decide) ?_
                (cases h; exact p_vretN G hM (Nat.le_of_ble_eq_true rfl) (Nat.le_of_ble_eq_true rfl) hR dL_act_240 rfl rfl)
              · refine p_iload G 1 rfl dL_act_140 ?_
                refine p_goto (tgt := 147) G dL_act_142 (by decide) ?_
                obtain ⟨⟨σ45, v46⟩, hc, h⟩ := bnd_some h
                rw [un2_mk] at h
                refine p_callHS (np := 2) (lv' := fun a => [(6, .int (zJ v9)), (5, .int (zJ v7)), (4, .int (zJ v3)), (3, .int (zJ v2)), (0, .ref (a 0)), (1, .ref (tk 1000)), (2, .int (zJ p2))]) (st' := fun a => []) G hR hM zl_101 dL_act_147 gm_1044 gm_1045 gm_26 gm_1046 (by decide +kernel) (c_L_drop (gl Γ) hc) (As := [.ref (ga Γ 0), .int (zJ v7)]) rfl zk_101 (by decide +kernel) (by decide +kernel) (zs_x zs_101 _) rfl (Nat.le_of_ble_eq_true rfl) ⟨rfl, rfl, Nat.le_of_ble_eq_true rfl, Nat.le_of_ble_eq_true rfl⟩ (Nat.le_of_ble_eq_true rfl) (Nat.le_of_ble_eq_true rfl) h (fun a e => by have q0 := e 0 _ rfl rfl; exact ⟨by simp only [q0], by rfl⟩) (fun Γ G hR hM σ47 h => ?_)
                refine (?_ : PT Γ 7 shX 150 σ47 [(6, .int (zJ v9)), (5, .int (zJ v7)), (4, .int (zJ v3)), (3, .int (zJ v2)), (0, .ref (ga Γ 0)), (1, .ref (tk 1000)), (2, .int (zJ p2))] [.int (zJ v46)])
                have hcs := mk_cs G hM (Nat.le_of_ble_eq_true rfl) (Nat.le_of_ble_eq_true rfl)
                refine p_pop G rfl dL_act_150 ?_
                refine p_goto (tgt := 240) G dL_act_151 (by decide) ?_
                (cases h; exact p_vretN G hM (Nat.le_of_ble_eq_true rfl) (Nat.le_of_ble_eq_true rfl) hR dL_act_240 rfl rfl)
          · refine zite h (fun c5_49 h => ?_) (fun c5_49 h => ?_)
            · refine p_tin (tgt := 127) (off := 78) G dL_act_49 c5_49 (by decide) (by decide) rfl (by decide) ?_
              refine p_aload_n G rfl 4 rfl dL_act_127 ?_
              refine p_iload G 0 rfl dL_act_128 ?_
              refine p_iconst G rfl dL_act_130 ?_
              refine p_icmpeq (tgt := 140) G dL_act_131 (by decide) h (fun c60 h => ?_) (fun c60 h => ?_)
              · refine p_iload G 1 rfl dL_act_140 ?_
                refine p_goto (tgt := 147) G dL_act_142 (by decide) ?_
                obtain ⟨⟨σ50, v51⟩, hc, h⟩ := bnd_some h
                rw [un2_mk] at h
                refine p_callHS (np := 2) (lv' := fun a => [(6, .int (zJ v9)), (5, .int (zJ v7)), (4, .int (zJ v3)), (3, .int (zJ v2)), (0, .ref (a 0)), (1, .ref (tk 1000)), (2, .int (zJ p2))]) (st' := fun a => []) G hR hM zl_101 dL_act_147 gm_1044 gm_1045 gm_26 gm_1046 (by decide +kernel) (c_L_drop (gl Γ) hc) (As := [.ref (ga Γ 0), .int (zJ v7)]) rfl zk_101 (by decide +kernel) (by decide +kernel) (zs_x zs_101 _) rfl (Nat.le_of_ble_eq_true rfl) ⟨rfl, rfl, Nat.le_of_ble_eq_true rfl, Nat.le_of_ble_eq_true rfl⟩ (Nat.le_of_ble_eq_true rfl) (Nat.le_of_ble_eq_true rfl) h (fun a e => by have q0 := e 0 _ rfl rfl; exact ⟨by simp only [q0], by rfl⟩) (fun Γ G hR hM σ52 h => ?_)
                refine (?_ : PT Γ 7 shX 150 σ52 [(6, .int (zJ v9)), (5, .int (zJ v7)), (4, .int (zJ v3)), (3, .int (zJ v2)), (0, .ref (ga Γ 0)), (1, .ref (tk 1000)), (2, .int (zJ p2))] [.int (zJ v51)])
                have hcs := mk_cs G hM (Nat.le_of_ble_eq_true rfl) (Nat.le_of_ble_eq_true rfl)
                refine p_pop G rfl dL_act_150 ?_
                refine p_goto (tgt := 240) G dL_act_151 (by decide) ?_
                (cases h; exact p_vretN G hM (Nat.le_of_ble_eq_true rfl) (Nat.le_of_ble_eq_true rfl) hR dL_act_240 rfl rfl)
              · refine p_iload_n G rfl 3 rfl dL_act_134 ?_
                refine p_iconst G rfl dL_act_135 ?_
                refine p_iremK G dL_act_136 (by decide) ?_
                refine p_ifne (tgt := 145) G dL_act_137 (by decide) h (fun c59 h => ?_) (fun c59 h => ?_)
                · refine p_iload G 0 rfl dL_act_145 ?_
                  obtain ⟨⟨σ53, v54⟩, hc, h⟩ := bnd_some h
                  rw [un2_mk] at h
                  refine p_callHS (np := 2) (lv' := fun a => [(6, .int (zJ v9)), (5, .int (zJ v7)), (4, .int (zJ v3)), (3, .int (zJ v2)), (0, .ref (a 0)), (1, .ref (tk 1000)), (2, .int (zJ p2))]) (st' := fun a => []) G hR hM zl_101 dL_act_147 gm_1044 gm_1045 gm_26 gm_1046 (by decide +kernel) (c_L_drop (gl Γ) hc) (As := [.ref (ga Γ 0), .int (zJ v9)]) rfl zk_101 (by decide +kernel) (by decide +kernel) (zs_x zs_101 _) rfl (Nat.le_of_ble_eq_true rfl) ⟨rfl, rfl, Nat.le_of_ble_eq_true rfl, Nat.le_of_ble_eq_true rfl⟩ (Nat.le_of_ble_eq_true rfl) (Nat.le_of_ble_eq_true rfl) h (fun a e => by have q0 := e 0 _ rfl rfl; exact ⟨by simp only [q0], by rfl⟩) (fun Γ G hR hM σ55 h => ?_)
                  refine (?_ : PT Γ 7 shX 150 σ55 [(6, .int (zJ v9)), (5, .int (zJ v7)), (4, .int (zJ v3)), (3, .int (zJ v2)), (0, .ref (ga Γ 0)), (1, .ref (tk 1000)), (2, .int (zJ p2))] [.int (zJ v54)])
                  have hcs := mk_cs G hM (Nat.le_of_ble_eq_true rfl) (Nat.le_of_ble_eq_true rfl)
                  refine p_pop G rfl dL_act_150 ?_
                  refine p_goto (tgt := 240) G dL_act_151 (by decide) ?_
                  (cases h; exact p_vretN G hM (Nat.le_of_ble_eq_true rfl) (Nat.le_of_ble_eq_true rfl) hR dL_act_240 rfl rfl)
                · refine p_iload G 1 rfl dL_act_140 ?_
                  refine p_goto (tgt := 147) G dL_act_142 (by decide) ?_
                  obtain ⟨⟨σ56, v57⟩, hc, h⟩ := bnd_some h
                  rw [un2_mk] at h
                  refine p_callHS (np := 2) (lv' := fun a => [(6, .int (zJ v9)), (5, .int (zJ v7)), (4, .int (zJ v3)), (3, .int (zJ v2)), (0, .ref (a 0)), (1, .ref (tk 1000)), (2, .int (zJ p2))]) (st' := fun a => []) G hR hM zl_101 dL_act_147 gm_1044 gm_1045 gm_26 gm_1046 (by decide +kernel) (c_L_drop (gl Γ) hc) (As := [.ref (ga Γ 0), .int (zJ v7)]) rfl zk_101 (by decide +kernel) (by decide +kernel) (zs_x zs_101 _) rfl (Nat.le_of_ble_eq_true rfl) ⟨rfl, rfl, Nat.le_of_ble_eq_true rfl, Nat.le_of_ble_eq_true rfl⟩ (Nat.le_of_ble_eq_true rfl) (Nat.le_of_ble_eq_true rfl) h (fun a e => by have q0 := e 0 _ rfl rfl; exact ⟨by simp only [q0], by rfl⟩) (fun Γ G hR hM σ58 h => ?_)
                  refine (?_ : PT Γ 7 shX 150 σ58 [(6, .int (zJ v9)), (5, .int (zJ v7)), (4, .int (zJ v3)), (3, .int (zJ v2)), (0, .ref (ga Γ 0)), (1, .ref (tk 1000)), (2, .int (zJ p2))] [.int (zJ v57)])
                  have hcs := mk_cs G hM (Nat.le_of_ble_eq_true rfl) (Nat.le_of_ble_eq_true rfl)
                  refine p_pop G rfl dL_act_150 ?_
                  refine p_goto (tgt := 240) G dL_act_151 (by decide) ?_
                  (cases h; exact p_vretN G hM (Nat.le_of_ble_eq_true rfl) (Nat.le_of_ble_eq_true rfl) hR dL_act_240 rfl rfl)
            · refine zite h (fun c6_49 h => ?_) (fun c6_49 h => ?_)
              · refine p_tin (tgt := 127) (off := 78) G dL_act_49 c6_49 (by decide) (by decide) rfl (by decide) ?_
                refine p_aload_n G rfl 4 rfl dL_act_127 ?_
                refine p_iload G 0 rfl dL_act_128 ?_
                refine p_iconst G rfl dL_act_130 ?_
                refine p_icmpeq (tgt := 140) G dL_act_131 (by decide) h (fun c71 h => ?_) (fun c71 h => ?_)
                · refine p_iload G 1 rfl dL_act_140 ?_
                  refine p_goto (tgt := 147) G dL_act_142 (by decide) ?_
                  obtain ⟨⟨σ61, v62⟩, hc, h⟩ := bnd_some h
                  rw [un2_mk] at h
                  refine p_callHS (np := 2) (lv' := fun a => [(6, .int (zJ v9)), (5, .int (zJ v7)), (4, .int (zJ v3)), (3, .int (zJ v2)), (0, .ref (a 0)), (1, .ref (tk 1000)), (2, .int (zJ p2))]) (st' := fun a => []) G hR hM zl_101 dL_act_147 gm_1044 gm_1045 gm_26 gm_1046 (by decide +kernel) (c_L_drop (gl Γ) hc) (As := [.ref (ga Γ 0), .int (zJ v7)]) rfl zk_101 (by decide +kernel) (by decide +kernel) (zs_x zs_101 _) rfl (Nat.le_of_ble_eq_true rfl) ⟨rfl, rfl, Nat.le_of_ble_eq_true rfl, Nat.le_of_ble_eq_true rfl⟩ (Nat.le_of_ble_eq_true rfl) (Nat.le_of_ble_eq_true rfl) h (fun a e => by have q0 := e 0 _ rfl rfl; exact ⟨by simp only [q0], by rfl⟩) (fun Γ G hR hM σ63 h => ?_)
                  refine (?_ : PT Γ 7 shX 150 σ63 [(6, .int (zJ v9)), (5, .int (zJ v7)), (4, .int (zJ v3)), (3, .int (zJ v2)), (0, .ref (ga Γ 0)), (1, .ref (tk 1000)), (2, .int (zJ p2))] [.int (zJ v62)])
                  have hcs := mk_cs G hM (Nat.le_of_ble_eq_true rfl) (Nat.le_of_ble_eq_true rfl)
                  refine p_pop G rfl dL_act_150 ?_
                  refine p_goto (tgt := 240) G dL_act_151 (by decide) ?_
                  (cases h; exact p_vretN G hM (Nat.le_of_ble_eq_true rfl) (Nat.le_of_ble_eq_true rfl) hR dL_act_240 rfl rfl)
                · refine p_iload_n G rfl 3 rfl dL_act_134 ?_
                  refine p_iconst G rfl dL_act_135 ?_
                  refine p_iremK G dL_act_136 (by decide) ?_
                  refine p_ifne (tgt := 145) G dL_act_137 (by decide) h (fun c70 h => ?_) (fun c70 h => ?_)
                  · refine p_iload G 0 rfl dL_act_145 ?_
                    obtain ⟨⟨σ64, v65⟩, hc, h⟩ := bnd_some h
                    rw [un2_mk] at h
                    refine p_callHS (np := 2) (lv' := fun a => [(6, .int (zJ v9)), (5, .int (zJ v7)), (4, .int (zJ v3)), (3, .int (zJ v2)), (0, .ref (a 0)), (1, .ref (tk 1000)), (2, .int (zJ p2))]) (st' := fun a => []) G hR hM zl_101 dL_act_147 gm_1044 gm_1045 gm_26 gm_1046 (by decide +kernel) (c_L_drop (gl Γ) hc) (As := [.ref (ga Γ 0), .int (zJ v9)]) rfl zk_101 (by decide +kernel) (by decide +kernel) (zs_x zs_101 _) rfl (Nat.le_of_ble_eq_true rfl) ⟨rfl, rfl, Nat.le_of_ble_eq_true rfl, Nat.le_of_ble_eq_true rfl⟩ (Nat.le_of_ble_eq_true rfl) (Nat.le_of_ble_eq_true rfl) h (fun a e => by have q0 := e 0 _ rfl rfl; exact ⟨by simp only [q0], by rfl⟩) (fun Γ G hR hM σ66 h => ?_)
                    refine (?_ : PT Γ 7 shX 150 σ66 [(6, .int (zJ v9)), (5, .int (zJ v7)), (4, .int (zJ v3)), (3, .int (zJ v2)), (0, .ref (ga Γ 0)), (1, .ref (tk 1000)), (2, .int (zJ p2))] [.int (zJ v65)])
                    have hcs := mk_cs G hM (Nat.le_of_ble_eq_true rfl) (Nat.le_of_ble_eq_true rfl)
                    refine p_pop G rfl dL_act_150 ?_
                    refine p_goto (tgt := 240) G dL_act_151 (by decide) ?_
                    (cases h; exact p_vretN G hM (Nat.le_of_ble_eq_true rfl) (Nat.le_of_ble_eq_true rfl) hR dL_act_240 rfl rfl)
                  · refine p_iload G 1 rfl dL_act_140 ?_
                    refine p_goto (tgt := 147) G dL_act_142 (by decide) ?_
                    obtain ⟨⟨σ67, v68⟩, hc, h⟩ := bnd_some h
                    rw [un2_mk] at h
                    refine p_callHS (np := 2) (lv' := fun a => [(6, .int (zJ v9)), (5, .int (zJ v7)), (4, .int (zJ v3)), (3, .int (zJ v2)), (0, .ref (a 0)), (1, .ref (tk 1000)), (2, .int (zJ p2))]) (st' := fun a => []) G hR hM zl_101 dL_act_147 gm_1044 gm_1045 gm_26 gm_1046 (by decide +kernel) (c_L_drop (gl Γ) hc) (As := [.ref (ga Γ 0), .int (zJ v7)]) rfl zk_101 (by decide +kernel) (by decide +kernel) (zs_x zs_101 _) rfl (Nat.le_of_ble_eq_true rfl) ⟨rfl, rfl, Nat.le_of_ble_eq_true rfl, Nat.le_of_ble_eq_true rfl⟩ (Nat.le_of_ble_eq_true rfl) (Nat.le_of_ble_eq_true rfl) h (fun a e => by have q0 := e 0 _ rfl rfl; exact ⟨by simp only [q0], by rfl⟩) (fun Γ G hR hM σ69 h => ?_)
                    refine (?_ : PT Γ 7 shX 150 σ69 [(6, .int (zJ v9)), (5, .int (zJ v7)), (4, .int (zJ v3)), (3, .int (zJ v2)), (0, .ref (ga Γ 0)), (1, .ref (tk 1000)), (2, .int (zJ p2))] [.int (zJ v68)])
                    have hcs := mk_cs G hM (Nat.le_of_ble_eq_true rfl) (Nat.le_of_ble_eq_true rfl)
                    refine p_pop G rfl dL_act_150 ?_
                    refine p_goto (tgt := 240) G dL_act_151 (by decide) ?_
                    (cases h; exact p_vretN G hM (Nat.le_of_ble_eq_true rfl) (Nat.le_of_ble_eq_true rfl) hR dL_act_240 rfl rfl)
              · refine zite h (fun c7_49 h => ?_) (fun c7_49 h => ?_)
                · refine p_tin (tgt := 154) (off := 105) G dL_act_49 c7_49 (by decide) (by decide) rfl (by decide) ?_
                  refine p_aload_n G rfl 4 rfl dL_act_154 ?_
                  refine p_iload G 1 rfl dL_act_155 ?_
                  obtain ⟨⟨σ72, v73⟩, hc, h⟩ := bnd_some h
                  rw [un2_mk] at h
                  refine p_callHS (np := 2) (lv' := fun a => [(6, .int (zJ v9)), (5, .int (zJ v7)), (4, .int (zJ v3)), (3, .int (zJ v2)), (0, .ref (a 0)), (1, .ref (tk 1000)), (2, .int (zJ p2))]) (st' := fun a => []) G hR hM zl_101 dL_act_157 gm_1044 gm_1045 gm_26 gm_1046 (by decide +kernel) (c_L_drop (gl Γ) hc) (As := [.ref (ga Γ 0), .int (zJ v7)]) rfl zk_101 (by decide +kernel) (by decide +kernel) (zs_x zs_101 _) rfl (Nat.le_of_ble_eq_true rfl) ⟨rfl, rfl, Nat.le_of_ble_eq_true rfl, Nat.le_of_ble_eq_true rfl⟩ (Nat.le_of_ble_eq_true rfl) (Nat.le_of_ble_eq_true rfl) h (fun a e => by have q0 := e 0 _ rfl rfl; exact ⟨by simp only [q0], by rfl⟩) (fun Γ G hR hM σ74 h => ?_)
                  refine (?_ : PT Γ 7 shX 160 σ74 [(6, .int (zJ v9)), (5, .int (zJ v7)), (4, .int (zJ v3)), (3, .int (zJ v2)), (0, .ref (ga Γ 0)), (1, .ref (tk 1000)), (2, .int (zJ p2))] [.int (zJ v73)])
                  have hcs := mk_cs G hM (Nat.le_of_ble_eq_true rfl) (Nat.le_of_ble_eq_true rfl)
                  refine p_pop G rfl dL_act_160 ?_
                  refine p_goto (tgt := 240) G dL_act_161 (by decide) ?_
                  (cases h; exact p_vretN G hM (Nat.le_of_ble_eq_true rfl) (Nat.le_of_ble_eq_true rfl) hR dL_act_240 rfl rfl)
                · refine zite h (fun c8_49 h => ?_) (fun c8_49 h => ?_)
                  · refine p_tin (tgt := 164) (off := 115) G dL_act_49 c8_49 (by decide) (by decide) rfl (by decide) ?_
                    refine p_aload_n G rfl 4 rfl dL_act_164 ?_
                    refine p_iload G 0 rfl dL_act_165 ?_
                    refine p_iconst G rfl dL_act_167 ?_
                    refine p_icmpeq (tgt := 177) G dL_act_168 (by decide) h (fun c85 h => ?_) (fun c85 h => ?_)
                    · refine p_iload G 1 rfl dL_act_177 ?_
                      refine p_goto (tgt := 184) G dL_act_179 (by decide) ?_
                      obtain ⟨⟨σ75, v76⟩, hc, h⟩ := bnd_some h
                      rw [un2_mk] at h
                      refine p_callHS (np := 2) (lv' := fun a => [(6, .int (zJ v9)), (5, .int (zJ v7)), (4, .int (zJ v3)), (3, .int (zJ v2)), (0, .ref (a 0)), (1, .ref (tk 1000)), (2, .int (zJ p2))]) (st' := fun a => []) G hR hM zl_101 dL_act_184 gm_1074 gm_1075 gm_26 gm_1076 (by decide +kernel) (c_L_knock (gl Γ) hc) (As := [.ref (ga Γ 0), .int (zJ v7)]) rfl zk_101 (by decide +kernel) (by decide +kernel) (zs_x zs_101 _) rfl (Nat.le_of_ble_eq_true rfl) ⟨rfl, rfl, Nat.le_of_ble_eq_true rfl, Nat.le_of_ble_eq_true rfl⟩ (Nat.le_of_ble_eq_true rfl) (Nat.le_of_ble_eq_true rfl) h (fun a e => by have q0 := e 0 _ rfl rfl; exact ⟨by simp only [q0], by rfl⟩) (fun Γ G hR hM σ77 h => ?_)
                      refine (?_ : PT Γ 7 shX 187 σ77 [(6, .int (zJ v9)), (5, .int (zJ v7)), (4, .int (zJ v3)), (3, .int (zJ v2)), (0, .ref (ga Γ 0)), (1, .ref (tk 1000)), (2, .int (zJ p2))] [.int (zJ v76)])
                      have hcs := mk_cs G hM (Nat.le_of_ble_eq_true rfl) (Nat.le_of_ble_eq_true rfl)
                      refine p_pop G rfl dL_act_187 ?_
                      refine p_goto (tgt := 240) G dL_act_188 (by decide) ?_
                      (cases h; exact p_vretN G hM (Nat.le_of_ble_eq_true rfl) (Nat.le_of_ble_eq_true rfl) hR dL_act_240 rfl rfl)
                    · refine p_iload_n G rfl 3 rfl dL_act_171 ?_
                      refine p_iconst G rfl dL_act_172 ?_
                      refine p_iremK G dL_act_173 (by decide) ?_
                      refine p_ifne (tgt := 182) G dL_act_174 (by decide) h (fun c84 h => ?_) (fun c84 h => ?_)
                      · refine p_iload G 0 rfl dL_act_182 ?_
                        obtain ⟨⟨σ78, v79⟩, hc, h⟩ := bnd_some h
                        rw [un2_mk] at h
                        refine p_callHS (np := 2) (lv' := fun a => [(6, .int (zJ v9)), (5, .int (zJ v7)), (4, .int (zJ v3)), (3, .int (zJ v2)), (0, .ref (a 0)), (1, .ref (tk 1000)), (2, .int (zJ p2))]) (st' := fun a => []) G hR hM zl_101 dL_act_184 gm_1074 gm_1075 gm_26 gm_1076 (by decide +kernel) (c_L_knock (gl Γ) hc) (As := [.ref (ga Γ 0), .int (zJ v9)]) rfl zk_101 (by decide +kernel) (by decide +kernel) (zs_x zs_101 _) rfl (Nat.le_of_ble_eq_true rfl) ⟨rfl, rfl, Nat.le_of_ble_eq_true rfl, Nat.le_of_ble_eq_true rfl⟩ (Nat.le_of_ble_eq_true rfl) (Nat.le_of_ble_eq_true rfl) h (fun a e => by have q0 := e 0 _ rfl rfl; exact ⟨by simp only [q0], by rfl⟩) (fun Γ G hR hM σ80 h => ?_)
                        refine (?_ : PT Γ 7 shX 187 σ80 [(6, .int (zJ v9)), (5, .int (zJ v7)), (4, .int (zJ v3)), (3, .int (zJ v2)), (0, .ref (ga Γ 0)), (1, .ref (tk 1000)), (2, .int (zJ p2))] [.int (zJ v79)])
                        have hcs := mk_cs G hM (Nat.le_of_ble_eq_true rfl) (Nat.le_of_ble_eq_true rfl)
                        refine p_pop G rfl dL_act_187 ?_
                        refine p_goto (tgt := 240) G dL_act_188 (by decide) ?_
                        (cases h; exact p_vretN G hM (Nat.le_of_ble_eq_true rfl) (Nat.le_of_ble_eq_true rfl) hR dL_act_240 rfl rfl)
                      · refine p_iload G 1 rfl dL_act_177 ?_
                        refine p_goto (tgt := 184) G dL_act_179 (by decide) ?_
                        obtain ⟨⟨σ81, v82⟩, hc, h⟩ := bnd_some h
                        rw [un2_mk] at h
                        refine p_callHS (np := 2) (lv' := fun a => [(6, .int (zJ v9)), (5, .int (zJ v7)), (4, .int (zJ v3)), (3, .int (zJ v2)), (0, .ref (a 0)), (1, .ref (tk 1000)), (2, .int (zJ p2))]) (st' := fun a => []) G hR hM zl_101 dL_act_184 gm_1074 gm_1075 gm_26 gm_1076 (by decide +kernel) (c_L_knock (gl Γ) hc) (As := [.ref (ga Γ 0), .int (zJ v7)]) rfl zk_101 (by decide +kernel) (by decide +kernel) (zs_x zs_101 _) rfl (Nat.le_of_ble_eq_true rfl) ⟨rfl, rfl, Nat.le_of_ble_eq_true rfl, Nat.le_of_ble_eq_true rfl⟩ (Nat.le_of_ble_eq_true rfl) (Nat.le_of_ble_eq_true rfl) h (fun a e => by have q0 := e 0 _ rfl rfl; exact ⟨by simp only [q0], by rfl⟩) (fun Γ G hR hM σ83 h => ?_)
                        refine (?_ : PT Γ 7 shX 187 σ83 [(6, .int (zJ v9)), (5, .int (zJ v7)), (4, .int (zJ v3)), (3, .int (zJ v2)), (0, .ref (ga Γ 0)), (1, .ref (tk 1000)), (2, .int (zJ p2))] [.int (zJ v82)])
                        have hcs := mk_cs G hM (Nat.le_of_ble_eq_true rfl) (Nat.le_of_ble_eq_true rfl)
                        refine p_pop G rfl dL_act_187 ?_
                        refine p_goto (tgt := 240) G dL_act_188 (by decide) ?_
                        (cases h; exact p_vretN G hM (Nat.le_of_ble_eq_true rfl) (Nat.le_of_ble_eq_true rfl) hR dL_act_240 rfl rfl)
                  · refine zite h (fun c9_49 h => ?_) (fun c9_49 h => ?_)
                    · refine p_tin (tgt := 164) (off := 115) G dL_act_49 c9_49 (by decide) (by decide) rfl (by decide) ?_
                      refine p_aload_n G rfl 4 rfl dL_act_164 ?_
                      refine p_iload G 0 rfl dL_act_165 ?_
                      refine p_iconst G rfl dL_act_167 ?_
                      refine p_icmpeq (tgt := 177) G dL_act_168 (by decide) h (fun c96 h => ?_) (fun c96 h => ?_)
                      · refine p_iload G 1 rfl dL_act_177 ?_
                        refine p_goto (tgt := 184) G dL_act_179 (by decide) ?_
                        obtain ⟨⟨σ86, v87⟩, hc, h⟩ := bnd_some h
                        rw [un2_mk] at h
                        refine p_callHS (np := 2) (lv' := fun a => [(6, .int (zJ v9)), (5, .int (zJ v7)), (4, .int (zJ v3)), (3, .int (zJ v2)), (0, .ref (a 0)), (1, .ref (tk 1000)), (2, .int (zJ p2))]) (st' := fun a => []) G hR hM zl_101 dL_act_184 gm_1074 gm_1075 gm_26 gm_1076 (by decide +kernel) (c_L_knock (gl Γ) hc) (As := [.ref (ga Γ 0), .int (zJ v7)]) rfl zk_101 (by decide +kernel) (by decide +kernel) (zs_x zs_101 _) rfl (Nat.le_of_ble_eq_true rfl) ⟨rfl, rfl, Nat.le_of_ble_eq_true rfl, Nat.le_of_ble_eq_true rfl⟩ (Nat.le_of_ble_eq_true rfl) (Nat.le_of_ble_eq_true rfl) h (fun a e => by have q0 := e 0 _ rfl rfl; exact ⟨by simp only [q0], by rfl⟩) (fun Γ G hR hM σ88 h => ?_)
                        refine (?_ : PT Γ 7 shX 187 σ88 [(6, .int (zJ v9)), (5, .int (zJ v7)), (4, .int (zJ v3)), (3, .int (zJ v2)), (0, .ref (ga Γ 0)), (1, .ref (tk 1000)), (2, .int (zJ p2))] [.int (zJ v87)])
                        have hcs := mk_cs G hM (Nat.le_of_ble_eq_true rfl) (Nat.le_of_ble_eq_true rfl)
                        refine p_pop G rfl dL_act_187 ?_
                        refine p_goto (tgt := 240) G dL_act_188 (by decide) ?_
                        (cases h; exact p_vretN G hM (Nat.le_of_ble_eq_true rfl) (Nat.le_of_ble_eq_true rfl) hR dL_act_240 rfl rfl)
                      · refine p_iload_n G rfl 3 rfl dL_act_171 ?_
                        refine p_iconst G rfl dL_act_172 ?_
                        refine p_iremK G dL_act_173 (by decide) ?_
                        refine p_ifne (tgt := 182) G dL_act_174 (by decide) h (fun c95 h => ?_) (fun c95 h => ?_)
                        · refine p_iload G 0 rfl dL_act_182 ?_
                          obtain ⟨⟨σ89, v90⟩, hc, h⟩ := bnd_some h
                          rw [un2_mk] at h
                          refine p_callHS (np := 2) (lv' := fun a => [(6, .int (zJ v9)), (5, .int (zJ v7)), (4, .int (zJ v3)), (3, .int (zJ v2)), (0, .ref (a 0)), (1, .ref (tk 1000)), (2, .int (zJ p2))]) (st' := fun a => []) G hR hM zl_101 dL_act_184 gm_1074 gm_1075 gm_26 gm_1076 (by decide +kernel) (c_L_knock (gl Γ) hc) (As := [.ref (ga Γ 0), .int (zJ v9)]) rfl zk_101 (by decide +kernel) (by decide +kernel) (zs_x zs_101 _) rfl (Nat.le_of_ble_eq_true rfl) ⟨rfl, rfl, Nat.le_of_ble_eq_true rfl, Nat.le_of_ble_eq_true rfl⟩ (Nat.le_of_ble_eq_true rfl) (Nat.le_of_ble_eq_true rfl) h (fun a e => by have q0 := e 0 _ rfl rfl; exact ⟨by simp only [q0], by rfl⟩) (fun Γ G hR hM σ91 h => ?_)
                          refine (?_ : PT Γ 7 shX 187 σ91 [(6, .int (zJ v9)), (5, .int (zJ v7)), (4, .int (zJ v3)), (3, .int (zJ v2)), (0, .ref (ga Γ 0)), (1, .ref (tk 1000)), (2, .int (zJ p2))] [.int (zJ v90)])
                          have hcs := mk_cs G hM (Nat.le_of_ble_eq_true rfl) (Nat.le_of_ble_eq_true rfl)
                          refine p_pop G rfl dL_act_187 ?_
                          refine p_goto (tgt := 240) G dL_act_188 (by decide) ?_
                          (cases h; exact p_vretN G hM (Nat.le_of_ble_eq_true rfl) (Nat.le_of_ble_eq_true rfl) hR dL_act_240 rfl rfl)
                        · refine p_iload G 1 rfl dL_act_177 ?_
                          refine p_goto (tgt := 184) G dL_act_179 (by decide) ?_
                          obtain ⟨⟨σ92, v93⟩, hc, h⟩ := bnd_some h
                          rw [un2_mk] at h
                          refine p_callHS (np := 2) (lv' := fun a => [(6, .int (zJ v9)), (5, .int (zJ v7)), (4, .int (zJ v3)), (3, .int (zJ v2)), (0, .ref (a 0)), (1, .ref (tk 1000)), (2, .int (zJ p2))]) (st' := fun a => []) G hR hM zl_101 dL_act_184 gm_1074 gm_1075 gm_26 gm_1076 (by decide +kernel) (c_L_knock (gl Γ) hc) (As := [.ref (ga Γ 0), .int (zJ v7)]) rfl zk_101 (by decide +kernel) (by decide +kernel) (zs_x zs_101 _) rfl (Nat.le_of_ble_eq_true rfl) ⟨rfl, rfl, Nat.le_of_ble_eq_true rfl, Nat.le_of_ble_eq_true rfl⟩ (Nat.le_of_ble_eq_true rfl) (Nat.le_of_ble_eq_true rfl) h (fun a e => by have q0 := e 0 _ rfl rfl; exact ⟨by simp only [q0], by rfl⟩) (fun Γ G hR hM σ94 h => ?_)
                          refine (?_ : PT Γ 7 shX 187 σ94 [(6, .int (zJ v9)), (5, .int (zJ v7)), (4, .int (zJ v3)), (3, .int (zJ v2)), (0, .ref (ga Γ 0)), (1, .ref (tk 1000)), (2, .int (zJ p2))] [.int (zJ v93)])
                          have hcs := mk_cs G hM (Nat.le_of_ble_eq_true rfl) (Nat.le_of_ble_eq_true rfl)
                          refine p_pop G rfl dL_act_187 ?_
                          refine p_goto (tgt := 240) G dL_act_188 (by decide) ?_
                          (cases h; exact p_vretN G hM (Nat.le_of_ble_eq_true rfl) (Nat.le_of_ble_eq_true rfl) hR dL_act_240 rfl rfl)
                    · refine zite h (fun c10_49 h => ?_) (fun c10_49 h => ?_)
                      · refine p_tin (tgt := 191) (off := 142) G dL_act_49 c10_49 (by decide) (by decide) rfl (by decide) ?_
                        refine p_aload_n G rfl 4 rfl dL_act_191 ?_
                        obtain ⟨⟨σ97, v98⟩, hc, h⟩ := bnd_some h
                        rw [un2_mk] at h
                        refine p_callVN (lv' := fun a => [(6, .int (zJ v9)), (5, .int (zJ v7)), (4, .int (zJ v3)), (3, .int (zJ v2)), (0, .ref (a 0)), (1, .ref (tk 1000)), (2, .int (zJ p2))]) (st' := fun a => []) G hR hM zl_101 dL_act_192 lk_L_123 (c_X6_deal (gl Γ) hc) (As := []) (ci := 8) rfl zk_101 (by decide +kernel) (by decide +kernel) (zs_x zs_101 _) rfl rfl rfl (Nat.le_of_ble_eq_true rfl) ⟨rfl, rfl, Nat.le_of_ble_eq_true rfl, Nat.le_of_ble_eq_true rfl⟩ (Nat.le_of_ble_eq_true rfl) (Nat.le_of_ble_eq_true rfl) h (fun a e => by have q0 := e 0 _ rfl rfl; exact ⟨by simp only [q0], by rfl⟩) (fun Γ G hR hM σ99 h => ?_)
                        refine (?_ : PT Γ 7 shX 195 σ99 [(6, .int (zJ v9)), (5, .int (zJ v7)), (4, .int (zJ v3)), (3, .int (zJ v2)), (0, .ref (ga Γ 0)), (1, .ref (tk 1000)), (2, .int (zJ p2))] [.int (zJ v98)])
                        have hcs := mk_cs G hM (Nat.le_of_ble_eq_true rfl) (Nat.le_of_ble_eq_true rfl)
                        refine p_pop G rfl dL_act_195 ?_
                        refine p_goto (tgt := 240) G dL_act_196 (by decide) ?_
                        (cases h; exact p_vretN G hM (Nat.le_of_ble_eq_true rfl) (Nat.le_of_ble_eq_true rfl) hR dL_act_240 rfl rfl)
                      · refine p_tout (tgt := 199) G dL_act_49 (by omega) (by decide) ?_
                        refine p_aload_n G rfl 4 rfl dL_act_199 ?_
                        refine p_iload_n G rfl 3 rfl dL_act_200 ?_
                        refine p_iconst G rfl dL_act_201 ?_
                        refine p_iremK G dL_act_202 (by decide) ?_
                        refine p_ifne (tgt := 210) G dL_act_203 (by decide) h (fun c114 h => ?_) (fun c114 h => ?_)
                        · refine p_iconst G rfl dL_act_210 ?_
                          refine p_iload_n G rfl 3 rfl dL_act_211 ?_
                          refine p_iconst G rfl dL_act_212 ?_
                          refine p_iremK G dL_act_213 (by decide) ?_
                          refine p_ifne (tgt := 230) G dL_act_214 (by decide) h (fun c106 h => ?_) (fun c106 h => ?_)
                          · refine p_iload_n G rfl 3 rfl dL_act_230 ?_
                            refine p_iconst G rfl dL_act_231 ?_
                            refine p_idivK G dL_act_232 (by decide) ?_
                            refine p_bipush G (by decide) (by decide) dL_act_233 ?_
                            refine p_iremK G dL_act_235 (by decide) ?_
                            obtain ⟨⟨σ100, v101⟩, hc, h⟩ := bnd_some h
                            rw [un2_mk] at h
                            refine p_callHS (np := 3) (lv' := fun a => [(6, .int (zJ v9)), (5, .int (zJ v7)), (4, .int (zJ v3)), (3, .int (zJ v2)), (0, .ref (a 0)), (1, .ref (tk 1000)), (2, .int (zJ p2))]) (st' := fun a => []) G hR hM zl_101 dL_act_236 gm_1092 gm_1093 gm_26 gm_1094 (by decide +kernel) (c_L_set (gl Γ) hc) (As := [.ref (ga Γ 0), .int (zJ (0 : Int)), .int (zJ (zrem (zdiv v2 (4 : Int)) (21 : Int)))]) rfl zk_101 (by decide +kernel) (by decide +kernel) (zs_x zs_101 _) rfl (Nat.le_of_ble_eq_true rfl) ⟨rfl, rfl, Nat.le_of_ble_eq_true rfl, Nat.le_of_ble_eq_true rfl⟩ (Nat.le_of_ble_eq_true rfl) (Nat.le_of_ble_eq_true rfl) h (fun a e => by have q0 := e 0 _ rfl rfl; exact ⟨by simp only [q0], by rfl⟩) (fun Γ G hR hM σ102 h => ?_)
                            refine (?_ : PT Γ 7 shX 239 σ102 [(6, .int (zJ v9)), (5, .int (zJ v7)), (4, .int (zJ v3)), (3, .int (zJ v2)), (0, .ref (ga Γ 0)), (1, .ref (tk 1000)), (2, .int (zJ p2))] [.int (zJ v101)])
                            have hcs := mk_cs G hM (Nat.le_of_ble_eq_true rfl) (Nat.le_of_ble_eq_true rfl)
                            refine p_pop G rfl dL_act_239 ?_
                            (cases h; exact p_vretN G hM (Nat.le_of_ble_eq_true rfl) (Nat.le_of_ble_eq_true rfl) hR dL_act_240 rfl rfl)
                          · refine p_bipush G (by decide) (by decide) dL_act_217 ?_
                            refine p_iload_n G rfl 3 rfl dL_act_219 ?_
                            refine p_iconst G rfl dL_act_220 ?_
                            refine p_idivK G dL_act_221 (by decide) ?_
                            refine p_sipush G (by decide) (by decide) dL_act_222 ?_
                            refine p_iremK G dL_act_225 (by decide) ?_
                            refine p_iadd G dL_act_226 ?_
                            refine p_goto (tgt := 236) G dL_act_227 (by decide) ?_
                            obtain ⟨⟨σ103, v104⟩, hc, h⟩ := bnd_some h
                            rw [un2_mk] at h
                            refine p_callHS (np := 3) (lv' := fun a => [(6, .int (zJ v9)), (5, .int (zJ v7)), (4, .int (zJ v3)), (3, .int (zJ v2)), (0, .ref (a 0)), (1, .ref (tk 1000)), (2, .int (zJ p2))]) (st' := fun a => []) G hR hM zl_101 dL_act_236 gm_1092 gm_1093 gm_26 gm_1094 (by decide +kernel) (c_L_set (gl Γ) hc) (As := [.ref (ga Γ 0), .int (zJ (0 : Int)), .int (zJ ((20 : Int) + (zrem (zdiv v2 (4 : Int)) (481 : Int))))]) rfl zk_101 (by decide +kernel) (by decide +kernel) (zs_x zs_101 _) rfl (Nat.le_of_ble_eq_true rfl) ⟨rfl, rfl, Nat.le_of_ble_eq_true rfl, Nat.le_of_ble_eq_true rfl⟩ (Nat.le_of_ble_eq_true rfl) (Nat.le_of_ble_eq_true rfl) h (fun a e => by have q0 := e 0 _ rfl rfl; exact ⟨by simp only [q0], by rfl⟩) (fun Γ G hR hM σ105 h => ?_)
                            refine (?_ : PT Γ 7 shX 239 σ105 [(6, .int (zJ v9)), (5, .int (zJ v7)), (4, .int (zJ v3)), (3, .int (zJ v2)), (0, .ref (ga Γ 0)), (1, .ref (tk 1000)), (2, .int (zJ p2))] [.int (zJ v104)])
                            have hcs := mk_cs G hM (Nat.le_of_ble_eq_true rfl) (Nat.le_of_ble_eq_true rfl)
                            refine p_pop G rfl dL_act_239 ?_
                            (cases h; exact p_vretN G hM (Nat.le_of_ble_eq_true rfl) (Nat.le_of_ble_eq_true rfl) hR dL_act_240 rfl rfl)
                        · refine p_iconst G rfl dL_act_206 ?_
                          refine p_goto (tgt := 211) G dL_act_207 (by decide) ?_
                          refine p_iload_n G rfl 3 rfl dL_act_211 ?_
                          refine p_iconst G rfl dL_act_212 ?_
                          refine p_iremK G dL_act_213 (by decide) ?_
                          refine p_ifne (tgt := 230) G dL_act_214 (by decide) h (fun c113 h => ?_) (fun c113 h => ?_)
                          · refine p_iload_n G rfl 3 rfl dL_act_230 ?_
                            refine p_iconst G rfl dL_act_231 ?_
                            refine p_idivK G dL_act_232 (by decide) ?_
                            refine p_bipush G (by decide) (by decide) dL_act_233 ?_
                            refine p_iremK G dL_act_235 (by decide) ?_
                            obtain ⟨⟨σ107, v108⟩, hc, h⟩ := bnd_some h
                            rw [un2_mk] at h
                            refine p_callHS (np := 3) (lv' := fun a => [(6, .int (zJ v9)), (5, .int (zJ v7)), (4, .int (zJ v3)), (3, .int (zJ v2)), (0, .ref (a 0)), (1, .ref (tk 1000)), (2, .int (zJ p2))]) (st' := fun a => []) G hR hM zl_101 dL_act_236 gm_1092 gm_1093 gm_26 gm_1094 (by decide +kernel) (c_L_set (gl Γ) hc) (As := [.ref (ga Γ 0), .int (zJ (1 : Int)), .int (zJ (zrem (zdiv v2 (4 : Int)) (21 : Int)))]) rfl zk_101 (by decide +kernel) (by decide +kernel) (zs_x zs_101 _) rfl (Nat.le_of_ble_eq_true rfl) ⟨rfl, rfl, Nat.le_of_ble_eq_true rfl, Nat.le_of_ble_eq_true rfl⟩ (Nat.le_of_ble_eq_true rfl) (Nat.le_of_ble_eq_true rfl) h (fun a e => by have q0 := e 0 _ rfl rfl; exact ⟨by simp only [q0], by rfl⟩) (fun Γ G hR hM σ109 h => ?_)
                            refine (?_ : PT Γ 7 shX 239 σ109 [(6, .int (zJ v9)), (5, .int (zJ v7)), (4, .int (zJ v3)), (3, .int (zJ v2)), (0, .ref (ga Γ 0)), (1, .ref (tk 1000)), (2, .int (zJ p2))] [.int (zJ v108)])
                            have hcs := mk_cs G hM (Nat.le_of_ble_eq_true rfl) (Nat.le_of_ble_eq_true rfl)
                            refine p_pop G rfl dL_act_239 ?_
                            (cases h; exact p_vretN G hM (Nat.le_of_ble_eq_true rfl) (Nat.le_of_ble_eq_true rfl) hR dL_act_240 rfl rfl)
                          · refine p_bipush G (by decide) (by decide) dL_act_217 ?_
                            refine p_iload_n G rfl 3 rfl dL_act_219 ?_
                            refine p_iconst G rfl dL_act_220 ?_
                            refine p_idivK G dL_act_221 (by decide) ?_
                            refine p_sipush G (by decide) (by decide) dL_act_222 ?_
                            refine p_iremK G dL_act_225 (by decide) ?_
                            refine p_iadd G dL_act_226 ?_
                            refine p_goto (tgt := 236) G dL_act_227 (by decide) ?_
                            obtain ⟨⟨σ110, v111⟩, hc, h⟩ := bnd_some h
                            rw [un2_mk] at h
                            refine p_callHS (np := 3) (lv' := fun a => [(6, .int (zJ v9)), (5, .int (zJ v7)), (4, .int (zJ v3)), (3, .int (zJ v2)), (0, .ref (a 0)), (1, .ref (tk 1000)), (2, .int (zJ p2))]) (st' := fun a => []) G hR hM zl_101 dL_act_236 gm_1092 gm_1093 gm_26 gm_1094 (by decide +kernel) (c_L_set (gl Γ) hc) (As := [.ref (ga Γ 0), .int (zJ (1 : Int)), .int (zJ ((20 : Int) + (zrem (zdiv v2 (4 : Int)) (481 : Int))))]) rfl zk_101 (by decide +kernel) (by decide +kernel) (zs_x zs_101 _) rfl (Nat.le_of_ble_eq_true rfl) ⟨rfl, rfl, Nat.le_of_ble_eq_true rfl, Nat.le_of_ble_eq_true rfl⟩ (Nat.le_of_ble_eq_true rfl) (Nat.le_of_ble_eq_true rfl) h (fun a e => by have q0 := e 0 _ rfl rfl; exact ⟨by simp only [q0], by rfl⟩) (fun Γ G hR hM σ112 h => ?_)
                            refine (?_ : PT Γ 7 shX 239 σ112 [(6, .int (zJ v9)), (5, .int (zJ v7)), (4, .int (zJ v3)), (3, .int (zJ v2)), (0, .ref (ga Γ 0)), (1, .ref (tk 1000)), (2, .int (zJ p2))] [.int (zJ v111)])
                            have hcs := mk_cs G hM (Nat.le_of_ble_eq_true rfl) (Nat.le_of_ble_eq_true rfl)
                            refine p_pop G rfl dL_act_239 ?_
                            (cases h; exact p_vretN G hM (Nat.le_of_ble_eq_true rfl) (Nat.le_of_ble_eq_true rfl) hR dL_act_240 rfl rfl)
set_option maxHeartbeats 4000000 in
set_option maxRecDepth 100000 in
theorem c_L_points (l : Launch) {D : va_G} {yy : Nat → ClassId} {tk tv a : Nat → Nat} {σ : Mm} {p0 : Int} {o : Int} (h : x_L_points p0 = some o) : CT l yL_points cL_points 1 (some .int) rm_L_points shN D yy tk tv a σ [.int (zJ p0)] σ (some (.int (zJ o))) := by
  refine ct_of (Ar := fun a tk => [.int (zJ p0)]) (by decide) (Nat.le_of_ble_eq_true rfl) (fun Γ G _ _ hR => ?_)
  have hcs := rt_cs hR
  unfold x_L_points at h
  refine (?_ : PT Γ 1 shN 0 σ [(0, .int (zJ p0))] [])
  refine p_bipush G (by decide) (by decide) dL_points_0 ?_
  refine p_iload_n G rfl 0 rfl dL_points_2 ?_
  refine p_bipush G (by decide) (by decide) dL_points_3 ?_
  refine p_iremK G dL_points_5 (by decide) ?_
  refine p_iconst G rfl dL_points_6 ?_
  refine p_iadd G dL_points_7 ?_
  refine p_zmin G gm_1129 gm_535 gm_41 gm_536 (by decide) (by decide) hcs dL_points_8 ?_
  (cases h; exact p_iret G hR dL_points_11 rfl rfl)
set_option maxHeartbeats 4000000 in
set_option maxRecDepth 100000 in
theorem c_L_isLaid (l : Launch) {D : va_G} {yy : Nat → ClassId} {tk tv a : Nat → Nat} {σ : Mm} {p1 : Int} {o : Mm × Int} (h : x_L_isLaid σ p1 = some o) : CTN l yL_isLaid cL_isLaid 13 (some .boolean) rm_L_isLaid shX shX D yy tk tv a σ [.ref (a 0), .int (zJ p1)] o.1 (some (.int (zJ o.2))) 2 24 := by
  refine ctn_of (Ar := fun a tk => [.ref (a 0), .int (zJ p1)]) (by decide) (Nat.le_of_ble_eq_true rfl) (fun h => by cases h) (fun Γ G _ hM hR => ?_)
  have hcs := mk_cs G hM (Nat.le_of_ble_eq_true rfl) (Nat.le_of_ble_eq_true rfl)
  unfold x_L_isLaid at h
  refine (?_ : PT Γ 13 shX 0 σ [(0, .ref (ga Γ 0)), (1, .int (zJ p1))] [])
  refine p_ext (shg := shIg) G hR hM zx_isLaid (zex_up zx_isLaid) h (fun Γ9 G hR hM hga σ0 h => ?_)
  rw [← hga]
  clear hga hcs
  revert hM hR G
  generalize Γ9 = Γ
  intro G hR hM
  refine (?_ : PT Γ 13 shIg 0 σ0 [(0, .ref (ga Γ 0)), (1, .int (zJ p1))] [])
  have hcs := mk_cs G hM (Nat.le_of_ble_eq_true rfl) (Nat.le_of_ble_eq_true rfl)
  refine p_aload_n G rfl 0 rfl dL_isLaid_0 ?_
  refine p_iload_n G rfl 1 rfl dL_isLaid_1 ?_
  refine p_iconst G rfl dL_isLaid_2 ?_
  obtain ⟨⟨σ1, v2⟩, hc, h⟩ := bnd_some h
  rw [un2_mk] at h
  refine p_callHP G zl_102 dL_isLaid_3 gm_994 gm_995 gm_26 gm_996 (by decide +kernel) (c_L_player (gl Γ) hc) (As := [.ref (ga Γ 0), .int (zJ p1), .int (zJ (0 : Int))]) rfl zk_102 (zs_x zs_102 _) rfl (Nat.le_of_ble_eq_true rfl) ⟨rfl, rfl, Nat.le_of_ble_eq_true rfl, Nat.le_of_ble_eq_true rfl⟩ hcs ?_
  refine p_nm h (fun σ3 h => ?_)
  refine p_istore_nU (lv' := [(2, .int (zJ v2)), (0, .ref (ga Γ 0)), (1, .int (zJ p1))]) G rfl dL_isLaid_6 (by decide) rfl ?_
  refine p_aload_n G rfl 1 rfl dL_isLaid_7 ?_
  refine p_iload_n G rfl 2 rfl dL_isLaid_8 ?_
  refine p_iconst G rfl dL_isLaid_9 ?_
  obtain ⟨⟨σ4, v5⟩, hc, h⟩ := bnd_some h
  rw [un2_mk] at h
  refine p_callHP G zl_102 dL_isLaid_10 gm_994 gm_995 gm_26 gm_996 (by decide +kernel) (c_L_player (gl Γ) hc) (As := [.ref (ga Γ 0), .int (zJ p1), .int (zJ (2 : Int))]) rfl zk_102 (zs_x zs_102 _) rfl (Nat.le_of_ble_eq_true rfl) ⟨rfl, rfl, Nat.le_of_ble_eq_true rfl, Nat.le_of_ble_eq_true rfl⟩ hcs ?_
  refine p_nm h (fun σ6 h => ?_)
  refine p_istore_nU (lv' := [(3, .int (zJ v5)), (2, .int (zJ v2)), (0, .ref (ga Γ 0)), (1, .int (zJ p1))]) G rfl dL_isLaid_13 (by decide) rfl ?_
  refine p_bipush G (by decide) (by decide) dL_isLaid_14 ?_
  refine p_newaSt (ins := .return_) (lv' := fun a => [(4, .ref (a 101)), (3, .int (zJ v5)), (2, .int (zJ v2)), (0, .ref (a 0)), (1, .int (zJ p1))]) (kf := 200) (j := 0) (K := 101) (N := 12) (c1 := 0) (kd := 0) (ir := 4) (ln := 2) G hR hM gm_135 dL_isLaid_16 (fun a H locs mc ms ls hl k => lv_astore G.1 G.2.1 dL_isLaid_18 hl (by decide) rfl k) rfl (by decide +kernel) (by decide +kernel) (by decide +kernel) (fun _ => rfl) (fun _ _ h => h) (fun j2 => by unfold zFk; rw [if_neg (by decide)]; unfold zF; rw [zt_c]; exact congrArg Value.int (show (0 : Int32) = zJ 0 by decide)) (by decide) (by decide) (by decide) (by decide) (Nat.le_of_ble_eq_true rfl) (Nat.le_of_ble_eq_true rfl) h (fun a e => (by have q0 := e 0 (by decide +kernel); simp only [q0]; rfl)) (fun Γ G hR hM σ7 h => ?_)
  refine (?_ : PT Γ 13 shIg 20 σ7 [(4, .ref (ga Γ 101)), (3, .int (zJ v5)), (2, .int (zJ v2)), (0, .ref (ga Γ 0)), (1, .int (zJ p1))] [])
  have hcs := mk_cs G hM (Nat.le_of_ble_eq_true rfl) (Nat.le_of_ble_eq_true rfl)
  refine p_bipush G (by decide) (by decide) dL_isLaid_20 ?_
  refine p_newaSt (ins := .return_) (lv' := fun a => [(5, .ref (a 102)), (4, .ref (a 101)), (3, .int (zJ v5)), (2, .int (zJ v2)), (0, .ref (a 0)), (1, .int (zJ p1))]) (kf := 200) (j := 1) (K := 102) (N := 12) (c1 := 1) (kd := 1) (ir := 5) (ln := 2) G hR hM gm_136 dL_isLaid_22 (fun a H locs mc ms ls hl k => lv_astore G.1 G.2.1 dL_isLaid_24 hl (by decide) rfl k) rfl (by decide +kernel) (by decide +kernel) (by decide +kernel) (fun _ => rfl) (fun _ _ h => h) (fun j2 => by unfold zFk; rw [if_neg (by decide)]; unfold zF; rw [zt_c]; exact congrArg Value.long (show (0 : Int64) = zL 0 by decide)) (by decide) (by decide) (by decide) (by decide) (Nat.le_of_ble_eq_true rfl) (Nat.le_of_ble_eq_true rfl) h (fun a e => (by have q0 := e 0 (by decide +kernel); have q101 := e 101 (by decide +kernel); simp only [q0, q101]; rfl)) (fun Γ G hR hM σ8 h => ?_)
  refine (?_ : PT Γ 13 shIg 26 σ8 [(5, .ref (ga Γ 102)), (4, .ref (ga Γ 101)), (3, .int (zJ v5)), (2, .int (zJ v2)), (0, .ref (ga Γ 0)), (1, .int (zJ p1))] [])
  have hcs := mk_cs G hM (Nat.le_of_ble_eq_true rfl) (Nat.le_of_ble_eq_true rfl)
  refine zift h (fun hf h => ?_)
  refine p_conv (s9 := shI) G [(200, 0), (200, 1)] hR hM zk_103 hf (fun Γ9 G hR hM hga => ?_)
  rw [← hga]
  clear hga hcs
  revert hM hR G
  generalize Γ9 = Γ
  intro G hR hM
  refine (?_ : PT Γ 13 shI 26 σ8 [(5, .ref (ga Γ 102)), (4, .ref (ga Γ 101)), (3, .int (zJ v5)), (2, .int (zJ v2)), (0, .ref (ga Γ 0)), (1, .int (zJ p1))] [])
  have hcs := mk_cs G hM (Nat.le_of_ble_eq_true rfl) (Nat.le_of_ble_eq_true rfl)
  refine p_iconst G rfl dL_isLaid_26 ?_
  refine p_istoreU (lv' := [(6, .int (zJ (0 : Int))), (5, .ref (ga Γ 102)), (4, .ref (ga Γ 101)), (3, .int (zJ v5)), (2, .int (zJ v2)), (0, .ref (ga Γ 0)), (1, .int (zJ p1))]) G dL_isLaid_27 (by decide) rfl ?_
  refine p_iconst G rfl dL_isLaid_29 ?_
  refine p_istoreU (lv' := [(7, .int (zJ (0 : Int))), (6, .int (zJ (0 : Int))), (5, .ref (ga Γ 102)), (4, .ref (ga Γ 101)), (3, .int (zJ v5)), (2, .int (zJ v2)), (0, .ref (ga Γ 0)), (1, .int (zJ p1))]) G dL_isLaid_30 (by decide) rfl ?_
  refine p_iconst G rfl dL_isLaid_32 ?_
  refine p_istoreU (lv' := [(8, .int (zJ (0 : Int))), (7, .int (zJ (0 : Int))), (6, .int (zJ (0 : Int))), (5, .ref (ga Γ 102)), (4, .ref (ga Γ 101)), (3, .int (zJ v5)), (2, .int (zJ v2)), (0, .ref (ga Γ 0)), (1, .int (zJ p1))]) G dL_isLaid_33 (by decide) rfl ?_
  refine p_iconst G rfl dL_isLaid_35 ?_
  refine p_istoreU (lv' := [(9, .int (zJ (-1 : Int))), (8, .int (zJ (0 : Int))), (7, .int (zJ (0 : Int))), (6, .int (zJ (0 : Int))), (5, .ref (ga Γ 102)), (4, .ref (ga Γ 101)), (3, .int (zJ v5)), (2, .int (zJ v2)), (0, .ref (ga Γ 0)), (1, .int (zJ p1))]) G dL_isLaid_36 (by decide) rfl ?_
  refine p_iconst G rfl dL_isLaid_38 ?_
  refine p_istoreU (lv' := [(10, .int (zJ (0 : Int))), (9, .int (zJ (-1 : Int))), (8, .int (zJ (0 : Int))), (7, .int (zJ (0 : Int))), (6, .int (zJ (0 : Int))), (5, .ref (ga Γ 102)), (4, .ref (ga Γ 101)), (3, .int (zJ v5)), (2, .int (zJ v2)), (0, .ref (ga Γ 0)), (1, .int (zJ p1))]) G dL_isLaid_39 (by decide) rfl ?_
  refine p_lv [9, 10, 8, 7, 6, 5, 4, 3, 2, 1, 0] rfl ?_
  obtain ⟨e34, hl41, h⟩ := bnd_some h
  have hX41_73 : ∀ (σ35 : Mm), (.inl σ35) = e34 → PT Γ 13 shI 73 σ35 [] [] := by
    intro σ35 he
    subst he
    rw [zel_l] at h
    refine p_iconst G rfl dL_isLaid_73 ?_
    (cases h; exact p_zretN G hM (Nat.le_of_ble_eq_true rfl) (Nat.le_of_ble_eq_true rfl) hR dL_isLaid_74 (by decide) rfl rfl)
  have hX41_131 : ∀ (σ36 : Mm), (.inr (.inl σ36)) = e34 → PT Γ 13 shI 131 σ36 [] [] := by
    intro σ36 he
    subst he
    rw [zel_r] at h
    rw [zel_l] at h
    refine p_iconst G rfl dL_isLaid_131 ?_
    (cases h; exact p_zretN G hM (Nat.le_of_ble_eq_true rfl) (Nat.le_of_ble_eq_true rfl) hR dL_isLaid_132 (by decide) rfl rfl)
  have hX41_160 : ∀ (σ37 : Mm) (v38 : Int) (v39 : Int) (v40 : Int), (.inr (.inr (σ37, v38, v39, v40))) = e34 → PT Γ 13 shI 160 σ37 [(0, .ref (ga Γ 0)), (1, .int (zJ p1)), (2, .int (zJ v2)), (3, .int (zJ v5)), (4, .ref (ga Γ 101)), (5, .ref (ga Γ 102)), (6, .int (zJ v38)), (7, .int (zJ v39)), (8, .int (zJ v40))] [] := by
    intro σ37 v38 v39 v40 he
    subst he
    rw [zel_r] at h
    rw [zel_r] at h
    rw [un4_mk] at h
    refine p_iconst G rfl dL_isLaid_160 ?_
    refine p_istoreU (lv' := [(10, .int (zJ (0 : Int))), (0, .ref (ga Γ 0)), (1, .int (zJ p1)), (2, .int (zJ v2)), (3, .int (zJ v5)), (4, .ref (ga Γ 101)), (5, .ref (ga Γ 102)), (6, .int (zJ v38)), (7, .int (zJ v39)), (8, .int (zJ v40))]) G dL_isLaid_161 (by decide) rfl ?_
    refine p_iconst G rfl dL_isLaid_163 ?_
    refine p_istoreU (lv' := [(11, .int (zJ (0 : Int))), (10, .int (zJ (0 : Int))), (0, .ref (ga Γ 0)), (1, .int (zJ p1)), (2, .int (zJ v2)), (3, .int (zJ v5)), (4, .ref (ga Γ 101)), (5, .ref (ga Γ 102)), (6, .int (zJ v38)), (7, .int (zJ v39)), (8, .int (zJ v40))]) G dL_isLaid_164 (by decide) rfl ?_
    refine p_lv [2, 3, 4, 5, 6, 7, 8, 9, 10, 1, 0] rfl ?_
    obtain ⟨e62, hl166, h⟩ := bnd_some h
    have hX166_210 : ∀ (σ63 : Mm), (.inl σ63) = e62 → PT Γ 13 shI 210 σ63 [] [] := by
      intro σ63 he
      subst he
      rw [zel_l] at h
      refine p_iconst G rfl dL_isLaid_210 ?_
      (cases h; exact p_zretN G hM (Nat.le_of_ble_eq_true rfl) (Nat.le_of_ble_eq_true rfl) hR dL_isLaid_211 (by decide) rfl rfl)
    have hX166_239 : ∀ (σ64 : Mm) (v65 : Int), (.inr (σ64, v65)) = e62 → PT Γ 13 shI 239 σ64 [(0, .ref (ga Γ 0)), (1, .int (zJ p1)), (2, .int (zJ v2)), (3, .int (zJ v5)), (6, .int (zJ v38)), (7, .int (zJ v39)), (8, .int (zJ v40)), (10, .int (zJ v65))] [] := by
      intro σ64 v65 he
      subst he
      rw [zel_r] at h
      rw [un2_mk] at h
      refine p_iload G 4 rfl dL_isLaid_239 ?_
      refine p_aload_n G rfl 0 rfl dL_isLaid_241 ?_
      refine p_iload_n G rfl 1 rfl dL_isLaid_242 ?_
      refine p_iconst G rfl dL_isLaid_243 ?_
      obtain ⟨⟨σ66, v67⟩, hc, h⟩ := bnd_some h
      rw [un2_mk] at h
      refine p_callHP G zl_104 dL_isLaid_244 gm_994 gm_995 gm_26 gm_996 (by decide +kernel) (c_L_player (gl Γ) hc) (As := [.ref (ga Γ 0), .int (zJ p1), .int (zJ (3 : Int))]) rfl zk_104 (zs_x zs_104 _) rfl (Nat.le_of_ble_eq_true rfl) ⟨rfl, rfl, Nat.le_of_ble_eq_true rfl, Nat.le_of_ble_eq_true rfl⟩ hcs ?_
      refine p_nm h (fun σ68 h => ?_)
      refine p_icmpne (tgt := 322) G dL_isLaid_247 (by decide) h (fun c91 h => ?_) (fun c91 h => ?_)
      · refine p_iconst G rfl dL_isLaid_322 ?_
        (cases h; exact p_zretN G hM (Nat.le_of_ble_eq_true rfl) (Nat.le_of_ble_eq_true rfl) hR dL_isLaid_323 (by decide) rfl rfl)
      · refine p_iload G 5 rfl dL_isLaid_250 ?_
        refine p_aload_n G rfl 0 rfl dL_isLaid_252 ?_
        refine p_iload_n G rfl 1 rfl dL_isLaid_253 ?_
        refine p_iconst G rfl dL_isLaid_254 ?_
        obtain ⟨⟨σ69, v70⟩, hc, h⟩ := bnd_some h
        rw [un2_mk] at h
        refine p_callHP G zl_104 dL_isLaid_255 gm_994 gm_995 gm_26 gm_996 (by decide +kernel) (c_L_player (gl Γ) hc) (As := [.ref (ga Γ 0), .int (zJ p1), .int (zJ (1 : Int))]) rfl zk_104 (zs_x zs_104 _) rfl (Nat.le_of_ble_eq_true rfl) ⟨rfl, rfl, Nat.le_of_ble_eq_true rfl, Nat.le_of_ble_eq_true rfl⟩ hcs ?_
        refine p_nm h (fun σ71 h => ?_)
        refine p_icmpne (tgt := 322) G dL_isLaid_258 (by decide) h (fun c90 h => ?_) (fun c90 h => ?_)
        · refine p_iconst G rfl dL_isLaid_322 ?_
          (cases h; exact p_zretN G hM (Nat.le_of_ble_eq_true rfl) (Nat.le_of_ble_eq_true rfl) hR dL_isLaid_323 (by decide) rfl rfl)
        · refine p_iload G 6 rfl dL_isLaid_261 ?_
          refine p_aload_n G rfl 0 rfl dL_isLaid_263 ?_
          refine p_iload_n G rfl 1 rfl dL_isLaid_264 ?_
          refine p_bipush G (by decide) (by decide) dL_isLaid_265 ?_
          obtain ⟨⟨σ72, v73⟩, hc, h⟩ := bnd_some h
          rw [un2_mk] at h
          refine p_callHP G zl_104 dL_isLaid_267 gm_994 gm_995 gm_26 gm_996 (by decide +kernel) (c_L_player (gl Γ) hc) (As := [.ref (ga Γ 0), .int (zJ p1), .int (zJ (6 : Int))]) rfl zk_104 (zs_x zs_104 _) rfl (Nat.le_of_ble_eq_true rfl) ⟨rfl, rfl, Nat.le_of_ble_eq_true rfl, Nat.le_of_ble_eq_true rfl⟩ hcs ?_
          refine p_nm h (fun σ74 h => ?_)
          refine p_icmpne (tgt := 322) G dL_isLaid_270 (by decide) h (fun c89 h => ?_) (fun c89 h => ?_)
          · refine p_iconst G rfl dL_isLaid_322 ?_
            (cases h; exact p_zretN G hM (Nat.le_of_ble_eq_true rfl) (Nat.le_of_ble_eq_true rfl) hR dL_isLaid_323 (by decide) rfl rfl)
          · refine p_iload G 7 rfl dL_isLaid_273 ?_
            refine p_aload_n G rfl 0 rfl dL_isLaid_275 ?_
            refine p_iload_n G rfl 1 rfl dL_isLaid_276 ?_
            refine p_iconst G rfl dL_isLaid_277 ?_
            obtain ⟨⟨σ75, v76⟩, hc, h⟩ := bnd_some h
            rw [un2_mk] at h
            refine p_callHP G zl_104 dL_isLaid_278 gm_994 gm_995 gm_26 gm_996 (by decide +kernel) (c_L_player (gl Γ) hc) (As := [.ref (ga Γ 0), .int (zJ p1), .int (zJ (4 : Int))]) rfl zk_104 (zs_x zs_104 _) rfl (Nat.le_of_ble_eq_true rfl) ⟨rfl, rfl, Nat.le_of_ble_eq_true rfl, Nat.le_of_ble_eq_true rfl⟩ hcs ?_
            refine p_nm h (fun σ77 h => ?_)
            refine p_icmpne (tgt := 322) G dL_isLaid_281 (by decide) h (fun c88 h => ?_) (fun c88 h => ?_)
            · refine p_iconst G rfl dL_isLaid_322 ?_
              (cases h; exact p_zretN G hM (Nat.le_of_ble_eq_true rfl) (Nat.le_of_ble_eq_true rfl) hR dL_isLaid_323 (by decide) rfl rfl)
            · refine p_iload_n G rfl 3 rfl dL_isLaid_284 ?_
              refine p_iload G 7 rfl dL_isLaid_285 ?_
              refine p_isub G dL_isLaid_287 ?_
              refine p_aload_n G rfl 0 rfl dL_isLaid_288 ?_
              refine p_iload_n G rfl 1 rfl dL_isLaid_289 ?_
              refine p_iconst G rfl dL_isLaid_290 ?_
              obtain ⟨⟨σ78, v79⟩, hc, h⟩ := bnd_some h
              rw [un2_mk] at h
              refine p_callHP G zl_104 dL_isLaid_291 gm_994 gm_995 gm_26 gm_996 (by decide +kernel) (c_L_player (gl Γ) hc) (As := [.ref (ga Γ 0), .int (zJ p1), .int (zJ (5 : Int))]) rfl zk_104 (zs_x zs_104 _) rfl (Nat.le_of_ble_eq_true rfl) ⟨rfl, rfl, Nat.le_of_ble_eq_true rfl, Nat.le_of_ble_eq_true rfl⟩ hcs ?_
              refine p_nm h (fun σ80 h => ?_)
              refine p_icmpne (tgt := 322) G dL_isLaid_294 (by decide) h (fun c87 h => ?_) (fun c87 h => ?_)
              · refine p_iconst G rfl dL_isLaid_322 ?_
                (cases h; exact p_zretN G hM (Nat.le_of_ble_eq_true rfl) (Nat.le_of_ble_eq_true rfl) hR dL_isLaid_323 (by decide) rfl rfl)
              · refine p_aload_n G rfl 0 rfl dL_isLaid_297 ?_
                refine p_iload_n G rfl 1 rfl dL_isLaid_298 ?_
                refine p_iload_n G rfl 2 rfl dL_isLaid_299 ?_
                obtain ⟨v81, hc, h⟩ := bnd_some h
                refine p_callHPr G zl_104 dL_isLaid_300 gm_1021 gm_1022 gm_26 gm_1023 (by decide +kernel) (c_L_card (gl Γ) hc) (As := [.ref (ga Γ 0), .int (zJ p1), .int (zJ v2)]) rfl zk_104 (zs_x zs_104 _) rfl (Nat.le_of_ble_eq_true rfl) ⟨rfl, rfl, Nat.le_of_ble_eq_true rfl, Nat.le_of_ble_eq_true rfl⟩ hcs ?_
                refine p_iconst G rfl dL_isLaid_303 ?_
                refine p_icmpne (tgt := 322) G dL_isLaid_304 (by decide) h (fun c86 h => ?_) (fun c86 h => ?_)
                · refine p_iconst G rfl dL_isLaid_322 ?_
                  (cases h; exact p_zretN G hM (Nat.le_of_ble_eq_true rfl) (Nat.le_of_ble_eq_true rfl) hR dL_isLaid_323 (by decide) rfl rfl)
                · refine p_aload_n G rfl 0 rfl dL_isLaid_307 ?_
                  refine p_iload_n G rfl 1 rfl dL_isLaid_308 ?_
                  refine p_iload_n G rfl 3 rfl dL_isLaid_309 ?_
                  refine p_iconst G rfl dL_isLaid_310 ?_
                  obtain ⟨⟨σ82, v83⟩, hc, h⟩ := bnd_some h
                  rw [un2_mk] at h
                  refine p_callHP G zl_104 dL_isLaid_311 gm_1150 gm_1151 gm_26 gm_1152 (by decide +kernel) (c_L_meld (gl Γ) hc) (As := [.ref (ga Γ 0), .int (zJ p1), .int (zJ v5), .int (zJ (0 : Int))]) rfl zk_104 (zs_x zs_104 _) rfl (Nat.le_of_ble_eq_true rfl) ⟨rfl, rfl, Nat.le_of_ble_eq_true rfl, Nat.le_of_ble_eq_true rfl⟩ hcs ?_
                  refine p_nm h (fun σ84 h => ?_)
                  refine p_iconst G rfl dL_isLaid_314 ?_
                  refine p_icmpne (tgt := 322) G dL_isLaid_315 (by decide) h (fun c85 h => ?_) (fun c85 h => ?_)
                  · refine p_iconst G rfl dL_isLaid_322 ?_
                    (cases h; exact p_zretN G hM (Nat.le_of_ble_eq_true rfl) (Nat.le_of_ble_eq_true rfl) hR dL_isLaid_323 (by decide) rfl rfl)
                  · refine p_iconst G rfl dL_isLaid_318 ?_
                    refine p_goto (tgt := 323) G dL_isLaid_319 (by decide) ?_
                    (cases h; exact p_zretN G hM (Nat.le_of_ble_eq_true rfl) (Nat.le_of_ble_eq_true rfl) hR dL_isLaid_323 (by decide) rfl rfl)
    refine lup_walk (s := (σ37, (0 : Int), (0 : Int))) (At := fun s : Mm × Int × Int => PT Γ 13 shI 166 s.1 [(0, .ref (ga Γ 0)), (1, .int (zJ p1)), (2, .int (zJ v2)), (3, .int (zJ v5)), (4, .ref (ga Γ 101)), (5, .ref (ga Γ 102)), (6, .int (zJ v38)), (7, .int (zJ v39)), (8, .int (zJ v40)), (10, .int (zJ s.2.1)), (11, .int (zJ s.2.2))] []) (fun s r hf hin166 hout166 => ?_) hl166
    obtain ⟨σ166, u10_166, u11_166⟩ := s
    have h : x_L_isLaid_b166 p1 v2 v5 v38 v39 v40 σ166 u10_166 u11_166 = some r := hf
    clear hf
    unfold x_L_isLaid_b166 at h
    refine (?_ : PT Γ 13 shI 166 σ166 [(0, .ref (ga Γ 0)), (1, .int (zJ p1)), (2, .int (zJ v2)), (3, .int (zJ v5)), (4, .ref (ga Γ 101)), (5, .ref (ga Γ 102)), (6, .int (zJ v38)), (7, .int (zJ v39)), (8, .int (zJ v40)), (10, .int (zJ u10_166)), (11, .int (zJ u11_166))] [])
    refine p_iload G 10 rfl dL_isLaid_166 ?_
    refine p_iload_n G rfl 3 rfl dL_isLaid_168 ?_
    refine p_icmpge (tgt := 239) G dL_isLaid_169 (by decide) h (fun c60 h => ?_) (fun c60 h => ?_)
    · refine p_lv [0, 1, 2, 3, 6, 7, 8, 9] rfl ?_
      have he := hout166 _ (Option.some.inj h).symm
      subst he
      exact hX166_239 _ _ rfl
    · refine p_aload_n G rfl 0 rfl dL_isLaid_172 ?_
      refine p_aload G 5 rfl dL_isLaid_173 ?_
      refine p_iload G 10 rfl dL_isLaid_175 ?_
      refine p_lald G dL_isLaid_177 (k := 102) rfl (zt_c _) h (fun c41 h => ?_)
      obtain ⟨v42, hc, h⟩ := bnd_some h
      refine p_callHPr G zl_104 dL_isLaid_178 gm_1141 gm_1142 gm_26 gm_1143 (by decide +kernel) (c_L_kind (gl Γ) hc) (As := [.ref (ga Γ 0), .long (zL (σ166 102 (zix u11_166)))]) rfl zk_104 (zs_x zs_104 _) rfl (Nat.le_of_ble_eq_true rfl) ⟨rfl, rfl, Nat.le_of_ble_eq_true rfl, Nat.le_of_ble_eq_true rfl⟩ hcs ?_
      refine p_aload_n G rfl 0 rfl dL_isLaid_181 ?_
      refine p_iload_n G rfl 1 rfl dL_isLaid_182 ?_
      refine p_iload G 10 rfl dL_isLaid_183 ?_
      refine p_iconst G rfl dL_isLaid_185 ?_
      obtain ⟨⟨σ43, v44⟩, hc, h⟩ := bnd_some h
      rw [un2_mk] at h
      refine p_callHP G zl_104 dL_isLaid_186 gm_1150 gm_1151 gm_26 gm_1152 (by decide +kernel) (c_L_meld (gl Γ) hc) (As := [.ref (ga Γ 0), .int (zJ p1), .int (zJ u11_166), .int (zJ (1 : Int))]) rfl zk_104 (zs_x zs_104 _) rfl (Nat.le_of_ble_eq_true rfl) ⟨rfl, rfl, Nat.le_of_ble_eq_true rfl, Nat.le_of_ble_eq_true rfl⟩ hcs ?_
      refine p_nm h (fun σ45 h => ?_)
      refine p_iconst G rfl dL_isLaid_189 ?_
      refine p_iadd G dL_isLaid_190 ?_
      refine p_icmpne (tgt := 210) G dL_isLaid_191 (by decide) h (fun c59 h => ?_) (fun c59 h => ?_)
      · refine p_lv [] rfl ?_
        have he := hout166 _ (Option.some.inj h).symm
        subst he
        exact hX166_210 _ rfl
      · refine p_aload G 4 rfl dL_isLaid_194 ?_
        refine p_iload G 10 rfl dL_isLaid_196 ?_
        refine p_iald G dL_isLaid_198 (k := 101) rfl (zt_c _) h (fun c46 h => ?_)
        refine p_aload_n G rfl 0 rfl dL_isLaid_199 ?_
        refine p_iload_n G rfl 1 rfl dL_isLaid_200 ?_
        refine p_iload G 10 rfl dL_isLaid_201 ?_
        refine p_iconst G rfl dL_isLaid_203 ?_
        obtain ⟨⟨σ47, v48⟩, hc, h⟩ := bnd_some h
        rw [un2_mk] at h
        refine p_callHP G zl_104 dL_isLaid_204 gm_1150 gm_1151 gm_26 gm_1152 (by decide +kernel) (c_L_meld (gl Γ) hc) (As := [.ref (ga Γ 0), .int (zJ p1), .int (zJ u11_166), .int (zJ (0 : Int))]) rfl zk_104 (zs_x zs_104 _) rfl (Nat.le_of_ble_eq_true rfl) ⟨rfl, rfl, Nat.le_of_ble_eq_true rfl, Nat.le_of_ble_eq_true rfl⟩ hcs ?_
        refine p_nm h (fun σ49 h => ?_)
        refine p_icmpeq (tgt := 212) G dL_isLaid_207 (by decide) h (fun c58 h => ?_) (fun c58 h => ?_)
        · refine p_iload G 9 rfl dL_isLaid_212 ?_
          refine p_aload_n G rfl 0 rfl dL_isLaid_214 ?_
          refine p_iload_n G rfl 1 rfl dL_isLaid_215 ?_
          refine p_iload G 10 rfl dL_isLaid_216 ?_
          refine p_iconst G rfl dL_isLaid_218 ?_
          obtain ⟨⟨σ50, v51⟩, hc, h⟩ := bnd_some h
          rw [un2_mk] at h
          refine p_callHP G zl_104 dL_isLaid_219 gm_1150 gm_1151 gm_26 gm_1152 (by decide +kernel) (c_L_meld (gl Γ) hc) (As := [.ref (ga Γ 0), .int (zJ p1), .int (zJ u11_166), .int (zJ (1 : Int))]) rfl zk_104 (zs_x zs_104 _) rfl (Nat.le_of_ble_eq_true rfl) ⟨rfl, rfl, Nat.le_of_ble_eq_true rfl, Nat.le_of_ble_eq_true rfl⟩ hcs ?_
          refine p_nm h (fun σ52 h => ?_)
          refine p_ifne (tgt := 229) G dL_isLaid_222 (by decide) h (fun c57 h => ?_) (fun c57 h => ?_)
          · refine p_iconst G rfl dL_isLaid_229 ?_
            refine p_iadd G dL_isLaid_230 ?_
            refine p_istore (lv' := fun v53 => [(10, .int (zJ v53)), (0, .ref (ga Γ 0)), (1, .int (zJ p1)), (2, .int (zJ v2)), (3, .int (zJ v5)), (4, .ref (ga Γ 101)), (5, .ref (ga Γ 102)), (6, .int (zJ v38)), (7, .int (zJ v39)), (8, .int (zJ v40)), (11, .int (zJ u11_166))]) G dL_isLaid_231 h (by decide) (fun _ => rfl) (fun v53 h => ?_)
            refine p_iinc (lv' := fun v54 => [(11, .int (zJ v54)), (10, .int (zJ v53)), (0, .ref (ga Γ 0)), (1, .int (zJ p1)), (2, .int (zJ v2)), (3, .int (zJ v5)), (4, .ref (ga Γ 101)), (5, .ref (ga Γ 102)), (6, .int (zJ v38)), (7, .int (zJ v39)), (8, .int (zJ v40))]) G dL_isLaid_233 h 10 rfl (by decide) (fun _ => rfl) (fun v54 h => ?_)
            refine p_goto (tgt := 166) G dL_isLaid_236 (by decide) ?_
            refine p_lv [2, 3, 4, 5, 6, 7, 8, 9, 10, 1, 0] rfl ?_
            exact hin166 _ (Option.some.inj h).symm
          · refine p_iconst G rfl dL_isLaid_225 ?_
            refine p_goto (tgt := 230) G dL_isLaid_226 (by decide) ?_
            refine p_iadd G dL_isLaid_230 ?_
            refine p_istore (lv' := fun v55 => [(10, .int (zJ v55)), (0, .ref (ga Γ 0)), (1, .int (zJ p1)), (2, .int (zJ v2)), (3, .int (zJ v5)), (4, .ref (ga Γ 101)), (5, .ref (ga Γ 102)), (6, .int (zJ v38)), (7, .int (zJ v39)), (8, .int (zJ v40)), (11, .int (zJ u11_166))]) G dL_isLaid_231 h (by decide) (fun _ => rfl) (fun v55 h => ?_)
            refine p_iinc (lv' := fun v56 => [(11, .int (zJ v56)), (10, .int (zJ v55)), (0, .ref (ga Γ 0)), (1, .int (zJ p1)), (2, .int (zJ v2)), (3, .int (zJ v5)), (4, .ref (ga Γ 101)), (5, .ref (ga Γ 102)), (6, .int (zJ v38)), (7, .int (zJ v39)), (8, .int (zJ v40))]) G dL_isLaid_233 h 10 rfl (by decide) (fun _ => rfl) (fun v56 h => ?_)
            refine p_goto (tgt := 166) G dL_isLaid_236 (by decide) ?_
            refine p_lv [2, 3, 4, 5, 6, 7, 8, 9, 10, 1, 0] rfl ?_
            exact hin166 _ (Option.some.inj h).symm
        · refine p_lv [] rfl ?_
          have he := hout166 _ (Option.some.inj h).symm
          subst he
          exact hX166_210 _ rfl
  refine lup_walk (s := (σ8, (0 : Int), (0 : Int), (0 : Int), (-1 : Int), (0 : Int))) (At := fun s : Mm × Int × Int × Int × Int × Int => PT Γ 13 shI 41 s.1 [(0, .ref (ga Γ 0)), (1, .int (zJ p1)), (2, .int (zJ v2)), (3, .int (zJ v5)), (4, .ref (ga Γ 101)), (5, .ref (ga Γ 102)), (6, .int (zJ s.2.1)), (7, .int (zJ s.2.2.1)), (8, .int (zJ s.2.2.2.1)), (9, .int (zJ s.2.2.2.2.1)), (10, .int (zJ s.2.2.2.2.2))] []) (fun s r hf hin41 hout41 => ?_) hl41
  obtain ⟨σ41, u6_41, u7_41, u8_41, u9_41, u10_41⟩ := s
  have h : x_L_isLaid_b41 p1 v2 v5 σ41 u6_41 u7_41 u8_41 u9_41 u10_41 = some r := hf
  clear hf
  unfold x_L_isLaid_b41 at h
  refine (?_ : PT Γ 13 shI 41 σ41 [(0, .ref (ga Γ 0)), (1, .int (zJ p1)), (2, .int (zJ v2)), (3, .int (zJ v5)), (4, .ref (ga Γ 101)), (5, .ref (ga Γ 102)), (6, .int (zJ u6_41)), (7, .int (zJ u7_41)), (8, .int (zJ u8_41)), (9, .int (zJ u9_41)), (10, .int (zJ u10_41))] [])
  refine p_iload G 10 rfl dL_isLaid_41 ?_
  refine p_iload_n G rfl 2 rfl dL_isLaid_43 ?_
  refine p_icmpge (tgt := 160) G dL_isLaid_44 (by decide) h (fun c32 h => ?_) (fun c32 h => ?_)
  · refine p_lv [0, 1, 2, 3, 4, 5, 6, 7, 8] rfl ?_
    have he := hout41 _ (Option.some.inj h).symm
    subst he
    exact hX41_160 _ _ _ _ rfl
  · refine p_aload_n G rfl 0 rfl dL_isLaid_47 ?_
    refine p_iload_n G rfl 1 rfl dL_isLaid_48 ?_
    refine p_iload G 10 rfl dL_isLaid_49 ?_
    obtain ⟨v9, hc, h⟩ := bnd_some h
    refine p_callHPr G zl_104 dL_isLaid_51 gm_1021 gm_1022 gm_26 gm_1023 (by decide +kernel) (c_L_card (gl Γ) hc) (As := [.ref (ga Γ 0), .int (zJ p1), .int (zJ u10_41)]) rfl zk_104 (zs_x zs_104 _) rfl (Nat.le_of_ble_eq_true rfl) ⟨rfl, rfl, Nat.le_of_ble_eq_true rfl, Nat.le_of_ble_eq_true rfl⟩ hcs ?_
    refine p_istoreU (lv' := [(11, .int (zJ v9)), (0, .ref (ga Γ 0)), (1, .int (zJ p1)), (2, .int (zJ v2)), (3, .int (zJ v5)), (4, .ref (ga Γ 101)), (5, .ref (ga Γ 102)), (6, .int (zJ u6_41)), (7, .int (zJ u7_41)), (8, .int (zJ u8_41)), (9, .int (zJ u9_41)), (10, .int (zJ u10_41))]) G dL_isLaid_54 (by decide) rfl ?_
    refine p_iload G 0 rfl dL_isLaid_56 ?_
    refine p_iload G 10 rfl dL_isLaid_58 ?_
    refine p_icmple (tgt := 73) G dL_isLaid_60 (by decide) h (fun c31 h => ?_) (fun c31 h => ?_)
    · refine p_lv [] rfl ?_
      have he := hout41 _ (Option.some.inj h).symm
      subst he
      exact hX41_73 _ rfl
    · refine p_aload_n G rfl 1 rfl dL_isLaid_63 ?_
      refine p_iload G 0 rfl dL_isLaid_64 ?_
      obtain ⟨v10, hc, h⟩ := bnd_some h
      refine p_callHPr G zl_104 dL_isLaid_66 gm_1111 gm_1112 gm_26 gm_1113 (by decide +kernel) (c_L_where (gl Γ) hc) (As := [.ref (ga Γ 0), .int (zJ v9)]) rfl zk_104 (zs_x zs_104 _) rfl (Nat.le_of_ble_eq_true rfl) ⟨rfl, rfl, Nat.le_of_ble_eq_true rfl, Nat.le_of_ble_eq_true rfl⟩ hcs ?_
      refine p_iload_n G rfl 2 rfl dL_isLaid_69 ?_
      refine p_icmpeq (tgt := 75) G dL_isLaid_70 (by decide) h (fun c30 h => ?_) (fun c30 h => ?_)
      · refine p_iload G 0 rfl dL_isLaid_75 ?_
        refine p_istoreU (lv' := [(9, .int (zJ v9)), (11, .int (zJ v9)), (0, .ref (ga Γ 0)), (1, .int (zJ p1)), (2, .int (zJ v2)), (3, .int (zJ v5)), (4, .ref (ga Γ 101)), (5, .ref (ga Γ 102)), (6, .int (zJ u6_41)), (7, .int (zJ u7_41)), (8, .int (zJ u8_41)), (10, .int (zJ u10_41))]) G dL_isLaid_77 (by decide) rfl ?_
        refine p_iload G 10 rfl dL_isLaid_79 ?_
        refine p_iload G 1 rfl dL_isLaid_81 ?_
        obtain ⟨v11, hc, h⟩ := bnd_some h
        refine p_callS0 G dL_isLaid_83 lk_L_134 (c_L_points (gl Γ) hc) (As := [.int (zJ v9)]) rfl zk_105 rfl (Nat.le_of_ble_eq_true rfl) ⟨rfl, rfl, Nat.le_of_ble_eq_true rfl, Nat.le_of_ble_eq_true rfl⟩ hcs ?_
        refine p_iadd G dL_isLaid_86 ?_
        refine p_istore (lv' := fun v12 => [(8, .int (zJ v12)), (9, .int (zJ v9)), (11, .int (zJ v9)), (0, .ref (ga Γ 0)), (1, .int (zJ p1)), (2, .int (zJ v2)), (3, .int (zJ v5)), (4, .ref (ga Γ 101)), (5, .ref (ga Γ 102)), (6, .int (zJ u6_41)), (7, .int (zJ u7_41)), (10, .int (zJ u10_41))]) G dL_isLaid_87 h (by decide) (fun _ => rfl) (fun v12 h => ?_)
        refine p_aload_n G rfl 3 rfl dL_isLaid_89 ?_
        refine p_iload_n G rfl 4 rfl dL_isLaid_90 ?_
        refine p_iload G 2 rfl dL_isLaid_91 ?_
        obtain ⟨⟨σ13, v14⟩, hc, h⟩ := bnd_some h
        rw [un2_mk] at h
        refine p_callHP G zl_104 dL_isLaid_93 gm_1130 gm_1131 gm_26 gm_1132 (by decide +kernel) (c_L_meldOf (gl Γ) hc) (As := [.ref (ga Γ 0), .int (zJ p1), .int (zJ v9)]) rfl zk_104 (zs_x zs_104 _) rfl (Nat.le_of_ble_eq_true rfl) ⟨rfl, rfl, Nat.le_of_ble_eq_true rfl, Nat.le_of_ble_eq_true rfl⟩ hcs ?_
        refine p_nm h (fun σ15 h => ?_)
        refine p_istoreU (lv' := [(12, .int (zJ v14)), (8, .int (zJ v12)), (9, .int (zJ v9)), (11, .int (zJ v9)), (0, .ref (ga Γ 0)), (1, .int (zJ p1)), (2, .int (zJ v2)), (3, .int (zJ v5)), (4, .ref (ga Γ 101)), (5, .ref (ga Γ 102)), (6, .int (zJ u6_41)), (7, .int (zJ u7_41)), (10, .int (zJ u10_41))]) G dL_isLaid_96 (by decide) rfl ?_
        refine p_iload G 0 rfl dL_isLaid_98 ?_
        refine p_iconst G rfl dL_isLaid_100 ?_
        refine p_icmpne (tgt := 120) G dL_isLaid_101 (by decide) h (fun c29 h => ?_) (fun c29 h => ?_)
        · refine p_iload G 0 rfl dL_isLaid_120 ?_
          refine p_iflt (tgt := 131) G dL_isLaid_122 (by decide) h (fun c24 h => ?_) (fun c24 h => ?_)
          · refine p_lv [] rfl ?_
            have he := hout41 _ (Option.some.inj h).symm
            subst he
            exact hX41_131 _ rfl
          · refine p_iload G 0 rfl dL_isLaid_125 ?_
            refine p_iload_n G rfl 7 rfl dL_isLaid_127 ?_
            refine p_icmplt (tgt := 133) G dL_isLaid_128 (by decide) h (fun c23 h => ?_) (fun c23 h => ?_)
            · refine p_aload G 8 rfl dL_isLaid_133 ?_
              refine p_iload G 0 rfl dL_isLaid_135 ?_
              refine p_dup2 G rfl rfl dL_isLaid_137 ?_
              refine p_iald G dL_isLaid_138 (k := 101) rfl (zt_c _) h (fun c16 h => ?_)
              refine p_iconst G rfl dL_isLaid_139 ?_
              refine p_iadd G dL_isLaid_140 ?_
              refine p_iast G dL_isLaid_141 (k := 101) rfl (zt_c _) rfl h (fun σ17 c18 h => ?_)
              refine p_aload G 9 rfl dL_isLaid_142 ?_
              refine p_iload G 0 rfl dL_isLaid_144 ?_
              refine p_dup2 G rfl rfl dL_isLaid_146 ?_
              refine p_lald G dL_isLaid_147 (k := 102) rfl (zt_c _) h (fun c19 h => ?_)
              refine p_lconst G (v := 1) (by decide) dL_isLaid_148 ?_
              refine p_iload G 3 rfl dL_isLaid_149 ?_
              refine p_lshl G dL_isLaid_151 ?_
              refine p_lor G dL_isLaid_152 ?_
              refine p_last G dL_isLaid_153 (k := 102) rfl (zt_c _) rfl h (fun σ20 c21 h => ?_)
              refine p_iinc (lv' := fun v22 => [(10, .int (zJ v22)), (12, .int (zJ v14)), (8, .int (zJ v12)), (9, .int (zJ v9)), (11, .int (zJ v9)), (0, .ref (ga Γ 0)), (1, .int (zJ p1)), (2, .int (zJ v2)), (3, .int (zJ v5)), (4, .ref (ga Γ 101)), (5, .ref (ga Γ 102)), (6, .int (zJ u6_41)), (7, .int (zJ u7_41))]) G dL_isLaid_154 h 12 rfl (by decide) (fun _ => rfl) (fun v22 h => ?_)
              refine p_goto (tgt := 41) G dL_isLaid_157 (by decide) ?_
              refine p_lv [5, 6, 7, 8, 9, 10, 11, 12, 2, 3, 0] rfl ?_
              exact hin41 _ (Option.some.inj h).symm
            · refine p_lv [] rfl ?_
              have he := hout41 _ (Option.some.inj h).symm
              subst he
              exact hX41_131 _ rfl
        · refine p_iinc (lv' := fun v25 => [(6, .int (zJ v25)), (12, .int (zJ v14)), (8, .int (zJ v12)), (9, .int (zJ v9)), (11, .int (zJ v9)), (0, .ref (ga Γ 0)), (1, .int (zJ p1)), (2, .int (zJ v2)), (3, .int (zJ v5)), (4, .ref (ga Γ 101)), (5, .ref (ga Γ 102)), (7, .int (zJ u7_41)), (10, .int (zJ u10_41))]) G dL_isLaid_104 h 10 rfl (by decide) (fun _ => rfl) (fun v25 h => ?_)
          refine p_iload G 11 rfl dL_isLaid_107 ?_
          refine p_iload G 4 rfl dL_isLaid_109 ?_
          obtain ⟨v26, hc, h⟩ := bnd_some h
          refine p_callS0 G dL_isLaid_111 lk_L_134 (c_L_points (gl Γ) hc) (As := [.int (zJ v9)]) rfl zk_105 rfl (Nat.le_of_ble_eq_true rfl) ⟨rfl, rfl, Nat.le_of_ble_eq_true rfl, Nat.le_of_ble_eq_true rfl⟩ hcs ?_
          refine p_iadd G dL_isLaid_114 ?_
          refine p_istore (lv' := fun v27 => [(7, .int (zJ v27)), (6, .int (zJ v25)), (12, .int (zJ v14)), (8, .int (zJ v12)), (9, .int (zJ v9)), (11, .int (zJ v9)), (0, .ref (ga Γ 0)), (1, .int (zJ p1)), (2, .int (zJ v2)), (3, .int (zJ v5)), (4, .ref (ga Γ 101)), (5, .ref (ga Γ 102)), (10, .int (zJ u10_41))]) G dL_isLaid_115 h (by decide) (fun _ => rfl) (fun v27 h => ?_)
          refine p_goto (tgt := 154) G dL_isLaid_117 (by decide) ?_
          refine p_iinc (lv' := fun v28 => [(10, .int (zJ v28)), (7, .int (zJ v27)), (6, .int (zJ v25)), (12, .int (zJ v14)), (8, .int (zJ v12)), (9, .int (zJ v9)), (11, .int (zJ v9)), (0, .ref (ga Γ 0)), (1, .int (zJ p1)), (2, .int (zJ v2)), (3, .int (zJ v5)), (4, .ref (ga Γ 101)), (5, .ref (ga Γ 102))]) G dL_isLaid_154 h 12 rfl (by decide) (fun _ => rfl) (fun v28 h => ?_)
          refine p_goto (tgt := 41) G dL_isLaid_157 (by decide) ?_
          refine p_lv [7, 8, 9, 10, 11, 12, 2, 1, 4, 5, 0] rfl ?_
          exact hin41 _ (Option.some.inj h).symm
      · refine p_lv [] rfl ?_
        have he := hout41 _ (Option.some.inj h).symm
        subst he
        exact hX41_73 _ rfl
set_option maxHeartbeats 4000000 in
set_option maxRecDepth 100000 in
theorem c_L_isSound (l : Launch) {D : va_G} {yy : Nat → ClassId} {tk tv a : Nat → Nat} {σ : Mm} {o : Mm × Int} (h : x_L_isSound σ = some o) : CTN l yL_isSound cL_isSound 4 (some .boolean) rm_L_isSound shX shX D yy tk tv a σ [.ref (a 0)] o.1 (some (.int (zJ o.2))) 5 52 := by
  refine ctn_of (Ar := fun a tk => [.ref (a 0)]) (by decide) (Nat.le_of_ble_eq_true rfl) (fun h => by cases h) (fun Γ G _ hM hR => ?_)
  have hcs := mk_cs G hM (Nat.le_of_ble_eq_true rfl) (Nat.le_of_ble_eq_true rfl)
  unfold x_L_isSound at h
  refine (?_ : PT Γ 4 shX 0 σ [(0, .ref (ga Γ 0))] [])
  refine p_ext (shg := shSg) G hR hM zx_isSound (zex_up zx_isSound) h (fun Γ9 G hR hM hga σ0 h => ?_)
  rw [← hga]
  clear hga hcs
  revert hM hR G
  generalize Γ9 = Γ
  intro G hR hM
  refine (?_ : PT Γ 4 shSg 0 σ0 [(0, .ref (ga Γ 0))] [])
  have hcs := mk_cs G hM (Nat.le_of_ble_eq_true rfl) (Nat.le_of_ble_eq_true rfl)
  refine p_aload_n G rfl 0 rfl dL_isSound_0 ?_
  obtain ⟨⟨σ1, v2⟩, hc, h⟩ := bnd_some h
  rw [un2_mk] at h
  refine p_callV G zl_106 dL_isSound_1 lk_L_145 (c_X6_gap (gl Γ) hc) (As := []) (ci := 8) rfl zk_106 (zs_x zs_106 _) rfl rfl rfl (Nat.le_of_ble_eq_true rfl) ⟨rfl, rfl, Nat.le_of_ble_eq_true rfl, Nat.le_of_ble_eq_true rfl⟩ hcs ?_
  refine p_nm h (fun σ3 h => ?_)
  refine p_ifeq (tgt := 9) G dL_isSound_4 (by decide) h (fun c55 h => ?_) (fun c55 h => ?_)
  · refine p_iconst G rfl dL_isSound_9 ?_
    refine p_newaSt (ins := .return_) (lv' := fun a => [(1, .ref (a 101)), (0, .ref (a 0))]) (kf := 200) (j := 0) (K := 101) (N := 4) (c1 := 0) (kd := 0) (ir := 1) (ln := 1) G hR hM gm_135 dL_isSound_10 (fun a H locs mc ms ls hl k => lv_astore_n G.1 G.2.1 dL_isSound_12 rfl hl (by decide) rfl k) rfl (by decide +kernel) (by decide +kernel) (by decide +kernel) (fun _ => rfl) (fun _ _ h => h) (fun j2 => by unfold zFk; rw [if_neg (by decide)]; unfold zF; rw [zt_c]; exact congrArg Value.int (show (0 : Int32) = zJ 0 by decide)) (by decide) (by decide) (by decide) (by decide) (Nat.le_of_ble_eq_true rfl) (Nat.le_of_ble_eq_true rfl) h (fun a e => (by have q0 := e 0 (by decide +kernel); simp only [q0]; rfl)) (fun Γ G hR hM σ4 h => ?_)
    refine (?_ : PT Γ 4 shSg 13 σ4 [(1, .ref (ga Γ 101)), (0, .ref (ga Γ 0))] [])
    have hcs := mk_cs G hM (Nat.le_of_ble_eq_true rfl) (Nat.le_of_ble_eq_true rfl)
    refine zift h (fun hf h => ?_)
    refine p_conv (s9 := shS) G [(200, 0)] hR hM zk_107 hf (fun Γ9 G hR hM hga => ?_)
    rw [← hga]
    clear hga hcs
    revert hM hR G
    generalize Γ9 = Γ
    intro G hR hM
    refine (?_ : PT Γ 4 shS 13 σ4 [(1, .ref (ga Γ 101)), (0, .ref (ga Γ 0))] [])
    have hcs := mk_cs G hM (Nat.le_of_ble_eq_true rfl) (Nat.le_of_ble_eq_true rfl)
    refine p_iconst G rfl dL_isSound_13 ?_
    refine p_istore_nU (lv' := [(2, .int (zJ (0 : Int))), (1, .ref (ga Γ 101)), (0, .ref (ga Γ 0))]) G rfl dL_isSound_14 (by decide) rfl ?_
    refine p_lv [2, 1, 0] rfl ?_
    obtain ⟨e12, hl15, h⟩ := bnd_some h
    have hX15_38 : ∀ (σ13 : Mm), σ13 = e12 → PT Γ 4 shS 38 σ13 [(0, .ref (ga Γ 0)), (1, .ref (ga Γ 101))] [] := by
      intro σ13 he
      subst he
      refine p_aload_n G rfl 0 rfl dL_isSound_38 ?_
      refine p_iconst G rfl dL_isSound_39 ?_
      obtain ⟨v14, hc, h⟩ := bnd_some h
      refine p_callHPr G zl_108 dL_isSound_40 gm_970 gm_971 gm_26 gm_972 (by decide +kernel) (c_L_match (gl Γ) hc) (As := [.ref (ga Γ 0), .int (zJ (0 : Int))]) rfl zk_108 (zs_x zs_108 _) rfl (Nat.le_of_ble_eq_true rfl) ⟨rfl, rfl, Nat.le_of_ble_eq_true rfl, Nat.le_of_ble_eq_true rfl⟩ hcs ?_
      refine p_istore_nU (lv' := [(2, .int (zJ v14)), (0, .ref (ga Γ 0)), (1, .ref (ga Γ 101))]) G rfl dL_isSound_43 (by decide) rfl ?_
      refine p_aload_n G rfl 1 rfl dL_isSound_44 ?_
      refine p_iconst G rfl dL_isSound_45 ?_
      obtain ⟨v15, hc, h⟩ := bnd_some h
      refine p_callHPr G zl_108 dL_isSound_46 gm_970 gm_971 gm_26 gm_972 (by decide +kernel) (c_L_match (gl Γ) hc) (As := [.ref (ga Γ 0), .int (zJ (4 : Int))]) rfl zk_108 (zs_x zs_108 _) rfl (Nat.le_of_ble_eq_true rfl) ⟨rfl, rfl, Nat.le_of_ble_eq_true rfl, Nat.le_of_ble_eq_true rfl⟩ hcs ?_
      refine p_istore_nU (lv' := [(3, .int (zJ v15)), (2, .int (zJ v14)), (0, .ref (ga Γ 0)), (1, .ref (ga Γ 101))]) G rfl dL_isSound_49 (by decide) rfl ?_
      refine p_aload_n G rfl 3 rfl dL_isSound_50 ?_
      refine p_iconst G rfl dL_isSound_51 ?_
      refine p_iald G dL_isSound_52 (k := 101) rfl (zt_c _) h (fun c16 h => ?_)
      refine p_aload_n G rfl 2 rfl dL_isSound_53 ?_
      refine p_iconst G rfl dL_isSound_54 ?_
      refine p_iconst G rfl dL_isSound_55 ?_
      obtain ⟨⟨σ17, v18⟩, hc, h⟩ := bnd_some h
      rw [un2_mk] at h
      refine p_callHP G zl_108 dL_isSound_56 gm_994 gm_995 gm_26 gm_996 (by decide +kernel) (c_L_player (gl Γ) hc) (As := [.ref (ga Γ 0), .int (zJ (0 : Int)), .int (zJ (0 : Int))]) rfl zk_108 (zs_x zs_108 _) rfl (Nat.le_of_ble_eq_true rfl) ⟨rfl, rfl, Nat.le_of_ble_eq_true rfl, Nat.le_of_ble_eq_true rfl⟩ hcs ?_
      refine p_nm h (fun σ19 h => ?_)
      refine p_icmpne (tgt := 98) G dL_isSound_59 (by decide) h (fun c54 h => ?_) (fun c54 h => ?_)
      · refine p_iconst G rfl dL_isSound_98 ?_
        (cases h; exact p_zretN G hM (Nat.le_of_ble_eq_true rfl) (Nat.le_of_ble_eq_true rfl) hR dL_isSound_99 (by decide) rfl rfl)
      · refine p_aload_n G rfl 3 rfl dL_isSound_62 ?_
        refine p_iconst G rfl dL_isSound_63 ?_
        refine p_iald G dL_isSound_64 (k := 101) rfl (zt_c _) h (fun c20 h => ?_)
        refine p_aload_n G rfl 2 rfl dL_isSound_65 ?_
        refine p_iconst G rfl dL_isSound_66 ?_
        refine p_iconst G rfl dL_isSound_67 ?_
        obtain ⟨⟨σ21, v22⟩, hc, h⟩ := bnd_some h
        rw [un2_mk] at h
        refine p_callHP G zl_108 dL_isSound_68 gm_994 gm_995 gm_26 gm_996 (by decide +kernel) (c_L_player (gl Γ) hc) (As := [.ref (ga Γ 0), .int (zJ (1 : Int)), .int (zJ (0 : Int))]) rfl zk_108 (zs_x zs_108 _) rfl (Nat.le_of_ble_eq_true rfl) ⟨rfl, rfl, Nat.le_of_ble_eq_true rfl, Nat.le_of_ble_eq_true rfl⟩ hcs ?_
        refine p_nm h (fun σ23 h => ?_)
        refine p_icmpne (tgt := 98) G dL_isSound_71 (by decide) h (fun c53 h => ?_) (fun c53 h => ?_)
        · refine p_iconst G rfl dL_isSound_98 ?_
          (cases h; exact p_zretN G hM (Nat.le_of_ble_eq_true rfl) (Nat.le_of_ble_eq_true rfl) hR dL_isSound_99 (by decide) rfl rfl)
        · refine p_aload_n G rfl 3 rfl dL_isSound_74 ?_
          refine p_iconst G rfl dL_isSound_75 ?_
          refine p_iald G dL_isSound_76 (k := 101) rfl (zt_c _) h (fun c24 h => ?_)
          refine p_aload_n G rfl 2 rfl dL_isSound_77 ?_
          refine p_bipush G (by decide) (by decide) dL_isSound_78 ?_
          obtain ⟨v25, hc, h⟩ := bnd_some h
          refine p_callHPr G zl_108 dL_isSound_80 gm_970 gm_971 gm_26 gm_972 (by decide +kernel) (c_L_match (gl Γ) hc) (As := [.ref (ga Γ 0), .int (zJ (9 : Int))]) rfl zk_108 (zs_x zs_108 _) rfl (Nat.le_of_ble_eq_true rfl) ⟨rfl, rfl, Nat.le_of_ble_eq_true rfl, Nat.le_of_ble_eq_true rfl⟩ hcs ?_
          refine p_icmpne (tgt := 98) G dL_isSound_83 (by decide) h (fun c52 h => ?_) (fun c52 h => ?_)
          · refine p_iconst G rfl dL_isSound_98 ?_
            (cases h; exact p_zretN G hM (Nat.le_of_ble_eq_true rfl) (Nat.le_of_ble_eq_true rfl) hR dL_isSound_99 (by decide) rfl rfl)
          · refine p_aload_n G rfl 3 rfl dL_isSound_86 ?_
            refine p_iconst G rfl dL_isSound_87 ?_
            refine p_iald G dL_isSound_88 (k := 101) rfl (zt_c _) h (fun c26 h => ?_)
            refine p_aload_n G rfl 2 rfl dL_isSound_89 ?_
            refine p_bipush G (by decide) (by decide) dL_isSound_90 ?_
            obtain ⟨v27, hc, h⟩ := bnd_some h
            refine p_callHPr G zl_108 dL_isSound_92 gm_970 gm_971 gm_26 gm_972 (by decide +kernel) (c_L_match (gl Γ) hc) (As := [.ref (ga Γ 0), .int (zJ (8 : Int))]) rfl zk_108 (zs_x zs_108 _) rfl (Nat.le_of_ble_eq_true rfl) ⟨rfl, rfl, Nat.le_of_ble_eq_true rfl, Nat.le_of_ble_eq_true rfl⟩ hcs ?_
            refine p_icmpeq (tgt := 100) G dL_isSound_95 (by decide) h (fun c51 h => ?_) (fun c51 h => ?_)
            · refine p_aload_n G rfl 3 rfl dL_isSound_100 ?_
              refine p_iconst G rfl dL_isSound_101 ?_
              refine p_iload_n G rfl 0 rfl dL_isSound_102 ?_
              refine p_isub G dL_isSound_103 ?_
              refine p_iald G dL_isSound_104 (k := 101) rfl (zt_c _) h (fun c28 h => ?_)
              refine p_iload_n G rfl 1 rfl dL_isSound_105 ?_
              refine p_icmpne (tgt := 131) G dL_isSound_106 (by decide) h (fun c50 h => ?_) (fun c50 h => ?_)
              · refine p_iconst G rfl dL_isSound_131 ?_
                (cases h; exact p_zretN G hM (Nat.le_of_ble_eq_true rfl) (Nat.le_of_ble_eq_true rfl) hR dL_isSound_132 (by decide) rfl rfl)
              · refine p_aload_n G rfl 2 rfl dL_isSound_109 ?_
                refine p_bipush G (by decide) (by decide) dL_isSound_110 ?_
                obtain ⟨v29, hc, h⟩ := bnd_some h
                refine p_callHPr G zl_108 dL_isSound_112 gm_970 gm_971 gm_26 gm_972 (by decide +kernel) (c_L_match (gl Γ) hc) (As := [.ref (ga Γ 0), .int (zJ (6 : Int))]) rfl zk_108 (zs_x zs_108 _) rfl (Nat.le_of_ble_eq_true rfl) ⟨rfl, rfl, Nat.le_of_ble_eq_true rfl, Nat.le_of_ble_eq_true rfl⟩ hcs ?_
                refine p_ifne (tgt := 133) G dL_isSound_115 (by decide) h (fun c49 h => ?_) (fun c49 h => ?_)
                · refine p_aload_n G rfl 2 rfl dL_isSound_133 ?_
                  refine p_iconst G rfl dL_isSound_134 ?_
                  obtain ⟨⟨σ30, v31⟩, hc, h⟩ := bnd_some h
                  rw [un2_mk] at h
                  refine p_callSN (lv' := fun a => [(3, .int (zJ v15)), (2, .int (zJ v14)), (0, .ref (a 0)), (1, .ref (a 101))]) (st' := fun a => []) G hR hM zl_108 dL_isSound_135 lk_L_148 (c_L_isLaid (gl Γ) hc) (As := [.ref (ga Γ 0), .int (zJ (0 : Int))]) rfl zk_108 (by decide +kernel) (by decide +kernel) (zs_x zs_108 _) rfl (Nat.le_of_ble_eq_true rfl) ⟨rfl, rfl, Nat.le_of_ble_eq_true rfl, Nat.le_of_ble_eq_true rfl⟩ (Nat.le_of_ble_eq_true rfl) (Nat.le_of_ble_eq_true rfl) h (fun a e => by have q0 := e 0 _ rfl rfl; have q101 := e 101 _ rfl rfl; exact ⟨by simp only [q0, q101], by rfl⟩) (fun Γ G hR hM σ32 h => ?_)
                  refine (?_ : PT Γ 4 shS 138 σ32 [(3, .int (zJ v15)), (2, .int (zJ v14)), (0, .ref (ga Γ 0)), (1, .ref (ga Γ 101))] [.int (zJ v31)])
                  have hcs := mk_cs G hM (Nat.le_of_ble_eq_true rfl) (Nat.le_of_ble_eq_true rfl)
                  refine p_ifeq (tgt := 153) G dL_isSound_138 (by decide) h (fun c37 h => ?_) (fun c37 h => ?_)
                  · refine p_iconst G rfl dL_isSound_153 ?_
                    (cases h; exact p_zretN G hM (Nat.le_of_ble_eq_true rfl) (Nat.le_of_ble_eq_true rfl) hR dL_isSound_154 (by decide) rfl rfl)
                  · refine p_aload_n G rfl 2 rfl dL_isSound_141 ?_
                    refine p_iconst G rfl dL_isSound_142 ?_
                    obtain ⟨⟨σ33, v34⟩, hc, h⟩ := bnd_some h
                    rw [un2_mk] at h
                    refine p_callSN (lv' := fun a => [(3, .int (zJ v15)), (2, .int (zJ v14)), (0, .ref (a 0)), (1, .ref (a 101))]) (st' := fun a => []) G hR hM zl_108 dL_isSound_143 lk_L_148 (c_L_isLaid (gl Γ) hc) (As := [.ref (ga Γ 0), .int (zJ (1 : Int))]) rfl zk_108 (by decide +kernel) (by decide +kernel) (zs_x zs_108 _) rfl (Nat.le_of_ble_eq_true rfl) ⟨rfl, rfl, Nat.le_of_ble_eq_true rfl, Nat.le_of_ble_eq_true rfl⟩ (Nat.le_of_ble_eq_true rfl) (Nat.le_of_ble_eq_true rfl) h (fun a e => by have q0 := e 0 _ rfl rfl; have q101 := e 101 _ rfl rfl; exact ⟨by simp only [q0, q101], by rfl⟩) (fun Γ G hR hM σ35 h => ?_)
                    refine (?_ : PT Γ 4 shS 146 σ35 [(3, .int (zJ v15)), (2, .int (zJ v14)), (0, .ref (ga Γ 0)), (1, .ref (ga Γ 101))] [.int (zJ v34)])
                    have hcs := mk_cs G hM (Nat.le_of_ble_eq_true rfl) (Nat.le_of_ble_eq_true rfl)
                    refine p_ifeq (tgt := 153) G dL_isSound_146 (by decide) h (fun c36 h => ?_) (fun c36 h => ?_)
                    · refine p_iconst G rfl dL_isSound_153 ?_
                      (cases h; exact p_zretN G hM (Nat.le_of_ble_eq_true rfl) (Nat.le_of_ble_eq_true rfl) hR dL_isSound_154 (by decide) rfl rfl)
                    · refine p_iconst G rfl dL_isSound_149 ?_
                      refine p_goto (tgt := 154) G dL_isSound_150 (by decide) ?_
                      (cases h; exact p_zretN G hM (Nat.le_of_ble_eq_true rfl) (Nat.le_of_ble_eq_true rfl) hR dL_isSound_154 (by decide) rfl rfl)
                · refine p_aload_n G rfl 3 rfl dL_isSound_118 ?_
                  refine p_iload_n G rfl 0 rfl dL_isSound_119 ?_
                  refine p_iald G dL_isSound_120 (k := 101) rfl (zt_c _) h (fun c38 h => ?_)
                  refine p_iload_n G rfl 1 rfl dL_isSound_121 ?_
                  refine p_aload_n G rfl 2 rfl dL_isSound_122 ?_
                  refine p_iconst G rfl dL_isSound_123 ?_
                  obtain ⟨v39, hc, h⟩ := bnd_some h
                  refine p_callHPr G zl_108 dL_isSound_124 gm_970 gm_971 gm_26 gm_972 (by decide +kernel) (c_L_match (gl Γ) hc) (As := [.ref (ga Γ 0), .int (zJ (5 : Int))]) rfl zk_108 (zs_x zs_108 _) rfl (Nat.le_of_ble_eq_true rfl) ⟨rfl, rfl, Nat.le_of_ble_eq_true rfl, Nat.le_of_ble_eq_true rfl⟩ hcs ?_
                  refine p_iadd G dL_isSound_127 ?_
                  refine p_icmpeq (tgt := 133) G dL_isSound_128 (by decide) h (fun c48 h => ?_) (fun c48 h => ?_)
                  · refine p_aload_n G rfl 2 rfl dL_isSound_133 ?_
                    refine p_iconst G rfl dL_isSound_134 ?_
                    obtain ⟨⟨σ40, v41⟩, hc, h⟩ := bnd_some h
                    rw [un2_mk] at h
                    refine p_callSN (lv' := fun a => [(3, .int (zJ v15)), (2, .int (zJ v14)), (0, .ref (a 0)), (1, .ref (a 101))]) (st' := fun a => []) G hR hM zl_108 dL_isSound_135 lk_L_148 (c_L_isLaid (gl Γ) hc) (As := [.ref (ga Γ 0), .int (zJ (0 : Int))]) rfl zk_108 (by decide +kernel) (by decide +kernel) (zs_x zs_108 _) rfl (Nat.le_of_ble_eq_true rfl) ⟨rfl, rfl, Nat.le_of_ble_eq_true rfl, Nat.le_of_ble_eq_true rfl⟩ (Nat.le_of_ble_eq_true rfl) (Nat.le_of_ble_eq_true rfl) h (fun a e => by have q0 := e 0 _ rfl rfl; have q101 := e 101 _ rfl rfl; exact ⟨by simp only [q0, q101], by rfl⟩) (fun Γ G hR hM σ42 h => ?_)
                    refine (?_ : PT Γ 4 shS 138 σ42 [(3, .int (zJ v15)), (2, .int (zJ v14)), (0, .ref (ga Γ 0)), (1, .ref (ga Γ 101))] [.int (zJ v41)])
                    have hcs := mk_cs G hM (Nat.le_of_ble_eq_true rfl) (Nat.le_of_ble_eq_true rfl)
                    refine p_ifeq (tgt := 153) G dL_isSound_138 (by decide) h (fun c47 h => ?_) (fun c47 h => ?_)
                    · refine p_iconst G rfl dL_isSound_153 ?_
                      (cases h; exact p_zretN G hM (Nat.le_of_ble_eq_true rfl) (Nat.le_of_ble_eq_true rfl) hR dL_isSound_154 (by decide) rfl rfl)
                    · refine p_aload_n G rfl 2 rfl dL_isSound_141 ?_
                      refine p_iconst G rfl dL_isSound_142 ?_
                      obtain ⟨⟨σ43, v44⟩, hc, h⟩ := bnd_some h
                      rw [un2_mk] at h
                      refine p_callSN (lv' := fun a => [(3, .int (zJ v15)), (2, .int (zJ v14)), (0, .ref (a 0)), (1, .ref (a 101))]) (st' := fun a => []) G hR hM zl_108 dL_isSound_143 lk_L_148 (c_L_isLaid (gl Γ) hc) (As := [.ref (ga Γ 0), .int (zJ (1 : Int))]) rfl zk_108 (by decide +kernel) (by decide +kernel) (zs_x zs_108 _) rfl (Nat.le_of_ble_eq_true rfl) ⟨rfl, rfl, Nat.le_of_ble_eq_true rfl, Nat.le_of_ble_eq_true rfl⟩ (Nat.le_of_ble_eq_true rfl) (Nat.le_of_ble_eq_true rfl) h (fun a e => by have q0 := e 0 _ rfl rfl; have q101 := e 101 _ rfl rfl; exact ⟨by simp only [q0, q101], by rfl⟩) (fun Γ G hR hM σ45 h => ?_)
                      refine (?_ : PT Γ 4 shS 146 σ45 [(3, .int (zJ v15)), (2, .int (zJ v14)), (0, .ref (ga Γ 0)), (1, .ref (ga Γ 101))] [.int (zJ v44)])
                      have hcs := mk_cs G hM (Nat.le_of_ble_eq_true rfl) (Nat.le_of_ble_eq_true rfl)
                      refine p_ifeq (tgt := 153) G dL_isSound_146 (by decide) h (fun c46 h => ?_) (fun c46 h => ?_)
                      · refine p_iconst G rfl dL_isSound_153 ?_
                        (cases h; exact p_zretN G hM (Nat.le_of_ble_eq_true rfl) (Nat.le_of_ble_eq_true rfl) hR dL_isSound_154 (by decide) rfl rfl)
                      · refine p_iconst G rfl dL_isSound_149 ?_
                        refine p_goto (tgt := 154) G dL_isSound_150 (by decide) ?_
                        (cases h; exact p_zretN G hM (Nat.le_of_ble_eq_true rfl) (Nat.le_of_ble_eq_true rfl) hR dL_isSound_154 (by decide) rfl rfl)
                  · refine p_iconst G rfl dL_isSound_131 ?_
                    (cases h; exact p_zretN G hM (Nat.le_of_ble_eq_true rfl) (Nat.le_of_ble_eq_true rfl) hR dL_isSound_132 (by decide) rfl rfl)
            · refine p_iconst G rfl dL_isSound_98 ?_
              (cases h; exact p_zretN G hM (Nat.le_of_ble_eq_true rfl) (Nat.le_of_ble_eq_true rfl) hR dL_isSound_99 (by decide) rfl rfl)
    refine lup_walk (s := (σ4, (0 : Int))) (At := fun s : Mm × Int => PT Γ 4 shS 15 s.1 [(0, .ref (ga Γ 0)), (1, .ref (ga Γ 101)), (2, .int (zJ s.2))] []) (fun s r hf hin15 hout15 => ?_) hl15
    obtain ⟨σ15, u2_15⟩ := s
    have h : x_L_isSound_b15 σ15 u2_15 = some r := hf
    clear hf
    unfold x_L_isSound_b15 at h
    refine (?_ : PT Γ 4 shS 15 σ15 [(0, .ref (ga Γ 0)), (1, .ref (ga Γ 101)), (2, .int (zJ u2_15))] [])
    refine p_iload_n G rfl 2 rfl dL_isSound_15 ?_
    refine p_bipush G (by decide) (by decide) dL_isSound_16 ?_
    refine p_icmpge (tgt := 38) G dL_isSound_18 (by decide) h (fun c10 h => ?_) (fun c10 h => ?_)
    · refine p_lv [0, 1] rfl ?_
      have he := hout15 _ (Option.some.inj h).symm
      subst he
      exact hX15_38 _ rfl
    · refine p_aload_n G rfl 1 rfl dL_isSound_21 ?_
      refine p_aload_n G rfl 0 rfl dL_isSound_22 ?_
      refine p_iload_n G rfl 2 rfl dL_isSound_23 ?_
      obtain ⟨v5, hc, h⟩ := bnd_some h
      refine p_callHPr G zl_108 dL_isSound_24 gm_1111 gm_1112 gm_26 gm_1113 (by decide +kernel) (c_L_where (gl Γ) hc) (As := [.ref (ga Γ 0), .int (zJ u2_15)]) rfl zk_108 (zs_x zs_108 _) rfl (Nat.le_of_ble_eq_true rfl) ⟨rfl, rfl, Nat.le_of_ble_eq_true rfl, Nat.le_of_ble_eq_true rfl⟩ hcs ?_
      refine p_dup2 G rfl rfl dL_isSound_27 ?_
      refine p_iald G dL_isSound_28 (k := 101) rfl (zt_c _) h (fun c6 h => ?_)
      refine p_iconst G rfl dL_isSound_29 ?_
      refine p_iadd G dL_isSound_30 ?_
      refine p_iast G dL_isSound_31 (k := 101) rfl (zt_c _) rfl h (fun σ7 c8 h => ?_)
      refine p_iinc (lv' := fun v9 => [(2, .int (zJ v9)), (0, .ref (ga Γ 0)), (1, .ref (ga Γ 101))]) G dL_isSound_32 h 2 rfl (by decide) (fun _ => rfl) (fun v9 h => ?_)
      refine p_goto (tgt := 15) G dL_isSound_35 (by decide) ?_
      refine p_lv [1, 2, 0] rfl ?_
      exact hin15 _ (Option.some.inj h).symm
  · refine p_iconst G rfl dL_isSound_7 ?_
    (cases h; exact p_zretN G hM (Nat.le_of_ble_eq_true rfl) (Nat.le_of_ble_eq_true rfl) hR dL_isSound_8 (by decide) rfl rfl)
set_option maxHeartbeats 4000000 in
set_option maxRecDepth 100000 in
theorem c_L_isNotWorse (l : Launch) {D : va_G} {yy : Nat → ClassId} {tk tv a : Nat → Nat} {σ : Mm} {o : Mm × Int} (h : x_L_isNotWorse σ = some o) : CTN l yL_isNotWorse cL_isNotWorse 4 (some .boolean) rm_L_isNotWorse shX shX D yy tk tv a σ [.ref (a 0)] o.1 (some (.int (zJ o.2))) 5 125 := by
  refine ctn_of (Ar := fun a tk => [.ref (a 0)]) (by decide) (Nat.le_of_ble_eq_true rfl) (fun h => by cases h) (fun Γ G _ hM hR => ?_)
  have hcs := mk_cs G hM (Nat.le_of_ble_eq_true rfl) (Nat.le_of_ble_eq_true rfl)
  unfold x_L_isNotWorse at h
  refine (?_ : PT Γ 4 shX 0 σ [(0, .ref (ga Γ 0))] [])
  refine p_aload_n G rfl 0 rfl dL_isNotWorse_0 ?_
  refine p_bipush G (by decide) (by decide) dL_isNotWorse_1 ?_
  obtain ⟨v1, hc, h⟩ := bnd_some h
  refine p_callHPr G zl_101 dL_isNotWorse_3 gm_970 gm_971 gm_26 gm_972 (by decide +kernel) (c_L_match (gl Γ) hc) (As := [.ref (ga Γ 0), .int (zJ (6 : Int))]) rfl zk_101 (zs_x zs_101 _) rfl (Nat.le_of_ble_eq_true rfl) ⟨rfl, rfl, Nat.le_of_ble_eq_true rfl, Nat.le_of_ble_eq_true rfl⟩ hcs ?_
  refine p_iconst G rfl dL_isNotWorse_6 ?_
  refine p_icmpeq (tgt := 19) G dL_isNotWorse_7 (by decide) h (fun c32 h => ?_) (fun c32 h => ?_)
  · refine p_iconst G rfl dL_isNotWorse_19 ?_
    (cases h; exact p_zretN G hM (Nat.le_of_ble_eq_true rfl) (Nat.le_of_ble_eq_true rfl) hR dL_isNotWorse_20 (by decide) rfl rfl)
  · refine p_aload_n G rfl 0 rfl dL_isNotWorse_10 ?_
    refine p_iconst G rfl dL_isNotWorse_11 ?_
    obtain ⟨v2, hc, h⟩ := bnd_some h
    refine p_callHPr G zl_101 dL_isNotWorse_12 gm_970 gm_971 gm_26 gm_972 (by decide +kernel) (c_L_match (gl Γ) hc) (As := [.ref (ga Γ 0), .int (zJ (5 : Int))]) rfl zk_101 (zs_x zs_101 _) rfl (Nat.le_of_ble_eq_true rfl) ⟨rfl, rfl, Nat.le_of_ble_eq_true rfl, Nat.le_of_ble_eq_true rfl⟩ hcs ?_
    refine p_iconst G rfl dL_isNotWorse_15 ?_
    refine p_icmpne (tgt := 21) G dL_isNotWorse_16 (by decide) h (fun c31 h => ?_) (fun c31 h => ?_)
    · refine p_aload_n G rfl 0 rfl dL_isNotWorse_21 ?_
      refine p_iconst G rfl dL_isNotWorse_22 ?_
      obtain ⟨v3, hc, h⟩ := bnd_some h
      refine p_callHPr G zl_101 dL_isNotWorse_23 gm_970 gm_971 gm_26 gm_972 (by decide +kernel) (c_L_match (gl Γ) hc) (As := [.ref (ga Γ 0), .int (zJ (4 : Int))]) rfl zk_101 (zs_x zs_101 _) rfl (Nat.le_of_ble_eq_true rfl) ⟨rfl, rfl, Nat.le_of_ble_eq_true rfl, Nat.le_of_ble_eq_true rfl⟩ hcs ?_
      refine p_istore_nU (lv' := [(1, .int (zJ v3)), (0, .ref (ga Γ 0))]) G rfl dL_isNotWorse_26 (by decide) rfl ?_
      refine p_aload_n G rfl 1 rfl dL_isNotWorse_27 ?_
      refine p_iload_n G rfl 0 rfl dL_isNotWorse_28 ?_
      refine p_iconst G rfl dL_isNotWorse_29 ?_
      obtain ⟨⟨σ4, v5⟩, hc, h⟩ := bnd_some h
      rw [un2_mk] at h
      refine p_callHP G zl_101 dL_isNotWorse_30 gm_994 gm_995 gm_26 gm_996 (by decide +kernel) (c_L_player (gl Γ) hc) (As := [.ref (ga Γ 0), .int (zJ v3), .int (zJ (1 : Int))]) rfl zk_101 (zs_x zs_101 _) rfl (Nat.le_of_ble_eq_true rfl) ⟨rfl, rfl, Nat.le_of_ble_eq_true rfl, Nat.le_of_ble_eq_true rfl⟩ hcs ?_
      refine p_nm h (fun σ6 h => ?_)
      refine p_istore_nU (lv' := [(2, .int (zJ v5)), (1, .int (zJ v3)), (0, .ref (ga Γ 0))]) G rfl dL_isNotWorse_33 (by decide) rfl ?_
      refine p_aload_n G rfl 2 rfl dL_isNotWorse_34 ?_
      refine p_iconst G rfl dL_isNotWorse_35 ?_
      obtain ⟨⟨σ7, v8⟩, hc, h⟩ := bnd_some h
      rw [un2_mk] at h
      refine p_callVN (lv' := fun a => [(2, .int (zJ v5)), (1, .int (zJ v3)), (0, .ref (a 0))]) (st' := fun a => []) G hR hM zl_101 dL_isNotWorse_36 lk_L_115 (c_X6_draw (gl Γ) hc) (As := [.int (zJ (0 : Int))]) (ci := 8) rfl zk_101 (by decide +kernel) (by decide +kernel) (zs_x zs_101 _) rfl rfl rfl (Nat.le_of_ble_eq_true rfl) ⟨rfl, rfl, Nat.le_of_ble_eq_true rfl, Nat.le_of_ble_eq_true rfl⟩ (Nat.le_of_ble_eq_true rfl) (Nat.le_of_ble_eq_true rfl) h (fun a e => by have q0 := e 0 _ rfl rfl; exact ⟨by simp only [q0], by rfl⟩) (fun Γ G hR hM σ9 h => ?_)
      refine (?_ : PT Γ 4 shX 39 σ9 [(2, .int (zJ v5)), (1, .int (zJ v3)), (0, .ref (ga Γ 0))] [.int (zJ v8)])
      have hcs := mk_cs G hM (Nat.le_of_ble_eq_true rfl) (Nat.le_of_ble_eq_true rfl)
      refine p_istore_nU (lv' := [(3, .int (zJ v8)), (2, .int (zJ v5)), (1, .int (zJ v3)), (0, .ref (ga Γ 0))]) G rfl dL_isNotWorse_39 (by decide) rfl ?_
      refine p_iload_n G rfl 0 rfl dL_isNotWorse_40 ?_
      refine p_iflt (tgt := 70) G dL_isNotWorse_41 (by decide) h (fun c30 h => ?_) (fun c30 h => ?_)
      · refine p_iconst G rfl dL_isNotWorse_70 ?_
        (cases h; exact p_zretN G hM (Nat.le_of_ble_eq_true rfl) (Nat.le_of_ble_eq_true rfl) hR dL_isNotWorse_71 (by decide) rfl rfl)
      · refine p_aload_n G rfl 3 rfl dL_isNotWorse_44 ?_
        refine p_iload_n G rfl 0 rfl dL_isNotWorse_45 ?_
        obtain ⟨v10, hc, h⟩ := bnd_some h
        refine p_callHPr G zl_101 dL_isNotWorse_46 gm_1111 gm_1112 gm_26 gm_1113 (by decide +kernel) (c_L_where (gl Γ) hc) (As := [.ref (ga Γ 0), .int (zJ v8)]) rfl zk_101 (zs_x zs_101 _) rfl (Nat.le_of_ble_eq_true rfl) ⟨rfl, rfl, Nat.le_of_ble_eq_true rfl, Nat.le_of_ble_eq_true rfl⟩ hcs ?_
        refine p_iload_n G rfl 2 rfl dL_isNotWorse_49 ?_
        refine p_icmpne (tgt := 70) G dL_isNotWorse_50 (by decide) h (fun c29 h => ?_) (fun c29 h => ?_)
        · refine p_iconst G rfl dL_isNotWorse_70 ?_
          (cases h; exact p_zretN G hM (Nat.le_of_ble_eq_true rfl) (Nat.le_of_ble_eq_true rfl) hR dL_isNotWorse_71 (by decide) rfl rfl)
        · refine p_aload_n G rfl 3 rfl dL_isNotWorse_53 ?_
          refine p_iload_n G rfl 0 rfl dL_isNotWorse_54 ?_
          obtain ⟨⟨σ11, v12⟩, hc, h⟩ := bnd_some h
          rw [un2_mk] at h
          refine p_callHP G zl_101 dL_isNotWorse_55 gm_1162 gm_1163 gm_26 gm_1164 (by decide +kernel) (c_L_restWithout (gl Γ) hc) (As := [.ref (ga Γ 0), .int (zJ v8)]) rfl zk_101 (zs_x zs_101 _) rfl (Nat.le_of_ble_eq_true rfl) ⟨rfl, rfl, Nat.le_of_ble_eq_true rfl, Nat.le_of_ble_eq_true rfl⟩ hcs ?_
          refine p_nm h (fun σ13 h => ?_)
          refine p_iload_n G rfl 1 rfl dL_isNotWorse_58 ?_
          refine p_icmpne (tgt := 70) G dL_isNotWorse_59 (by decide) h (fun c28 h => ?_) (fun c28 h => ?_)
          · refine p_iconst G rfl dL_isNotWorse_70 ?_
            (cases h; exact p_zretN G hM (Nat.le_of_ble_eq_true rfl) (Nat.le_of_ble_eq_true rfl) hR dL_isNotWorse_71 (by decide) rfl rfl)
          · refine p_aload_n G rfl 3 rfl dL_isNotWorse_62 ?_
            obtain ⟨⟨σ14, v15⟩, hc, h⟩ := bnd_some h
            rw [un2_mk] at h
            refine p_callVi G dL_isNotWorse_63 lk_L_154 (c_X6_needed (gl Γ) hc) (As := []) (ci := 8) rfl rfl rfl rfl (Nat.le_of_ble_eq_true rfl) ⟨rfl, rfl, Nat.le_of_ble_eq_true rfl, Nat.le_of_ble_eq_true rfl⟩ hcs ?_
            refine p_iload_n G rfl 1 rfl dL_isNotWorse_66 ?_
            refine p_icmple (tgt := 72) G dL_isNotWorse_67 (by decide) h (fun c27 h => ?_) (fun c27 h => ?_)
            · refine p_aload_n G rfl 3 rfl dL_isNotWorse_72 ?_
              refine p_iload_n G rfl 2 rfl dL_isNotWorse_73 ?_
              refine p_iconst G rfl dL_isNotWorse_74 ?_
              obtain ⟨⟨σ16, v17⟩, hc, h⟩ := bnd_some h
              rw [un2_mk] at h
              refine p_callHP G zl_101 dL_isNotWorse_75 gm_994 gm_995 gm_26 gm_996 (by decide +kernel) (c_L_player (gl Γ) hc) (As := [.ref (ga Γ 0), .int (zJ v3), .int (zJ (1 : Int))]) rfl zk_101 (zs_x zs_101 _) rfl (Nat.le_of_ble_eq_true rfl) ⟨rfl, rfl, Nat.le_of_ble_eq_true rfl, Nat.le_of_ble_eq_true rfl⟩ hcs ?_
              refine p_nm h (fun σ18 h => ?_)
              refine p_iload_n G rfl 1 rfl dL_isNotWorse_78 ?_
              refine p_iload_n G rfl 0 rfl dL_isNotWorse_79 ?_
              obtain ⟨v19, hc, h⟩ := bnd_some h
              refine p_callS0 G dL_isNotWorse_80 lk_L_134 (c_L_points (gl Γ) hc) (As := [.int (zJ v8)]) rfl zk_48 rfl (Nat.le_of_ble_eq_true rfl) ⟨rfl, rfl, Nat.le_of_ble_eq_true rfl, Nat.le_of_ble_eq_true rfl⟩ hcs ?_
              refine p_iadd G dL_isNotWorse_83 ?_
              refine p_icmple (tgt := 89) G dL_isNotWorse_84 (by decide) h (fun c26 h => ?_) (fun c26 h => ?_)
              · refine p_aload_n G rfl 3 rfl dL_isNotWorse_89 ?_
                obtain ⟨⟨σ20, v21⟩, hc, h⟩ := bnd_some h
                rw [un2_mk] at h
                refine p_callVi G dL_isNotWorse_90 lk_L_157 (c_X6_undo (gl Γ) hc) (As := []) (ci := 8) rfl rfl rfl rfl (Nat.le_of_ble_eq_true rfl) ⟨rfl, rfl, Nat.le_of_ble_eq_true rfl, Nat.le_of_ble_eq_true rfl⟩ hcs ?_
                refine p_pop G rfl dL_isNotWorse_93 ?_
                refine p_aload_n G rfl 3 rfl dL_isNotWorse_94 ?_
                refine p_iload_n G rfl 2 rfl dL_isNotWorse_95 ?_
                refine p_iconst G rfl dL_isNotWorse_96 ?_
                obtain ⟨⟨σ22, v23⟩, hc, h⟩ := bnd_some h
                rw [un2_mk] at h
                refine p_callHP G zl_101 dL_isNotWorse_97 gm_994 gm_995 gm_26 gm_996 (by decide +kernel) (c_L_player (gl Γ) hc) (As := [.ref (ga Γ 0), .int (zJ v3), .int (zJ (1 : Int))]) rfl zk_101 (zs_x zs_101 _) rfl (Nat.le_of_ble_eq_true rfl) ⟨rfl, rfl, Nat.le_of_ble_eq_true rfl, Nat.le_of_ble_eq_true rfl⟩ hcs ?_
                refine p_nm h (fun σ24 h => ?_)
                refine p_iload_n G rfl 1 rfl dL_isNotWorse_100 ?_
                refine p_icmpne (tgt := 108) G dL_isNotWorse_101 (by decide) h (fun c25 h => ?_) (fun c25 h => ?_)
                · refine p_iconst G rfl dL_isNotWorse_108 ?_
                  (cases h; exact p_zretN G hM (Nat.le_of_ble_eq_true rfl) (Nat.le_of_ble_eq_true rfl) hR dL_isNotWorse_109 (by decide) rfl rfl)
                · refine p_iconst G rfl dL_isNotWorse_104 ?_
                  refine p_goto (tgt := 109) G dL_isNotWorse_105 (by decide) ?_
                  (cases h; exact p_zretN G hM (Nat.le_of_ble_eq_true rfl) (Nat.le_of_ble_eq_true rfl) hR dL_isNotWorse_109 (by decide) rfl rfl)
              · refine p_iconst G rfl dL_isNotWorse_87 ?_
                (cases h; exact p_zretN G hM (Nat.le_of_ble_eq_true rfl) (Nat.le_of_ble_eq_true rfl) hR dL_isNotWorse_88 (by decide) rfl rfl)
            · refine p_iconst G rfl dL_isNotWorse_70 ?_
              (cases h; exact p_zretN G hM (Nat.le_of_ble_eq_true rfl) (Nat.le_of_ble_eq_true rfl) hR dL_isNotWorse_71 (by decide) rfl rfl)
    · refine p_iconst G rfl dL_isNotWorse_19 ?_
      (cases h; exact p_zretN G hM (Nat.le_of_ble_eq_true rfl) (Nat.le_of_ble_eq_true rfl) hR dL_isNotWorse_20 (by decide) rfl rfl)
