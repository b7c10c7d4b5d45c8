set_option maxHeartbeats 4000000 in
set_option maxRecDepth 100000 in
theorem c_L_cell (l : Launch) {D : va_G} {yy : Nat → ClassId} {tk tv a tk0 tv0 : Nat → Nat} (e1 : tk = tk0) (e2 : tv = tv0) {σ : Mm} {p1 : Int} {o : Int} (h : x_L_cell (zsc tv0) (tk0 1001) p1 = some o) : CT l yL_cell cL_cell 2 (some .int) rm_L_cell shN D yy tk tv a σ [.ref (tk0 1000), .int (zJ p1)] σ (some (.int (zJ o))) := by
  subst e1 e2
  refine ct_ofK (Ar := fun a tk => [.ref (tk 1000), .int (zJ p1)]) (by decide) (Nat.le_of_ble_eq_true rfl) (fun Γ G _ _ e1 e2 hR => ?_)
  have hcs := rt_cs hR
  rw [e1]
  unfold x_L_cell at h
  refine (?_ : PT Γ 2 shN 0 σ [(0, .ref (tk 1000)), (1, .int (zJ p1))] [])
  refine p_iload_n G rfl 1 rfl dL_cell_0 ?_
  refine p_aload_n G rfl 0 rfl dL_cell_1 ?_
  refine p_slenK G e1 dL_cell_2 ?_
  refine p_icmpge (tgt := 12) G dL_cell_3 (by decide) h (fun c2 h => ?_) (fun c2 h => ?_)
  · refine p_iconst G rfl dL_cell_12 ?_
    (cases h; exact p_iret G hR dL_cell_13 rfl rfl)
  · refine p_aload_n G rfl 0 rfl dL_cell_6 ?_
    refine p_iload_n G rfl 1 rfl dL_cell_7 ?_
    refine p_sldK G e1 e2 dL_cell_8 h (fun c1 h => ?_)
    refine p_goto (tgt := 13) G dL_cell_9 (by decide) ?_
    (cases h; exact p_iret G hR dL_cell_13 rfl rfl)
set_option maxHeartbeats 4000000 in
set_option maxRecDepth 100000 in
theorem c_L_of (l : Launch) {D : va_G} {yy : Nat → ClassId} {tk tv a tk0 tv0 : Nat → Nat} (e1 : tk = tk0) (e2 : tv = tv0) {σ : Mm} {p1 : Int} {p2 : Int} {p3 : Int} {o : Int} (h : x_L_of (zsc tv0) (tk0 1001) p1 p2 p3 = some o) : CT l yL_of cL_of 4 (some .int) rm_L_of shN D yy tk tv a σ [.ref (tk0 1000), .int (zJ p1), .int (zJ p2), .int (zJ p3)] σ (some (.int (zJ o))) := by
  subst e1 e2
  refine ct_ofK (Ar := fun a tk => [.ref (tk 1000), .int (zJ p1), .int (zJ p2), .int (zJ p3)]) (by decide) (Nat.le_of_ble_eq_true rfl) (fun Γ G _ _ e1 e2 hR => ?_)
  have hcs := rt_cs hR
  rw [e1]
  unfold x_L_of at h
  refine (?_ : PT Γ 4 shN 0 σ [(0, .ref (tk 1000)), (1, .int (zJ p1)), (2, .int (zJ p2)), (3, .int (zJ p3))] [])
  refine p_iload_n G rfl 2 rfl dL_of_0 ?_
  refine p_aload_n G rfl 0 rfl dL_of_1 ?_
  refine p_iload_n G rfl 1 rfl dL_of_2 ?_
  obtain ⟨v1, hc, h⟩ := bnd_some h
  refine p_callS0 G dL_of_3 lk_L_7 (c_L_cell (gl Γ) e1 e2 hc) (As := [.ref (tk 1000), .int (zJ p1)]) rfl zk_1 rfl (Nat.le_of_ble_eq_true rfl) ⟨rfl, rfl, Nat.le_of_ble_eq_true rfl, Nat.le_of_ble_eq_true rfl⟩ hcs ?_
  refine p_iload_n G rfl 3 rfl dL_of_6 ?_
  obtain ⟨v2, hc, h⟩ := bnd_some h
  refine p_callS0 G dL_of_7 lk_L_13 (c_J_Math_floorMod (gl Γ) hc) (As := [.int (zJ v1), .int (zJ p3)]) rfl zk_1 rfl (Nat.le_of_ble_eq_true rfl) ⟨rfl, rfl, Nat.le_of_ble_eq_true rfl, Nat.le_of_ble_eq_true rfl⟩ hcs ?_
  refine p_iadd G dL_of_10 ?_
  (cases h; exact p_iret G hR dL_of_11 rfl rfl)
set_option maxHeartbeats 4000000 in
set_option maxRecDepth 100000 in
theorem c_L_drop (l : Launch) {D : va_G} {yy : Nat → ClassId} {tk tv a : Nat → Nat} {σ : Mm} {p1 : Int} {o : Mm × Int} (h : x_L_drop σ p1 = some o) : CTH l yL_drop cL_drop 3 (some .int) [(0, 5, 6, 25)] rm_L_drop shX D yy tk tv a σ [.ref (a 0), .int (zJ p1)] o.1 (some (.int (zJ o.2))) 5 125 := by
  refine cth_of (Ar := fun a tk => [.ref (a 0), .int (zJ p1)]) (by decide) (Nat.le_of_ble_eq_true rfl) (fun h => by cases h) (fun Γ G _ hM hR htab => ?_)
  have hcs := mk_cs G hM (Nat.le_of_ble_eq_true rfl) (Nat.le_of_ble_eq_true rfl)
  unfold x_L_drop at h
  refine (?_ : PT Γ 3 shX 0 σ [(0, .ref (ga Γ 0)), (1, .int (zJ p1))] [])
  refine p_aload_n G rfl 0 rfl dL_drop_0 ?_
  refine p_iload_n G rfl 1 rfl dL_drop_1 ?_
  obtain ⟨⟨σ1, v2⟩, hc, h⟩ := bthrn h
  rw [un2_mk] at h
  refine p_callVN (lv' := fun a => [(0, .ref (a 0)), (1, .int (zJ p1))]) (st' := fun a => []) G hR hM zl_101 dL_drop_2 lk_L_19 (c_X6_drop (gl Γ) hc) (As := [.int (zJ p1)]) (ci := 8) rfl zk_101 (by decide +kernel) (by decide +kernel) (zs_x zs_101 _) rfl rfl rfl (Nat.le_of_ble_eq_true rfl) ⟨rfl, rfl, Nat.le_of_ble_eq_true rfl, Nat.le_of_ble_eq_true rfl⟩ (Nat.le_of_ble_eq_true rfl) (Nat.le_of_ble_eq_true rfl) h (fun a e => by have q0 := e 0 _ rfl rfl; exact ⟨by simp only [q0], by rfl⟩) (fun Γ G hR hM σ3 h => ?_)
  refine (?_ : PT Γ 3 shX 5 σ3 [(0, .ref (ga Γ 0)), (1, .int (zJ p1))] [.int (zJ v2)])
  have hcs := mk_cs G hM (Nat.le_of_ble_eq_true rfl) (Nat.le_of_ble_eq_true rfl)
  (cases h; exact p_iretN G hM (Nat.le_of_ble_eq_true rfl) (Nat.le_of_ble_eq_true rfl) hR dL_drop_5 rfl rfl)
set_option maxHeartbeats 4000000 in
set_option maxRecDepth 100000 in
theorem c_L_knock (l : Launch) {D : va_G} {yy : Nat → ClassId} {tk tv a : Nat → Nat} {σ : Mm} {p1 : Int} {o : Mm × Int} (h : x_L_knock σ p1 = some o) : CTH l yL_knock cL_knock 3 (some .int) [(0, 5, 6, 25)] rm_L_knock shX D yy tk tv a σ [.ref (a 0), .int (zJ p1)] o.1 (some (.int (zJ o.2))) 5 125 := by
  refine cth_of (Ar := fun a tk => [.ref (a 0), .int (zJ p1)]) (by decide) (Nat.le_of_ble_eq_true rfl) (fun h => by cases h) (fun Γ G _ hM hR htab => ?_)
  have hcs := mk_cs G hM (Nat.le_of_ble_eq_true rfl) (Nat.le_of_ble_eq_true rfl)
  unfold x_L_knock at h
  refine (?_ : PT Γ 3 shX 0 σ [(0, .ref (ga Γ 0)), (1, .int (zJ p1))] [])
  refine p_aload_n G rfl 0 rfl dL_knock_0 ?_
  refine p_iload_n G rfl 1 rfl dL_knock_1 ?_
  obtain ⟨⟨σ1, v2⟩, hc, h⟩ := bthrn h
  rw [un2_mk] at h
  refine p_callVN (lv' := fun a => [(0, .ref (a 0)), (1, .int (zJ p1))]) (st' := fun a => []) G hR hM zl_101 dL_knock_2 lk_L_27 (c_X6_knock (gl Γ) hc) (As := [.int (zJ p1)]) (ci := 8) rfl zk_101 (by decide +kernel) (by decide +kernel) (zs_x zs_101 _) rfl rfl rfl (Nat.le_of_ble_eq_true rfl) ⟨rfl, rfl, Nat.le_of_ble_eq_true rfl, Nat.le_of_ble_eq_true rfl⟩ (Nat.le_of_ble_eq_true rfl) (Nat.le_of_ble_eq_true rfl) h (fun a e => by have q0 := e 0 _ rfl rfl; exact ⟨by simp only [q0], by rfl⟩) (fun Γ G hR hM σ3 h => ?_)
  refine (?_ : PT Γ 3 shX 5 σ3 [(0, .ref (ga Γ 0)), (1, .int (zJ p1))] [.int (zJ v2)])
  have hcs := mk_cs G hM (Nat.le_of_ble_eq_true rfl) (Nat.le_of_ble_eq_true rfl)
  (cases h; exact p_iretN G hM (Nat.le_of_ble_eq_true rfl) (Nat.le_of_ble_eq_true rfl) hR dL_knock_5 rfl rfl)
set_option maxHeartbeats 4000000 in
set_option maxRecDepth 100000 in
theorem c_L_set (l : Launch) {D : va_G} {yy : Nat → ClassId} {tk tv a : Nat → Nat} {σ : Mm} {p1 : Int} {p2 : Int} {o : Mm × Int} (h : x_L_set σ p1 p2 = some o) : CTH l yL_set cL_set 4 (some .int) [(0, 6, 7, 34)] rm_L_set shX D yy tk tv a σ [.ref (a 0), .int (zJ p1), .int (zJ p2)] o.1 (some (.int (zJ o.2))) 5 125 := by
  refine cth_of (Ar := fun a tk => [.ref (a 0), .int (zJ p1), .int (zJ p2)]) (by decide) (Nat.le_of_ble_eq_true rfl) (fun h => by cases h) (fun Γ G _ hM hR htab => ?_)
  have hcs := mk_cs G hM (Nat.le_of_ble_eq_true rfl) (Nat.le_of_ble_eq_true rfl)
  unfold x_L_set at h
  refine (?_ : PT Γ 4 shX 0 σ [(0, .ref (ga Γ 0)), (1, .int (zJ p1)), (2, .int (zJ p2))] [])
  refine p_aload_n G rfl 0 rfl dL_set_0 ?_
  refine p_iload_n G rfl 1 rfl dL_set_1 ?_
  refine p_iload_n G rfl 2 rfl dL_set_2 ?_
  obtain ⟨⟨σ1, v2⟩, hc, h⟩ := bthrn h
  rw [un2_mk] at h
  refine p_callVN (lv' := fun a => [(0, .ref (a 0)), (1, .int (zJ p1)), (2, .int (zJ p2))]) (st' := fun a => []) G hR hM zl_101 dL_set_3 lk_L_30 (c_X6_set (gl Γ) hc) (As := [.int (zJ p1), .int (zJ p2)]) (ci := 8) rfl zk_101 (by decide +kernel) (by decide +kernel) (zs_x zs_101 _) rfl rfl rfl (Nat.le_of_ble_eq_true rfl) ⟨rfl, rfl, Nat.le_of_ble_eq_true rfl, Nat.le_of_ble_eq_true rfl⟩ (Nat.le_of_ble_eq_true rfl) (Nat.le_of_ble_eq_true rfl) h (fun a e => by have q0 := e 0 _ rfl rfl; exact ⟨by simp only [q0], by rfl⟩) (fun Γ G hR hM σ3 h => ?_)
  refine (?_ : PT Γ 4 shX 6 σ3 [(0, .ref (ga Γ 0)), (1, .int (zJ p1)), (2, .int (zJ p2))] [.int (zJ v2)])
  have hcs := mk_cs G hM (Nat.le_of_ble_eq_true rfl) (Nat.le_of_ble_eq_true rfl)
  (cases h; exact p_iretN G hM (Nat.le_of_ble_eq_true rfl) (Nat.le_of_ble_eq_true rfl) hR dL_set_6 rfl rfl)
set_option maxHeartbeats 4000000 in
set_option maxRecDepth 100000 in
theorem c_L_match (l : Launch) {D : va_G} {yy : Nat → ClassId} {tk tv a : Nat → Nat} {σ : Mm} {p1 : Int} {o : Int} (h : x_L_match σ p1 = some o) : CTHP l yL_match cL_match 3 (some .int) [(0, 5, 6, 34)] rm_L_match shX D yy tk tv a σ [.ref (a 0), .int (zJ p1)] σ (some (.int (zJ o))) := by
  refine cthp_of (Ar := fun a tk => [.ref (a 0), .int (zJ p1)]) (by decide) (Nat.le_of_ble_eq_true rfl) (fun Γ G _ _ hR => ?_)
  have hcs := rt_cs hR
  unfold x_L_match at h
  refine (?_ : PT Γ 3 shX 0 σ [(0, .ref (ga Γ 0)), (1, .int (zJ p1))] [])
  refine p_aload_n G rfl 0 rfl dL_match_0 ?_
  refine p_iload_n G rfl 1 rfl dL_match_1 ?_
  obtain ⟨v1, hc, h⟩ := bthrn h
  refine p_callVi G dL_match_2 lk_L_36 (c_X6_match (gl Γ) hc) (As := [.int (zJ p1)]) (ci := 8) rfl rfl rfl rfl (Nat.le_of_ble_eq_true rfl) ⟨rfl, rfl, Nat.le_of_ble_eq_true rfl, Nat.le_of_ble_eq_true rfl⟩ hcs ?_
  (cases h; exact p_iret G hR dL_match_5 rfl rfl)
set_option maxHeartbeats 4000000 in
set_option maxRecDepth 100000 in
theorem c_L_player (l : Launch) {D : va_G} {yy : Nat → ClassId} {tk tv a : Nat → Nat} {σ : Mm} {p1 : Int} {p2 : Int} {o : Mm × Int} (h : x_L_player σ p1 p2 = some o) : CTHP l yL_player cL_player 4 (some .int) [(0, 6, 7, 34)] rm_L_player shX D yy tk tv a σ [.ref (a 0), .int (zJ p1), .int (zJ p2)] o.1 (some (.int (zJ o.2))) := by
  refine cthp_of (Ar := fun a tk => [.ref (a 0), .int (zJ p1), .int (zJ p2)]) (by decide) (Nat.le_of_ble_eq_true rfl) (fun Γ G _ _ hR => ?_)
  have hcs := rt_cs hR
  unfold x_L_player at h
  refine (?_ : PT Γ 4 shX 0 σ [(0, .ref (ga Γ 0)), (1, .int (zJ p1)), (2, .int (zJ p2))] [])
  refine p_aload_n G rfl 0 rfl dL_player_0 ?_
  refine p_iload_n G rfl 1 rfl dL_player_1 ?_
  refine p_iload_n G rfl 2 rfl dL_player_2 ?_
  obtain ⟨⟨σ1, v2⟩, hc, h⟩ := bthrn h
  rw [un2_mk] at h
  refine p_callVi G dL_player_3 lk_L_39 (c_X6_player (gl Γ) hc) (As := [.int (zJ p1), .int (zJ p2)]) (ci := 8) rfl rfl rfl rfl (Nat.le_of_ble_eq_true rfl) ⟨rfl, rfl, Nat.le_of_ble_eq_true rfl, Nat.le_of_ble_eq_true rfl⟩ hcs ?_
  (cases h; exact p_iret G hR dL_player_6 rfl rfl)
set_option maxHeartbeats 4000000 in
set_option maxRecDepth 100000 in
theorem c_L_card (l : Launch) {D : va_G} {yy : Nat → ClassId} {tk tv a : Nat → Nat} {σ : Mm} {p1 : Int} {p2 : Int} {o : Int} (h : x_L_card σ p1 p2 = some o) : CTHP l yL_card cL_card 4 (some .int) [(0, 6, 7, 34)] rm_L_card shX D yy tk tv a σ [.ref (a 0), .int (zJ p1), .int (zJ p2)] σ (some (.int (zJ o))) := by
  refine cthp_of (Ar := fun a tk => [.ref (a 0), .int (zJ p1), .int (zJ p2)]) (by decide) (Nat.le_of_ble_eq_true rfl) (fun Γ G _ _ hR => ?_)
  have hcs := rt_cs hR
  unfold x_L_card at h
  refine (?_ : PT Γ 4 shX 0 σ [(0, .ref (ga Γ 0)), (1, .int (zJ p1)), (2, .int (zJ p2))] [])
  refine p_aload_n G rfl 0 rfl dL_card_0 ?_
  refine p_iload_n G rfl 1 rfl dL_card_1 ?_
  refine p_iload_n G rfl 2 rfl dL_card_2 ?_
  obtain ⟨v1, hc, h⟩ := bthrn h
  refine p_callVi G dL_card_3 lk_L_42 (c_X6_card (gl Γ) hc) (As := [.int (zJ p1), .int (zJ p2)]) (ci := 8) rfl rfl rfl rfl (Nat.le_of_ble_eq_true rfl) ⟨rfl, rfl, Nat.le_of_ble_eq_true rfl, Nat.le_of_ble_eq_true rfl⟩ hcs ?_
  (cases h; exact p_iret G hR dL_card_6 rfl rfl)
set_option maxHeartbeats 4000000 in
set_option maxRecDepth 100000 in
theorem c_L_where (l : Launch) {D : va_G} {yy : Nat → ClassId} {tk tv a : Nat → Nat} {σ : Mm} {p1 : Int} {o : Int} (h : x_L_where σ p1 = some o) : CTHP l yL_where cL_where 3 (some .int) [(0, 5, 6, 34)] rm_L_where shX D yy tk tv a σ [.ref (a 0), .int (zJ p1)] σ (some (.int (zJ o))) := by
  refine cthp_of (Ar := fun a tk => [.ref (a 0), .int (zJ p1)]) (by decide) (Nat.le_of_ble_eq_true rfl) (fun Γ G _ _ hR => ?_)
  have hcs := rt_cs hR
  unfold x_L_where at h
  refine (?_ : PT Γ 3 shX 0 σ [(0, .ref (ga Γ 0)), (1, .int (zJ p1))] [])
  refine p_aload_n G rfl 0 rfl dL_where_0 ?_
  refine p_iload_n G rfl 1 rfl dL_where_1 ?_
  obtain ⟨v1, hc, h⟩ := bthrn h
  refine p_callVi G dL_where_2 lk_L_45 (c_X6_where (gl Γ) hc) (As := [.int (zJ p1)]) (ci := 8) rfl rfl rfl rfl (Nat.le_of_ble_eq_true rfl) ⟨rfl, rfl, Nat.le_of_ble_eq_true rfl, Nat.le_of_ble_eq_true rfl⟩ hcs ?_
  (cases h; exact p_iret G hR dL_where_5 rfl rfl)
set_option maxHeartbeats 4000000 in
set_option maxRecDepth 100000 in
theorem c_L_meldOf (l : Launch) {D : va_G} {yy : Nat → ClassId} {tk tv a : Nat → Nat} {σ : Mm} {p1 : Int} {p2 : Int} {o : Mm × Int} (h : x_L_meldOf σ p1 p2 = some o) : CTHP l yL_meldOf cL_meldOf 4 (some .int) [(0, 6, 7, 34), (0, 6, 12, 25)] rm_L_meldOf shX D yy tk tv a σ [.ref (a 0), .int (zJ p1), .int (zJ p2)] o.1 (some (.int (zJ o.2))) := by
  refine cthp_of (Ar := fun a tk => [.ref (a 0), .int (zJ p1), .int (zJ p2)]) (by decide) (Nat.le_of_ble_eq_true rfl) (fun Γ G _ _ hR => ?_)
  have hcs := rt_cs hR
  unfold x_L_meldOf at h
  refine (?_ : PT Γ 4 shX 0 σ [(0, .ref (ga Γ 0)), (1, .int (zJ p1)), (2, .int (zJ p2))] [])
  refine p_aload_n G rfl 0 rfl dL_meldOf_0 ?_
  refine p_iload_n G rfl 1 rfl dL_meldOf_1 ?_
  refine p_iload_n G rfl 2 rfl dL_meldOf_2 ?_
  obtain ⟨⟨σ1, v2⟩, hc, h⟩ := bthrn h
  rw [un2_mk] at h
  refine p_callVi G dL_meldOf_3 lk_L_48 (c_X6_meldOf (gl Γ) hc) (As := [.int (zJ p1), .int (zJ p2)]) (ci := 8) rfl rfl rfl rfl (Nat.le_of_ble_eq_true rfl) ⟨rfl, rfl, Nat.le_of_ble_eq_true rfl, Nat.le_of_ble_eq_true rfl⟩ hcs ?_
  (cases h; exact p_iret G hR dL_meldOf_6 rfl rfl)
set_option maxHeartbeats 4000000 in
set_option maxRecDepth 100000 in
theorem c_L_meld (l : Launch) {D : va_G} {yy : Nat → ClassId} {tk tv a : Nat → Nat} {σ : Mm} {p1 : Int} {p2 : Int} {p3 : Int} {o : Mm × Int} (h : x_L_meld σ p1 p2 p3 = some o) : CTHP l yL_meld cL_meld 5 (some .int) [(0, 7, 8, 34)] rm_L_meld shX D yy tk tv a σ [.ref (a 0), .int (zJ p1), .int (zJ p2), .int (zJ p3)] o.1 (some (.int (zJ o.2))) := by
  refine cthp_of (Ar := fun a tk => [.ref (a 0), .int (zJ p1), .int (zJ p2), .int (zJ p3)]) (by decide) (Nat.le_of_ble_eq_true rfl) (fun Γ G _ _ hR => ?_)
  have hcs := rt_cs hR
  unfold x_L_meld at h
  refine (?_ : PT Γ 5 shX 0 σ [(0, .ref (ga Γ 0)), (1, .int (zJ p1)), (2, .int (zJ p2)), (3, .int (zJ p3))] [])
  refine p_aload_n G rfl 0 rfl dL_meld_0 ?_
  refine p_iload_n G rfl 1 rfl dL_meld_1 ?_
  refine p_iload_n G rfl 2 rfl dL_meld_2 ?_
  refine p_iload_n G rfl 3 rfl dL_meld_3 ?_
  obtain ⟨⟨σ1, v2⟩, hc, h⟩ := bthrn h
  rw [un2_mk] at h
  refine p_callVi G dL_meld_4 lk_L_51 (c_X6_meld (gl Γ) hc) (As := [.int (zJ p1), .int (zJ p2), .int (zJ p3)]) (ci := 8) rfl rfl rfl rfl (Nat.le_of_ble_eq_true rfl) ⟨rfl, rfl, Nat.le_of_ble_eq_true rfl, Nat.le_of_ble_eq_true rfl⟩ hcs ?_
  (cases h; exact p_iret G hR dL_meld_7 rfl rfl)
set_option maxHeartbeats 4000000 in
set_option maxRecDepth 100000 in
theorem c_L_restWithout (l : Launch) {D : va_G} {yy : Nat → ClassId} {tk tv a : Nat → Nat} {σ : Mm} {p1 : Int} {o : Mm × Int} (h : x_L_restWithout σ p1 = some o) : CTHP l yL_restWithout cL_restWithout 3 (some .int) [(0, 5, 6, 25)] rm_L_restWithout shX D yy tk tv a σ [.ref (a 0), .int (zJ p1)] o.1 (some (.int (zJ o.2))) := by
  refine cthp_of (Ar := fun a tk => [.ref (a 0), .int (zJ p1)]) (by decide) (Nat.le_of_ble_eq_true rfl) (fun Γ G _ _ hR => ?_)
  have hcs := rt_cs hR
  unfold x_L_restWithout at h
  refine (?_ : PT Γ 3 shX 0 σ [(0, .ref (ga Γ 0)), (1, .int (zJ p1))] [])
  refine p_aload_n G rfl 0 rfl dL_restWithout_0 ?_
  refine p_iload_n G rfl 1 rfl dL_restWithout_1 ?_
  obtain ⟨⟨σ1, v2⟩, hc, h⟩ := bthrn h
  rw [un2_mk] at h
  refine p_callVi G dL_restWithout_2 lk_L_55 (c_X6_restWithout (gl Γ) hc) (As := [.int (zJ p1)]) (ci := 8) rfl rfl rfl rfl (Nat.le_of_ble_eq_true rfl) ⟨rfl, rfl, Nat.le_of_ble_eq_true rfl, Nat.le_of_ble_eq_true rfl⟩ hcs ?_
  (cases h; exact p_iret G hR dL_restWithout_5 rfl rfl)
set_option maxHeartbeats 4000000 in
set_option maxRecDepth 100000 in
theorem c_L_kind (l : Launch) {D : va_G} {yy : Nat → ClassId} {tk tv a : Nat → Nat} {σ : Mm} {p1 : Int64} {o : Int} (h : x_L_kind σ p1 = some o) : CTHP l yL_kind cL_kind 4 (some .int) [(0, 5, 6, 34)] rm_L_kind shX D yy tk tv a σ [.ref (a 0), .long p1] σ (some (.int (zJ o))) := by
  refine cthp_of (Ar := fun a tk => [.ref (a 0), .long p1]) (by decide) (Nat.le_of_ble_eq_true rfl) (fun Γ G _ _ hR => ?_)
  have hcs := rt_cs hR
  unfold x_L_kind at h
  refine (?_ : PT Γ 4 shX 0 σ [(0, .ref (ga Γ 0)), (1, .long p1)] [])
  refine p_aload_n G rfl 0 rfl dL_kind_0 ?_
  refine p_lload_n G rfl 1 rfl dL_kind_1 ?_
  obtain ⟨v1, hc, h⟩ := bthrn h
  refine p_callVi G dL_kind_2 lk_L_58 (c_X6_kind (gl Γ) hc) (As := [.long p1]) (ci := 8) rfl rfl rfl rfl (Nat.le_of_ble_eq_true rfl) ⟨rfl, rfl, Nat.le_of_ble_eq_true rfl, Nat.le_of_ble_eq_true rfl⟩ hcs ?_
  (cases h; exact p_iret G hR dL_kind_5 rfl rfl)
set_option maxHeartbeats 4000000 in
set_option maxRecDepth 100000 in
theorem c_L_act (l : Launch) {D : va_G} {yy : Nat → ClassId} {tk tv a tk0 tv0 : Nat → Nat} (e1 : tk = tk0) (e2 : tv = tv0) {σ : Mm} {p2 : Int} {o : Mm} (h : x_L_act σ (zsc tv0) (tk0 1001) p2 = some o) : CTN l yL_act cL_act 7 none rm_L_act shX shX D yy tk tv a σ [.ref (a 0), .ref (tk0 1000), .int (zJ p2)] o none 30 750 := by
  subst e1 e2
  refine ctn_of (Ar := fun a tk => [.ref (a 0), .ref (tk 1000), .int (zJ p2)]) (by decide) (Nat.le_of_ble_eq_true rfl) (fun h => by cases h) (fun Γ G _ hM hR => ?_)
  have hcs := mk_cs G hM (Nat.le_of_ble_eq_true rfl) (Nat.le_of_ble_eq_true rfl)
  rw [hM.1.2.1]
  unfold x_L_act at h
  refine (?_ : PT Γ 7 shX 0 σ [(0, .ref (ga Γ 0)), (1, .ref (tk 1000)), (2, .int (zJ p2))] [])
  refine p_aload_n G rfl 1 rfl dL_act_0 ?_
  refine p_iload_n G rfl 2 rfl dL_act_1 ?_
  refine p_iconst G rfl dL_act_2 ?_
  refine p_iadd G dL_act_3 ?_
  obtain ⟨v1, hc, h⟩ := bnd_some h
  refine p_callS0 G dL_act_4 lk_L_7 (c_L_cell (gl Γ) hM.1.2.1 hM.1.2.2 hc) (As := [.ref (tk 1000), .int (zJ (p2 + (1 : Int)))]) rfl zk_48 rfl (Nat.le_of_ble_eq_true rfl) ⟨rfl, rfl, Nat.le_of_ble_eq_true rfl, Nat.le_of_ble_eq_true rfl⟩ hcs ?_
  refine p_ldc (x := 2147483647) G gm_969 (by decide) dL_act_7 ?_
  refine p_iand G dL_act_9 ?_
  refine p_istore_n (lv' := fun v2 => [(3, .int (zJ v2)), (0, .ref (ga Γ 0)), (1, .ref (tk 1000)), (2, .int (zJ p2))]) G rfl dL_act_10 h (by decide) (fun _ => rfl) (fun v2 h => ?_)
  refine p_aload_n G rfl 1 rfl dL_act_11 ?_
  refine p_iconst G rfl dL_act_12 ?_
  obtain ⟨v3, hc, h⟩ := bnd_some h
  refine p_callHPr (np := 2) G zl_101 dL_act_13 gm_970 gm_971 gm_26 gm_972 (by decide +kernel) (c_L_match (gl Γ) hc) (As := [.ref (ga Γ 0), .int (zJ (4 : Int))]) rfl zk_101 (zs_x zs_101 _) rfl (Nat.le_of_ble_eq_true rfl) ⟨rfl, rfl, Nat.le_of_ble_eq_true rfl, Nat.le_of_ble_eq_true rfl⟩ hcs ?_
  refine p_istoreU (lv' := [(4, .int (zJ v3)), (3, .int (zJ v2)), (0, .ref (ga Γ 0)), (1, .ref (tk 1000)), (2, .int (zJ p2))]) G dL_act_16 (by decide) rfl ?_
  refine p_aload_n G rfl 2 rfl dL_act_18 ?_
  refine p_iload G 0 rfl dL_act_19 ?_
  refine p_iload_n G rfl 1 rfl dL_act_21 ?_
  refine p_aload_n G rfl 2 rfl dL_act_22 ?_
  refine p_iload G 0 rfl dL_act_23 ?_
  refine p_iconst G rfl dL_act_25 ?_
  obtain ⟨⟨σ4, v5⟩, hc, h⟩ := bnd_some h
  rw [un2_mk] at h
  refine p_callHP (np := 3) G zl_101 dL_act_26 gm_994 gm_995 gm_26 gm_996 (by decide +kernel) (c_L_player (gl Γ) hc) (As := [.ref (ga Γ 0), .int (zJ v3), .int (zJ (0 : Int))]) rfl zk_101 (zs_x zs_101 _) rfl (Nat.le_of_ble_eq_true rfl) ⟨rfl, rfl, Nat.le_of_ble_eq_true rfl, Nat.le_of_ble_eq_true rfl⟩ hcs ?_
  refine p_nm h (fun σ6 h => ?_)
  refine p_irem G dL_act_29 h (fun h => ?_)
  obtain ⟨v7, hc, h⟩ := bnd_some h
  refine p_callHPr (np := 3) G zl_101 dL_act_30 gm_1021 gm_1022 gm_26 gm_1023 (by decide +kernel) (c_L_card (gl Γ) hc) (As := [.ref (ga Γ 0), .int (zJ v3), .int (zJ (zrem v2 v5))]) rfl zk_101 (zs_x zs_101 _) rfl (Nat.le_of_ble_eq_true rfl) ⟨rfl, rfl, Nat.le_of_ble_eq_true rfl, Nat.le_of_ble_eq_true rfl⟩ hcs ?_
  refine p_istoreU (lv' := [(5, .int (zJ v7)), (4, .int (zJ v3)), (3, .int (zJ v2)), (0, .ref (ga Γ 0)), (1, .ref (tk 1000)), (2, .int (zJ p2))]) G dL_act_33 (by decide) rfl ?_
  refine p_aload_n G rfl 3 rfl dL_act_35 ?_
  obtain ⟨⟨σ8, v9⟩, hc, h⟩ := bnd_some h
  rw [un2_mk] at h
  refine p_callVi G dL_act_36 lk_L_112 (c_X6_bestDrop (gl Γ) hc) (As := []) (ci := 8) rfl rfl rfl rfl (Nat.le_of_ble_eq_true rfl) ⟨rfl, rfl, Nat.le_of_ble_eq_true rfl, Nat.le_of_ble_eq_true rfl⟩ hcs ?_
  refine p_istoreU (lv' := [(6, .int (zJ v9)), (5, .int (zJ v7)), (4, .int (zJ v3)), (3, .int (zJ v2)), (0, .ref (ga Γ 0)), (1, .ref (tk 1000)), (2, .int (zJ p2))]) G dL_act_39 (by decide) rfl ?_
  refine p_aload_n G rfl 5 rfl dL_act_41 ?_
  refine p_iload_n G rfl 6 rfl dL_act_42 ?_
  refine p_iconst G rfl dL_act_43 ?_
  refine p_bipush G (by decide) (by decide) dL_act_44 ?_
  obtain ⟨v10, hc, h⟩ := bnd_some h
  refine p_callS0 G dL_act_46 lk_L_72 (c_L_of (gl Γ) hM.1.2.1 hM.1.2.2 hc) (As := [.ref (tk 1000), .int (zJ p2), .int (zJ (0 : Int)), .int (zJ (12 : Int))]) rfl zk_48 rfl (Nat.le_of_ble_eq_true rfl) ⟨rfl, rfl, Nat.le_of_ble_eq_true rfl, Nat.le_of_ble_eq_true rfl⟩ hcs ?_
  refine zite h (fun c0_49 h => ?_) (fun c0_49 h => ?_)
  · refine p_tin (tgt := 108) (off := 59) G dL_act_49 c0_49 (by decide) (by decide) rfl (by decide) ?_
    refine p_aload_n G rfl 4 rfl dL_act_108 ?_
    refine p_iload_n G rfl 3 rfl dL_act_109 ?_
    refine p_iconst G rfl dL_act_110 ?_
    refine p_iremK G dL_act_111 (by decide) ?_
    refine p_ifne (tgt := 119) G dL_act_112 (by decide) h (fun c17 h => ?_) (fun c17 h => ?_)
    · refine p_iconst G rfl dL_act_119 ?_
      obtain ⟨⟨σ11, v12⟩, hc, h⟩ := bnd_some h
      rw [un2_mk] at h
      refine p_callVN (lv' := fun a => [(6, .int (zJ v9)), (5, .int (zJ v7)), (4, .int (zJ v3)), (3, .int (zJ v2)), (0, .ref (a 0)), (1, .ref (tk 1000)), (2, .int (zJ p2))]) (st' := fun a => []) G hR hM zl_101 dL_act_120 lk_L_115 (c_X6_draw (gl Γ) hc) (As := [.int (zJ (0 : Int))]) (ci := 8) rfl zk_101 (by decide +kernel) (by decide +kernel) (zs_x zs_101 _) rfl rfl rfl (Nat.le_of_ble_eq_true rfl) ⟨rfl, rfl, Nat.le_of_ble_eq_true rfl, Nat.le_of_ble_eq_true rfl⟩ (Nat.le_of_ble_eq_true rfl) (Nat.le_of_ble_eq_true rfl) h (fun a e => by have q0 := e 0 _ rfl rfl; exact ⟨by simp only [q0], by rfl⟩) (fun Γ G hR hM σ13 h => ?_)
      refine (?_ : PT Γ 7 shX 123 σ13 [(6, .int (zJ v9)), (5, .int (zJ v7)), (4, .int (zJ v3)), (3, .int (zJ v2)), (0, .ref (ga Γ 0)), (1, .ref (tk 1000)), (2, .int (zJ p2))] [.int (zJ v12)])
      have hcs := mk_cs G hM (Nat.le_of_ble_eq_true rfl) (Nat.le_of_ble_eq_true rfl)
      refine p_pop G rfl dL_act_123 ?_
      refine p_goto (tgt := 240) G dL_act_124 (by decide) ?_
      (cases h; exact p_vretN G hM (Nat.le_of_ble_eq_true rfl) (Nat.le_of_ble_eq_true rfl) hR dL_act_240 rfl rfl)
    · refine p_iconst G rfl dL_act_115 ?_
      refine p_goto (tgt := 120) G dL_act_116 (by decide) ?_
      obtain ⟨⟨σ14, v15⟩, hc, h⟩ := bnd_some h
      rw [un2_mk] at h
      refine p_callVN (lv' := fun a => [(6, .int (zJ v9)), (5, .int (zJ v7)), (4, .int (zJ v3)), (3, .int (zJ v2)), (0, .ref (a 0)), (1, .ref (tk 1000)), (2, .int (zJ p2))]) (st' := fun a => []) G hR hM zl_101 dL_act_120 lk_L_115 (c_X6_draw (gl Γ) hc) (As := [.int (zJ (1 : Int))]) (ci := 8) rfl zk_101 (by decide +kernel) (by decide +kernel) (zs_x zs_101 _) rfl rfl rfl (Nat.le_of_ble_eq_true rfl) ⟨rfl, rfl, Nat.le_of_ble_eq_true rfl, Nat.le_of_ble_eq_true rfl⟩ (Nat.le_of_ble_eq_true rfl) (Nat.le_of_ble_eq_true rfl) h (fun a e => by have q0 := e 0 _ rfl rfl; exact ⟨by simp only [q0], by rfl⟩) (fun Γ G hR hM σ16 h => ?_)
      refine (?_ : PT Γ 7 shX 123 σ16 [(6, .int (zJ v9)), (5, .int (zJ v7)), (4, .int (zJ v3)), (3, .int (zJ v2)), (0, .ref (ga Γ 0)), (1, .ref (tk 1000)), (2, .int (zJ p2))] [.int (zJ v15)])
      have hcs := mk_cs G hM (Nat.le_of_ble_eq_true rfl) (Nat.le_of_ble_eq_true rfl)
      refine p_pop G rfl dL_act_123 ?_
      refine p_goto (tgt := 240) G dL_act_124 (by decide) ?_
      (cases h; exact p_vretN G hM (Nat.le_of_ble_eq_true rfl) (Nat.le_of_ble_eq_true rfl) hR dL_act_240 rfl rfl)
  · refine zite h (fun c1_49 h => ?_) (fun c1_49 h => ?_)
    · refine p_tin (tgt := 108) (off := 59) G dL_act_49 c1_49 (by decide) (by decide) rfl (by decide) ?_
      refine p_aload_n G rfl 4 rfl dL_act_108 ?_
      refine p_iload_n G rfl 3 rfl dL_act_109 ?_
      refine p_iconst G rfl dL_act_110 ?_
      refine p_iremK G dL_act_111 (by decide) ?_
      refine p_ifne (tgt := 119) G dL_act_112 (by decide) h (fun c24 h => ?_) (fun c24 h => ?_)
      · refine p_iconst G rfl dL_act_119 ?_
        obtain ⟨⟨σ18, v19⟩, hc, h⟩ := bnd_some h
        rw [un2_mk] at h
        refine p_callVN (lv' := fun a => [(6, .int (zJ v9)), (5, .int (zJ v7)), (4, .int (zJ v3)), (3, .int (zJ v2)), (0, .ref (a 0)), (1, .ref (tk 1000)), (2, .int (zJ p2))]) (st' := fun a => []) G hR hM zl_101 dL_act_120 lk_L_115 (c_X6_draw (gl Γ) hc) (As := [.int (zJ (0 : Int))]) (ci := 8) rfl zk_101 (by decide +kernel) (by decide +kernel) (zs_x zs_101 _) rfl rfl rfl (Nat.le_of_ble_eq_true rfl) ⟨rfl, rfl, Nat.le_of_ble_eq_true rfl, Nat.le_of_ble_eq_true rfl⟩ (Nat.le_of_ble_eq_true rfl) (Nat.le_of_ble_eq_true rfl) h (fun a e => by have q0 := e 0 _ rfl rfl; exact ⟨by simp only [q0], by rfl⟩) (fun Γ G hR hM σ20 h => ?_)
        refine (?_ : PT Γ 7 shX 123 σ20 [(6, .int (zJ v9)), (5, .int (zJ v7)), (4, .int (zJ v3)), (3, .int (zJ v2)), (0, .ref (ga Γ 0)), (1, .ref (tk 1000)), (2, .int (zJ p2))] [.int (zJ v19)])
        have hcs := mk_cs G hM (Nat.le_of_ble_eq_true rfl) (Nat.le_of_ble_eq_true rfl)
        refine p_pop G rfl dL_act_123 ?_
        refine p_goto (tgt := 240) G dL_act_124 (by decide) ?_
        (cases h; exact p_vretN G hM (Nat.le_of_ble_eq_true rfl) (Nat.le_of_ble_eq_true rfl) hR dL_act_240 rfl rfl)
      · refine p_iconst G rfl dL_act_115 ?_
        refine p_goto (tgt := 120) G dL_act_116 (by decide) ?_
        obtain ⟨⟨σ21, v22⟩, hc, h⟩ := bnd_some h
        rw [un2_mk] at h
        refine p_callVN (lv' := fun a => [(6, .int (zJ v9)), (5, .int (zJ v7)), (4, .int (zJ v3)), (3, .int (zJ v2)), (0, .ref (a 0)), (1, .ref (tk 1000)), (2, .int (zJ p2))]) (st' := fun a => []) G hR hM zl_101 dL_act_120 lk_L_115 (c_X6_draw (gl Γ) hc) (As := [.int (zJ (1 : Int))]) (ci := 8) rfl zk_101 (by decide +kernel) (by decide +kernel) (zs_x zs_101 _) rfl rfl rfl (Nat.le_of_ble_eq_true rfl) ⟨rfl, rfl, Nat.le_of_ble_eq_true rfl, Nat.le_of_ble_eq_true rfl⟩ (Nat.le_of_ble_eq_true rfl) (Nat.le_of_ble_eq_true rfl) h (fun a e => by have q0 := e 0 _ rfl rfl; exact ⟨by simp only [q0], by rfl⟩) (fun Γ G hR hM σ23 h => ?_)
        refine (?_ : PT Γ 7 shX 123 σ23 [(6, .int (zJ v9)), (5, .int (zJ v7)), (4, .int (zJ v3)), (3, .int (zJ v2)), (0, .ref (ga Γ 0)), (1, .ref (tk 1000)), (2, .int (zJ p2))] [.int (zJ v22)])
        have hcs := mk_cs G hM (Nat.le_of_ble_eq_true rfl) (Nat.le_of_ble_eq_true rfl)
        refine p_pop G rfl dL_act_123 ?_
        refine p_goto (tgt := 240) G dL_act_124 (by decide) ?_
        (cases h; exact p_vretN G hM (Nat.le_of_ble_eq_true rfl) (Nat.le_of_ble_eq_true rfl) hR dL_act_240 rfl rfl)
    · refine zite h (fun c2_49 h => ?_) (fun c2_49 h => ?_)
      · refine p_tin (tgt := 108) (off := 59) G dL_act_49 c2_49 (by decide) (by decide) rfl (by decide) ?_
        refine p_aload_n G rfl 4 rfl dL_act_108 ?_
        refine p_iload_n G rfl 3 rfl dL_act_109 ?_
        refine p_iconst G rfl dL_act_110 ?_
        refine p_iremK G dL_act_111 (by decide) ?_
        refine p_ifne (tgt := 119) G dL_act_112 (by decide) h (fun c31 h => ?_) (fun c31 h => ?_)
        · refine p_iconst G rfl dL_act_119 ?_
          obtain ⟨⟨σ25, v26⟩, hc, h⟩ := bnd_some h
          rw [un2_mk] at h
          refine p_callVN (lv' := fun a => [(6, .int (zJ v9)), (5, .int (zJ v7)), (4, .int (zJ v3)), (3, .int (zJ v2)), (0, .ref (a 0)), (1, .ref (tk 1000)), (2, .int (zJ p2))]) (st' := fun a => []) G hR hM zl_101 dL_act_120 lk_L_115 (c_X6_draw (gl Γ) hc) (As := [.int (zJ (0 : Int))]) (ci := 8) rfl zk_101 (by decide +kernel) (by decide +kernel) (zs_x zs_101 _) rfl rfl rfl (Nat.le_of_ble_eq_true rfl) ⟨rfl, rfl, Nat.le_of_ble_eq_true rfl, Nat.le_of_ble_eq_true rfl⟩ (Nat.le_of_ble_eq_true rfl) (Nat.le_of_ble_eq_true rfl) h (fun a e => by have q0 := e 0 _ rfl rfl; exact ⟨by simp only [q0], by rfl⟩) (fun Γ G hR hM σ27 h => ?_)
          refine (?_ : PT Γ 7 shX 123 σ27 [(6, .int (zJ v9)), (5, .int (zJ v7)), (4, .int (zJ v3)), (3, .int (zJ v2)), (0, .ref (ga Γ 0)), (1, .ref (tk 1000)), (2, .int (zJ p2))] [.int (zJ v26)])
          have hcs := mk_cs G hM (Nat.le_of_ble_eq_true rfl) (Nat.le_of_ble_eq_true rfl)
          refine p_pop G rfl dL_act_123 ?_
          refine p_goto (tgt := 240) G dL_act_124 (by decide) ?_
          (cases h; exact p_vretN G hM (Nat.le_of_ble_eq_true rfl) (Nat.le_of_ble_eq_true rfl) hR dL_act_240 rfl rfl)
        · refine p_iconst G rfl dL_act_115 ?_
          refine p_goto (tgt := 120) G dL_act_116 (by decide) ?_
          obtain ⟨⟨σ28, v29⟩, hc, h⟩ := bnd_some h
          rw [un2_mk] at h
          refine p_callVN (lv' := fun a => [(6, .int (zJ v9)), (5, .int (zJ v7)), (4, .int (zJ v3)), (3, .int (zJ v2)), (0, .ref (a 0)), (1, .ref (tk 1000)), (2, .int (zJ p2))]) (st' := fun a => []) G hR hM zl_101 dL_act_120 lk_L_115 (c_X6_draw (gl Γ) hc) (As := [.int (zJ (1 : Int))]) (ci := 8) rfl zk_101 (by decide +kernel) (by decide +kernel) (zs_x zs_101 _) rfl rfl rfl (Nat.le_of_ble_eq_true rfl) ⟨rfl, rfl, Nat.le_of_ble_eq_true rfl, Nat.le_of_ble_eq_true rfl⟩ (Nat.le_of_ble_eq_true rfl) (Nat.le_of_ble_eq_true rfl) h (fun a e => by have q0 := e 0 _ rfl rfl; exact ⟨by simp only [q0], by rfl⟩) (fun Γ G hR hM σ30 h => ?_)
          refine (?_ : PT Γ 7 shX 123 σ30 [(6, .int (zJ v9)), (5, .int (zJ v7)), (4, .int (zJ v3)), (3, .int (zJ v2)), (0, .ref (ga Γ 0)), (1, .ref (tk 1000)), (2, .int (zJ p2))] [.int (zJ v29)])
          have hcs := mk_cs G hM (Nat.le_of_ble_eq_true rfl) (Nat.le_of_ble_eq_true rfl)
          refine p_pop G rfl dL_act_123 ?_
          refine p_goto (tgt := 240) G dL_act_124 (by decide) ?_
          (cases h; exact p_vretN G hM (Nat.le_of_ble_eq_true rfl) (Nat.le_of_ble_eq_true rfl) hR dL_act_240 rfl rfl)
      · refine zite h (fun c3_49 h => ?_) (fun c3_49 h => ?_)
        · refine p_tin (tgt := 108) (off := 59) G dL_act_49 c3_49 (by decide) (by decide) rfl (by decide) ?_
          refine p_aload_n G rfl 4 rfl dL_act_108 ?_
          refine p_iload_n G rfl 3 rfl dL_act_109 ?_
          refine p_iconst G rfl dL_act_110 ?_
          refine p_iremK G dL_act_111 (by decide) ?_
          refine p_ifne (tgt := 119) G dL_act_112 (by decide) h (fun c38 h => ?_) (fun c38 h => ?_)
          · refine p_iconst G rfl dL_act_119 ?_
            obtain ⟨⟨σ32, v33⟩, hc, h⟩ := bnd_some h
            rw [un2_mk] at h
            refine p_callVN (lv' := fun a => [(6, .int (zJ v9)), (5, .int (zJ v7)), (4, .int (zJ v3)), (3, .int (zJ v2)), (0, .ref (a 0)), (1, .ref (tk 1000)), (2, .int (zJ p2))]) (st' := fun a => []) G hR hM zl_101 dL_act_120 lk_L_115 (c_X6_draw (gl Γ) hc) (As := [.int (zJ (0 : Int))]) (ci := 8) rfl zk_101 (by decide +kernel) (by decide +kernel) (zs_x zs_101 _) rfl rfl rfl (Nat.le_of_ble_eq_true rfl) ⟨rfl, rfl, Nat.le_of_ble_eq_true rfl, Nat.le_of_ble_eq_true rfl⟩ (Nat.le_of_ble_eq_true rfl) (Nat.le_of_ble_eq_true rfl) h (fun a e => by have q0 := e 0 _ rfl rfl; exact ⟨by simp only [q0], by rfl⟩) (fun Γ G hR hM σ34 h => ?_)
            refine (?_ : PT Γ 7 shX 123 σ34 [(6, .int (zJ v9)), (5, .int (zJ v7)), (4, .int (zJ v3)), (3, .int (zJ v2)), (0, .ref (ga Γ 0)), (1, .ref (tk 1000)), (2, .int (zJ p2))] [.int (zJ v33)])
            have hcs := mk_cs G hM (Nat.le_of_ble_eq_true rfl) (Nat.le_of_ble_eq_true rfl)
            refine p_pop G rfl dL_act_123 ?_
            refine p_goto (tgt := 240) G dL_act_124 (by decide) ?_
            (cases h; exact p_vretN G hM (Nat.le_of_ble_eq_true rfl) (Nat.le_of_ble_eq_true rfl) hR dL_act_240 rfl rfl)
          · refine p_iconst G rfl dL_act_115 ?_
            refine p_goto (tgt := 120) G dL_act_116 (by decide) ?_
            obtain ⟨⟨σ35, v36⟩, hc, h⟩ := bnd_some h
            rw [un2_mk] at h
            refine p_callVN (lv' := fun a => [(6, .int (zJ v9)), (5, .int (zJ v7)), (4, .int (zJ v3)), (3, .int (zJ v2)), (0, .ref (a 0)), (1, .ref (tk 1000)), (2, .int (zJ p2))]) (st' := fun a => []) G hR hM zl_101 dL_act_120 lk_L_115 (c_X6_draw (gl Γ) hc) (As := [.int (zJ (1 : Int))]) (ci := 8) rfl zk_101 (by decide +kernel) (by decide +kernel) (zs_x zs_101 _) rfl rfl rfl (Nat.le_of_ble_eq_true rfl) ⟨rfl, rfl, Nat.le_of_ble_eq_true rfl, Nat.le_of_ble_eq_true rfl⟩ (Nat.le_of_ble_eq_true rfl) (Nat.le_of_ble_eq_true rfl) h (fun a e => by have q0 := e 0 _ rfl rfl; exact ⟨by simp only [q0], by rfl⟩) (fun Γ G hR hM σ37 h => ?_)
            refine (?_ : PT Γ 7 shX 123 σ37 [(6, .int (zJ v9)), (5, .int (zJ v7)), (4, .int (zJ v3)), (3, .int (zJ v2)), (0, .ref (ga Γ 0)), (1, .ref (tk 1000)), (2, .int (zJ p2))] [.int (zJ v36)])
            have hcs := mk_cs G hM (Nat.le_of_ble_eq_true rfl) (Nat.le_of_ble_eq_true rfl)
            refine p_pop G rfl dL_act_123 ?_
            refine p_goto (tgt := 240) G dL_act_124 (by decide) ?_
            (cases h; exact p_vretN G hM (Nat.le_of_ble_eq_true rfl) (Nat.le_of_ble_eq_true rfl) hR dL_act_240 rfl rfl)
        · refine zite h (fun c4_49 h => ?_) (fun c4_49 h => ?_)
          · refine p_tin (tgt := 127) (off := 78) G dL_act_49 c4_49 (by decide) (by decide) rfl (by decide) ?_
            refine p_aload_n G rfl 4 rfl dL_act_127 ?_
            refine p_iload G 0 rfl dL_act_128 ?_
            refine p_iconst G rfl dL_act_130 ?_
            refine p_icmpeq (tgt := 140) G dL_act_131 (by decide) h (fun c49 h => ?_) (fun c49 h => ?_)
            · refine p_iload G 1 rfl dL_act_140 ?_
              refine p_goto (tgt := 147) G dL_act_142 (by decide) ?_
              obtain ⟨⟨σ39, v40⟩, hc, h⟩ := bnd_some h
              rw [un2_mk] at h
              refine p_callHS (np := 2) (lv' := fun a => [(6, .int (zJ v9)), (5, .int (zJ v7)), (4, .int (zJ v3)), (3, .int (zJ v2)), (0, .ref (a 0)), (1, .ref (tk 1000)), (2, .int (zJ p2))]) (st' := fun a => []) G hR hM zl_101 dL_act_147 gm_1044 gm_1045 gm_26 gm_1046 (by decide +kernel) (c_L_drop (gl Γ) hc) (As := [.ref (ga Γ 0), .int (zJ v7)]) rfl zk_101 (by decide +kernel) (by decide +kernel) (zs_x zs_101 _) rfl (Nat.le_of_ble_eq_true rfl) ⟨rfl, rfl, Nat.le_of_ble_eq_true rfl, Nat.le_of_ble_eq_true rfl⟩ (Nat.le_of_ble_eq_true rfl) (Nat.le_of_ble_eq_true rfl) h (fun a e => by have q0 := e 0 _ rfl rfl; exact ⟨by simp only [q0], by rfl⟩) (fun Γ G hR hM σ41 h => ?_)
              refine (?_ : PT Γ 7 shX 150 σ41 [(6, .int (zJ v9)), (5, .int (zJ v7)), (4, .int (zJ v3)), (3, .int (zJ v2)), (0, .ref (ga Γ 0)), (1, .ref (tk 1000)), (2, .int (zJ p2))] [.int (zJ v40)])
              have hcs := mk_cs G hM (Nat.le_of_ble_eq_true rfl) (Nat.le_of_ble_eq_true rfl)
              refine p_pop G rfl dL_act_150 ?_
              refine p_goto (tgt := 240) G dL_act_151 (by decide) ?_
              (cases h; exact p_vretN G hM (Nat.le_of_ble_eq_true rfl) (Nat.le_of_ble_eq_true rfl) hR dL_act_240 rfl rfl)
            · refine p_iload_n G rfl 3 rfl dL_act_134 ?_
              refine p_iconst G rfl dL_act_135 ?_
              refine p_iremK G dL_act_136 (by decide) ?_
              refine p_ifne (tgt := 145) G dL_act_137 (by decide) h (fun c48 h => ?_) (fun c48 h => ?_)
              · refine p_iload G 0 rfl dL_act_145 ?_
                obtain ⟨⟨σ42, v43⟩, hc, h⟩ := bnd_some h
                rw [un2_mk] at h
                refine p_callHS (np := 2) (lv' := fun a => [(6, .int (zJ v9)), (5, .int (zJ v7)), (4, .int (zJ v3)), (3, .int (zJ v2)), (0, .ref (a 0)), (1, .ref (tk 1000)), (2, .int (zJ p2))]) (st' := fun a => []) G hR hM zl_101 dL_act_147 gm_1044 gm_1045 gm_26 gm_1046 (by decide +kernel) (c_L_drop (gl Γ) hc) (As := [.ref (ga Γ 0), .int (zJ v9)]) rfl zk_101 (by decide +kernel) (by decide +kernel) (zs_x zs_101 _) rfl (Nat.le_of_ble_eq_true rfl) ⟨rfl, rfl, Nat.le_of_ble_eq_true rfl, Nat.le_of_ble_eq_true rfl⟩ (Nat.le_of_ble_eq_true rfl) (Nat.le_of_ble_eq_true rfl) h (fun a e => by have q0 := e 0 _ rfl rfl; exact ⟨by simp only [q0], by rfl⟩) (fun Γ G hR hM σ44 h => ?_)
                refine (?_ : PT Γ 7 shX 150 σ44 [(6, .int (zJ v9)), (5, .int (zJ v7)), (4, .int (zJ v3)), (3, .int (zJ v2)), (0, .ref (ga Γ 0)), (1, .ref (tk 1000)), (2, .int (zJ p2))] [.int (zJ v43)])
                have hcs := mk_cs G hM (Nat.le_of_ble_eq_true rfl) (Nat.le_of_ble_eq_true rfl)
                refine p_pop G rfl dL_act_150 ?_
                refine p_goto (tgt := 240) G dL_act_151 (by decide) ?_
                (cases h; exact p_vretN G hM (Nat.le_of_ble_eq_true rfl) (Nat.le_of_ble_eq_true rfl) hR dL_act_240 rfl rfl)
              · refine p_iload G 1 rfl dL_act_140 ?_
                refine p_goto (tgt := 147) G dL_act_142 (by decide) ?_
                obtain ⟨⟨σ45, v46⟩, hc, h⟩ := bnd_some h
                rw [un2_mk] at h
                refine p_callHS (np := 2) (lv' := fun a => [(6, .int (zJ v9)), (5, .int (zJ v7)), (4, .int (zJ v3)), (3, .int (zJ v2)), (0, .ref (a 0)), (1, .ref (tk 1000)), (2, .int (zJ p2))]) (st' := fun a => []) G hR hM zl_101 dL_act_147 gm_1044 gm_1045 gm_26 gm_1046 (by decide +kernel) (c_L_drop (gl Γ) hc) (As := [.ref (ga Γ 0), .int (zJ v7)]) rfl zk_101 (by decide +kernel) (by decide +kernel) (zs_x zs_101 _) rfl (Nat.le_of_ble_eq_true rfl) ⟨rfl, rfl, Nat.le_of_ble_eq_true rfl, Nat.le_of_ble_eq_true rfl⟩ (Nat.le_of_ble_eq_true rfl) (Nat.le_of_ble_eq_true rfl) h (fun a e => by have q0 := e 0 _ rfl rfl; exact ⟨by simp only [q0], by rfl⟩) (fun Γ G hR hM σ47 h => ?_)
                refine (?_ : PT Γ 7 shX 150 σ47 [(6, .int (zJ v9)), (5, .int (zJ v7)), (4, .int (zJ v3)), (3, .int (zJ v2)), (0, .ref (ga Γ 0)), (1, .ref (tk 1000)), (2, .int (zJ p2))] [.int (zJ v46)])
                have hcs := mk_cs G hM (Nat.le_of_ble_eq_true rfl) (Nat.le_of_ble_eq_true rfl)
                refine p_pop G rfl dL_act_150 ?_
                refine p_goto (tgt := 240) G dL_act_151 (by decide) ?_
                (cases h; exact p_vretN G hM (Nat.le_of_ble_eq_true rfl) (Nat.le_of_ble_eq_true rfl) hR dL_act_240 rfl rfl)
          · refine zite h (fun c5_49 h => ?_) (fun c5_49 h => ?_)
            · refine p_tin (tgt := 127) (off := 78) G dL_act_49 c5_49 (by decide) (by decide) rfl (by decide) ?_
              refine p_aload_n G rfl 4 rfl dL_act_127 ?_
              refine p_iload G 0 rfl dL_act_128 ?_
              refine p_iconst G rfl dL_act_130 ?_
              refine p_icmpeq (tgt := 140) G dL_act_131 (by decide) h (fun c60 h => ?_) (fun c60 h => ?_)
              · refine p_iload G 1 rfl dL_act_140 ?_
                refine p_goto (tgt := 147) G dL_act_142 (by decide) ?_
                obtain ⟨⟨σ50, v51⟩, hc, h⟩ := bnd_some h
                rw [un2_mk] at h
                refine p_callHS (np := 2) (lv' := fun a => [(6, .int (zJ v9)), (5, .int (zJ v7)), (4, .int (zJ v3)), (3, .int (zJ v2)), (0, .ref (a 0)), (1, .ref (tk 1000)), (2, .int (zJ p2))]) (st' := fun a => []) G hR hM zl_101 dL_act_147 gm_1044 gm_1045 gm_26 gm_1046 (by decide +kernel) (c_L_drop (gl Γ) hc) (As := [.ref (ga Γ 0), .int (zJ v7)]) rfl zk_101 (by decide +kernel) (by decide +kernel) (zs_x zs_101 _) rfl (Nat.le_of_ble_eq_true rfl) ⟨rfl, rfl, Nat.le_of_ble_eq_true rfl, Nat.le_of_ble_eq_true rfl⟩ (Nat.le_of_ble_eq_true rfl) (Nat.le_of_ble_eq_true rfl) h (fun a e => by have q0 := e 0 _ rfl rfl; exact ⟨by simp only [q0], by rfl⟩) (fun Γ G hR hM σ52 h => ?_)
                refine (?_ : PT Γ 7 shX 150 σ52 [(6, .int (zJ v9)), (5, .int (zJ v7)), (4, .int (zJ v3)), (3, .int (zJ v2)), (0, .ref (ga Γ 0)), (1, .ref (tk 1000)), (2, .int (zJ p2))] [.int (zJ v51)])
                have hcs := mk_cs G hM (Nat.le_of_ble_eq_true rfl) (Nat.le_of_ble_eq_true rfl)
                refine p_pop G rfl dL_act_150 ?_
                refine p_goto (tgt := 240) G dL_act_151 (by decide) ?_
                (cases h; exact p_vretN G hM (Nat.le_of_ble_eq_true rfl) (Nat.le_of_ble_eq_true rfl) hR dL_act_240 rfl rfl)
              · refine p_iload_n G rfl 3 rfl dL_act_134 ?_
                refine p_iconst G rfl dL_act_135 ?_
                refine p_iremK G dL_act_136 (by decide) ?_
                refine p_ifne (tgt := 145) G dL_act_137 (by decide) h (fun c59 h => ?_) (fun c59 h => ?_)
                · refine p_iload G 0 rfl dL_act_145 ?_
                  obtain ⟨⟨σ53, v54⟩, hc, h⟩ := bnd_some h
                  rw [un2_mk] at h
                  refine p_callHS (np := 2) (lv' := fun a => [(6, .int (zJ v9)), (5, .int (zJ v7)), (4, .int (zJ v3)), (3, .int (zJ v2)), (0, .ref (a 0)), (1, .ref (tk 1000)), (2, .int (zJ p2))]) (st' := fun a => []) G hR hM zl_101 dL_act_147 gm_1044 gm_1045 gm_26 gm_1046 (by decide +kernel) (c_L_drop (gl Γ) hc) (As := [.ref (ga Γ 0), .int (zJ v9)]) rfl zk_101 (by decide +kernel) (by decide +kernel) (zs_x zs_101 _) rfl (Nat.le_of_ble_eq_true rfl) ⟨rfl, rfl, Nat.le_of_ble_eq_true rfl, Nat.le_of_ble_eq_true rfl⟩ (Nat.le_of_ble_eq_true rfl) (Nat.le_of_ble_eq_true rfl) h (fun a e => by have q0 := e 0 _ rfl rfl; exact ⟨by simp only [q0], by rfl⟩) (fun Γ G hR hM σ55 h => ?_)
                  refine (?_ : PT Γ 7 shX 150 σ55 [(6, .int (zJ v9)), (5, .int (zJ v7)), (4, .int (zJ v3)), (3, .int (zJ v2)), (0, .ref (ga Γ 0)), (1, .ref (tk 1000)), (2, .int (zJ p2))] [.int (zJ v54)])
                  have hcs := mk_cs G hM (Nat.le_of_ble_eq_true rfl) (Nat.le_of_ble_eq_true rfl)
                  refine p_pop G rfl dL_act_150 ?_
                  refine p_goto (tgt := 240) G dL_act_151 (by decide) ?_
                  (cases h; exact p_vretN G hM (Nat.le_of_ble_eq_true rfl) (Nat.le_of_ble_eq_true rfl) hR dL_act_240 rfl rfl)
                · refine p_iload G 1 rfl dL_act_140 ?_
                  refine p_goto (tgt := 147) G dL_act_142 (by decide) ?_
                  obtain ⟨⟨σ56, v57⟩, hc, h⟩ := bnd_some h
                  rw [un2_mk] at h
                  refine p_callHS (np := 2) (lv' := fun a => [(6, .int (zJ v9)), (5, .int (zJ v7)), (4, .int (zJ v3)), (3, .int (zJ v2)), (0, .ref (a 0)), (1, .ref (tk 1000)), (2, .int (zJ p2))]) (st' := fun a => []) G hR hM zl_101 dL_act_147 gm_1044 gm_1045 gm_26 gm_1046 (by decide +kernel) (c_L_drop (gl Γ) hc) (As := [.ref (ga Γ 0), .int (zJ v7)]) rfl zk_101 (by decide +kernel) (by decide +kernel) (zs_x zs_101 _) rfl (Nat.le_of_ble_eq_true rfl) ⟨rfl, rfl, Nat.le_of_ble_eq_true rfl, Nat.le_of_ble_eq_true rfl⟩ (Nat.le_of_ble_eq_true rfl) (Nat.le_of_ble_eq_true rfl) h (fun a e => by have q0 := e 0 _ rfl rfl; exact ⟨by simp only [q0], by rfl⟩) (fun Γ G hR hM σ58 h => ?_)
                  refine (?_ : PT Γ 7 shX 150 σ58 [(6, .int (zJ v9)), (5, .int (zJ v7)), (4, .int (zJ v3)), (3, .int (zJ v2)), (0, .ref (ga Γ 0)), (1, .ref (tk 1000)), (2, .int (zJ p2))] [.int (zJ v57)])
                  have hcs := mk_cs G hM (Nat.le_of_ble_eq_true rfl) (Nat.le_of_ble_eq_true rfl)
                  refine p_pop G rfl dL_act_150 ?_
                  refine p_goto (tgt := 240) G dL_act_151 (by decide) ?_
                  (cases h; exact p_vretN G hM (Nat.le_of_ble_eq_true rfl) (Nat.le_of_ble_eq_true rfl) hR dL_act_240 rfl rfl)
            · refine zite h (fun c6_49 h => ?_) (fun c6_49 h => ?_)
              · refine p_tin (tgt := 127) (off := 78) G dL_act_49 c6_49 (by decide) (by decide) rfl (by decide) ?_
                refine p_aload_n G rfl 4 rfl dL_act_127 ?_
                refine p_iload G 0 rfl dL_act_128 ?_
                refine p_iconst G rfl dL_act_130 ?_
                refine p_icmpeq (tgt := 140) G dL_act_131 (by decide) h (fun c71 h => ?_) (fun c71 h => ?_)
                · refine p_iload G 1 rfl dL_act_140 ?_
                  refine p_goto (tgt := 147) G dL_act_142 (by decide) ?_
                  obtain ⟨⟨σ61, v62⟩, hc, h⟩ := bnd_some h
                  rw [un2_mk] at h
                  refine p_callHS (np := 2) (lv' := fun a => [(6, .int (zJ v9)), (5, .int (zJ v7)), (4, .int (zJ v3)), (3, .int (zJ v2)), (0, .ref (a 0)), (1, .ref (tk 1000)), (2, .int (zJ p2))]) (st' := fun a => []) G hR hM zl_101 dL_act_147 gm_1044 gm_1045 gm_26 gm_1046 (by decide +kernel) (c_L_drop (gl Γ) hc) (As := [.ref (ga Γ 0), .int (zJ v7)]) rfl zk_101 (by decide +kernel) (by decide +kernel) (zs_x zs_101 _) rfl (Nat.le_of_ble_eq_true rfl) ⟨rfl, rfl, Nat.le_of_ble_eq_true rfl, Nat.le_of_ble_eq_true rfl⟩ (Nat.le_of_ble_eq_true rfl) (Nat.le_of_ble_eq_true rfl) h (fun a e => by have q0 := e 0 _ rfl rfl; exact ⟨by simp only [q0], by rfl⟩) (fun Γ G hR hM σ63 h => ?_)
                  refine (?_ : PT Γ 7 shX 150 σ63 [(6, .int (zJ v9)), (5, .int (zJ v7)), (4, .int (zJ v3)), (3, .int (zJ v2)), (0, .ref (ga Γ 0)), (1, .ref (tk 1000)), (2, .int (zJ p2))] [.int (zJ v62)])
                  have hcs := mk_cs G hM (Nat.le_of_ble_eq_true rfl) (Nat.le_of_ble_eq_true rfl)
                  refine p_pop G rfl dL_act_150 ?_
                  refine p_goto (tgt := 240) G dL_act_151 (by decide) ?_
                  (cases h; exact p_vretN G hM (Nat.le_of_ble_eq_true rfl) (Nat.le_of_ble_eq_true rfl) hR dL_act_240 rfl rfl)
                · refine p_iload_n G rfl 3 rfl dL_act_134 ?_
                  refine p_iconst G rfl dL_act_135 ?_
                  refine p_iremK G dL_act_136 (by decide) ?_
                  refine p_ifne (tgt := 145) G dL_act_137 (by decide) h (fun c70 h => ?_) (fun c70 h => ?_)
                  · refine p_iload G 0 rfl dL_act_145 ?_
                    obtain ⟨⟨σ64, v65⟩, hc, h⟩ := bnd_some h
                    rw [un2_mk] at h
                    refine p_callHS (np := 2) (lv' := fun a => [(6, .int (zJ v9)), (5, .int (zJ v7)), (4, .int (zJ v3)), (3, .int (zJ v2)), (0, .ref (a 0)), (1, .ref (tk 1000)), (2, .int (zJ p2))]) (st' := fun a => []) G hR hM zl_101 dL_act_147 gm_1044 gm_1045 gm_26 gm_1046 (by decide +kernel) (c_L_drop (gl Γ) hc) (As := [.ref (ga Γ 0), .int (zJ v9)]) rfl zk_101 (by decide +kernel) (by decide +kernel) (zs_x zs_101 _) rfl (Nat.le_of_ble_eq_true rfl) ⟨rfl, rfl, Nat.le_of_ble_eq_true rfl, Nat.le_of_ble_eq_true rfl⟩ (Nat.le_of_ble_eq_true rfl) (Nat.le_of_ble_eq_true rfl) h (fun a e => by have q0 := e 0 _ rfl rfl; exact ⟨by simp only [q0], by rfl⟩) (fun Γ G hR hM σ66 h => ?_)
                    refine (?_ : PT Γ 7 shX 150 σ66 [(6, .int (zJ v9)), (5, .int (zJ v7)), (4, .int (zJ v3)), (3, .int (zJ v2)), (0, .ref (ga Γ 0)), (1, .ref (tk 1000)), (2, .int (zJ p2))] [.int (zJ v65)])
                    have hcs := mk_cs G hM (Nat.le_of_ble_eq_true rfl) (Nat.le_of_ble_eq_true rfl)
                    refine p_pop G rfl dL_act_150 ?_
                    refine p_goto (tgt := 240) G dL_act_151 (by decide) ?_
                    (cases h; exact p_vretN G hM (Nat.le_of_ble_eq_true rfl) (Nat.le_of_ble_eq_true rfl) hR dL_act_240 rfl rfl)
                  · refine p_iload G 1 rfl dL_act_140 ?_
                    refine p_goto (tgt := 147) G dL_act_142 (by decide) ?_
                    obtain ⟨⟨σ67, v68⟩, hc, h⟩ := bnd_some h
                    rw [un2_mk] at h
                    refine p_callHS (np := 2) (lv' := fun a => [(6, .int (zJ v9)), (5, .int (zJ v7)), (4, .int (zJ v3)), (3, .int (zJ v2)), (0, .ref (a 0)), (1, .ref (tk 1000)), (2, .int (zJ p2))]) (st' := fun a => []) G hR hM zl_101 dL_act_147 gm_1044 gm_1045 gm_26 gm_1046 (by decide +kernel) (c_L_drop (gl Γ) hc) (As := [.ref (ga Γ 0), .int (zJ v7)]) rfl zk_101 (by decide +kernel) (by decide +kernel) (zs_x zs_101 _) rfl (Nat.le_of_ble_eq_true rfl) ⟨rfl, rfl, Nat.le_of_ble_eq_true rfl, Nat.le_of_ble_eq_true rfl⟩ (Nat.le_of_ble_eq_true rfl) (Nat.le_of_ble_eq_true rfl) h (fun a e => by have q0 := e 0 _ rfl rfl; exact ⟨by simp only [q0], by rfl⟩) (fun Γ G hR hM σ69 h => ?_)
                    refine (?_ : PT Γ 7 shX 150 σ69 [(6, .int (zJ v9)), (5, .int (zJ v7)), (4, .int (zJ v3)), (3, .int (zJ v2)), (0, .ref (ga Γ 0)), (1, .ref (tk 1000)), (2, .int (zJ p2))] [.int (zJ v68)])
                    have hcs := mk_cs G hM (Nat.le_of_ble_eq_true rfl) (Nat.le_of_ble_eq_true rfl)
                    refine p_pop G rfl dL_act_150 ?_
                    refine p_goto (tgt := 240) G dL_act_151 (by decide) ?_
                    (cases h; exact p_vretN G hM (Nat.le_of_ble_eq_true rfl) (Nat.le_of_ble_eq_true rfl) hR dL_act_240 rfl rfl)
              · refine zite h (fun c7_49 h => ?_) (fun c7_49 h => ?_)
                · refine p_tin (tgt := 154) (off := 105) G dL_act_49 c7_49 (by decide) (by decide) rfl (by decide) ?_
                  refine p_aload_n G rfl 4 rfl dL_act_154 ?_
                  refine p_iload G 1 rfl dL_act_155 ?_
                  obtain ⟨⟨σ72, v73⟩, hc, h⟩ := bnd_some h
                  rw [un2_mk] at h
                  refine p_callHS (np := 2) (lv' := fun a => [(6, .int (zJ v9)), (5, .int (zJ v7)), (4, .int (zJ v3)), (3, .int (zJ v2)), (0, .ref (a 0)), (1, .ref (tk 1000)), (2, .int (zJ p2))]) (st' := fun a => []) G hR hM zl_101 dL_act_157 gm_1044 gm_1045 gm_26 gm_1046 (by decide +kernel) (c_L_drop (gl Γ) hc) (As := [.ref (ga Γ 0), .int (zJ v7)]) rfl zk_101 (by decide +kernel) (by decide +kernel) (zs_x zs_101 _) rfl (Nat.le_of_ble_eq_true rfl) ⟨rfl, rfl, Nat.le_of_ble_eq_true rfl, Nat.le_of_ble_eq_true rfl⟩ (Nat.le_of_ble_eq_true rfl) (Nat.le_of_ble_eq_true rfl) h (fun a e => by have q0 := e 0 _ rfl rfl; exact ⟨by simp only [q0], by rfl⟩) (fun Γ G hR hM σ74 h => ?_)
                  refine (?_ : PT Γ 7 shX 160 σ74 [(6, .int (zJ v9)), (5, .int (zJ v7)), (4, .int (zJ v3)), (3, .int (zJ v2)), (0, .ref (ga Γ 0)), (1, .ref (tk 1000)), (2, .int (zJ p2))] [.int (zJ v73)])
                  have hcs := mk_cs G hM (Nat.le_of_ble_eq_true rfl) (Nat.le_of_ble_eq_true rfl)
                  refine p_pop G rfl dL_act_160 ?_
                  refine p_goto (tgt := 240) G dL_act_161 (by decide) ?_
                  (cases h; exact p_vretN G hM (Nat.le_of_ble_eq_true rfl) (Nat.le_of_ble_eq_true rfl) hR dL_act_240 rfl rfl)
                · refine zite h (fun c8_49 h => ?_) (fun c8_49 h => ?_)
                  · refine p_tin (tgt := 164) (off := 115) G dL_act_49 c8_49 (by decide) (by decide) rfl (by decide) ?_
                    refine p_aload_n G rfl 4 rfl dL_act_164 ?_
                    refine p_iload G 0 rfl dL_act_165 ?_
                    refine p_iconst G rfl dL_act_167 ?_
                    refine p_icmpeq (tgt := 177) G dL_act_168 (by decide) h (fun c85 h => ?_) (fun c85 h => ?_)
                    · refine p_iload G 1 rfl dL_act_177 ?_
                      refine p_goto (tgt := 184) G dL_act_179 (by decide) ?_
                      obtain ⟨⟨σ75, v76⟩, hc, h⟩ := bnd_some h
                      rw [un2_mk] at h
                      refine p_callHS (np := 2) (lv' := fun a => [(6, .int (zJ v9)), (5, .int (zJ v7)), (4, .int (zJ v3)), (3, .int (zJ v2)), (0, .ref (a 0)), (1, .ref (tk 1000)), (2, .int (zJ p2))]) (st' := fun a => []) G hR hM zl_101 dL_act_184 gm_1074 gm_1075 gm_26 gm_1076 (by decide +kernel) (c_L_knock (gl Γ) hc) (As := [.ref (ga Γ 0), .int (zJ v7)]) rfl zk_101 (by decide +kernel) (by decide +kernel) (zs_x zs_101 _) rfl (Nat.le_of_ble_eq_true rfl) ⟨rfl, rfl, Nat.le_of_ble_eq_true rfl, Nat.le_of_ble_eq_true rfl⟩ (Nat.le_of_ble_eq_true rfl) (Nat.le_of_ble_eq_true rfl) h (fun a e => by have q0 := e 0 _ rfl rfl; exact ⟨by simp only [q0], by rfl⟩) (fun Γ G hR hM σ77 h => ?_)
                      refine (?_ : PT Γ 7 shX 187 σ77 [(6, .int (zJ v9)), (5, .int (zJ v7)), (4, .int (zJ v3)), (3, .int (zJ v2)), (0, .ref (ga Γ 0)), (1, .ref (tk 1000)), (2, .int (zJ p2))] [.int (zJ v76)])
                      have hcs := mk_cs G hM (Nat.le_of_ble_eq_true rfl) (Nat.le_of_ble_eq_true rfl)
                      refine p_pop G rfl dL_act_187 ?_
                      refine p_goto (tgt := 240) G dL_act_188 (by decide) ?_
                      (cases h; exact p_vretN G hM (Nat.le_of_ble_eq_true rfl) (Nat.le_of_ble_eq_true rfl) hR dL_act_240 rfl rfl)
                    · refine p_iload_n G rfl 3 rfl dL_act_171 ?_
                      refine p_iconst G rfl dL_act_172 ?_
                      refine p_iremK G dL_act_173 (by decide) ?_
                      refine p_ifne (tgt := 182) G dL_act_174 (by decide) h (fun c84 h => ?_) (fun c84 h => ?_)
                      · refine p_iload G 0 rfl dL_act_182 ?_
                        obtain ⟨⟨σ78, v79⟩, hc, h⟩ := bnd_some h
                        rw [un2_mk] at h
                        refine p_callHS (np := 2) (lv' := fun a => [(6, .int (zJ v9)), (5, .int (zJ v7)), (4, .int (zJ v3)), (3, .int (zJ v2)), (0, .ref (a 0)), (1, .ref (tk 1000)), (2, .int (zJ p2))]) (st' := fun a => []) G hR hM zl_101 dL_act_184 gm_1074 gm_1075 gm_26 gm_1076 (by decide +kernel) (c_L_knock (gl Γ) hc) (As := [.ref (ga Γ 0), .int (zJ v9)]) rfl zk_101 (by decide +kernel) (by decide +kernel) (zs_x zs_101 _) rfl (Nat.le_of_ble_eq_true rfl) ⟨rfl, rfl, Nat.le_of_ble_eq_true rfl, Nat.le_of_ble_eq_true rfl⟩ (Nat.le_of_ble_eq_true rfl) (Nat.le_of_ble_eq_true rfl) h (fun a e => by have q0 := e 0 _ rfl rfl; exact ⟨by simp only [q0], by rfl⟩) (fun Γ G hR hM σ80 h => ?_)
                        refine (?_ : PT Γ 7 shX 187 σ80 [(6, .int (zJ v9)), (5, .int (zJ v7)), (4, .int (zJ v3)), (3, .int (zJ v2)), (0, .ref (ga Γ 0)), (1, .ref (tk 1000)), (2, .int (zJ p2))] [.int (zJ v79)])
                        have hcs := mk_cs G hM (Nat.le_of_ble_eq_true rfl) (Nat.le_of_ble_eq_true rfl)
                        refine p_pop G rfl dL_act_187 ?_
                        refine p_goto (tgt := 240) G dL_act_188 (by decide) ?_
                        (cases h; exact p_vretN G hM (Nat.le_of_ble_eq_true rfl) (Nat.le_of_ble_eq_true rfl) hR dL_act_240 rfl rfl)
                      · refine p_iload G 1 rfl dL_act_177 ?_
                        refine p_goto (tgt := 184) G dL_act_179 (by decide) ?_
                        obtain ⟨⟨σ81, v82⟩, hc, h⟩ := bnd_some h
                        rw [un2_mk] at h
                        refine p_callHS (np := 2) (lv' := fun a => [(6, .int (zJ v9)), (5, .int (zJ v7)), (4, .int (zJ v3)), (3, .int (zJ v2)), (0, .ref (a 0)), (1, .ref (tk 1000)), (2, .int (zJ p2))]) (st' := fun a => []) G hR hM zl_101 dL_act_184 gm_1074 gm_1075 gm_26 gm_1076 (by decide +kernel) (c_L_knock (gl Γ) hc) (As := [.ref (ga Γ 0), .int (zJ v7)]) rfl zk_101 (by decide +kernel) (by decide +kernel) (zs_x zs_101 _) rfl (Nat.le_of_ble_eq_true rfl) ⟨rfl, rfl, Nat.le_of_ble_eq_true rfl, Nat.le_of_ble_eq_true rfl⟩ (Nat.le_of_ble_eq_true rfl) (Nat.le_of_ble_eq_true rfl) h (fun a e => by have q0 := e 0 _ rfl rfl; exact ⟨by simp only [q0], by rfl⟩) (fun Γ G hR hM σ83 h => ?_)
                        refine (?_ : PT Γ 7 shX 187 σ83 [(6, .int (zJ v9)), (5, .int (zJ v7)), (4, .int (zJ v3)), (3, .int (zJ v2)), (0, .ref (ga Γ 0)), (1, .ref (tk 1000)), (2, .int (zJ p2))] [.int (zJ v82)])
                        have hcs := mk_cs G hM (Nat.le_of_ble_eq_true rfl) (Nat.le_of_ble_eq_true rfl)
                        refine p_pop G rfl dL_act_187 ?_
                        refine p_goto (tgt := 240) G dL_act_188 (by decide) ?_
                        (cases h; exact p_vretN G hM (Nat.le_of_ble_eq_true rfl) (Nat.le_of_ble_eq_true rfl) hR dL_act_240 rfl rfl)
                  · refine zite h (fun c9_49 h => ?_) (fun c9_49 h => ?_)
                    · refine p_tin (tgt := 164) (off := 115) G dL_act_49 c9_49 (by decide) (by decide) rfl (by decide) ?_
                      refine p_aload_n G rfl 4 rfl dL_act_164 ?_
                      refine p_iload G 0 rfl dL_act_165 ?_
                      refine p_iconst G rfl dL_act_167 ?_
                      refine p_icmpeq (tgt := 177) G dL_act_168 (by decide) h (fun c96 h => ?_) (fun c96 h => ?_)
                      · refine p_iload G 1 rfl dL_act_177 ?_
                        refine p_goto (tgt := 184) G dL_act_179 (by decide) ?_
                        obtain ⟨⟨σ86, v87⟩, hc, h⟩ := bnd_some h
                        rw [un2_mk] at h
                        refine p_callHS (np := 2) (lv' := fun a => [(6, .int (zJ v9)), (5, .int (zJ v7)), (4, .int (zJ v3)), (3, .int (zJ v2)), (0, .ref (a 0)), (1, .ref (tk 1000)), (2, .int (zJ p2))]) (st' := fun a => []) G hR hM zl_101 dL_act_184 gm_1074 gm_1075 gm_26 gm_1076 (by decide +kernel) (c_L_knock (gl Γ) hc) (As := [.ref (ga Γ 0), .int (zJ v7)]) rfl zk_101 (by decide +kernel) (by decide +kernel) (zs_x zs_101 _) rfl (Nat.le_of_ble_eq_true rfl) ⟨rfl, rfl, Nat.le_of_ble_eq_true rfl, Nat.le_of_ble_eq_true rfl⟩ (Nat.le_of_ble_eq_true rfl) (Nat.le_of_ble_eq_true rfl) h (fun a e => by have q0 := e 0 _ rfl rfl; exact ⟨by simp only [q0], by rfl⟩) (fun Γ G hR hM σ88 h => ?_)
                        refine (?_ : PT Γ 7 shX 187 σ88 [(6, .int (zJ v9)), (5, .int (zJ v7)), (4, .int (zJ v3)), (3, .int (zJ v2)), (0, .ref (ga Γ 0)), (1, .ref (tk 1000)), (2, .int (zJ p2))] [.int (zJ v87)])
                        have hcs := mk_cs G hM (Nat.le_of_ble_eq_true rfl) (Nat.le_of_ble_eq_true rfl)
                        refine p_pop G rfl dL_act_187 ?_
                        refine p_goto (tgt := 240) G dL_act_188 (by decide) ?_
                        (cases h; exact p_vretN G hM (Nat.le_of_ble_eq_true rfl) (Nat.le_of_ble_eq_true rfl) hR dL_act_240 rfl rfl)
                      · refine p_iload_n G rfl 3 rfl dL_act_171 ?_
                        refine p_iconst G rfl dL_act_172 ?_
                        refine p_iremK G dL_act_173 (by decide) ?_
                        refine p_ifne (tgt := 182) G dL_act_174 (by decide) h (fun c95 h => ?_) (fun c95 h => ?_)
                        · refine p_iload G 0 rfl dL_act_182 ?_
                          obtain ⟨⟨σ89, v90⟩, hc, h⟩ := bnd_some h
                          rw [un2_mk] at h
                          refine p_callHS (np := 2) (lv' := fun a => [(6, .int (zJ v9)), (5, .int (zJ v7)), (4, .int (zJ v3)), (3, .int (zJ v2)), (0, .ref (a 0)), (1, .ref (tk 1000)), (2, .int (zJ p2))]) (st' := fun a => []) G hR hM zl_101 dL_act_184 gm_1074 gm_1075 gm_26 gm_1076 (by decide +kernel) (c_L_knock (gl Γ) hc) (As := [.ref (ga Γ 0), .int (zJ v9)]) rfl zk_101 (by decide +kernel) (by decide +kernel) (zs_x zs_101 _) rfl (Nat.le_of_ble_eq_true rfl) ⟨rfl, rfl, Nat.le_of_ble_eq_true rfl, Nat.le_of_ble_eq_true rfl⟩ (Nat.le_of_ble_eq_true rfl) (Nat.le_of_ble_eq_true rfl) h (fun a e => by have q0 := e 0 _ rfl rfl; exact ⟨by simp only [q0], by rfl⟩) (fun Γ G hR hM σ91 h => ?_)
                          refine (?_ : PT Γ 7 shX 187 σ91 [(6, .int (zJ v9)), (5, .int (zJ v7)), (4, .int (zJ v3)), (3, .int (zJ v2)), (0, .ref (ga Γ 0)), (1, .ref (tk 1000)), (2, .int (zJ p2))] [.int (zJ v90)])
                          have hcs := mk_cs G hM (Nat.le_of_ble_eq_true rfl) (Nat.le_of_ble_eq_true rfl)
                          refine p_pop G rfl dL_act_187 ?_
                          refine p_goto (tgt := 240) G dL_act_188 (by decide) ?_
                          (cases h; exact p_vretN G hM (Nat.le_of_ble_eq_true rfl) (Nat.le_of_ble_eq_true rfl) hR dL_act_240 rfl rfl)
                        · refine p_iload G 1 rfl dL_act_177 ?_
                          refine p_goto (tgt := 184) G dL_act_179 (by decide) ?_
                          obtain ⟨⟨σ92, v93⟩, hc, h⟩ := bnd_some h
                          rw [un2_mk] at h
                          refine p_callHS (np := 2) (lv' := fun a => [(6, .int (zJ v9)), (5, .int (zJ v7)), (4, .int (zJ v3)), (3, .int (zJ v2)), (0, .ref (a 0)), (1, .ref (tk 1000)), (2, .int (zJ p2))]) (st' := fun a => []) G hR hM zl_101 dL_act_184 gm_1074 gm_1075 gm_26 gm_1076 (by decide +kernel) (c_L_knock (gl Γ) hc) (As := [.ref (ga Γ 0), .int (zJ v7)]) rfl zk_101 (by decide +kernel) (by decide +kernel) (zs_x zs_101 _) rfl (Nat.le_of_ble_eq_true rfl) ⟨rfl, rfl, Nat.le_of_ble_eq_true rfl, Nat.le_of_ble_eq_true rfl⟩ (Nat.le_of_ble_eq_true rfl) (Nat.le_of_ble_eq_true rfl) h (fun a e => by have q0 := e 0 _ rfl rfl; exact ⟨by simp only [q0], by rfl⟩) (fun Γ G hR hM σ94 h => ?_)
                          refine (?_ : PT Γ 7 shX 187 σ94 [(6, .int (zJ v9)), (5, .int (zJ v7)), (4, .int (zJ v3)), (3, .int (zJ v2)), (0, .ref (ga Γ 0)), (1, .ref (tk 1000)), (2, .int (zJ p2))] [.int (zJ v93)])
                          have hcs := mk_cs G hM (Nat.le_of_ble_eq_true rfl) (Nat.le_of_ble_eq_true rfl)
                          refine p_pop G rfl dL_act_187 ?_
                          refine p_goto (tgt := 240) G dL_act_188 (by decide) ?_
                          (cases h; exact p_vretN G hM (Nat.le_of_ble_eq_true rfl) (Nat.le_of_ble_eq_true rfl) hR dL_act_240 rfl rfl)
                    · refine zite h (fun c10_49 h => ?_) (fun c10_49 h => ?_)
                      · refine p_tin (tgt := 191) (off := 142) G dL_act_49 c10_49 (by decide) (by decide) rfl (by decide) ?_
                        refine p_aload_n G rfl 4 rfl dL_act_191 ?_
                        obtain ⟨⟨σ97, v98⟩, hc, h⟩ := bnd_some h
                        rw [un2_mk] at h
                        refine p_callVN (lv' := fun a => [(6, .int (zJ v9)), (5, .int (zJ v7)), (4, .int (zJ v3)), (3, .int (zJ v2)), (0, .ref (a 0)), (1, .ref (tk 1000)), (2, .int (zJ p2))]) (st' := fun a => []) G hR hM zl_101 dL_act_192 lk_L_123 (c_X6_deal (gl Γ) hc) (As := []) (ci := 8) rfl zk_101 (by decide +kernel) (by decide +kernel) (zs_x zs_101 _) rfl rfl rfl (Nat.le_of_ble_eq_true rfl) ⟨rfl, rfl, Nat.le_of_ble_eq_true rfl, Nat.le_of_ble_eq_true rfl⟩ (Nat.le_of_ble_eq_true rfl) (Nat.le_of_ble_eq_true rfl) h (fun a e => by have q0 := e 0 _ rfl rfl; exact ⟨by simp only [q0], by rfl⟩) (fun Γ G hR hM σ99 h => ?_)
                        refine (?_ : PT Γ 7 shX 195 σ99 [(6, .int (zJ v9)), (5, .int (zJ v7)), (4, .int (zJ v3)), (3, .int (zJ v2)), (0, .ref (ga Γ 0)), (1, .ref (tk 1000)), (2, .int (zJ p2))] [.int (zJ v98)])
                        have hcs := mk_cs G hM (Nat.le_of_ble_eq_true rfl) (Nat.le_of_ble_eq_true rfl)
                        refine p_pop G rfl dL_act_195 ?_
                        refine p_goto (tgt := 240) G dL_act_196 (by decide) ?_
                        (cases h; exact p_vretN G hM (Nat.le_of_ble_eq_true rfl) (Nat.le_of_ble_eq_true rfl) hR dL_act_240 rfl rfl)
                      · refine p_tout (tgt := 199) G dL_act_49 (by omega) (by decide) ?_
                        refine p_aload_n G rfl 4 rfl dL_act_199 ?_
                        refine p_iload_n G rfl 3 rfl dL_act_200 ?_
                        refine p_iconst G rfl dL_act_201 ?_
                        refine p_iremK G dL_act_202 (by decide) ?_
                        refine p_ifne (tgt := 210) G dL_act_203 (by decide) h (fun c114 h => ?_) (fun c114 h => ?_)
                        · refine p_iconst G rfl dL_act_210 ?_
                          refine p_iload_n G rfl 3 rfl dL_act_211 ?_
                          refine p_iconst G rfl dL_act_212 ?_
                          refine p_iremK G dL_act_213 (by decide) ?_
                          refine p_ifne (tgt := 230) G dL_act_214 (by decide) h (fun c106 h => ?_) (fun c106 h => ?_)
                          · refine p_iload_n G rfl 3 rfl dL_act_230 ?_
                            refine p_iconst G rfl dL_act_231 ?_
                            refine p_idivK G dL_act_232 (by decide) ?_
                            refine p_bipush G (by decide) (by decide) dL_act_233 ?_
                            refine p_iremK G dL_act_235 (by decide) ?_
                            obtain ⟨⟨σ100, v101⟩, hc, h⟩ := bnd_some h
                            rw [un2_mk] at h
                            refine p_callHS (np := 3) (lv' := fun a => [(6, .int (zJ v9)), (5, .int (zJ v7)), (4, .int (zJ v3)), (3, .int (zJ v2)), (0, .ref (a 0)), (1, .ref (tk 1000)), (2, .int (zJ p2))]) (st' := fun a => []) G hR hM zl_101 dL_act_236 gm_1092 gm_1093 gm_26 gm_1094 (by decide +kernel) (c_L_set (gl Γ) hc) (As := [.ref (ga Γ 0), .int (zJ (0 : Int)), .int (zJ (zrem (zdiv v2 (4 : Int)) (21 : Int)))]) rfl zk_101 (by decide +kernel) (by decide +kernel) (zs_x zs_101 _) rfl (Nat.le_of_ble_eq_true rfl) ⟨rfl, rfl, Nat.le_of_ble_eq_true rfl, Nat.le_of_ble_eq_true rfl⟩ (Nat.le_of_ble_eq_true rfl) (Nat.le_of_ble_eq_true rfl) h (fun a e => by have q0 := e 0 _ rfl rfl; exact ⟨by simp only [q0], by rfl⟩) (fun Γ G hR hM σ102 h => ?_)
                            refine (?_ : PT Γ 7 shX 239 σ102 [(6, .int (zJ v9)), (5, .int (zJ v7)), (4, .int (zJ v3)), (3, .int (zJ v2)), (0, .ref (ga Γ 0)), (1, .ref (tk 1000)), (2, .int (zJ p2))] [.int (zJ v101)])
                            have hcs := mk_cs G hM (Nat.le_of_ble_eq_true rfl) (Nat.le_of_ble_eq_true rfl)
                            refine p_pop G rfl dL_act_239 ?_
                            (cases h; exact p_vretN G hM (Nat.le_of_ble_eq_true rfl) (Nat.le_of_ble_eq_true rfl) hR dL_act_240 rfl rfl)
                          · refine p_bipush G (by decide) (by decide) dL_act_217 ?_
                            refine p_iload_n G rfl 3 rfl dL_act_219 ?_
                            refine p_iconst G rfl dL_act_220 ?_
                            refine p_idivK G dL_act_221 (by decide) ?_
                            refine p_sipush G (by decide) (by decide) dL_act_222 ?_
                            refine p_iremK G dL_act_225 (by decide) ?_
                            refine p_iadd G dL_act_226 ?_
                            refine p_goto (tgt := 236) G dL_act_227 (by decide) ?_
                            obtain ⟨⟨σ103, v104⟩, hc, h⟩ := bnd_some h
                            rw [un2_mk] at h
                            refine p_callHS (np := 3) (lv' := fun a => [(6, .int (zJ v9)), (5, .int (zJ v7)), (4, .int (zJ v3)), (3, .int (zJ v2)), (0, .ref (a 0)), (1, .ref (tk 1000)), (2, .int (zJ p2))]) (st' := fun a => []) G hR hM zl_101 dL_act_236 gm_1092 gm_1093 gm_26 gm_1094 (by decide +kernel) (c_L_set (gl Γ) hc) (As := [.ref (ga Γ 0), .int (zJ (0 : Int)), .int (zJ ((20 : Int) + (zrem (zdiv v2 (4 : Int)) (481 : Int))))]) rfl zk_101 (by decide +kernel) (by decide +kernel) (zs_x zs_101 _) rfl (Nat.le_of_ble_eq_true rfl) ⟨rfl, rfl, Nat.le_of_ble_eq_true rfl, Nat.le_of_ble_eq_true rfl⟩ (Nat.le_of_ble_eq_true rfl) (Nat.le_of_ble_eq_true rfl) h (fun a e => by have q0 := e 0 _ rfl rfl; exact ⟨by simp only [q0], by rfl⟩) (fun Γ G hR hM σ105 h => ?_)
                            refine (?_ : PT Γ 7 shX 239 σ105 [(6, .int (zJ v9)), (5, .int (zJ v7)), (4, .int (zJ v3)), (3, .int (zJ v2)), (0, .ref (ga Γ 0)), (1, .ref (tk 1000)), (2, .int (zJ p2))] [.int (zJ v104)])
                            have hcs := mk_cs G hM (Nat.le_of_ble_eq_true rfl) (Nat.le_of_ble_eq_true rfl)
                            refine p_pop G rfl dL_act_239 ?_
                            (cases h; exact p_vretN G hM (Nat.le_of_ble_eq_true rfl) (Nat.le_of_ble_eq_true rfl) hR dL_act_240 rfl rfl)
                        · refine p_iconst G rfl dL_act_206 ?_
                          refine p_goto (tgt := 211) G dL_act_207 (by decide) ?_
                          refine p_iload_n G rfl 3 rfl dL_act_211 ?_
                          refine p_iconst G rfl dL_act_212 ?_
                          refine p_iremK G dL_act_213 (by decide) ?_
                          refine p_ifne (tgt := 230) G dL_act_214 (by decide) h (fun c113 h => ?_) (fun c113 h => ?_)
                          · refine p_iload_n G rfl 3 rfl dL_act_230 ?_
                            refine p_iconst G rfl dL_act_231 ?_
                            refine p_idivK G dL_act_232 (by decide) ?_
                            refine p_bipush G (by decide) (by decide) dL_act_233 ?_
                            refine p_iremK G dL_act_235 (by decide) ?_
                            obtain ⟨⟨σ107, v108⟩, hc, h⟩ := bnd_some h
                            rw [un2_mk] at h
                            refine p_callHS (np := 3) (lv' := fun a => [(6, .int (zJ v9)), (5, .int (zJ v7)), (4, .int (zJ v3)), (3, .int (zJ v2)), (0, .ref (a 0)), (1, .ref (tk 1000)), (2, .int (zJ p2))]) (st' := fun a => []) G hR hM zl_101 dL_act_236 gm_1092 gm_1093 gm_26 gm_1094 (by decide +kernel) (c_L_set (gl Γ) hc) (As := [.ref (ga Γ 0), .int (zJ (1 : Int)), .int (zJ (zrem (zdiv v2 (4 : Int)) (21 : Int)))]) rfl zk_101 (by decide +kernel) (by decide +kernel) (zs_x zs_101 _) rfl (Nat.le_of_ble_eq_true rfl) ⟨rfl, rfl, Nat.le_of_ble_eq_true rfl, Nat.le_of_ble_eq_true rfl⟩ (Nat.le_of_ble_eq_true rfl) (Nat.le_of_ble_eq_true rfl) h (fun a e => by have q0 := e 0 _ rfl rfl; exact ⟨by simp only [q0], by rfl⟩) (fun Γ G hR hM σ109 h => ?_)
                            refine (?_ : PT Γ 7 shX 239 σ109 [(6, .int (zJ v9)), (5, .int (zJ v7)), (4, .int (zJ v3)), (3, .int (zJ v2)), (0, .ref (ga Γ 0)), (1, .ref (tk 1000)), (2, .int (zJ p2))] [.int (zJ v108)])
                            have hcs := mk_cs G hM (Nat.le_of_ble_eq_true rfl) (Nat.le_of_ble_eq_true rfl)
                            refine p_pop G rfl dL_act_239 ?_
                            (cases h; exact p_vretN G hM (Nat.le_of_ble_eq_true rfl) (Nat.le_of_ble_eq_true rfl) hR dL_act_240 rfl rfl)
                          · refine p_bipush G (by decide) (by decide) dL_act_217 ?_
                            refine p_iload_n G rfl 3 rfl dL_act_219 ?_
                            refine p_iconst G rfl dL_act_220 ?_
                            refine p_idivK G dL_act_221 (by decide) ?_
                            refine p_sipush G (by decide) (by decide) dL_act_222 ?_
                            refine p_iremK G dL_act_225 (by decide) ?_
                            refine p_iadd G dL_act_226 ?_
                            refine p_goto (tgt := 236) G dL_act_227 (by decide) ?_
                            obtain ⟨⟨σ110, v111⟩, hc, h⟩ := bnd_some h
                            rw [un2_mk] at h
                            refine p_callHS (np := 3) (lv' := fun a => [(6, .int (zJ v9)), (5, .int (zJ v7)), (4, .int (zJ v3)), (3, .int (zJ v2)), (0, .ref (a 0)), (1, .ref (tk 1000)), (2, .int (zJ p2))]) (st' := fun a => []) G hR hM zl_101 dL_act_236 gm_1092 gm_1093 gm_26 gm_1094 (by decide +kernel) (c_L_set (gl Γ) hc) (As := [.ref (ga Γ 0), .int (zJ (1 : Int)), .int (zJ ((20 : Int) + (zrem (zdiv v2 (4 : Int)) (481 : Int))))]) rfl zk_101 (by decide +kernel) (by decide +kernel) (zs_x zs_101 _) rfl (Nat.le_of_ble_eq_true rfl) ⟨rfl, rfl, Nat.le_of_ble_eq_true rfl, Nat.le_of_ble_eq_true rfl⟩ (Nat.le_of_ble_eq_true rfl) (Nat.le_of_ble_eq_true rfl) h (fun a e => by have q0 := e 0 _ rfl rfl; exact ⟨by simp only [q0], by rfl⟩) (fun Γ G hR hM σ112 h => ?_)
                            refine (?_ : PT Γ 7 shX 239 σ112 [(6, .int (zJ v9)), (5, .int (zJ v7)), (4, .int (zJ v3)), (3, .int (zJ v2)), (0, .ref (ga Γ 0)), (1, .ref (tk 1000)), (2, .int (zJ p2))] [.int (zJ v111)])
                            have hcs := mk_cs G hM (Nat.le_of_ble_eq_true rfl) (Nat.le_of_ble_eq_true rfl)
                            refine p_pop G rfl dL_act_239 ?_
                            (cases h; exact p_vretN G hM (Nat.le_of_ble_eq_true rfl) (Nat.le_of_ble_eq_true rfl) hR dL_act_240 rfl rfl)
set_option maxHeartbeats 4000000 in
set_option maxRecDepth 100000 in
theorem c_L_points (l : Launch) {D : va_G} {yy : Nat → ClassId} {tk tv a : Nat → Nat} {σ : Mm} {p0 : Int} {o : Int} (h : x_L_points p0 = some o) : CT l yL_points cL_points 1 (some .int) rm_L_points shN D yy tk tv a σ [.int (zJ p0)] σ (some (.int (zJ o))) := by
  refine ct_of (Ar := fun a tk => [.int (zJ p0)]) (by decide) (Nat.le_of_ble_eq_true rfl) (fun Γ G _ _ hR => ?_)
  have hcs := rt_cs hR
  unfold x_L_points at h
  refine (?_ : PT Γ 1 shN 0 σ [(0, .int (zJ p0))] [])
  refine p_bipush G (by decide) (by decide) dL_points_0 ?_
  refine p_iload_n G rfl 0 rfl dL_points_2 ?_
  refine p_bipush G (by decide) (by decide) dL_points_3 ?_
  refine p_iremK G dL_points_5 (by decide) ?_
  refine p_iconst G rfl dL_points_6 ?_
  refine p_iadd G dL_points_7 ?_
  refine p_zmin G gm_1129 gm_535 gm_41 gm_536 (by decide) (by decide) hcs dL_points_8 ?_
  (cases h; exact p_iret G hR dL_points_11 rfl rfl)
set_option maxHeartbeats 4000000 in
set_option maxRecDepth 100000 in
theorem c_L_isNotWorse (l : Launch) {D : va_G} {yy : Nat → ClassId} {tk tv a : Nat → Nat} {σ : Mm} {o : Mm × Int} (h : x_L_isNotWorse σ = some o) : CTN l yL_isNotWorse cL_isNotWorse 4 (some .boolean) rm_L_isNotWorse shX shX D yy tk tv a σ [.ref (a 0)] o.1 (some (.int (zJ o.2))) 5 125 := by
  refine ctn_of (Ar := fun a tk => [.ref (a 0)]) (by decide) (Nat.le_of_ble_eq_true rfl) (fun h => by cases h) (fun Γ G _ hM hR => ?_)
  have hcs := mk_cs G hM (Nat.le_of_ble_eq_true rfl) (Nat.le_of_ble_eq_true rfl)
  unfold x_L_isNotWorse at h
  refine (?_ : PT Γ 4 shX 0 σ [(0, .ref (ga Γ 0))] [])
  refine p_aload_n G rfl 0 rfl dL_isNotWorse_0 ?_
  refine p_bipush G (by decide) (by decide) dL_isNotWorse_1 ?_
  obtain ⟨v1, hc, h⟩ := bnd_some h
  refine p_callHPr (np := 2) G zl_101 dL_isNotWorse_3 gm_970 gm_971 gm_26 gm_972 (by decide +kernel) (c_L_match (gl Γ) hc) (As := [.ref (ga Γ 0), .int (zJ (6 : Int))]) rfl zk_101 (zs_x zs_101 _) rfl (Nat.le_of_ble_eq_true rfl) ⟨rfl, rfl, Nat.le_of_ble_eq_true rfl, Nat.le_of_ble_eq_true rfl⟩ hcs ?_
  refine p_iconst G rfl dL_isNotWorse_6 ?_
  refine p_icmpeq (tgt := 19) G dL_isNotWorse_7 (by decide) h (fun c32 h => ?_) (fun c32 h => ?_)
  · refine p_iconst G rfl dL_isNotWorse_19 ?_
    (cases h; exact p_zretN G hM (Nat.le_of_ble_eq_true rfl) (Nat.le_of_ble_eq_true rfl) hR dL_isNotWorse_20 (by decide) rfl rfl)
  · refine p_aload_n G rfl 0 rfl dL_isNotWorse_10 ?_
    refine p_iconst G rfl dL_isNotWorse_11 ?_
    obtain ⟨v2, hc, h⟩ := bnd_some h
    refine p_callHPr (np := 2) G zl_101 dL_isNotWorse_12 gm_970 gm_971 gm_26 gm_972 (by decide +kernel) (c_L_match (gl Γ) hc) (As := [.ref (ga Γ 0), .int (zJ (5 : Int))]) rfl zk_101 (zs_x zs_101 _) rfl (Nat.le_of_ble_eq_true rfl) ⟨rfl, rfl, Nat.le_of_ble_eq_true rfl, Nat.le_of_ble_eq_true rfl⟩ hcs ?_
    refine p_iconst G rfl dL_isNotWorse_15 ?_
    refine p_icmpne (tgt := 21) G dL_isNotWorse_16 (by decide) h (fun c31 h => ?_) (fun c31 h => ?_)
    · refine p_aload_n G rfl 0 rfl dL_isNotWorse_21 ?_
      refine p_iconst G rfl dL_isNotWorse_22 ?_
      obtain ⟨v3, hc, h⟩ := bnd_some h
      refine p_callHPr (np := 2) G zl_101 dL_isNotWorse_23 gm_970 gm_971 gm_26 gm_972 (by decide +kernel) (c_L_match (gl Γ) hc) (As := [.ref (ga Γ 0), .int (zJ (4 : Int))]) rfl zk_101 (zs_x zs_101 _) rfl (Nat.le_of_ble_eq_true rfl) ⟨rfl, rfl, Nat.le_of_ble_eq_true rfl, Nat.le_of_ble_eq_true rfl⟩ hcs ?_
      refine p_istore_nU (lv' := [(1, .int (zJ v3)), (0, .ref (ga Γ 0))]) G rfl dL_isNotWorse_26 (by decide) rfl ?_
      refine p_aload_n G rfl 1 rfl dL_isNotWorse_27 ?_
      refine p_iload_n G rfl 0 rfl dL_isNotWorse_28 ?_
      refine p_iconst G rfl dL_isNotWorse_29 ?_
      obtain ⟨⟨σ4, v5⟩, hc, h⟩ := bnd_some h
      rw [un2_mk] at h
      refine p_callHP (np := 3) G zl_101 dL_isNotWorse_30 gm_994 gm_995 gm_26 gm_996 (by decide +kernel) (c_L_player (gl Γ) hc) (As := [.ref (ga Γ 0), .int (zJ v3), .int (zJ (1 : Int))]) rfl zk_101 (zs_x zs_101 _) rfl (Nat.le_of_ble_eq_true rfl) ⟨rfl, rfl, Nat.le_of_ble_eq_true rfl, Nat.le_of_ble_eq_true rfl⟩ hcs ?_
      refine p_nm h (fun σ6 h => ?_)
      refine p_istore_nU (lv' := [(2, .int (zJ v5)), (1, .int (zJ v3)), (0, .ref (ga Γ 0))]) G rfl dL_isNotWorse_33 (by decide) rfl ?_
      refine p_aload_n G rfl 2 rfl dL_isNotWorse_34 ?_
      refine p_iconst G rfl dL_isNotWorse_35 ?_
      obtain ⟨⟨σ7, v8⟩, hc, h⟩ := bnd_some h
      rw [un2_mk] at h
      refine p_callVN (lv' := fun a => [(2, .int (zJ v5)), (1, .int (zJ v3)), (0, .ref (a 0))]) (st' := fun a => []) G hR hM zl_101 dL_isNotWorse_36 lk_L_115 (c_X6_draw (gl Γ) hc) (As := [.int (zJ (0 : Int))]) (ci := 8) rfl zk_101 (by decide +kernel) (by decide +kernel) (zs_x zs_101 _) rfl rfl rfl (Nat.le_of_ble_eq_true rfl) ⟨rfl, rfl, Nat.le_of_ble_eq_true rfl, Nat.le_of_ble_eq_true rfl⟩ (Nat.le_of_ble_eq_true rfl) (Nat.le_of_ble_eq_true rfl) h (fun a e => by have q0 := e 0 _ rfl rfl; exact ⟨by simp only [q0], by rfl⟩) (fun Γ G hR hM σ9 h => ?_)
      refine (?_ : PT Γ 4 shX 39 σ9 [(2, .int (zJ v5)), (1, .int (zJ v3)), (0, .ref (ga Γ 0))] [.int (zJ v8)])
      have hcs := mk_cs G hM (Nat.le_of_ble_eq_true rfl) (Nat.le_of_ble_eq_true rfl)
      refine p_istore_nU (lv' := [(3, .int (zJ v8)), (2, .int (zJ v5)), (1, .int (zJ v3)), (0, .ref (ga Γ 0))]) G rfl dL_isNotWorse_39 (by decide) rfl ?_
      refine p_iload_n G rfl 0 rfl dL_isNotWorse_40 ?_
      refine p_iflt (tgt := 70) G dL_isNotWorse_41 (by decide) h (fun c30 h => ?_) (fun c30 h => ?_)
      · refine p_iconst G rfl dL_isNotWorse_70 ?_
        (cases h; exact p_zretN G hM (Nat.le_of_ble_eq_true rfl) (Nat.le_of_ble_eq_true rfl) hR dL_isNotWorse_71 (by decide) rfl rfl)
      · refine p_aload_n G rfl 3 rfl dL_isNotWorse_44 ?_
        refine p_iload_n G rfl 0 rfl dL_isNotWorse_45 ?_
        obtain ⟨v10, hc, h⟩ := bnd_some h
        refine p_callHPr (np := 2) G zl_101 dL_isNotWorse_46 gm_1111 gm_1112 gm_26 gm_1113 (by decide +kernel) (c_L_where (gl Γ) hc) (As := [.ref (ga Γ 0), .int (zJ v8)]) rfl zk_101 (zs_x zs_101 _) rfl (Nat.le_of_ble_eq_true rfl) ⟨rfl, rfl, Nat.le_of_ble_eq_true rfl, Nat.le_of_ble_eq_true rfl⟩ hcs ?_
        refine p_iload_n G rfl 2 rfl dL_isNotWorse_49 ?_
        refine p_icmpne (tgt := 70) G dL_isNotWorse_50 (by decide) h (fun c29 h => ?_) (fun c29 h => ?_)
        · refine p_iconst G rfl dL_isNotWorse_70 ?_
          (cases h; exact p_zretN G hM (Nat.le_of_ble_eq_true rfl) (Nat.le_of_ble_eq_true rfl) hR dL_isNotWorse_71 (by decide) rfl rfl)
        · refine p_aload_n G rfl 3 rfl dL_isNotWorse_53 ?_
          refine p_iload_n G rfl 0 rfl dL_isNotWorse_54 ?_
          obtain ⟨⟨σ11, v12⟩, hc, h⟩ := bnd_some h
          rw [un2_mk] at h
          refine p_callHP (np := 2) G zl_101 dL_isNotWorse_55 gm_1162 gm_1163 gm_26 gm_1164 (by decide +kernel) (c_L_restWithout (gl Γ) hc) (As := [.ref (ga Γ 0), .int (zJ v8)]) rfl zk_101 (zs_x zs_101 _) rfl (Nat.le_of_ble_eq_true rfl) ⟨rfl, rfl, Nat.le_of_ble_eq_true rfl, Nat.le_of_ble_eq_true rfl⟩ hcs ?_
          refine p_nm h (fun σ13 h => ?_)
          refine p_iload_n G rfl 1 rfl dL_isNotWorse_58 ?_
          refine p_icmpne (tgt := 70) G dL_isNotWorse_59 (by decide) h (fun c28 h => ?_) (fun c28 h => ?_)
          · refine p_iconst G rfl dL_isNotWorse_70 ?_
            (cases h; exact p_zretN G hM (Nat.le_of_ble_eq_true rfl) (Nat.le_of_ble_eq_true rfl) hR dL_isNotWorse_71 (by decide) rfl rfl)
          · refine p_aload_n G rfl 3 rfl dL_isNotWorse_62 ?_
            obtain ⟨⟨σ14, v15⟩, hc, h⟩ := bnd_some h
            rw [un2_mk] at h
            refine p_callVi G dL_isNotWorse_63 lk_L_154 (c_X6_needed (gl Γ) hc) (As := []) (ci := 8) rfl rfl rfl rfl (Nat.le_of_ble_eq_true rfl) ⟨rfl, rfl, Nat.le_of_ble_eq_true rfl, Nat.le_of_ble_eq_true rfl⟩ hcs ?_
            refine p_iload_n G rfl 1 rfl dL_isNotWorse_66 ?_
            refine p_icmple (tgt := 72) G dL_isNotWorse_67 (by decide) h (fun c27 h => ?_) (fun c27 h => ?_)
            · refine p_aload_n G rfl 3 rfl dL_isNotWorse_72 ?_
              refine p_iload_n G rfl 2 rfl dL_isNotWorse_73 ?_
              refine p_iconst G rfl dL_isNotWorse_74 ?_
              obtain ⟨⟨σ16, v17⟩, hc, h⟩ := bnd_some h
              rw [un2_mk] at h
              refine p_callHP (np := 3) G zl_101 dL_isNotWorse_75 gm_994 gm_995 gm_26 gm_996 (by decide +kernel) (c_L_player (gl Γ) hc) (As := [.ref (ga Γ 0), .int (zJ v3), .int (zJ (1 : Int))]) rfl zk_101 (zs_x zs_101 _) rfl (Nat.le_of_ble_eq_true rfl) ⟨rfl, rfl, Nat.le_of_ble_eq_true rfl, Nat.le_of_ble_eq_true rfl⟩ hcs ?_
              refine p_nm h (fun σ18 h => ?_)
              refine p_iload_n G rfl 1 rfl dL_isNotWorse_78 ?_
              refine p_iload_n G rfl 0 rfl dL_isNotWorse_79 ?_
              obtain ⟨v19, hc, h⟩ := bnd_some h
              refine p_callS0 G dL_isNotWorse_80 lk_L_134 (c_L_points (gl Γ) hc) (As := [.int (zJ v8)]) rfl zk_48 rfl (Nat.le_of_ble_eq_true rfl) ⟨rfl, rfl, Nat.le_of_ble_eq_true rfl, Nat.le_of_ble_eq_true rfl⟩ hcs ?_
              refine p_iadd G dL_isNotWorse_83 ?_
              refine p_icmple (tgt := 89) G dL_isNotWorse_84 (by decide) h (fun c26 h => ?_) (fun c26 h => ?_)
              · refine p_aload_n G rfl 3 rfl dL_isNotWorse_89 ?_
                obtain ⟨⟨σ20, v21⟩, hc, h⟩ := bnd_some h
                rw [un2_mk] at h
                refine p_callVi G dL_isNotWorse_90 lk_L_157 (c_X6_undo (gl Γ) hc) (As := []) (ci := 8) rfl rfl rfl rfl (Nat.le_of_ble_eq_true rfl) ⟨rfl, rfl, Nat.le_of_ble_eq_true rfl, Nat.le_of_ble_eq_true rfl⟩ hcs ?_
                refine p_pop G rfl dL_isNotWorse_93 ?_
                refine p_aload_n G rfl 3 rfl dL_isNotWorse_94 ?_
                refine p_iload_n G rfl 2 rfl dL_isNotWorse_95 ?_
                refine p_iconst G rfl dL_isNotWorse_96 ?_
                obtain ⟨⟨σ22, v23⟩, hc, h⟩ := bnd_some h
                rw [un2_mk] at h
                refine p_callHP (np := 3) G zl_101 dL_isNotWorse_97 gm_994 gm_995 gm_26 gm_996 (by decide +kernel) (c_L_player (gl Γ) hc) (As := [.ref (ga Γ 0), .int (zJ v3), .int (zJ (1 : Int))]) rfl zk_101 (zs_x zs_101 _) rfl (Nat.le_of_ble_eq_true rfl) ⟨rfl, rfl, Nat.le_of_ble_eq_true rfl, Nat.le_of_ble_eq_true rfl⟩ hcs ?_
                refine p_nm h (fun σ24 h => ?_)
                refine p_iload_n G rfl 1 rfl dL_isNotWorse_100 ?_
                refine p_icmpne (tgt := 108) G dL_isNotWorse_101 (by decide) h (fun c25 h => ?_) (fun c25 h => ?_)
                · refine p_iconst G rfl dL_isNotWorse_108 ?_
                  (cases h; exact p_zretN G hM (Nat.le_of_ble_eq_true rfl) (Nat.le_of_ble_eq_true rfl) hR dL_isNotWorse_109 (by decide) rfl rfl)
                · refine p_iconst G rfl dL_isNotWorse_104 ?_
                  refine p_goto (tgt := 109) G dL_isNotWorse_105 (by decide) ?_
                  (cases h; exact p_zretN G hM (Nat.le_of_ble_eq_true rfl) (Nat.le_of_ble_eq_true rfl) hR dL_isNotWorse_109 (by decide) rfl rfl)
              · refine p_iconst G rfl dL_isNotWorse_87 ?_
                (cases h; exact p_zretN G hM (Nat.le_of_ble_eq_true rfl) (Nat.le_of_ble_eq_true rfl) hR dL_isNotWorse_88 (by decide) rfl rfl)
            · refine p_iconst G rfl dL_isNotWorse_70 ?_
              (cases h; exact p_zretN G hM (Nat.le_of_ble_eq_true rfl) (Nat.le_of_ble_eq_true rfl) hR dL_isNotWorse_71 (by decide) rfl rfl)
    · refine p_iconst G rfl dL_isNotWorse_19 ?_
      (cases h; exact p_zretN G hM (Nat.le_of_ble_eq_true rfl) (Nat.le_of_ble_eq_true rfl) hR dL_isNotWorse_20 (by decide) rfl rfl)
