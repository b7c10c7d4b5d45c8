/-! The text out of the builder -/
def shT (m : Nat) : Sh := [(10, 4, ([10, 0, 0, 0], 0, 0), none), (11, 4, ([7, 0, 0, 0], 0, 0), none), (2, m, ([], 0, 0), none)]
def shU (n : Nat) : Sh := [(10, 4, ([5, 0, 0, 0], 0, 0), none), (2, n, ([], 0, 0), none)]
def adT (s b v : Nat) : Nat → Nat := fun i => if i = 0 then s else if i = 1 then b else v
theorem shT_at {m k : Nat} {q : Zs} (h : (shT m)[k]? = some q) : (k = 0 ∧ q = (10, 4, ([10, 0, 0, 0], 0, 0), none)) ∨ (k = 1 ∧ q = (11, 4, ([7, 0, 0, 0], 0, 0), none)) ∨ (k = 2 ∧ q = (2, m, ([], 0, 0), none)) := by
  match k, h with
  | 0, h => cases h; exact .inl ⟨rfl, rfl⟩
  | 1, h => cases h; exact .inr (.inl ⟨rfl, rfl⟩)
  | 2, h => cases h; exact .inr (.inr ⟨rfl, rfl⟩)
  | k + 3, h => simp [shT] at h
theorem shU_at {m k : Nat} {q : Zs} (h : (shU m)[k]? = some q) : (k = 0 ∧ q = (10, 4, ([5, 0, 0, 0], 0, 0), none)) ∨ (k = 1 ∧ q = (2, m, ([], 0, 0), none)) := by
  match k, h with
  | 0, h => cases h; exact .inl ⟨rfl, rfl⟩
  | 1, h => cases h; exact .inr ⟨rfl, rfl⟩
  | k + 2, h => simp [shU] at h
theorem ne_T {m : Nat} {σ0 σ : Mm} : NE (shT m) σ0 σ := fun k q hq _ => by
  rcases shT_at hq with ⟨-, rfl⟩ | ⟨-, rfl⟩ | ⟨-, rfl⟩ <;> trivial
theorem ne_U {m : Nat} {σ0 σ : Mm} : NE (shU m) σ0 σ := fun k q hq _ => by
  rcases shU_at hq with ⟨-, rfl⟩ | ⟨-, rfl⟩ <;> trivial
theorem ap_T {A : Nat → Prop} {m s b v : Nat} {σ : Mm} (hs : A s) (hb : A b) (hv : A v) (h1 : s ≠ b) (h2 : s ≠ v) (h3 : b ≠ v) : AP A (shT m) (adT s b v) σ := ⟨fun i j p q hp hq _ _ e => by
  rcases shT_at hp with ⟨ei, -⟩ | ⟨ei, -⟩ | ⟨ei, -⟩ <;> rcases shT_at hq with ⟨ej, -⟩ | ⟨ej, -⟩ | ⟨ej, -⟩ <;> subst ei ej
  · rfl
  · exact absurd e h1
  · exact absurd e h2
  · exact absurd e.symm h1
  · rfl
  · exact absurd e h3
  · exact absurd e.symm h2
  · exact absurd e.symm h3
  · rfl, fun k q hq _ => by
  rcases shT_at hq with ⟨ei, -⟩ | ⟨ei, -⟩ | ⟨ei, -⟩ <;> subst ei
  · exact hs
  · exact hb
  · exact hv⟩
theorem ap_U {A : Nat → Prop} {m b v : Nat} {σ : Mm} (hb : A b) (hv : A v) (h : b ≠ v) : AP A (shU m) (adB b v) σ := ⟨fun i j p q hp hq _ _ e => by
  rcases shU_at hp with ⟨ei, -⟩ | ⟨ei, -⟩ <;> rcases shU_at hq with ⟨ej, -⟩ | ⟨ej, -⟩ <;> subst ei ej
  · rfl
  · exact absurd e h
  · exact absurd e.symm h
  · rfl, fun k q hq _ => by
  rcases shU_at hq with ⟨ei, -⟩ | ⟨ei, -⟩ <;> subst ei
  · exact hb
  · exact hv⟩
theorem zk_T : ∀ m : Nat, (m = 16 ∨ m = 34) → (zk (shB m) (shT m) [1, 2] = true ∧ zs (shT m) [1, 2] = true) ∧ zk (shV m) (shT m) [2] = true ∧ zs (shT m) [2] = true := by
  rintro m (rfl | rfl) <;> decide +kernel
theorem nw_S : NW "java/lang/StringBuilder" 18 0 4 ([10, 0, 0, 0], 0, 0) := ⟨RJ0, TJ0, tyJ0, rfl, ti_J0, tyJ0_ok, (gt_mem 634 (by decide +kernel) (by decide +kernel) : Cond.classLink "java/lang/StringBuilder" 18 RJ0 ∈ GT), (gt_mem 635 (by decide +kernel) (by decide +kernel) : Cond.instantiable RJ0 4 ∈ GT), (gt_mem 34 (by decide +kernel) (by decide +kernel) : Cond.initialized RJ0 ∈ GT), fun j hj a => match j, hj with
  | 0, _ => rfl
  | 1, _ => rfl
  | 2, _ => rfl
  | 3, _ => rfl⟩
/-- what stands behind the making of a text -/
def QS (D : va_G) (yy : Nat → ClassId) (s n : Nat) (t : Nat → Int) (sz : Nat) (H : Heap) : Prop := ∃ (w : Nat) (τ : Mm), sz ≤ w ∧ HW D yy (shU n) (adB s w) τ H ∧ τ 0 1 = 0 ∧ ∀ j, j < n → τ 1 j = t j
set_option maxHeartbeats 4000000 in
theorem c_initT (l : Launch) {D : va_G} {yy : Nat → ClassId} {tk tv a : Nat → Nat} {σ : Mm} {t : Nat → Int} {n m : Nat} (h0 : ∀ j, σ 0 j = 0) (hB : OKB n m t (fun i => σ (i + 1))) : CQ l yJ0_init_db425 cJ0_init_db425 5 none (rmS 3 1 34 106) (shT m) D yy tk tv a σ [.ref (a 0), .ref (a 1), .null] (fun sz oc H => oc = .returned none ∧ QS D yy (a 0) n t sz H) 1 34 := by
  refine cq_of (Ar := fun a tk => [.ref (a 0), .ref (a 1), .null]) (by decide) (Nat.le_of_ble_eq_true rfl) (fun Γ G _ hM eD eY eA hR _ => ?_)
  refine (?_ : PT Γ 5 (shT m) 0 σ [(0, .ref (ga Γ 0)), (1, .ref (ga Γ 1)), (2, .null)] [])
  refine p_lv (lv' := [(0, .ref (ga Γ 0)), (1, .ref (ga Γ 1))]) [0, 1] rfl ?_
  have hcs := mk_cs G hM (Nat.zero_le _) (Nat.zero_le _)
  have hcs1 : gmc Γ + 1 ≤ (gR Γ).cells ∧ gms Γ + 34 ≤ (gR Γ).slots := by rw [hM.2.2.1, hM.2.2.2, G.2.2.2.2.2.2.2.2.1]; exact ⟨Nat.le_refl _, Nat.le_refl _⟩
  have hB0 := hB
  obtain ⟨h1, h3, hn, hm, hf, ht⟩ := hB
  obtain ⟨⟨z1, z2⟩, z3, z4⟩ := zk_T m hm
  refine p_aload_n G rfl 0 rfl dJ0_init_db425_0 ?_
  refine p_objInit G wj_obj_S wj_obj_i wj_obj_c dJ0_init_db425_1 (Nat.le_of_ble_eq_true rfl) (Nat.le_of_ble_eq_true rfl) (Nat.le_of_ble_eq_true rfl) ?_
  refine p_aload_n G rfl 1 rfl dJ0_init_db425_4 ?_
  refine p_callUw (k0 := 1) (As := []) G [1, 2] dJ0_init_db425_5 lu_String_552 (c_getValueT (gl Γ)) rfl z1 (zs_x z2 σ) rfl rfl (Nat.le_of_ble_eq_true rfl) ⟨rfl, rfl, Nat.le_of_ble_eq_true rfl, Nat.le_of_ble_eq_true rfl⟩ hcs ?_
  rw [zj_self]
  refine (?_ : PT Γ 5 (shT m) 8 σ [(0, .ref (ga Γ 0)), (1, .ref (ga Γ 1))] [.ref (ga Γ 2)])
  refine p_astore_n (lv' := [(3, .ref (ga Γ 2)), (0, .ref (ga Γ 0)), (1, .ref (ga Γ 1))]) G rfl dJ0_init_db425_8 (by decide) rfl ?_
  refine p_aload_n G rfl 2 rfl dJ0_init_db425_9 ?_
  refine p_callO (k0 := 1) G [1, 2] dJ0_init_db425_10 (c_lengthS (gl Γ)) rfl z1 (zs_x z2 σ) rfl (Nat.le_of_ble_eq_true rfl) ⟨rfl, rfl, Nat.le_of_ble_eq_true rfl, Nat.le_of_ble_eq_true rfl⟩ hcs ?_
  rw [zj_self]
  refine (?_ : PT Γ 5 (shT m) 13 σ [(3, .ref (ga Γ 2)), (0, .ref (ga Γ 0)), (1, .ref (ga Γ 1))] [.int (zJ (σ 1 3))])
  have h3' : σ 1 3 = (n : Int) := h3
  have h1' : σ 1 1 = 0 := h1
  rw [h3']
  refine p_istoreU (lv' := [(4, .int (zJ (n : Int))), (3, .ref (ga Γ 2)), (0, .ref (ga Γ 0)), (1, .ref (ga Γ 1))]) G dJ0_init_db425_13 (by decide) rfl ?_
  refine p_aload_n G rfl 3 rfl dJ0_init_db425_15 ?_
  refine p_callUw (k0 := 1) (As := []) G [1, 2] dJ0_init_db425_16 lu_String_1047 (c_isLatin1 (gl Γ) h1') rfl z1 (zs_x z2 σ) rfl rfl (Nat.le_of_ble_eq_true rfl) ⟨rfl, rfl, Nat.le_of_ble_eq_true rfl, Nat.le_of_ble_eq_true rfl⟩ hcs ?_
  rw [zj_self]
  refine p_ifeq (tgt := 41) (A := (none : Option Unit)) (B := some ()) (out := ()) G dJ0_init_db425_19 (by decide) (by decide) (fun c _ => absurd c (by decide)) (fun _ _ => ?_)
  refine p_aload_n G rfl 2 rfl dJ0_init_db425_22 ?_
  refine p_iconst G rfl dJ0_init_db425_23 ?_
  refine p_finIU (k := 0) (j := 1) G hM.2.1 dJ0_init_db425_24 ffg_15 (by decide) (by decide) rfl rfl rfl rfl ?_
  refine p_aload_n G rfl 2 rfl dJ0_init_db425_27 ?_
  refine p_aload_n G rfl 1 rfl dJ0_init_db425_28 ?_
  refine p_iconst G rfl dJ0_init_db425_29 ?_
  refine p_iload G 0 rfl dJ0_init_db425_30 ?_
  obtain ⟨τ, hτ⟩ : ∃ τ : Mm, τ = zu σ 0 1 0 := ⟨_, rfl⟩
  rw [← hτ]
  have t0 : τ 0 = zr (σ 0) 1 0 := by rw [hτ]; exact zu_self _ _ _ _
  have t2 : τ 2 = σ 2 := by rw [hτ]; exact zu_ne _ _ _ (by decide)
  intro H locs ls hW hN hS hl
  have hb : ga Γ 0 < H.size := zC_lt (hW 0 _ rfl trivial)
  have hA := G.2.2.2.2.2.2.1
  have hne : ga Γ 0 ≠ ga Γ 2 := fun e => by
    have := hA.1 0 2 _ _ rfl rfl trivial trivial e
    cases this
  have hA1 : ∀ q, aW (shV m) (fun i => ga Γ (zp [2] i)) (fun i => τ (zp [2] i)) H.size q → gA Γ q := fun q hq => by
    rcases hq with ⟨k, p, hp, -, rfl⟩ | hq
    · obtain ⟨rfl, -⟩ := shV_at hp
      exact hA.2 2 _ rfl trivial
    · exact G.2.2.2.2.2.2.2.1 q (Nat.le_trans hS.1 hq)
  have hr := r_S (H := H) (locs := locs) (ls := ls) (rest := [.ref (ga Γ 0)]) G dJ0_init_db425_32 ls_String_54 (c_copyRange (gl Γ) (D := gD Γ) (yy := gy Γ) (tk := gk Γ) (tv := gv Γ) (a := fun i => ga Γ (zp [2] i)) (σ := fun i => τ (zp [2] i)) (m := m) (n := n) hn (by omega) (fun j => by
    show fits .byte (.int (zJ (τ 2 j))) = true
    rw [t2]
    exact hf j) H.size) (As := [.ref (ga Γ 2), .int (zJ 0), .int (zJ (n : Int))]) ⟨pcw_blind, pcw_at G z3 (zs_x z4 τ) hW hN hS _⟩ rfl (Nat.le_of_ble_eq_true rfl) hl.1 ⟨rfl, rfl, Nat.le_of_ble_eq_true rfl, Nat.le_of_ble_eq_true rfl⟩ hcs1
  refine w_goQ (Qp := fun oc H1 => ∃ w, oc = .returned (some (.ref w)) ∧ H.size ≤ w ∧ H1[w]? = some (arrV (gy Γ 2) n (fun j => .int (zJ (τ 2 j))))) G hS hA1 hr (fun v0 H1 locs1 hq hz1 hF hS1 => ?_)
  obtain ⟨w, hv0, hw, hc⟩ := hq
  cases hv0
  have hF0 : H1[ga Γ 0]? = H[ga Γ 0]? := hF _ hb (fun z => by
    rcases z with ⟨k, p, hp, -, e⟩ | z
    · obtain ⟨rfl, -⟩ := shV_at hp
      exact hne e.symm
    · omega)
  have hc0 : t_OB (ga Γ 0) ((gD Γ).1 0) 4 ((gD Γ).2 0) H1 (zF (ga Γ) ([10, 0, 0, 0], 0, 0) (τ 0)) := zC_kept (hW 0 _ rfl trivial) hF0
  refine w_finG G hM.2.1 ffg_9 (w := .ref w) rfl rfl dJ0_init_db425_35 rfl hc0 (fun H2 slot x1 x2 x3 => ?_)
  have G' := gd_N (sh2 := shU n) G (a := adB (ga Γ 0) w) (o := fun c => if c = 0 then τ 0 else τ 2) (gmc Γ + 1) (gms Γ + 34) (ap_U (hA.2 0 _ rfl trivial) (G.2.2.2.2.2.2.2.1 _ (Nat.le_trans hS.1 hw)) (by omega))
  have M' := mk_N hM (adB (ga Γ 0) w) (fun c => if c = 0 then τ 0 else τ 2) 1 34
  have k : PT (gN Γ (adB (ga Γ 0) w) (fun c => if c = 0 then τ 0 else τ 2) (gmc Γ + 1) (gms Γ + 34)) 5 (shU n) 38 (fun c => if c = 0 then τ 0 else τ 2) [(4, .int (zJ (n : Int))), (3, .ref (ga Γ 2)), (0, .ref (ga Γ 0)), (1, .ref (ga Γ 1))] [] := by
    refine p_goto (tgt := 97) G' dJ0_init_db425_38 (by decide) ?_
    exact p_vretQ G' M' (Nat.le_of_ble_eq_true rfl) (Nat.le_of_ble_eq_true rfl) (rtq_N hR _ _ _ _) dJ0_init_db425_97 (fun H9 h9 => ⟨rfl, w, _, Nat.le_trans hS.1 hw, by rw [← eD, ← eY, ← eA]; exact h9, by
      show τ 0 1 = 0
      rw [t0]; rfl, fun j hj => by
      show τ 2 j = t j
      rw [t2]
      exact ht j hj⟩)
  refine k H2 _ ls (fun i p hp _ => ?_) ne_U (hS1.put x2 x3 (hA.2 0 _ rfl trivial)) hl
  rcases shU_at hp with ⟨ei, ep⟩ | ⟨ei, ep⟩ <;> subst ei ep
  · show t_OB (ga Γ 0) ((gD Γ).1 0) 4 ((gD Γ).2 0) H2 (zF (adB (ga Γ 0) w) ([5, 0, 0, 0], 0, 0) (τ 0))
    refine x1.to (fun k hk => ?_)
    match k, hk with
    | 0, _ => rfl
    | 1, _ => rfl
    | 2, _ => rfl
    | 3, _ => rfl
  · refine zC_byt.mpr ?_
    show H2[w]? = _
    rw [x3 w (by omega)]
    exact hc
set_option maxHeartbeats 1000000 in
theorem c_initU (l : Launch) {D : va_G} {yy : Nat → ClassId} {tk tv a : Nat → Nat} {σ : Mm} {t : Nat → Int} {n m : Nat} (h0 : ∀ j, σ 0 j = 0) (hB : OKB n m t (fun i => σ (i + 1))) : CQ l yJ0_init_81219 cJ0_init_81219 2 none (rmS 4 1 34 130) (shT m) D yy tk tv a σ [.ref (a 0), .ref (a 1)] (fun sz oc H => oc = .returned none ∧ QS D yy (a 0) n t sz H) 1 34 := by
  refine cq_of (Ar := fun a tk => [.ref (a 0), .ref (a 1)]) (by decide) (Nat.le_of_ble_eq_true rfl) (fun Γ G _ hM eD eY eA hR _ => ?_)
  refine (?_ : PT Γ 2 (shT m) 0 σ [(0, .ref (ga Γ 0)), (1, .ref (ga Γ 1))] [])
  have hcs1 : gmc Γ + 1 ≤ (gR Γ).cells ∧ gms Γ + 34 ≤ (gR Γ).slots := by rw [hM.2.2.1, hM.2.2.2, G.2.2.2.2.2.2.2.2.1]; exact ⟨Nat.le_refl _, Nat.le_refl _⟩
  refine p_aload_n G rfl 0 rfl dJ0_init_81219_0 ?_
  refine p_aload_n G rfl 1 rfl dJ0_init_81219_1 ?_
  refine p_anull G dJ0_init_81219_2 ?_
  intro H locs ls hW hN hS hl
  have hp := pcw_same (As := [.ref (ga Γ 0), .ref (ga Γ 1), .null]) G hW hN hS
  have hr := r_I (H := H) (locs := locs) (ls := ls) (rest := []) (b0 := ga Γ 0) (As := [.ref (ga Γ 1), .null]) G dJ0_init_81219_3 li_String_489_1 rfl li_String_489_3 li_String_489_4 li_String_489_5 li_String_489_6 (c_initT (gl Γ) (D := gD Γ) (yy := gy Γ) (tk := gk Γ) (tv := gv Γ) (a := ga Γ) h0 hB H.size) ⟨pcw_blind, hp.1⟩ rfl (Nat.le_of_ble_eq_true rfl) hl.1 ⟨rfl, rfl, Nat.le_of_ble_eq_true rfl, Nat.le_of_ble_eq_true rfl⟩ hcs1
  refine w_goQ (Qp := fun oc H1 => oc = .returned none ∧ QS (gD Γ) (gy Γ) (ga Γ 0) n t H.size H1) G hS hp.2 hr (fun v0 H1 locs1 hq hz1 hF hS1 => ?_)
  obtain ⟨hv0, w, τ, hw, hq⟩ := hq
  cases hv0
  rw [eD, eY, eA] at hq
  have M' := mk_N hM (ga Γ) (go Γ) 1 34
  exact gW_retQ (Γ := gN Γ (ga Γ) (go Γ) (gmc Γ + 1) (gms Γ + 34)) M' (Nat.le_refl _) (Nat.le_refl _) (rtq_N hR _ _ _ _) (v := none) ⟨rfl, w, τ, Nat.le_trans hS.1 hw, hq⟩ hS1 (fun hr Qc free hq hf => W.vret G.1 G.2.1 hr hq hf dJ0_init_81219_6 G.2.2.2.2.2.2.2.2.2.1)
set_option maxHeartbeats 2000000 in
theorem c_toString (l : Launch) {D : va_G} {yy : Nat → ClassId} {tk tv a : Nat → Nat} {σ : Mm} {t : Nat → Int} {n m : Nat} (hB : OKB n m t σ) : CQ l yJ4_toString_0e30d cJ4_toString_0e30d 1 (some (.object "java/lang/String")) (rmS 5 2 38 151) (shB m) D yy tk tv a σ [.ref (a 0)] (fun sz oc H => ∃ s, oc = .returned (some (.ref s)) ∧ sz ≤ s ∧ QS D yy s n t (s + 1) H) 2 38 := by
  refine cq_of (Ar := fun a tk => [.ref (a 0)]) (by decide) (Nat.le_of_ble_eq_true rfl) (fun Γ G _ hM eD eY eA hR _ => ?_)
  refine (?_ : PT Γ 1 (shB m) 0 σ [(0, .ref (ga Γ 0))] [])
  intro H locs ls hW hN hS hl
  obtain ⟨C, T, ty, hc, hin, hty, hcl, hins, hini, hdef⟩ := nw_S
  have hts := G.2.2.2.2.1
  have hKn := G.2.2.2.2.2.1.1 0 _ hc
  have hR9 := G.2.2.2.2.2.2.2.2.1
  have hA := G.2.2.2.2.2.2.1
  refine W.newcK G.1 G.2.1 G.2.2.2.1 (hts _ hcl) (hts _ hins) (hts _ hini) rfl dJ4_toString_0e30d_0 (by rw [hM.2.2.1, hR9]; exact Nat.le_of_ble_eq_true rfl) (by rw [hM.2.2.2, hR9]; exact Nat.le_of_ble_eq_true rfl) hKn.2.1 rfl fun H1 kC hkC e1 z1 o1 => ?_
  have hob := u_born ty hts hin hKn hkC e1 hty
  have hb0 : ga Γ 0 < H.size := zC_lt (hW 0 _ rfl trivial)
  have hb1 : ga Γ 1 < H.size := zC_lt (hW 1 _ rfl trivial)
  have hne : ga Γ 0 ≠ ga Γ 1 := fun e => by
    have := hA.1 0 1 _ _ rfl rfl trivial trivial e
    cases this
  have G' := gd_N (sh2 := shT m) G (a := adT H.size (ga Γ 0) (ga Γ 1)) (o := fun c => if c = 0 then fun _ => 0 else σ (c - 1)) (gmc Γ + 1) (gms Γ + 4) (ap_T (G.2.2.2.2.2.2.2.1 _ hS.1) (hA.2 0 _ rfl trivial) (hA.2 1 _ rfl trivial) (Nat.ne_of_gt hb0) (Nat.ne_of_gt hb1) hne)
  have M' := mk_N hM (adT H.size (ga Γ 0) (ga Γ 1)) (fun c => if c = 0 then fun _ => 0 else σ (c - 1)) 1 4
  obtain ⟨Γ', hΓ⟩ : ∃ Γ', Γ' = gN Γ (adT H.size (ga Γ 0) (ga Γ 1)) (fun c => if c = 0 then fun _ => 0 else σ (c - 1)) (gmc Γ + 1) (gms Γ + 4) := ⟨_, rfl⟩
  have hR' := rtq_N hR (adT H.size (ga Γ 0) (ga Γ 1)) (fun c => if c = 0 then fun _ => 0 else σ (c - 1)) (gmc Γ + 1) (gms Γ + 4)
  have eg0 : ga Γ' 0 = H.size := by rw [hΓ]; rfl
  have eg1 : ga Γ' 1 = ga Γ 0 := by rw [hΓ]; rfl
  have eD' : gD Γ' = D := by rw [hΓ]; exact eD
  have eY' : gy Γ' = yy := by rw [hΓ]; exact eY
  have hSz : (gs Γ).heap.size ≤ H.size := hS.1
  rw [← hΓ] at G' M' hR'
  have k : PT Γ' 1 (shT m) 3 (fun c => if c = 0 then fun _ => 0 else σ (c - 1)) [(0, .ref (ga Γ' 1))] [.ref (ga Γ' 0)] := by
    refine p_dup G' rfl dJ4_toString_0e30d_3 ?_
    refine p_aload_n G' rfl 0 rfl dJ4_toString_0e30d_4 ?_
    intro H locs ls hW hN hS hl
    have hcs1 : gmc Γ' + 1 ≤ (gR Γ').cells ∧ gms Γ' + 34 ≤ (gR Γ').slots := by rw [M'.2.2.1, M'.2.2.2, G'.2.2.2.2.2.2.2.2.1]; exact ⟨Nat.le_refl _, Nat.le_refl _⟩
    have hp := pcw_same (As := [.ref (ga Γ' 0), .ref (ga Γ' 1)]) G' hW hN hS
    have hlt : ga Γ' 0 < H.size := zC_lt (hW 0 _ rfl trivial)
    have hr := r_I (H := H) (locs := locs) (ls := ls) (rest := [.ref (ga Γ' 0)]) (b0 := ga Γ' 0) (As := [.ref (ga Γ' 1)]) G' dJ4_toString_0e30d_5 li_StringBuilder_137_1 rfl li_StringBuilder_137_3 li_StringBuilder_137_4 li_StringBuilder_137_5 li_StringBuilder_137_6 (c_initU (gl Γ') (D := gD Γ') (yy := gy Γ') (tk := gk Γ') (tv := gv Γ') (a := ga Γ') (σ := fun c => if c = 0 then fun _ => 0 else σ (c - 1)) (t := t) (n := n) (m := m) (fun j => rfl) hB H.size) ⟨pcw_blind, hp.1⟩ rfl (Nat.le_of_ble_eq_true rfl) hl.1 ⟨rfl, rfl, Nat.le_of_ble_eq_true rfl, Nat.le_of_ble_eq_true rfl⟩ hcs1
    refine w_goQ (Qp := fun oc H1 => oc = .returned none ∧ QS (gD Γ') (gy Γ') (ga Γ' 0) n t H.size H1) G' hS hp.2 hr (fun v0 H1 locs1 hq hz1 hF hS1 => ?_)
    obtain ⟨hv0, w, τ, hw, hq⟩ := hq
    cases hv0
    rw [eD', eY'] at hq
    have M2 := mk_N M' (ga Γ') (go Γ') 1 34
    exact gW_retQ (Γ := gN Γ' (ga Γ') (go Γ') (gmc Γ' + 1) (gms Γ' + 34)) M2 (Nat.le_refl _) (Nat.le_refl _) (rtq_N hR' _ _ _ _) (v := some (.ref (ga Γ' 0))) ⟨ga Γ' 0, rfl, by rw [eg0]; exact hSz, w, τ, by omega, hq⟩ hS1 (fun hr Qc free hq hf => W.aret G'.1 G'.2.1 hr (Or.inl ⟨_, rfl⟩) (Or.inr ⟨_, rfl⟩) hq hf dJ4_toString_0e30d_8 G'.2.2.2.2.2.2.2.2.2.1)
  subst hΓ
  refine k H1 locs ls (fun i p hp _ => ?_) ne_T ⟨Nat.le_trans hS.1 (by rw [z1]; exact Nat.le_succ _), fun q h1 h2 => by rw [o1 q (Nat.lt_of_lt_of_le h1 hS.1)]; exact hS.2.1 q h1 h2, hS.2.2⟩ hl
  rcases shT_at hp with ⟨ei, ep⟩ | ⟨ei, ep⟩ | ⟨ei, ep⟩ <;> subst ei ep
  · show t_OB H.size ((gD Γ).1 0) 4 ((gD Γ).2 0) H1 (zF (adT H.size (ga Γ 0) (ga Γ 1)) ([10, 0, 0, 0], 0, 0) (fun _ => 0))
    exact hob.to (fun j hj => hdef j hj _)
  · have h9 : t_OB (ga Γ 0) ((gD Γ).1 1) 4 ((gD Γ).2 1) H1 (zF (ga Γ) ([5, 0, 0, 0], 0, 0) (σ 0)) := zC_kept (hW 0 _ rfl trivial) (o1 _ hb0)
    show t_OB (ga Γ 0) ((gD Γ).1 1) 4 ((gD Γ).2 1) H1 (zF (adT H.size (ga Γ 0) (ga Γ 1)) ([7, 0, 0, 0], 0, 0) (σ 0))
    refine h9.to (fun k hk => ?_)
    match k, hk with
    | 0, _ => rfl
    | 1, _ => rfl
    | 2, _ => rfl
    | 3, _ => rfl
  · exact zC_byt.mpr ((o1 _ hb1).trans (zC_byt.mp (hW 1 _ rfl trivial)))
