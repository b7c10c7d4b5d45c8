/-! The builder takes a constant text -/
theorem zj1 (σ τ : Mm) : zj [1] σ τ = fun c => if c = 1 then τ 0 else σ c := by
  funext c
  unfold zj zq zqi
  by_cases h : c = 1
  · subst h
    rfl
  · rw [if_neg h, if_neg (fun e => h e.symm)]
    rfl
theorem ne_B {m : Nat} {σ0 σ : Mm} : NE (shB m) σ0 σ := fun k q hq _ => by rw [shB_none hq]; trivial
theorem ne_V {m : Nat} {σ0 σ : Mm} : NE (shV m) σ0 σ := fun k q hq _ => by obtain ⟨-, rfl⟩ := shV_at hq; trivial
section STW
variable {Γ : Cx} {cc : ByteArray} {own : String} {nL : Nat} {rm : Room} {sh : Sh} {pc : Nat} {σ σ1 : Mm} {lv : List (Nat × Value)} {st : List Value} {ov : Option Value}
/-- a call on a constant text, over some cells -/
theorem p_callTw (G : Gd Γ cc own nL rm sh) {idx : Nat} {y : MethodName} {b : ByteArray} {n : Nat} {ret : Option FieldType} {np : Nat} {rm1 : Room} {s1 : Sh} (l : List Nat) {u : Nat} {As stk : List Value} (hu : u < zsN)
    (hd : decode cc pc = .ok (.invokevirtual idx, 3)) (hL : LKV own idx "java/lang/String" y b n ret np) (hM : CT (gl Γ) y b n ret rm1 s1 (gD Γ) (gy Γ) (gk Γ) (gv Γ) (fun i => ga Γ (zp l i)) (fun i => σ (zp l i)) (.ref (gk Γ u) :: As) σ1 ov) (hstk : stk = As.reverse ++ .ref (gk Γ u) :: st) (hz : zk s1 sh l = true) (hx : Zx sh l σ)
    (hnp : As.length = np) (h8 : (st.map fun v => v.category).sum ≤ 8)
    (hrm : rm1.cells = 0 ∧ rm1.slots = 0 ∧ rm1.frames + 1 ≤ rm.frames ∧ 8 + (n + 11) + rm1.locals ≤ rm.locals) (hcs : gmc Γ ≤ (gR Γ).cells ∧ gms Γ ≤ (gR Γ).slots)
    (k : PT Γ nL sh (pc + 3) (zj l σ σ1) lv (ov.toList ++ st)) : PT Γ nL sh pc σ lv stk := fun H locs ls hW hN hS hl => by
  subst hstk
  have hrecv := vk_recv (gd_o G).1 hu hS
  exact run_go G hz hx hW hN hS hl (r_V G hd hL (hM H.size) ⟨pcw_blind, hrecv, pcw_at G hz hx hW hN hS _⟩ hnp h8 hl.1 hrm hcs) k
end STW
theorem zs_fit : ∀ u : Nat, u < zsN → ∀ j : Nat, j < zsLen.getD u 0 → fits .byte (.int ((zsByt.getD u []).getD j 0)) = true := by decide +kernel
theorem zs_l64 : ∀ u : Nat, u < zsN → zsLen.getD u 0 < 64 := by decide +kernel
set_option maxHeartbeats 1000000 in
theorem c_getBytes (l : Launch) {D : va_G} {yy : Nat → ClassId} {tk tv a : Nat → Nat} {σ : Mm} {m u off : Nat} (hu : u < zsN) (ho : off + zsLen.getD u 0 ≤ m) (hm : m ≤ 34) : CT l yJ0_getBytes_840e7 cJ0_getBytes_840e7 4 none (rmS 1 0 0 60) (shV m) D yy tk tv a σ [.ref (tk u), .ref (a 0), .int (zJ (off : Int)), .int (zJ 0)] (fun c => if c = 0 then fun j => if off ≤ j ∧ j < off + zsLen.getD u 0 then zsb u (j - off) else σ 0 j else σ c) none := by
  refine ct_of (Ar := fun a tk => [.ref (tk u), .ref (a 0), .int (zJ (off : Int)), .int (zJ 0)]) (by decide) (Nat.le_of_ble_eq_true rfl) (fun Γ G _ _ hR => ?_)
  refine (?_ : PT Γ 4 (shV m) 0 σ [(0, .ref (gk Γ u)), (1, .ref (ga Γ 0)), (2, .int (zJ (off : Int))), (3, .int (zJ 0))] [])
  have hcs := rt_cs hR
  have hl64 := zs_l64 u hu
  refine p_aload_n G rfl 0 rfl dJ0_getBytes_840e7_0 ?_
  refine p_callT G hu dJ0_getBytes_840e7_1 lk_java_lang_String_335 (c_J_String_coder (gl Γ) hu) (As := []) rfl rfl rfl (Nat.le_of_ble_eq_true rfl) ⟨rfl, rfl, Nat.le_of_ble_eq_true rfl, Nat.le_of_ble_eq_true rfl⟩ hcs ?_
  refine p_iload_n G rfl 3 rfl dJ0_getBytes_840e7_4 ?_
  refine p_icmpne (tgt := 28) (A := (none : Option Unit)) (B := some ()) (out := ()) G dJ0_getBytes_840e7_5 (by decide) (if_neg (fun h => h rfl)) (fun c _ => absurd rfl c) (fun _ _ => ?_)
  refine p_aload_n G rfl 0 rfl dJ0_getBytes_840e7_8 ?_
  refine p_getVa G hu dJ0_getBytes_840e7_9 gm_747 ?_
  refine p_iconst G rfl dJ0_getBytes_840e7_12 ?_
  refine p_aload_n G rfl 1 rfl dJ0_getBytes_840e7_13 ?_
  refine p_iload_n G rfl 2 rfl dJ0_getBytes_840e7_14 ?_
  refine p_iload_n G rfl 3 rfl dJ0_getBytes_840e7_15 ?_
  refine p_ishl G dJ0_getBytes_840e7_16 ?_
  rw [(sh_s off (by omega)).1]
  refine p_aload_n G rfl 0 rfl dJ0_getBytes_840e7_17 ?_
  refine p_getVa G hu dJ0_getBytes_840e7_18 gm_747 ?_
  refine p_tlenS G hu dJ0_getBytes_840e7_21 ?_
  intro H locs ls hW hN hS hl
  have hR9 := G.2.2.2.2.2.2.2.2.1
  have znl : (zJ ((zsLen.getD u 0 : Nat) : Int)).toNatClampNeg = zsLen.getD u 0 ∧ ¬ zJ ((zsLen.getD u 0 : Nat) : Int) < 0 := zw_nat (by omega)
  have zno : (zJ (off : Int)).toNatClampNeg = off ∧ ¬ zJ (off : Int) < 0 := zw_nat (by omega)
  have zz : (zJ 0).toNatClampNeg = 0 := by decide
  refine vk_copyt G.1 G.2.1 (by rw [G.2.2.1]; exact hl.1.symm) G.2.2.2.1 (G.2.2.2.2.1 _ wj_ac_S) (G.2.2.2.2.1 _ wj_ac_n) (G.2.2.2.2.1 _ wj_ac_s) (G.2.2.2.2.1 _ wj_ac_i) G.2.2.2.2.2.1 (ws := [(ga Γ 0, .inl (gy Γ 2, m, .inl (fun j => zJ (σ 0 j))))]) (fun k q hk => ?_) ⟨fun i j p q hp hq _ => ?_, fun k q hk => ?_⟩ hS (n0 := zsLen.getD u 0) (f := fun j => (zsByt.getD u []).getD j 0) ((gd_o G).1.1 u hu).2.2.2 0 2 rfl rfl (by decide) zno.2 znl.2 (by rw [zz, znl.1]; omega) (by rw [zno.1, znl.1]; exact ho) (fun i hi => by rw [znl.1] at hi; rw [zz, Nat.zero_add]; exact zs_fit u hu i hi) (by rw [hR9]; exact Nat.le_refl _) (by rw [hR9]; exact Nat.le_of_ble_eq_true rfl) dJ0_getBytes_840e7_22 (fun H1 locs1 hP hD hS1 => ?_)
  · match k, hk with
    | 0, hk => cases hk; exact zC_byt.mp (hW 0 _ rfl trivial)
    | k + 1, hk => simp at hk
  · have h1 := (List.getElem?_eq_some_iff.mp hp).1
    have h2 := (List.getElem?_eq_some_iff.mp hq).1
    simp at h1 h2
    omega
  · match k, hk with
    | 0, hk => cases hk; exact G.2.2.2.2.2.2.1.2 0 _ rfl (hN 0 _ rfl trivial)
    | k + 1, hk => simp at hk
  · have h1 : H1[ga Γ 0]? = some (arrV (gy Γ 2) m (fun j => .int (va_cpy (fun j => (zsByt.getD u []).getD j 0) (fun j => zJ (σ 0 j)) (zJ 0).toNatClampNeg (zJ (off : Int)).toNatClampNeg (zJ ((zsLen.getD u 0 : Nat) : Int)).toNatClampNeg j))) := hP 0 _ rfl
    rw [zz, zno.1, znl.1] at h1
    have k : PT Γ 4 (shV m) 25 (fun c => if c = 0 then fun j => if off ≤ j ∧ j < off + zsLen.getD u 0 then zsb u (j - off) else σ 0 j else σ c) [(0, .ref (gk Γ u)), (1, .ref (ga Γ 0)), (2, .int (zJ (off : Int))), (3, .int (zJ 0))] [] := by
      refine p_goto (tgt := 43) G dJ0_getBytes_840e7_25 (by decide) ?_
      exact p_vret G hR dJ0_getBytes_840e7_43 rfl rfl
    refine k H1 locs1 ls (fun i q hq _ => ?_) ne_V hS1 hl
    obtain ⟨ei, eq⟩ := shV_at hq
    subst ei eq
    refine zC_byt.mpr (h1.trans (congrArg some (arrV_congr (fun j _ => ?_))))
    show Value.int _ = .int (zJ (if off ≤ j ∧ j < off + zsLen.getD u 0 then zsb u (j - off) else σ 0 j))
    unfold va_cpy
    by_cases c : off ≤ j ∧ j < off + zsLen.getD u 0
    · rw [if_pos c, if_pos c, Nat.zero_add]
      unfold zsb
      rw [zJ_toInt]
    · rw [if_neg c, if_neg c]
theorem zk_V : ∀ m : Nat, (m = 16 ∨ m = 34) → zk (shV m) (shB m) [1] = true ∧ zs (shB m) [1] = true := by
  rintro m (rfl | rfl) <;> decide +kernel
theorem c_putStringAt (l : Launch) {D : va_G} {yy : Nat → ClassId} {tk tv a : Nat → Nat} {σ : Mm} {m u off : Nat} (hu : u < zsN) (ho : off + zsLen.getD u 0 ≤ m) (hm : m = 16 ∨ m = 34) (h1 : σ 0 1 = 0) : CT l yJ5_putStringAt_47b60 cJ5_putStringAt_47b60 3 none (rmS 2 0 0 83) (shB m) D yy tk tv a σ [.ref (a 0), .int (zJ (off : Int)), .ref (tk u)] (fun c => if c = 1 then fun j => if off ≤ j ∧ j < off + zsLen.getD u 0 then zsb u (j - off) else σ 1 j else σ c) none := by
  refine ct_of (Ar := fun a tk => [.ref (a 0), .int (zJ (off : Int)), .ref (tk u)]) (by decide) (Nat.le_of_ble_eq_true rfl) (fun Γ G _ _ hR => ?_)
  refine (?_ : PT Γ 3 (shB m) 0 σ [(0, .ref (ga Γ 0)), (1, .int (zJ (off : Int))), (2, .ref (gk Γ u))] [])
  have hcs := rt_cs hR
  refine p_aload_n G rfl 0 rfl dJ5_putStringAt_47b60_0 ?_
  refine p_aload_n G rfl 2 rfl dJ5_putStringAt_47b60_1 ?_
  refine p_callUi (k0 := 0) G dJ5_putStringAt_47b60_2 lu_AbstractStringBuilder_397 (c_inflate (gl Γ) hu h1) (As := [.ref (gk Γ u)]) rfl rfl rfl (Nat.le_of_ble_eq_true rfl) ⟨rfl, rfl, Nat.le_of_ble_eq_true rfl, Nat.le_of_ble_eq_true rfl⟩ hcs ?_
  refine p_aload_n G rfl 2 rfl dJ5_putStringAt_47b60_5 ?_
  refine p_aload_n G rfl 0 rfl dJ5_putStringAt_47b60_6 ?_
  refine p_valB G dJ5_putStringAt_47b60_7 flu_AbstractStringBuilder_15 ?_
  refine p_iload_n G rfl 1 rfl dJ5_putStringAt_47b60_10 ?_
  refine p_aload_n G rfl 0 rfl dJ5_putStringAt_47b60_11 ?_
  refine p_fldB G rfl dJ5_putStringAt_47b60_12 flu_AbstractStringBuilder_22 ?_
  rw [h1]
  refine p_callTw G [1] hu dJ5_putStringAt_47b60_15 lt_AbstractStringBuilder_399 (c_getBytes (gl Γ) (m := m) hu ho (by omega)) (As := [.ref (ga Γ 1), .int (zJ (off : Int)), .int (zJ 0)]) rfl (zk_V m hm).1 (zs_x (zk_V m hm).2 σ) rfl (Nat.le_of_ble_eq_true rfl) ⟨rfl, rfl, Nat.le_of_ble_eq_true rfl, Nat.le_of_ble_eq_true rfl⟩ hcs ?_
  refine p_vret G hR dJ5_putStringAt_47b60_18 rfl ?_
  rw [zj1]
  rfl
