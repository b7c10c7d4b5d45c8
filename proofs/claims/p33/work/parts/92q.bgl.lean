/-! The beginning, whole -/
def bgnT (N H K T : Nat) : Nat := 0 + zsLen.getD 10 0 + sb_dg N + zsLen.getD 11 0 + sb_dg H + zsLen.getD 11 0 + sb_dg K + zsLen.getD 11 0 + sb_dg T + zsLen.getD 12 0
def decI (w : Nat) : Nat → Int := fun i => ((sb_dec w i : Nat) : Int)
def bgtT (N H K T : Nat) : Nat → Int :=
  catI (catI (catI (catI (catI (catI (catI (catI (catI (fun _ => 0) 0 (zsb 10)) (0 + zsLen.getD 10 0) (decI N)) (0 + zsLen.getD 10 0 + sb_dg N) (zsb 11)) (0 + zsLen.getD 10 0 + sb_dg N + zsLen.getD 11 0) (decI H)) (0 + zsLen.getD 10 0 + sb_dg N + zsLen.getD 11 0 + sb_dg H) (zsb 11)) (0 + zsLen.getD 10 0 + sb_dg N + zsLen.getD 11 0 + sb_dg H + zsLen.getD 11 0) (decI K)) (0 + zsLen.getD 10 0 + sb_dg N + zsLen.getD 11 0 + sb_dg H + zsLen.getD 11 0 + sb_dg K) (zsb 11)) (0 + zsLen.getD 10 0 + sb_dg N + zsLen.getD 11 0 + sb_dg H + zsLen.getD 11 0 + sb_dg K + zsLen.getD 11 0) (decI T)) (0 + zsLen.getD 10 0 + sb_dg N + zsLen.getD 11 0 + sb_dg H + zsLen.getD 11 0 + sb_dg K + zsLen.getD 11 0 + sb_dg T) (zsb 12)
/-- letters below 128 -/
def asc (t : Nat → Int) (n : Nat) : Prop := ∀ j, j < n → ∃ d : Nat, d < 128 ∧ t j = (d : Int)
theorem asc_cat {t s : Nat → Int} {n w : Nat} (h : asc t n) (hs : asc s w) : asc (catI t n s) (n + w) := fun j hj => by
  unfold catI
  by_cases c : j < n
  · rw [if_pos c]; exact h j c
  · rw [if_neg c]; exact hs _ (by omega)
theorem asc_zs : ∀ u : Nat, u < zsN → ∀ j : Nat, j < zsLen.getD u 0 → zsb u j = ((zsb u j).toNat : Int) ∧ (zsb u j).toNat < 128 := by decide +kernel
theorem asc_z {u : Nat} (hu : u < zsN) : asc (zsb u) (zsLen.getD u 0) := fun j hj => ⟨_, (asc_zs u hu j hj).2, (asc_zs u hu j hj).1⟩
theorem asc_d (w n : Nat) : asc (decI w) n := fun j _ => ⟨_, by
  show 48 + w / 10 ^ (sb_dg w - 1 - j) % 10 < 128
  omega, rfl⟩
theorem asc_bgtT (N H K T : Nat) : asc (bgtT N H K T) (bgnT N H K T) := by
  unfold bgtT bgnT
  exact asc_cat (asc_cat (asc_cat (asc_cat (asc_cat (asc_cat (asc_cat (asc_cat (asc_cat (fun j hj => absurd hj (Nat.not_lt_zero j)) (asc_z (by decide))) (asc_d _ _)) (asc_z (by decide))) (asc_d _ _)) (asc_z (by decide))) (asc_d _ _)) (asc_z (by decide))) (asc_d _ _)) (asc_z (by decide))
theorem dg_le {w k : Nat} (h : (w < 100 ∧ k = 2) ∨ (w < 1000 ∧ k = 3) ∨ (w < 1000000 ∧ k = 6)) : 1 ≤ sb_dg w ∧ sb_dg w ≤ k := by
  unfold sb_dg
  constructor <;> (repeat' split) <;> omega
theorem bgnT_14 {N H K T : Nat} (h : N < 1000000 ∧ H < 100 ∧ K < 100 ∧ T < 1000) : 14 ≤ bgnT N H K T ∧ bgnT N H K T ≤ 23 := by
  have h1 := dg_le (w := N) (k := 6) (by omega)
  have h2 := dg_le (w := H) (k := 2) (by omega)
  have h3 := dg_le (w := K) (k := 2) (by omega)
  have h4 := dg_le (w := T) (k := 3) (by omega)
  unfold bgnT
  have z1 : zsLen.getD 10 0 = 6 := by decide
  have z2 : zsLen.getD 11 0 = 1 := by decide
  have z3 : zsLen.getD 12 0 = 1 := by decide
  rw [z1, z2, z3]
  omega
def rm_L_began : Room := { frames := 12, cells := 20, slots := 499, locals := 304 }
noncomputable def x_L_began (σ : Mm) (xs : Mm) (L : Nat) : Option (Mm × Int) :=
  (x_L_of xs L 0 0 1000000).bind fun v1 => (x_L_of xs L 1 7 4).bind fun v2 => (x_L_of xs L 2 0 21).bind fun v3 => (x_L_of xs L 3 20 300).bind fun v4 =>
  if (0 ≤ v1 ∧ v1 < 1000000) ∧ (0 ≤ v2 ∧ v2 < 100) ∧ (0 ≤ v3 ∧ v3 < 100) ∧ 0 ≤ v4 ∧ v4 < 1000 then
    (x_bgL (bgtT v1.toNat v2.toNat v3.toNat v4.toNat) (bgnT v1.toNat v2.toNat v3.toNat v4.toNat) σ).bind fun σ1 => (x_X6_load (zb zl_101 σ1)).bind fun o => un2 o fun σ2 v => some (zj zl_101 σ1 σ2, v)
  else none
theorem zkw_U (n : Nat) : zkw (shU n) = true := rfl
section BGX
variable {Γ : Cx} {rm : Room} {sh : Sh} {b n mc ms m0 n0 : Nat} {t : Nat → Int} {lc : Lc} {nm : String} {x : Nat}
theorem bg_p12 (G : Gd Γ cL_began "WrapRunsLaw" 7 rm sh) (hb : (gs Γ).heap.size ≤ b) (k : BG Γ 7 b 17 n t mc ms [(0, .ref x), (1, .ref (lc.2.1 1000))] [.int (zJ 1000000), .int (zJ 0), .int (zJ 0), .ref (lc.2.1 1000), .ref b]) : BG Γ 7 b 12 n t mc ms [(0, .ref x), (1, .ref (lc.2.1 1000))] [.ref b] := by
  intro v m σ hne hv hO
  have G' := gd_B G mc ms (ap_B (m := m) (σ := σ) hb hv hne)
  refine p_aload_n G' rfl 1 rfl dL_began_12 ?_
  refine p_iconst G' rfl dL_began_13 ?_
  refine p_iconst G' rfl dL_began_14 ?_
  refine p_ldc (x := 1000000) G' (v := 1000000) (gt_mem 593 (by decide +kernel) (by decide +kernel)) (by decide) dL_began_15 ?_
  exact k v m σ hne hv hO
theorem bg_p28 (G : Gd Γ cL_began "WrapRunsLaw" 7 rm sh) (hb : (gs Γ).heap.size ≤ b) (k : BG Γ 7 b 33 n t mc ms [(0, .ref x), (1, .ref (lc.2.1 1000))] [.int (zJ 4), .int (zJ 7), .int (zJ 1), .ref (lc.2.1 1000), .ref b]) : BG Γ 7 b 28 n t mc ms [(0, .ref x), (1, .ref (lc.2.1 1000))] [.ref b] := by
  intro v m σ hne hv hO
  have G' := gd_B G mc ms (ap_B (m := m) (σ := σ) hb hv hne)
  refine p_aload_n G' rfl 1 rfl dL_began_28 ?_
  refine p_iconst G' rfl dL_began_29 ?_
  refine p_bipush G' (by decide) (by decide) dL_began_30 ?_
  refine p_iconst G' rfl dL_began_32 ?_
  exact k v m σ hne hv hO
theorem bg_p44 (G : Gd Γ cL_began "WrapRunsLaw" 7 rm sh) (hb : (gs Γ).heap.size ≤ b) (k : BG Γ 7 b 49 n t mc ms [(0, .ref x), (1, .ref (lc.2.1 1000))] [.int (zJ 21), .int (zJ 0), .int (zJ 2), .ref (lc.2.1 1000), .ref b]) : BG Γ 7 b 44 n t mc ms [(0, .ref x), (1, .ref (lc.2.1 1000))] [.ref b] := by
  intro v m σ hne hv hO
  have G' := gd_B G mc ms (ap_B (m := m) (σ := σ) hb hv hne)
  refine p_aload_n G' rfl 1 rfl dL_began_44 ?_
  refine p_iconst G' rfl dL_began_45 ?_
  refine p_iconst G' rfl dL_began_46 ?_
  refine p_bipush G' (by decide) (by decide) dL_began_47 ?_
  exact k v m σ hne hv hO
theorem bg_p60 (G : Gd Γ cL_began "WrapRunsLaw" 7 rm sh) (hb : (gs Γ).heap.size ≤ b) (k : BG Γ 7 b 67 n t mc ms [(0, .ref x), (1, .ref (lc.2.1 1000))] [.int (zJ 300), .int (zJ 20), .int (zJ 3), .ref (lc.2.1 1000), .ref b]) : BG Γ 7 b 60 n t mc ms [(0, .ref x), (1, .ref (lc.2.1 1000))] [.ref b] := by
  intro v m σ hne hv hO
  have G' := gd_B G mc ms (ap_B (m := m) (σ := σ) hb hv hne)
  refine p_aload_n G' rfl 1 rfl dL_began_60 ?_
  refine p_iconst G' rfl dL_began_61 ?_
  refine p_bipush G' (by decide) (by decide) dL_began_62 ?_
  refine p_sipush G' (by decide) (by decide) dL_began_64 ?_
  exact k v m σ hne hv hO
end BGX
set_option maxHeartbeats 8000000 in
theorem c_L_began (l : Launch) {D : va_G} {yy : Nat → ClassId} {tk tv a tk0 tv0 : Nat → Nat} (e1 : tk = tk0) (e2 : tv = tv0) {σ : Mm} {o : Mm × Int} (h : x_L_began σ (zsc tv0) (tk0 1001) = some o) : CTN l yL_began cL_began 7 (some .int) rm_L_began shX shX D yy tk tv a σ [.ref (a 0), .ref (tk0 1000)] o.1 (some (.int (zJ o.2))) 20 499 := by
  subst e1 e2
  unfold x_L_began at h
  obtain ⟨v1, h1, h⟩ := bnd_some h
  obtain ⟨v2, h2, h⟩ := bnd_some h
  obtain ⟨v3, h3, h⟩ := bnd_some h
  obtain ⟨v4, h4, h⟩ := bnd_some h
  refine zift h (fun hr h => ?_)
  obtain ⟨N, rfl⟩ : ∃ N : Nat, v1 = (N : Int) := ⟨v1.toNat, by omega⟩
  obtain ⟨Hh, rfl⟩ : ∃ N : Nat, v2 = (N : Int) := ⟨v2.toNat, by omega⟩
  obtain ⟨K, rfl⟩ : ∃ N : Nat, v3 = (N : Int) := ⟨v3.toNat, by omega⟩
  obtain ⟨T, rfl⟩ : ∃ N : Nat, v4 = (N : Int) := ⟨v4.toNat, by omega⟩
  simp only [Int.toNat_natCast] at h
  obtain ⟨σ1, hb, h⟩ := bnd_some h
  obtain ⟨⟨σ2, v⟩, hld, h⟩ := bnd_some h
  rw [un2_mk] at h
  cases h
  have h14 := bgnT_14 (N := N) (H := Hh) (K := K) (T := T) ⟨by omega, by omega, by omega, by omega⟩
  have hasc := asc_bgtT N Hh K T
  have hlen : ∀ m, m ≤ bgnT N Hh K T → m ≤ 34 := fun m hm => by omega
  obtain ⟨y1, y2, y3, y4⟩ := zk_P1 h14
  refine ctn_of2 (Ar := fun a tk => [.ref (a 0), .ref (tk 1000)]) (by decide) (Nat.le_of_ble_eq_true rfl) (fun h => by cases h) (fun Γ G ho hM hR hW ls hl => ?_)
  have hl' : lv_has ls 7 [(0, .ref (ga Γ 0)), (1, .ref (tk 1000))] := by
    have e : gk Γ = tk := hM.1.2.1
    rw [← e]
    exact hl
  have hrm : 20 ≤ rm_L_began.cells ∧ 499 ≤ rm_L_began.slots ∧ 12 ≤ rm_L_began.frames ∧ 304 ≤ rm_L_began.locals := ⟨Nat.le_refl _, Nat.le_refl _, Nat.le_refl _, Nat.le_refl _⟩
  unfold gW
  rw [hM.2.2.1, hM.2.2.2]
  obtain ⟨B, hB⟩ : ∃ B, B = (gs Γ).heap.size := ⟨_, rfl⟩
  have hBl : (gs Γ).heap.size ≤ B := Nat.le_of_eq hB.symm
  refine bg_new (t := fun _ => 0) G hM hl' (Nat.le_of_ble_eq_true rfl) (Nat.le_of_ble_eq_true rfl) ⟨Nat.le_of_ble_eq_true rfl, Nat.le_of_ble_eq_true rfl⟩ ?_
  rw [← hB]
  have l1 : 0 + zsLen.getD 10 0 ≤ 34 := by decide
  have z2 : zsLen.getD 11 0 = 1 := by decide
  have z3 : zsLen.getD 12 0 = 1 := by decide
  have hbn := h14.2
  unfold bgnT at hbn
  have rf : 6 ≤ rm_L_began.frames ∧ 155 ≤ rm_L_began.locals := ⟨Nat.le_of_ble_eq_true rfl, Nat.le_of_ble_eq_true rfl⟩
  have rg : 6 ≤ rm_L_began.frames ∧ 157 ≤ rm_L_began.locals := ⟨Nat.le_of_ble_eq_true rfl, Nat.le_of_ble_eq_true rfl⟩
  refine bg_S G hM hBl (i := 3) (u := 10) (idx := 65) (by decide) (by decide) (by decide) (by decide) dL_began_7 (by decide) dL_began_9 l1 (Nat.le_of_ble_eq_true rfl) (Nat.le_of_ble_eq_true rfl) rf ?_
  refine bg_p12 (lc := (l, tk, tv)) G hBl ?_
  refine bg_I (lc := (l, tk, tv)) (w := N) G hM hBl h1 dL_began_17 dL_began_20 (by omega) (by omega) (Nat.le_of_ble_eq_true rfl) (Nat.le_of_ble_eq_true rfl) rg ?_
  refine bg_S G hM hBl (i := 4) (u := 11) (idx := 79) (by decide) (by decide) (by decide) (by decide) dL_began_23 (by decide) dL_began_25 (by omega) (Nat.le_of_ble_eq_true rfl) (Nat.le_of_ble_eq_true rfl) rf ?_
  refine bg_p28 (lc := (l, tk, tv)) G hBl ?_
  refine bg_I (lc := (l, tk, tv)) (w := Hh) G hM hBl h2 dL_began_33 dL_began_36 (by omega) (by omega) (Nat.le_of_ble_eq_true rfl) (Nat.le_of_ble_eq_true rfl) rg ?_
  refine bg_S G hM hBl (i := 4) (u := 11) (idx := 79) (by decide) (by decide) (by decide) (by decide) dL_began_39 (by decide) dL_began_41 (by omega) (Nat.le_of_ble_eq_true rfl) (Nat.le_of_ble_eq_true rfl) rf ?_
  refine bg_p44 (lc := (l, tk, tv)) G hBl ?_
  refine bg_I (lc := (l, tk, tv)) (w := K) G hM hBl h3 dL_began_49 dL_began_52 (by omega) (by omega) (Nat.le_of_ble_eq_true rfl) (Nat.le_of_ble_eq_true rfl) rg ?_
  refine bg_S G hM hBl (i := 4) (u := 11) (idx := 79) (by decide) (by decide) (by decide) (by decide) dL_began_55 (by decide) dL_began_57 (by omega) (Nat.le_of_ble_eq_true rfl) (Nat.le_of_ble_eq_true rfl) rf ?_
  refine bg_p60 (lc := (l, tk, tv)) G hBl ?_
  refine bg_I (lc := (l, tk, tv)) (w := T) G hM hBl h4 dL_began_67 dL_began_70 (by omega) (by omega) (Nat.le_of_ble_eq_true rfl) (Nat.le_of_ble_eq_true rfl) rg ?_
  refine bg_S G hM hBl (i := 5) (u := 12) (idx := 81) (by decide) (by decide) (by decide) (by decide) dL_began_73 (by decide) dL_began_75 (by omega) (Nat.le_of_ble_eq_true rfl) (Nat.le_of_ble_eq_true rfl) rf ?_
  refine (?_ : BG Γ 7 B 78 (bgnT N Hh K T) (bgtT N Hh K T) 11 326 [(0, .ref (ga Γ 0)), (1, .ref (tk 1000))] [.ref B])
  clear hbn l1 z2 z3
  generalize bgnT N Hh K T = n at *
  generalize bgtT N Hh K T = t at *
  intro v0 m τ0 hne hv hO
  have G' := gd_B G 11 326 (ap_B (m := m) (σ := τ0) hBl hv hne)
  intro H locs ls hW' hN' hS hl9
  have hR9 := G.2.2.2.2.2.2.2.2.1
  have hp := pcw_same (As := [.ref B]) G' hW' hN' hS
  have hrecv := recv_at (ci := 1) (C := "java/lang/StringBuilder") G' (k0 := 0) rfl rfl hW' trivial
  have hr := r_V (locs := locs) (ls := ls) (rest := []) (As := []) (b0 := B) G' dL_began_78 lv2_WrapRunsLaw_83 (c_toString _ hO H.size) ⟨pcw_blind, hrecv, hp.1⟩ rfl (Nat.le_of_ble_eq_true rfl) hl9.1 ⟨rfl, rfl, Nat.le_of_ble_eq_true rfl, Nat.le_of_ble_eq_true rfl⟩ (by show 11 + 2 ≤ (gR Γ).cells ∧ 326 + 38 ≤ (gR Γ).slots; rw [hR9]; exact ⟨Nat.le_of_ble_eq_true rfl, Nat.le_of_ble_eq_true rfl⟩)
  refine w_goQ (Qp := fun oc H1 => ∃ s, oc = .returned (some (.ref s)) ∧ H.size ≤ s ∧ QS (gD Γ) (gy Γ) s n t (s + 1) H1) G' hS hp.2 hr (fun r0 H1 locs1 hq hz1 hF hS1 => ?_)
  obtain ⟨s, hr0, hs, w, τ, hw, hW1, hτ1, hτ2⟩ := hq
  cases hr0
  have hsz : (gs Γ).heap.size ≤ H.size := hS.1
  obtain ⟨g1, g2⟩ := ext_W y1 hW (by rw [ho]; exact fun _ _ _ h => h) G.2.2.2.2.2.2.1
  obtain ⟨x1, x2⟩ := adopt (H0 := (gs Γ).heap) (H1 := H1) (H2 := H1) (o := zf0 σ) (k := 200) (j := 0) y2 (zkw_U n) y3 g1 (fun _ _ _ h => h) g2 G.2.2.2.2.2.2.2.1 (fun q hq => hS1.2.1 q hq (fun z => absurd z (Nat.not_le.mpr hq))) hW1 (ap_U (m := n) (show (gs Γ).heap.size ≤ s by omega) (show (gs Γ).heap.size ≤ w by omega) (by omega)) (fun q _ => rfl) (fun q hq => by cases hq)
  obtain ⟨M, hMd⟩ : ∃ M, M = zu (zj [101, 102] (zf0 σ) τ) 200 0 1 := ⟨_, rfl⟩
  rw [← hMd] at x1 x2
  have G2 := gd_N (sh2 := shE0g n) G (a := mrg [101, 102] (ga Γ) (adB s w)) (o := M) 13 364 x2
  have R2 := rtn_N (rtn_up hR (zex_up y1) (fun _ _ h => h)) (a := mrg [101, 102] (ga Γ) (adB s w)) (o := M) 13 364 (mrg_free y3 (ga Γ) (adB s w))
  have M2 : Mk (gN Γ (mrg [101, 102] (ga Γ) (adB s w)) M 13 364) (l, tk, tv) yL_began.name 13 364 := ⟨hM.1, hM.2.1, rfl, rfl⟩
  have mc : ∀ k, k < 101 → M k = σ k := fun k hk => by
    rw [hMd, zu_ne _ _ _ (by omega), zj_none _ _ (by unfold zq zqi zqi zqi; rw [if_neg (by omega), if_neg (by omega)])]
    exact if_neg (by omega)
  have m1 : M 101 1 = 0 := by rw [hMd, zu_ne _ _ _ (by decide)]; exact hτ1
  have m2 : ∀ j, j < n → M 102 j = t j := fun j hj => by rw [hMd, zu_ne _ _ _ (by decide)]; exact hτ2 j hj
  have k9 : PT (gN Γ (mrg [101, 102] (ga Γ) (adB s w)) M 13 364) 7 (shE0g n) 81 M [(0, .ref (ga (gN Γ (mrg [101, 102] (ga Γ) (adB s w)) M 13 364) 0)), (1, .ref (tk 1000))] [.ref (ga (gN Γ (mrg [101, 102] (ga Γ) (adB s w)) M 13 364) 101)] := by
    generalize gN Γ (mrg [101, 102] (ga Γ) (adB s w)) M 13 364 = Γ2 at G2 R2 M2
    refine p_lv [0] rfl ?_
    refine p_conv (s9 := shE0 n) G2 [(200, 0)] R2 M2 y4 (by rw [hMd]; exact fl_ne) (fun Γ3 G3 R3 M3 e3 => ?_)
    rw [← e3]
    have R4 := rtn_gr R3 (fun k q h hx => shE0g_0 h hx)
    refine p_astore_n (lv' := [(2, .ref (ga Γ3 101)), (0, .ref (ga Γ3 0))]) G3 rfl dL_began_81 (by decide) rfl ?_
    refine p_iconst G3 rfl dL_began_82 ?_
    refine p_istore_nU (lv' := [(3, .int (zJ ((0 : Nat) : Int))), (2, .ref (ga Γ3 101)), (0, .ref (ga Γ3 0))]) G3 rfl dL_began_83 (by decide) rfl ?_
    refine p_lv [2, 1, 0] rfl ?_
    unfold x_bgL at hb
    obtain ⟨σa, ha, hb⟩ := bnd_some hb
    refine bg_head (at_ := 0) G3 M3 (by decide) (by decide) h14 hrm m1 (by decide) (fun _ => ?_) (fun c => by omega)
    refine bg_app (at_ := 0) G3 R4 M3 (by decide) (by decide) h14 hrm hasc mc m1 m2 (by decide) ha (fun Γ5 M5 G5 R5 K5 c5 d5 f5 => ?_)
    by_cases c20 : n ≤ 20
    · rw [if_pos c20] at hb
      cases hb
      exact bg_head (at_ := 0 + 20) G5 K5 (by decide) (by decide) h14 hrm d5 (by decide) (fun c => by omega) (fun _ => bg_end G5 R5 K5 (by decide) (by decide) h14 hrm c5 hld rfl)
    · rw [if_neg c20] at hb
      refine bg_head (at_ := 0 + 20) G5 K5 (by decide) (by decide) h14 hrm d5 (by decide) (fun _ => ?_) (fun c => by omega)
      refine bg_app (at_ := 0 + 20) G5 R5 K5 (by decide) (by decide) h14 hrm hasc c5 d5 f5 (by decide) hb (fun Γ6 M6 G6 R6 K6 c6 d6 f6 => ?_)
      exact bg_head (at_ := 0 + 20 + 20) G6 K6 (by decide) (by decide) h14 hrm d6 (by decide) (fun c => by omega) (fun _ => bg_end G6 R6 K6 (by decide) (by decide) h14 hrm c6 hld rfl)
  exact k9 H1 locs1 ls x1 (fun _ _ _ h => h) ⟨hS1.1, fun q h1 h2 => hS1.2.1 q h1 (fun z => absurd z (Nat.not_le.mpr h1)), fun q hq => G.2.2.2.2.2.2.2.1 _ (hS1.2.2 q hq)⟩ hl9
