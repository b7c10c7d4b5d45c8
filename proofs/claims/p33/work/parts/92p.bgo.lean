/-! The beginning: its rounds, and the end -/
theorem shE1g_0 {n k : Nat} {q : Zs} (h : (shE1g n)[k]? = some q) (hx : q.2.2.2 = none) : (shE0 n)[k]? = some q := by
  have hl : k < 104 := (List.getElem?_eq_some_iff.mp h).1
  by_cases c : k < 101
  · unfold shE1g at h
    rw [List.getElem?_append_left (show k < shX.length from c)] at h
    exact shE0_X h
  · obtain rfl | rfl | rfl : k = 101 ∨ k = 102 ∨ k = 103 := by omega
    · exact h
    · exact h
    · cases h; cases hx
theorem shE0g_0 {n k : Nat} {q : Zs} (h : (shE0g n)[k]? = some q) (hx : q.2.2.2 = none) : (shE0 n)[k]? = some q := by
  have hl : k < 103 := (List.getElem?_eq_some_iff.mp h).1
  by_cases c : k < 101
  · unfold shE0g at h
    rw [List.getElem?_append_left (show k < shX.length from c)] at h
    exact shE0_X h
  · obtain rfl | rfl : k = 101 ∨ k = 102 := by omega
    · cases h; cases hx
    · cases h; cases hx
theorem fl_ne {σ : Mm} : ∀ g ∈ [((200 : Nat), (0 : Nat))], zu σ 200 0 1 g.1 g.2 ≠ 0 := by
  intro g hg
  have e : g = (200, 0) := by simpa using hg
  subst e
  show zu σ 200 0 1 200 0 ≠ 0
  rw [zu_self]
  show (1 : Int) ≠ 0
  decide
/-- a row of words just made -/
def mxw (M : Mm) : Mm := zu (zj [103] (zf0 M) (fun _ _ => 0)) 200 0 1
theorem mxw_lo (M : Mm) {k : Nat} (h : k < 103) : mxw M k = M k := by
  unfold mxw
  rw [zu_ne _ _ _ (by omega), zj_none _ _ (by unfold zq zqi; rw [if_neg (by omega)]; rfl)]
  exact if_neg (by omega)
theorem mxw_w (M : Mm) (t : Nat → Int) (n at_ : Nat) : mxw M = wm (mxw M) (wrow t n at_ 0) := by
  funext c
  unfold wm
  by_cases h : c = 103
  · subst h
    rw [if_pos rfl]
    unfold mxw
    rw [zu_ne _ _ _ (by decide)]
    rfl
  · rw [if_neg h]
section BGO
variable {Γ : Cx} {rm : Room} {n : Nat} {t : Nat → Int} {σ M : Mm} {lc : Lc} {nm : String} {m0 n0 : Nat} {σ9 : Mm} {ov : Int}
set_option maxHeartbeats 2000000 in
theorem bg_end (G : Gd Γ cL_began "WrapRunsLaw" 7 rm (shE0 n)) (hR : RTN Γ (shE0 n) shX (some .int) σ9 (some (.int (zJ ov))) 20 499) (hM : Mk Γ lc nm m0 n0) (hm : m0 + 5 ≤ 20) (hn0 : n0 + 125 ≤ 499) (h14 : 14 ≤ n ∧ n ≤ 23) (hrm : 20 ≤ rm.cells ∧ 499 ≤ rm.slots ∧ 12 ≤ rm.frames ∧ 304 ≤ rm.locals) (hc : ∀ k, k < 101 → M k = σ k) {σl : Mm} (hl : x_X6_load (zb zl_101 σ) = some (σl, ov)) (h9 : σ9 = zj zl_101 σ σl) : PT Γ 7 (shE0 n) 193 M [(0, .ref (ga Γ 0))] [] := by
  obtain ⟨-, -, z3, z4, z5⟩ := zk_P4 h14
  refine p_aload_n G rfl 0 rfl dL_began_193 ?_
  refine p_callVN (lv' := fun a => [(0, .ref (a 0))]) (st' := fun a => []) (k0 := 0) (ci := 8) (kk := some) (out := zj zl_101 M σl) G hR hM zl_101 dL_began_194 lt_L_100 (c_X6_load (gl Γ) (o := (σl, ov)) (by rw [zb_eq hc]; exact hl)) (As := []) rfl z3 zk_P5 z5 (zs_x z4 M) rfl rfl rfl (Nat.le_of_ble_eq_true rfl) ⟨rfl, rfl, hrm.2.2.1, hrm.2.2.2⟩ (Nat.le_trans hm hrm.1) (Nat.le_trans hn0 hrm.2.1) rfl (fun a e => by
    have q0 := e 0 _ rfl rfl
    rw [q0]
    exact ⟨rfl, rfl⟩) (fun Γ' G' R' M' σ' hs => ?_)
  cases hs
  refine p_cut (sh1 := shX) (σ' := σ9) G' (fun k q => shE0_X) (fun k q g hq hg => shX_at (shX_gd hq hg)) (fun k q hq => by
    rw [h9, zjl_lo _ _ (shX_ln hq), zjl_lo _ _ (shX_ln hq)]) (fun Γ2 e2 G2 => ?_)
  subst e2
  exact p_iretN G2 (l := lc) (nm := nm) M' hm hn0 (rtn_N R' _ _ (fun _ _ _ _ => rfl)) dL_began_197 rfl rfl
set_option maxHeartbeats 4000000 in
theorem bg_app (G : Gd Γ cL_began "WrapRunsLaw" 7 rm (shE0 n)) (hR : RTN Γ (shE0 n) shX (some .int) σ9 (some (.int (zJ ov))) 20 499) (hM : Mk Γ lc nm m0 n0) (hm : m0 + 1 ≤ 20) (hn0 : n0 + 5 ≤ 499) (h14 : 14 ≤ n ∧ n ≤ 23) (hrm : 20 ≤ rm.cells ∧ 499 ≤ rm.slots ∧ 12 ≤ rm.frames ∧ 304 ≤ rm.locals) (ht : ∀ j, j < n → ∃ d : Nat, d < 128 ∧ t j = (d : Int)) (hc : ∀ k, k < 101 → M k = σ k) (hM1 : M 101 1 = 0) (hM2 : ∀ j, j < n → M 102 j = t j) {at_ : Nat} (hat : at_ ≤ 20) {σ2 : Mm} (ha : x_bgA t n at_ σ = some σ2)
    (k : ∀ (Γ' : Cx) (M' : Mm), Gd Γ' cL_began "WrapRunsLaw" 7 rm (shE0 n) → RTN Γ' (shE0 n) shX (some .int) σ9 (some (.int (zJ ov))) 20 499 → Mk Γ' lc nm (m0 + 1) (n0 + 5) → (∀ k, k < 101 → M' k = σ2 k) → M' 101 1 = 0 → (∀ j, j < n → M' 102 j = t j) → PT Γ' 7 (shE0 n) 84 M' [(0, .ref (ga Γ' 0)), (2, .ref (ga Γ' 101)), (3, .int (zJ ((at_ + 20 : Nat) : Int)))] []) :
    PT Γ 7 (shE0 n) 92 M [(0, .ref (ga Γ 0)), (2, .ref (ga Γ 101)), (3, .int (zJ (at_ : Int)))] [] := by
  obtain ⟨y1, y2, y3, y4⟩ := zk_P2 h14
  obtain ⟨z1, z2, -, -, -⟩ := zk_P4 h14
  unfold x_bgA at ha
  obtain ⟨⟨σa, va⟩, hca, ha⟩ := bnd_some ha
  rw [un2_mk] at ha
  cases ha
  refine p_ext (shg := shE1g n) (kk := some) (out := zf0 M) G hR hM y1 rfl (fun Γ1 G1 R1 M1 e1 σ1 hs1 => ?_)
  cases hs1
  rw [← e1]
  refine p_iconst G1 rfl dL_began_92 ?_
  refine p_newaSt (ins := .return_) (lv' := fun a => [(4, .ref (a 103)), (0, .ref (a 0)), (2, .ref (a 101)), (3, .int (zJ (at_ : Int)))]) (kf := 200) (j := 0) (K := 103) (N := 5) (c1 := 0) (kd := 0) (ir := 4) (ln := 2) (kk := some) (out := mxw M) G1 R1 M1 gm_135 dL_began_93 (fun a H locs mc ms ls hl k => lv_astore G1.1 G1.2.1 dL_began_95 hl (by decide) rfl k) rfl y3 (by decide +kernel) y4 (fun _ => rfl) (fun _ _ h => h) (fun j2 => by unfold zFk; rw [if_neg (by decide)]; unfold zF; rw [zt_c]; exact congrArg Value.int (show (0 : Int32) = zJ 0 by decide)) (by decide) (by decide) (by decide) (by decide) (Nat.le_trans hm hrm.1) (Nat.le_trans hn0 hrm.2.1) rfl (fun a e => (by have q0 := e 0 (by decide +kernel); have q101 := e 101 (by decide +kernel); simp only [q0, q101]; rfl)) (fun Γ2 G2 R2 M2 σ2 hs2 => ?_)
  cases hs2
  refine p_conv (s9 := shE1 n) G2 [(200, 0)] R2 M2 y2 fl_ne (fun Γ3 G3 R3 M3 e3 => ?_)
  rw [← e3]
  have hcs := mk_cs G3 M3 (Nat.le_trans hm hrm.1) (Nat.le_trans hn0 hrm.2.1)
  have x1 : mxw M 101 1 = 0 := by rw [mxw_lo M (by decide)]; exact hM1
  have x2 : ∀ j, j < n → mxw M 102 j = t j := fun j hj => by rw [mxw_lo M (by decide)]; exact hM2 j hj
  refine p_iconst G3 rfl dL_began_97 ?_
  refine p_istoreU (lv' := [(5, .int (zJ ((0 : Nat) : Int))), (4, .ref (ga Γ3 103)), (0, .ref (ga Γ3 0)), (2, .ref (ga Γ3 101)), (3, .int (zJ (at_ : Int)))]) G3 dL_began_98 (by decide) rfl ?_
  refine p_lv [2, 3, 4, 1, 0] rfl ?_
  rw [mxw_w M t n at_]
  refine in_loop G3 h14 ht x1 x2 hcs ⟨by omega, by omega⟩ hat ?_ 20 0 rfl
  refine p_aload_n G3 rfl 0 rfl dL_began_162 ?_
  refine p_aload G3 3 rfl dL_began_163 ?_
  refine p_iconst G3 rfl dL_began_165 ?_
  refine p_iald (k := 103) (A := some ()) (out := ()) G3 dL_began_166 rfl (zt_c _) (if_pos (by decide)) (fun _ _ => ?_)
  rw [wm_103, show zix 0 = 0 from by decide]
  refine p_aload G3 3 rfl dL_began_167 ?_
  refine p_iconst G3 rfl dL_began_169 ?_
  refine p_iald (k := 103) (A := some ()) (out := ()) G3 dL_began_170 rfl (zt_c _) (if_pos (by decide)) (fun _ _ => ?_)
  rw [wm_103, show zix 1 = 1 from by decide]
  refine p_aload G3 3 rfl dL_began_171 ?_
  refine p_iconst G3 rfl dL_began_173 ?_
  refine p_iald (k := 103) (A := some ()) (out := ()) G3 dL_began_174 rfl (zt_c _) (if_pos (by decide)) (fun _ _ => ?_)
  rw [wm_103, show zix 2 = 2 from by decide]
  refine p_aload G3 3 rfl dL_began_175 ?_
  refine p_iconst G3 rfl dL_began_177 ?_
  refine p_iald (k := 103) (A := some ()) (out := ()) G3 dL_began_178 rfl (zt_c _) (if_pos (by decide)) (fun _ _ => ?_)
  rw [wm_103, show zix 3 = 3 from by decide]
  refine p_aload G3 3 rfl dL_began_179 ?_
  refine p_iconst G3 rfl dL_began_181 ?_
  refine p_iald (k := 103) (A := some ()) (out := ()) G3 dL_began_182 rfl (zt_c _) (if_pos (by decide)) (fun _ _ => ?_)
  rw [wm_103, show zix 4 = 4 from by decide]
  have hcx : ∀ k, k < 101 → wm (mxw M) (wrow t n at_ 20) k = σ k := fun k hk => by
    rw [wm_ne _ _ (by omega), mxw_lo M (by omega)]
    exact hc k hk
  refine p_callV (k0 := 0) (ci := 8) G3 zl_101 dL_began_183 lt_L_97 (c_X6_append (gl Γ3) (o := (σa, va)) (show x_X6_append (zb zl_101 (wm (mxw M) (wrow t n at_ 20))) _ _ _ _ _ = _ by rw [zb_eq hcx]; exact hca)) (As := [.int (zJ (wrow t n at_ 20 0)), .int (zJ (wrow t n at_ 20 1)), .int (zJ (wrow t n at_ 20 2)), .int (zJ (wrow t n at_ 20 3)), .int (zJ (wrow t n at_ 20 4))]) rfl z1 (zs_x z2 _) rfl rfl rfl (Nat.le_of_ble_eq_true rfl) ⟨rfl, rfl, by show 2 + 1 ≤ rm.frames; omega, by show 8 + (6 + 11) + 43 ≤ rm.locals; omega⟩ hcs ?_
  refine p_pop G3 rfl dL_began_186 ?_
  refine p_iincU (lv2 := [(3, .int (zJ ((at_ + 20 : Nat) : Int))), (0, .ref (ga Γ3 0)), (2, .ref (ga Γ3 101)), (4, .ref (ga Γ3 103))]) G3 dL_began_187 2 rfl (by decide) rfl ?_
  refine p_goto (tgt := 84) G3 dL_began_190 (by decide) ?_
  refine p_lv [1, 2, 0] rfl ?_
  refine p_cut (sh1 := shE0 n) (σ' := zj zl_101 (wm (mxw M) (wrow t n at_ 20)) σa) G3 (fun k q => shE0_in) (fun k q g hq hg => by
    obtain ⟨q', hq'⟩ := shX_at (shE0_gd hq hg)
    exact ⟨q', shE0_X hq'⟩) (fun _ _ _ => rfl) (fun Γ4 e4 G4 => ?_)
  subst e4
  refine k _ _ G4 (rtn_N (rtn_gr R3 (fun k q h hx => shE1g_0 h hx)) _ _ (fun _ _ _ _ => rfl)) M3 (fun k hk => by rw [zjl_lo _ _ hk, zjl_lo _ _ hk]) ?_ (fun j hj => ?_)
  · rw [zjl_hi _ _ (by decide), wm_ne _ _ (by decide)]
    exact x1
  · rw [zjl_hi _ _ (by decide), wm_ne _ _ (by decide)]
    exact x2 j hj
set_option maxHeartbeats 2000000 in
/-- the loop's head -/
theorem bg_head (G : Gd Γ cL_began "WrapRunsLaw" 7 rm (shE0 n)) (hM : Mk Γ lc nm m0 n0) (hm : m0 ≤ 20) (hn0 : n0 ≤ 499) (h14 : 14 ≤ n ∧ n ≤ 23) (hrm : 20 ≤ rm.cells ∧ 499 ≤ rm.slots ∧ 12 ≤ rm.frames ∧ 304 ≤ rm.locals) (hM1 : M 101 1 = 0) {at_ : Nat} (hat : at_ ≤ 40)
    (k1 : at_ < n → PT Γ 7 (shE0 n) 92 M [(0, .ref (ga Γ 0)), (2, .ref (ga Γ 101)), (3, .int (zJ (at_ : Int)))] []) (k2 : n ≤ at_ → PT Γ 7 (shE0 n) 193 M [(0, .ref (ga Γ 0))] []) : PT Γ 7 (shE0 n) 84 M [(0, .ref (ga Γ 0)), (2, .ref (ga Γ 101)), (3, .int (zJ (at_ : Int)))] [] := by
  obtain ⟨z1, z2, -, -⟩ := zk_P3 h14
  have hcs := mk_cs G hM (Nat.le_trans hm hrm.1) (Nat.le_trans hn0 hrm.2.1)
  refine p_iload_n G rfl 2 rfl dL_began_84 ?_
  refine p_aload_n G rfl 1 rfl dL_began_85 ?_
  refine p_callVr (k0 := 101) (ci := 0) (As := []) G [101, 102] dL_began_86 lt_L_87 (c_mLength (gl Γ) (n := n) (by omega) hM1) rfl z1 (zs_x z2 _) rfl rfl rfl (Nat.le_of_ble_eq_true rfl) ⟨rfl, rfl, by show 1 + 1 ≤ rm.frames; omega, by show 8 + (1 + 11) + 20 ≤ rm.locals; omega⟩ hcs ?_
  by_cases c : at_ < n
  · refine p_icmpge (tgt := 193) (A := (none : Option Unit)) (B := some ()) (out := ()) G dL_began_89 (by decide) (if_neg (by rw [zw_n (by omega), zw_n (by omega)]; omega)) (fun c _ => absurd c (by rw [zw_n (by omega), zw_n (by omega)]; omega)) (fun _ _ => ?_)
    exact k1 c
  · refine p_icmpge (tgt := 193) (A := some ()) (B := (none : Option Unit)) (out := ()) G dL_began_89 (by decide) (if_pos (by rw [zw_n (by omega), zw_n (by omega)]; omega)) (fun _ _ => ?_) (fun c _ => absurd (by rw [zw_n (by omega), zw_n (by omega)]; omega) c)
    refine p_lv [0] rfl ?_
    exact k2 (by omega)
end BGO
