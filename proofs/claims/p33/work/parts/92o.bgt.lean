/-! The beginning: the text's words -/
def wch (t : Nat → Int) (n j : Nat) : Int := if j < n then t j else 32
def wrow (t : Nat → Int) (n at_ : Nat) : Nat → Nat → Int
  | 0 => fun _ => 0
  | i + 1 => zr (wrow t n at_ i) (i / 4) (zor (wrow t n at_ i (i / 4)) (zshl (wch t n (at_ + i)) (24 - 8 * ((i % 4 : Nat) : Int))))
def wm (M : Mm) (r : Nat → Int) : Mm := fun c => if c = 103 then r else M c
theorem wm_103 (M : Mm) (r : Nat → Int) : wm M r 103 = r := if_pos rfl
theorem wm_ne (M : Mm) (r : Nat → Int) {c : Nat} (h : c ≠ 103) : wm M r c = M c := if_neg h
theorem wm_zu (M : Mm) (r : Nat → Int) (j : Nat) (v : Int) : zu (wm M r) 103 j v = wm M (zr r j v) := by
  funext c
  unfold zu wm
  by_cases h : c = 103
  · rw [if_pos h, if_pos h, if_pos rfl]
  · rw [if_neg h, if_neg h, if_neg h]
/-- twenty letters' words appended -/
noncomputable def x_bgA (t : Nat → Int) (n at_ : Nat) (σ : Mm) : Option Mm := (x_X6_append (zb zl_101 σ) (wrow t n at_ 20 0) (wrow t n at_ 20 1) (wrow t n at_ 20 2) (wrow t n at_ 20 3) (wrow t n at_ 20 4)).bind fun o => un2 o fun σ1 _ => some (zj zl_101 σ σ1)
noncomputable def x_bgL (t : Nat → Int) (n : Nat) (σ : Mm) : Option Mm := (x_bgA t n 0 σ).bind fun σ1 => if n ≤ 20 then some σ1 else x_bgA t n 20 σ1
theorem zl_lt : ∀ i : Nat, zp zl_101 i < 101 := by
  intro i
  by_cases h : i < 101
  · revert i
    decide +kernel
  · unfold zp
    rw [List.getD_eq_getElem?_getD, List.getElem?_eq_none (by show 101 ≤ i; omega)]
    decide
theorem zb_eq {σ M : Mm} (h : ∀ k, k < 101 → M k = σ k) : zb zl_101 M = zb zl_101 σ := by
  funext i
  exact h _ (zl_lt i)
theorem zql_some : ∀ k : Nat, k < 101 → zq zl_101 k = some k := by decide +kernel
theorem zql_none {k : Nat} (h : 101 ≤ k) : zq zl_101 k = none := by
  cases hq : zq zl_101 k with
  | none => rfl
  | some i =>
    have h1 := zq_some hq
    have h2 := zl_lt i
    unfold zp at h2
    rw [List.getD_eq_getElem?_getD, h1] at h2
    exact absurd h2 (by show ¬ k < 101; omega)
theorem zjl_lo (σ τ : Mm) {k : Nat} (h : k < 101) : zj zl_101 σ τ k = τ k := zj_some σ τ (zql_some k h)
theorem zjl_hi (σ τ : Mm) {k : Nat} (h : 101 ≤ k) : zj zl_101 σ τ k = σ k := zj_none σ τ (zql_none h)
section CUT
variable {Γ : Cx} {cc : ByteArray} {own : String} {nL : Nat} {rm : Room} {pc : Nat} {σ : Mm} {lv : List (Nat × Value)} {st : List Value}
/-- fewer cells -/
theorem p_cut {sh2 : Sh} (G : Gd Γ cc own nL rm sh2) {sh1 : Sh} (hpre : ∀ (k : Nat) (q : Zs), sh1[k]? = some q → sh2[k]? = some q) (hng : ∀ (k : Nat) (q : Zs) (g : Nat × Nat), sh1[k]? = some q → q.2.2.2 = some g → ∃ q', sh1[g.1]? = some q') {σ' : Mm} (he : ∀ (k : Nat) (q : Zs), sh1[k]? = some q → σ' k = σ k) (k9 : ∀ Γ' : Cx, Γ' = gN Γ (ga Γ) σ' (gmc Γ) (gms Γ) → Gd Γ' cc own nL rm sh1 → PT Γ' nL sh1 pc σ' lv st) : PT Γ nL sh2 pc σ lv st := fun H locs ls hW hN hS hl => by
  have hA := G.2.2.2.2.2.2.1
  have hx : ∀ (k : Nat) (q : Zs), sh1[k]? = some q → zx σ' q.2.2.2 → zx σ q.2.2.2 := fun k q hq h => by
    cases hg : q.2.2.2 with
    | none => trivial
    | some g =>
      rw [hg] at h
      obtain ⟨q', hq'⟩ := hng k q g hq hg
      have h2 : σ' g.1 g.2 ≠ 0 := h
      rw [he _ _ hq'] at h2
      exact h2
  exact k9 (gN Γ (ga Γ) σ' (gmc Γ) (gms Γ)) rfl (gd_N G _ _ ⟨fun i j p q hp hq hxp hxq e => hA.1 i j p q (hpre i p hp) (hpre j q hq) (hN i p (hpre i p hp) (hx i p hp hxp)) (hN j q (hpre j q hq) (hx j q hq hxq)) e, fun k q hq hxk => hA.2 k q (hpre k q hq) (hN k q (hpre k q hq) (hx k q hq hxk))⟩) H locs ls (fun k q hq hxk => by
    rw [he k q hq]
    exact hW k q (hpre k q hq) (hx k q hq hxk)) (fun _ _ _ h => h) hS hl
end CUT
theorem shX_gd {k : Nat} {q : Zs} {g : Nat × Nat} (h : shX[k]? = some q) (hg : q.2.2.2 = some g) : g.1 < 101 := by
  have h1 : shX.all (fun q => match q.2.2.2 with
    | none => true
    | some g => decide (g.1 < 101)) = true := by decide +kernel
  have h2 := List.all_eq_true.mp h1 q (List.mem_of_getElem? h)
  rw [hg] at h2
  exact of_decide_eq_true h2
theorem shX_ln {k : Nat} {q : Zs} (h : shX[k]? = some q) : k < 101 := (List.getElem?_eq_some_iff.mp h).1
theorem shX_at {k : Nat} (h : k < 101) : ∃ q, shX[k]? = some q := ⟨_, List.getElem?_eq_getElem (show k < shX.length from h)⟩
theorem shE0_X {n k : Nat} {q : Zs} (h : shX[k]? = some q) : (shE0 n)[k]? = some q := by
  unfold shE0
  rw [List.getElem?_append_left (show k < shX.length from shX_ln h)]
  exact h
theorem shE0_lo {n k : Nat} {q : Zs} (c : k < 101) (h : (shE0 n)[k]? = some q) : shX[k]? = some q := by
  unfold shE0 at h
  rw [List.getElem?_append_left (show k < shX.length from c)] at h
  exact h
theorem shE0_ln {n k : Nat} {q : Zs} (h : (shE0 n)[k]? = some q) : k < 103 := (List.getElem?_eq_some_iff.mp h).1
theorem shE0_in {n k : Nat} {q : Zs} (h : (shE0 n)[k]? = some q) : (shE1 n)[k]? = some q := by
  by_cases c : k < 101
  · unfold shE1
    rw [List.getElem?_append_left (show k < shX.length from c)]
    exact shE0_lo c h
  · have hl2 := shE0_ln h
    obtain rfl | rfl : k = 101 ∨ k = 102 := by omega
    · exact h
    · exact h
theorem shE0_gd {n k : Nat} {q : Zs} {g : Nat × Nat} (h : (shE0 n)[k]? = some q) (hg : q.2.2.2 = some g) : g.1 < 101 := by
  by_cases c : k < 101
  · exact shX_gd (shE0_lo c h) hg
  · have hl2 := shE0_ln h
    obtain rfl | rfl : k = 101 ∨ k = 102 := by omega
    · cases h; cases hg
    · cases h; cases hg
section BGT
variable {Γ : Cx} {rm : Room} {n : Nat} {t : Nat → Int} {M : Mm} {lc : Lc} {nm : String} {m0 n0 : Nat}
set_option maxHeartbeats 4000000 in
theorem in_loop (G : Gd Γ cL_began "WrapRunsLaw" 7 rm (shE1 n)) (hn : 14 ≤ n ∧ n ≤ 23) (ht : ∀ j, j < n → ∃ d : Nat, d < 128 ∧ t j = (d : Int)) (hM1 : M 101 1 = 0) (hM2 : ∀ j, j < n → M 102 j = t j) (hcs : gmc Γ ≤ (gR Γ).cells ∧ gms Γ ≤ (gR Γ).slots) (hrf : 4 ≤ rm.frames ∧ 85 ≤ rm.locals) {at_ : Nat} (hat : at_ ≤ 20)
    (k : PT Γ 7 (shE1 n) 162 (wm M (wrow t n at_ 20)) [(0, .ref (ga Γ 0)), (2, .ref (ga Γ 101)), (3, .int (zJ (at_ : Int))), (4, .ref (ga Γ 103))] []) : ∀ f i : Nat, i + f = 20 → PT Γ 7 (shE1 n) 100 (wm M (wrow t n at_ i)) [(0, .ref (ga Γ 0)), (2, .ref (ga Γ 101)), (3, .int (zJ (at_ : Int))), (4, .ref (ga Γ 103)), (5, .int (zJ (i : Int)))] [] := by
  intro f
  induction f with
  | zero =>
    intro i hi
    obtain rfl : i = 20 := by omega
    refine p_iload G 4 rfl dL_began_100 ?_
    refine p_bipush G (by decide) (by decide) dL_began_102 ?_
    refine p_icmpge (tgt := 162) (A := some ()) (B := (none : Option Unit)) (out := ()) G dL_began_104 (by decide) (by decide) (fun _ _ => ?_) (fun c _ => absurd (by decide) c)
    refine p_lv [0, 1, 2, 3] rfl ?_
    exact k
  | succ f ih =>
    intro i hi
    obtain ⟨-, -, z1, z2⟩ := zk_P3 hn
    have e4 : zdiv (i : Int) 4 = ((i / 4 : Nat) : Int) := zdiv_nat (b := 4) (by omega) (by decide) (by decide)
    have e5 : zrem (i : Int) 4 = ((i % 4 : Nat) : Int) := zrem_nat (b := 4) (by omega) (by decide) (by decide)
    have hzi : zix ((i / 4 : Nat) : Int) = i / 4 := by unfold zix; rw [zw_n (by omega)]; rfl
    have hzn : zin ((i / 4 : Nat) : Int) 5 := ⟨by rw [zw_n (by omega)]; omega, by rw [zw_n (by omega)]; omega⟩
    have tail : ∀ c : Int, c = wch t n (at_ + i) → PT Γ 7 (shE1 n) 131 (wm M (wrow t n at_ i)) [(0, .ref (ga Γ 0)), (2, .ref (ga Γ 101)), (3, .int (zJ (at_ : Int))), (4, .ref (ga Γ 103)), (5, .int (zJ (i : Int)))] [.int (zJ c)] := by
      intro c hc
      refine p_istoreU (lv' := [(6, .int (zJ c)), (0, .ref (ga Γ 0)), (2, .ref (ga Γ 101)), (3, .int (zJ (at_ : Int))), (4, .ref (ga Γ 103)), (5, .int (zJ (i : Int)))]) G dL_began_131 (by decide) rfl ?_
      refine p_aload G 4 rfl dL_began_133 ?_
      refine p_iload G 5 rfl dL_began_135 ?_
      refine p_iconst G rfl dL_began_137 ?_
      refine p_idivK G dL_began_138 (by decide) ?_
      rw [e4]
      refine p_dup2 G rfl rfl dL_began_139 ?_
      refine p_iald (k := 103) (A := some ()) (out := ()) G dL_began_140 rfl (zt_c _) (if_pos hzn) (fun _ _ => ?_)
      rw [hzi, wm_103]
      refine p_iload G 0 rfl dL_began_141 ?_
      refine p_bipush G (by decide) (by decide) dL_began_143 ?_
      refine p_bipush G (by decide) (by decide) dL_began_145 ?_
      refine p_iload G 5 rfl dL_began_147 ?_
      refine p_iconst G rfl dL_began_149 ?_
      refine p_iremK G dL_began_150 (by decide) ?_
      rw [e5]
      refine p_imul G dL_began_151 ?_
      refine p_isub G dL_began_152 ?_
      refine p_ishl G dL_began_153 ?_
      refine p_ior G dL_began_154 ?_
      refine p_iast (k := 103) (kk := some) (out := wm M (wrow t n at_ (i + 1))) G dL_began_155 rfl (zt_c _) rfl ?_ (fun σ9 _ h9 => ?_)
      · rw [if_pos hzn, hzi, wm_zu, hc]
        rfl
      · cases h9
        refine p_iincU (lv2 := [(5, .int (zJ ((i + 1 : Nat) : Int))), (6, .int (zJ c)), (0, .ref (ga Γ 0)), (2, .ref (ga Γ 101)), (3, .int (zJ (at_ : Int))), (4, .ref (ga Γ 103))]) G dL_began_156 5 rfl (by decide) rfl ?_
        refine p_goto (tgt := 100) G dL_began_159 (by decide) ?_
        refine p_lv [2, 3, 4, 5, 0] rfl ?_
        exact ih (i + 1) (by omega)
    refine p_iload G 4 rfl dL_began_100 ?_
    refine p_bipush G (by decide) (by decide) dL_began_102 ?_
    refine p_icmpge (tgt := 162) (A := (none : Option Unit)) (B := some ()) (out := ()) G dL_began_104 (by decide) (if_neg (by rw [zw_n (by omega), show zw 20 = 20 from by decide]; omega)) (fun c _ => absurd c (by rw [zw_n (by omega), show zw 20 = 20 from by decide]; omega)) (fun _ _ => ?_)
    refine p_iload_n G rfl 2 rfl dL_began_107 ?_
    refine p_iload G 4 rfl dL_began_108 ?_
    refine p_iadd G dL_began_110 ?_
    rw [show (at_ : Int) + (i : Int) = ((at_ + i : Nat) : Int) by omega]
    refine p_aload_n G rfl 1 rfl dL_began_111 ?_
    refine p_callVr (k0 := 101) (ci := 0) (As := []) G [101, 102] dL_began_112 lt_L_87 (c_mLength (gl Γ) (n := n) (by omega) (show wm M (wrow t n at_ i) 101 1 = 0 by rw [wm_ne _ _ (by decide)]; exact hM1)) rfl z1 (zs_x z2 _) rfl rfl rfl (Nat.le_of_ble_eq_true rfl) ⟨rfl, rfl, by show 1 + 1 ≤ rm.frames; omega, by show 8 + (1 + 11) + 20 ≤ rm.locals; omega⟩ hcs ?_
    by_cases c : at_ + i < n
    · refine p_icmpge (tgt := 129) (A := (none : Option Unit)) (B := some ()) (out := ()) G dL_began_115 (by decide) (if_neg (by rw [zw_n (by omega), zw_n (by omega)]; omega)) (fun c _ => absurd c (by rw [zw_n (by omega), zw_n (by omega)]; omega)) (fun _ _ => ?_)
      obtain ⟨d, hd, hdt⟩ := ht _ c
      refine p_aload_n G rfl 1 rfl dL_began_118 ?_
      refine p_iload_n G rfl 2 rfl dL_began_119 ?_
      refine p_iload G 4 rfl dL_began_120 ?_
      refine p_iadd G dL_began_122 ?_
      rw [show (at_ : Int) + (i : Int) = ((at_ + i : Nat) : Int) by omega]
      refine p_callVr (k0 := 101) (ci := 0) (As := [.int (zJ ((at_ + i : Nat) : Int))]) G [101, 102] dL_began_123 lt_L_93 (c_mCharAt (gl Γ) (n := n) (i := at_ + i) (d := d) (by omega) (show wm M (wrow t n at_ i) 101 1 = 0 by rw [wm_ne _ _ (by decide)]; exact hM1) c hd (show wm M (wrow t n at_ i) 102 (at_ + i) = d by rw [wm_ne _ _ (by decide), hM2 _ c, hdt])) rfl z1 (zs_x z2 _) rfl rfl rfl (Nat.le_of_ble_eq_true rfl) ⟨rfl, rfl, by show 3 + 1 ≤ rm.frames; omega, by show 8 + (2 + 11) + 64 ≤ rm.locals; omega⟩ hcs ?_
      refine p_goto (tgt := 131) G dL_began_126 (by decide) ?_
      exact tail _ (by unfold wch; rw [if_pos c, hdt])
    · refine p_icmpge (tgt := 129) (A := some ()) (B := (none : Option Unit)) (out := ()) G dL_began_115 (by decide) (if_pos (by rw [zw_n (by omega), zw_n (by omega)]; omega)) (fun _ _ => ?_) (fun c _ => absurd (by rw [zw_n (by omega), zw_n (by omega)]; omega) c)
      refine p_bipush G (by decide) (by decide) dL_began_129 ?_
      exact tail _ (by unfold wch; rw [if_neg c])
end BGT
