/-! The builder takes a number -/
theorem zw_neg {q : Nat} (h : q < 1000000000) : zw (-(q : Int)) = -(q : Int) := zw_eq (by omega) (by omega)
theorem zdiv_neg {w : Nat} (h : w < 1000000000) : zdiv (-(w : Int)) 100 = -((w / 100 : Nat) : Int) := by
  unfold zdiv
  have e1 : (zJ (-(w : Int))).toInt = -(w : Int) := zw_neg h
  have e2 : (zJ 100).toInt = 100 := by decide
  rw [Int32.toInt_div, e1, e2, Int.neg_tdiv, Int.tdiv_eq_ediv_of_nonneg (by omega), Int.bmod_eq_of_le (by omega) (by omega)]
  omega
/-- the digits of w, down from p, to n -/
def dgR (n p w : Nat) (r : Nat → Int) : Nat → Int := fun j => if n ≤ j ∧ j < p then ((48 + w / 10 ^ (p - 1 - j) % 10 : Nat) : Int) else r j
def dgM (n p w : Nat) (σ : Mm) : Mm := fun c => if c = 0 then dgR n p w (σ 0) else σ c
theorem dgM_1 {n p w : Nat} {σ : Mm} (h : w < 10) (hp : p = n + 1) : zu σ 0 (p - 1) ((48 + w % 10 : Nat) : Int) = dgM n p w σ := by
  funext c
  unfold dgM zu
  by_cases e : c = 0
  · rw [if_pos e, if_pos e]
    funext j
    unfold zr dgR
    by_cases ej : j = p - 1
    · subst ej
      rw [if_pos rfl, if_pos (by omega), Nat.sub_self, Nat.pow_zero, Nat.div_one]
    · rw [if_neg ej, if_neg (by omega)]
  · rw [if_neg e, if_neg e]
theorem dgM_2 {n p w : Nat} {σ : Mm} (h : w < 100) (hp : p = n + 2) : zu (zu σ 0 (p - 1) ((48 + w % 10 : Nat) : Int)) 0 (p - 1 - 1) ((48 + w / 10 : Nat) : Int) = dgM n p w σ := by
  funext c
  unfold dgM zu
  by_cases e : c = 0
  · rw [if_pos e, if_pos e, if_pos rfl]
    funext j
    unfold zr dgR
    by_cases ej : j = p - 1 - 1
    · subst ej
      rw [if_pos rfl, if_pos (by omega), show p - 1 - (p - 1 - 1) = 1 by omega, Nat.pow_one, show w / 10 % 10 = w / 10 by omega]
    · rw [if_neg ej]
      by_cases ej2 : j = p - 1
      · subst ej2
        rw [if_pos rfl, if_pos (by omega), Nat.sub_self, Nat.pow_zero, Nat.div_one]
      · rw [if_neg ej2, if_neg (by omega)]
  · rw [if_neg e, if_neg e, if_neg e]
theorem dgM_100 {n p w : Nat} {σ : Mm} (hp : n + 2 ≤ p) : dgM n (p - 1 - 1) (w / 100) (zu (zu σ 0 (p - 1) ((48 + w % 10 : Nat) : Int)) 0 (p - 1 - 1) ((48 + w / 10 % 10 : Nat) : Int)) = dgM n p w σ := by
  funext c
  unfold dgM zu
  by_cases e : c = 0
  · rw [if_pos e, if_pos e, if_pos rfl, if_pos rfl]
    funext j
    unfold dgR zr
    by_cases ej : n ≤ j ∧ j < p - 1 - 1
    · rw [if_pos ej, if_pos (by omega), Nat.div_div_eq_div_mul, show 100 * 10 ^ (p - 1 - 1 - 1 - j) = 10 ^ (p - 1 - j) by
        rw [show p - 1 - j = (p - 1 - 1 - 1 - j) + 2 by omega, Nat.pow_add, Nat.mul_comm]]
    · rw [if_neg ej]
      by_cases ej1 : j = p - 1 - 1
      · subst ej1
        rw [if_pos rfl, if_pos (by omega), show p - 1 - (p - 1 - 1) = 1 by omega, Nat.pow_one]
      · rw [if_neg ej1]
        by_cases ej2 : j = p - 1
        · subst ej2
          rw [if_pos rfl, if_pos (by omega), Nat.sub_self, Nat.pow_zero, Nat.div_one]
        · rw [if_neg ej2, if_neg (by omega)]
  · rw [if_neg e, if_neg e, if_neg e, if_neg e]
section DIG
variable {Γ : Cx} {cc : ByteArray} {own : String} {nL : Nat} {rm : Room} {sh : Sh} {pc : Nat} {σ : Mm} {lv : List (Nat × Value)} {st : List Value}
theorem gd_sx (G : Gd Γ cc own nL rm sh) : SX (gk Γ) (gv Γ) (gA Γ) (gs Γ) (gs Γ).heap := (gd_o G).2.2.2.2.2.2.2.2
theorem p_getsDO (G : Gd Γ cc own nL rm sh) {idx : Nat} (hd : decode cc pc = .ok (.getstatic idx, 3)) (hl : Cond.fieldLink own idx "java/lang/Integer" "DigitOnes" "[B" ∈ GT) (k : PT Γ nL sh (pc + 3) σ lv (.ref (gk Γ 1002) :: st)) : PT Γ nL sh pc σ lv st := fun H locs ls hW hN hS h9 => va_gets G.1 G.2.1 (gd_sx G).2.1.1 hS G.2.2.2.1 (G.2.2.2.2.1 _ hl) (fun x h => h) hd (k H locs ls hW hN hS h9)
theorem p_getsDT (G : Gd Γ cc own nL rm sh) {idx : Nat} (hd : decode cc pc = .ok (.getstatic idx, 3)) (hl : Cond.fieldLink own idx "java/lang/Integer" "DigitTens" "[B" ∈ GT) (k : PT Γ nL sh (pc + 3) σ lv (.ref (gk Γ 1003) :: st)) : PT Γ nL sh pc σ lv st := fun H locs ls hW hN hS h9 => va_gets G.1 G.2.1 (gd_sx G).2.2.1 hS G.2.2.2.1 (G.2.2.2.2.1 _ hl) (fun x h => h) hd (k H locs ls hW hN hS h9)
theorem zJ_cl {i : Nat} (h : i < 100) : (zJ (i : Int)).toNatClampNeg = i := (zw_nat (by omega)).1
theorem p_balDO (G : Gd Γ cc own nL rm sh) {i : Nat} (hi : i < 100) (hd : decode cc pc = .ok (.baload, 1)) (k : PT Γ nL sh (pc + 1) σ lv (.int (zJ ((48 + i % 10 : Nat) : Int)) :: st)) : PT Γ nL sh pc σ lv (.int (zJ (i : Int)) :: .ref (gk Γ 1002) :: st) := fun H locs ls hW hN hS h9 => va_tb G.1 G.2.1 (gd_sx G).2.1.2 hS (zin_vp (show zin (i : Int) 100 from ⟨by rw [zw_n (by omega)]; omega, by rw [zw_n (by omega)]; omega⟩)) (by rw [zJ_cl hi]) hd (k H locs ls hW hN hS h9)
theorem p_balDT (G : Gd Γ cc own nL rm sh) {i : Nat} (hi : i < 100) (hd : decode cc pc = .ok (.baload, 1)) (k : PT Γ nL sh (pc + 1) σ lv (.int (zJ ((48 + i / 10 : Nat) : Int)) :: st)) : PT Γ nL sh pc σ lv (.int (zJ (i : Int)) :: .ref (gk Γ 1003) :: st) := fun H locs ls hW hN hS h9 => va_tb G.1 G.2.1 (gd_sx G).2.2.2 hS (zin_vp (show zin (i : Int) 100 from ⟨by rw [zw_n (by omega)]; omega, by rw [zw_n (by omega)]; omega⟩)) (by rw [zJ_cl hi]) hd (k H locs ls hW hN hS h9)
theorem p_iincU (G : Gd Γ cc own nL rm sh) {i : Nat} {n x : Int} {lv2 : List (Nat × Value)} (hd : decode cc pc = .ok (.iinc i n, 3)) (q : Nat) (hq : lv[q]? = some (i, .int (zJ x))) (hn : i < nL) (hlv : (i, .int (zJ (x + n))) :: lv.filter (fun q => !(q.1 == i) && !(q.1 + 1 == i && q.2.category == 2)) = lv2) (k : PT Γ nL sh (pc + 3) σ lv2 st) : PT Γ nL sh pc σ lv st := fun H locs ls hW hN hS hl =>
  lv_iinc (v := zJ (x + n)) G.1 G.2.1 hd hl hq (zJ_add x n) hn hlv (fun ls' hl' => k H locs ls' hW hN hS hl')
theorem zi2b_d : ∀ d : Nat, d < 128 → zi2b (d : Int) = d := by decide +kernel
theorem p_bastU (G : Gd Γ cc own nL rm sh) {k n : Nat} {j d : Nat} (hd : decode cc pc = .ok (.bastore, 1)) (hk : sh[k]? = some (2, n, ([], 0, 0), none)) (hg : zg sh k = true) (hj : j < n) (hn : n < 1000) (hdd : d < 128) (k9 : PT Γ nL sh (pc + 1) (zu σ k j (d : Int)) lv st) : PT Γ nL sh pc σ lv (.int (zJ (d : Int)) :: .int (zJ (j : Int)) :: .ref (ga Γ k) :: st) := by
  have hx : zix (j : Int) = j := by unfold zix; rw [zw_n (by omega)]; rfl
  refine p_bast (kk := fun s => some s) (out := zu σ k j (d : Int)) G hd hk (zt_c _) hg ?_ (fun s _ h => ?_)
  · rw [if_pos ⟨by rw [zw_n (by omega)]; omega, by rw [zw_n (by omega)]; omega⟩, hx, zi2b_d d hdd]
    rfl
  · cases h
    exact k9
end DIG
set_option maxHeartbeats 2000000 in
theorem c_getChars (l : Launch) {D : va_G} {yy : Nat → ClassId} {tk tv a : Nat → Nat} {σ : Mm} {v n m : Nat} (hv : v < 1000000) (hn : n + sb_dg v ≤ m) (hm : m ≤ 34) : CT l yJ6_getChars_ba4f3 cJ6_getChars_ba4f3 7 (some .int) (rmS 0 0 0 0) (shV m) D yy tk tv a σ [.int (zJ (v : Int)), .int (zJ ((n + sb_dg v : Nat) : Int)), .ref (a 0)] (dgM n (n + sb_dg v) v σ) (some (.int (zJ (n : Int)))) := by
  refine ct_of (Ar := fun a tk => [.int (zJ (v : Int)), .int (zJ ((n + sb_dg v : Nat) : Int)), .ref (a 0)]) (by decide) (Nat.le_of_ble_eq_true rfl) (fun Γ G _ _ hR => ?_)
  have fin : ∀ (σ' : Mm) (p : Nat) (w : Int), p = n → σ' = dgM n (n + sb_dg v) v σ → PT Γ 7 (shV m) 104 σ' [(5, .int (zJ (p : Int))), (0, .int (zJ w)), (2, .ref (ga Γ 0)), (6, .int (zJ 0))] [] := by
    intro σ' p w hp hs
    refine p_iload G 3 rfl dJ6_getChars_ba4f3_104 ?_
    refine p_ifeq (tgt := 118) (A := some ()) (B := (none : Option Unit)) (out := ()) G dJ6_getChars_ba4f3_106 (by decide) (by decide) (fun _ _ => ?_) (fun c _ => absurd (by decide) c)
    refine p_iload G 0 rfl dJ6_getChars_ba4f3_118 ?_
    exact p_iret G hR dJ6_getChars_ba4f3_120 (by rw [hp]) hs
  have loop : ∀ (f w p : Nat) (σ' : Mm), w < f → w < 1000000 → p = n + sb_dg w → p ≤ m → dgM n p w σ' = dgM n (n + sb_dg v) v σ → PT Γ 7 (shV m) 22 σ' [(0, .int (zJ (-(w : Int)))), (2, .ref (ga Γ 0)), (5, .int (zJ (p : Int))), (6, .int (zJ 0))] [] := by
    intro f
    induction f with
    | zero => intro w p σ' h; omega
    | succ f ih =>
      intro w p σ' hwf hw hp hpm hs
      have hd1 := (sb_dg_in w).1
      refine p_iload_n G rfl 0 rfl dJ6_getChars_ba4f3_22 ?_
      refine p_bipush G (by decide) (by decide) dJ6_getChars_ba4f3_23 ?_
      by_cases h100 : w < 100
      · refine p_icmpgt (tgt := 72) (A := some ()) (B := (none : Option Unit)) (out := ()) G dJ6_getChars_ba4f3_25 (by decide) (if_pos (by rw [zw_neg (by omega), show zw (-100) = -100 from by decide]; omega)) (fun _ _ => ?_) (fun c _ => absurd (by rw [zw_neg (by omega), show zw (-100) = -100 from by decide]; omega) c)
        refine p_aload_n G rfl 1 rfl dJ6_getChars_ba4f3_72 ?_
        refine p_iincU (lv2 := [(5, .int (zJ ((p - 1 : Nat) : Int))), (0, .int (zJ (-(w : Int)))), (2, .ref (ga Γ 0)), (6, .int (zJ 0))]) G dJ6_getChars_ba4f3_73 2 rfl (by decide) (by rw [show (p : Int) + -1 = ((p - 1 : Nat) : Int) by omega]; rfl) ?_
        refine p_iload G 0 rfl dJ6_getChars_ba4f3_76 ?_
        refine p_getsDO G dJ6_getChars_ba4f3_78 wj_do ?_
        refine p_iload_n G rfl 1 rfl dJ6_getChars_ba4f3_81 ?_
        refine p_ineg G dJ6_getChars_ba4f3_82 ?_
        rw [Int.neg_neg]
        refine p_balDO G h100 dJ6_getChars_ba4f3_83 ?_
        refine p_bastU (k := 0) G dJ6_getChars_ba4f3_84 rfl rfl (by omega) (by omega) (by omega) ?_
        refine p_iload_n G rfl 1 rfl dJ6_getChars_ba4f3_85 ?_
        refine p_bipush G (by decide) (by decide) dJ6_getChars_ba4f3_86 ?_
        by_cases h9 : w < 10
        · have hd : sb_dg w = 1 := if_pos h9
          refine p_icmpge (tgt := 104) (A := some ()) (B := (none : Option Unit)) (out := ()) G dJ6_getChars_ba4f3_88 (by decide) (if_pos (by rw [zw_neg (by omega), show zw (-9) = -9 from by decide]; omega)) (fun _ _ => ?_) (fun c _ => absurd (by rw [zw_neg (by omega), show zw (-9) = -9 from by decide]; omega) c)
          exact fin _ (p - 1) _ (by omega) (by rw [dgM_1 (n := n) (p := p) h9 (by omega)]; exact hs)
        · have hd : sb_dg w = 2 := by rw [sb_dg, if_neg h9, if_pos h100]
          refine p_icmpge (tgt := 104) (A := (none : Option Unit)) (B := some ()) (out := ()) G dJ6_getChars_ba4f3_88 (by decide) (if_neg (by rw [zw_neg (by omega), show zw (-9) = -9 from by decide]; omega)) (fun c _ => absurd c (by rw [zw_neg (by omega), show zw (-9) = -9 from by decide]; omega)) (fun _ _ => ?_)
          refine p_aload_n G rfl 2 rfl dJ6_getChars_ba4f3_91 ?_
          refine p_iincU (lv2 := [(5, .int (zJ ((p - 1 - 1 : Nat) : Int))), (0, .int (zJ (-(w : Int)))), (2, .ref (ga Γ 0)), (6, .int (zJ 0))]) G dJ6_getChars_ba4f3_92 0 rfl (by decide) (by rw [show ((p - 1 : Nat) : Int) + -1 = ((p - 1 - 1 : Nat) : Int) by omega]; rfl) ?_
          refine p_iload G 0 rfl dJ6_getChars_ba4f3_95 ?_
          refine p_getsDT G dJ6_getChars_ba4f3_97 wj_dt ?_
          refine p_iload_n G rfl 1 rfl dJ6_getChars_ba4f3_100 ?_
          refine p_ineg G dJ6_getChars_ba4f3_101 ?_
          rw [Int.neg_neg]
          refine p_balDT G h100 dJ6_getChars_ba4f3_102 ?_
          refine p_bastU (k := 0) G dJ6_getChars_ba4f3_103 rfl rfl (by omega) (by omega) (by omega) ?_
          exact fin _ (p - 1 - 1) _ (by omega) (by rw [dgM_2 (n := n) (p := p) h100 (by omega)]; exact hs)
      · have hd := sb_dg100 (w := w) (by omega) (by omega)
        have hd2 := (sb_dg_in (w / 100)).1
        refine p_icmpgt (tgt := 72) (A := (none : Option Unit)) (B := some ()) (out := ()) G dJ6_getChars_ba4f3_25 (by decide) (if_neg (by rw [zw_neg (by omega), show zw (-100) = -100 from by decide]; omega)) (fun c _ => absurd c (by rw [zw_neg (by omega), show zw (-100) = -100 from by decide]; omega)) (fun _ _ => ?_)
        refine p_iload_n G rfl 0 rfl dJ6_getChars_ba4f3_28 ?_
        refine p_bipush G (by decide) (by decide) dJ6_getChars_ba4f3_29 ?_
        refine p_idivK G dJ6_getChars_ba4f3_31 (by decide) ?_
        rw [zdiv_neg (by omega)]
        refine p_istore_nU (lv' := [(3, .int (zJ (-((w / 100 : Nat) : Int)))), (0, .int (zJ (-(w : Int)))), (2, .ref (ga Γ 0)), (5, .int (zJ (p : Int))), (6, .int (zJ 0))]) G rfl dJ6_getChars_ba4f3_32 (by decide) rfl ?_
        refine p_iload_n G rfl 0 rfl dJ6_getChars_ba4f3_33 ?_
        refine p_bipush G (by decide) (by decide) dJ6_getChars_ba4f3_34 ?_
        refine p_imul G dJ6_getChars_ba4f3_36 ?_
        refine p_iload_n G rfl 1 rfl dJ6_getChars_ba4f3_37 ?_
        refine p_isub G dJ6_getChars_ba4f3_38 ?_
        rw [show -((w / 100 : Nat) : Int) * 100 - -(w : Int) = ((w % 100 : Nat) : Int) by omega]
        refine p_istoreU (lv' := [(4, .int (zJ ((w % 100 : Nat) : Int))), (3, .int (zJ (-((w / 100 : Nat) : Int)))), (0, .int (zJ (-(w : Int)))), (2, .ref (ga Γ 0)), (5, .int (zJ (p : Int))), (6, .int (zJ 0))]) G dJ6_getChars_ba4f3_39 (by decide) rfl ?_
        refine p_iload_n G rfl 1 rfl dJ6_getChars_ba4f3_41 ?_
        refine p_istore_nU (lv' := [(0, .int (zJ (-((w / 100 : Nat) : Int)))), (4, .int (zJ ((w % 100 : Nat) : Int))), (3, .int (zJ (-((w / 100 : Nat) : Int)))), (2, .ref (ga Γ 0)), (5, .int (zJ (p : Int))), (6, .int (zJ 0))]) G rfl dJ6_getChars_ba4f3_42 (by decide) rfl ?_
        refine p_aload_n G rfl 3 rfl dJ6_getChars_ba4f3_43 ?_
        refine p_iincU (lv2 := [(5, .int (zJ ((p - 1 : Nat) : Int))), (0, .int (zJ (-((w / 100 : Nat) : Int)))), (4, .int (zJ ((w % 100 : Nat) : Int))), (3, .int (zJ (-((w / 100 : Nat) : Int)))), (2, .ref (ga Γ 0)), (6, .int (zJ 0))]) G dJ6_getChars_ba4f3_44 4 rfl (by decide) (by rw [show (p : Int) + -1 = ((p - 1 : Nat) : Int) by omega]; rfl) ?_
        refine p_iload G 0 rfl dJ6_getChars_ba4f3_47 ?_
        refine p_getsDO G dJ6_getChars_ba4f3_49 wj_do ?_
        refine p_iload G 2 rfl dJ6_getChars_ba4f3_52 ?_
        refine p_balDO G (Nat.mod_lt _ (by decide)) dJ6_getChars_ba4f3_54 ?_
        rw [show w % 100 % 10 = w % 10 by omega]
        refine p_bastU (k := 0) G dJ6_getChars_ba4f3_55 rfl rfl (by omega) (by omega) (by omega) ?_
        refine p_aload_n G rfl 4 rfl dJ6_getChars_ba4f3_56 ?_
        refine p_iincU (lv2 := [(5, .int (zJ ((p - 1 - 1 : Nat) : Int))), (0, .int (zJ (-((w / 100 : Nat) : Int)))), (4, .int (zJ ((w % 100 : Nat) : Int))), (3, .int (zJ (-((w / 100 : Nat) : Int)))), (2, .ref (ga Γ 0)), (6, .int (zJ 0))]) G dJ6_getChars_ba4f3_57 0 rfl (by decide) (by rw [show ((p - 1 : Nat) : Int) + -1 = ((p - 1 - 1 : Nat) : Int) by omega]; rfl) ?_
        refine p_iload G 0 rfl dJ6_getChars_ba4f3_60 ?_
        refine p_getsDT G dJ6_getChars_ba4f3_62 wj_dt ?_
        refine p_iload G 2 rfl dJ6_getChars_ba4f3_65 ?_
        refine p_balDT G (Nat.mod_lt _ (by decide)) dJ6_getChars_ba4f3_67 ?_
        rw [show w % 100 / 10 = w / 10 % 10 by omega]
        refine p_bastU (k := 0) G dJ6_getChars_ba4f3_68 rfl rfl (by omega) (by omega) (by omega) ?_
        refine p_goto (tgt := 22) G dJ6_getChars_ba4f3_69 (by decide) ?_
        refine p_lv [1, 4, 0, 5] rfl ?_
        exact ih (w / 100) (p - 1 - 1) _ (by omega) (by omega) (by omega) (by omega) (by rw [dgM_100 (n := n) (p := p) (w := w) (by omega)]; exact hs)
  refine (?_ : PT Γ 7 (shV m) 0 σ [(0, .int (zJ (v : Int))), (1, .int (zJ ((n + sb_dg v : Nat) : Int))), (2, .ref (ga Γ 0))] [])
  refine p_iload_n G rfl 1 rfl dJ6_getChars_ba4f3_0 ?_
  refine p_istoreU (lv' := [(5, .int (zJ ((n + sb_dg v : Nat) : Int))), (0, .int (zJ (v : Int))), (1, .int (zJ ((n + sb_dg v : Nat) : Int))), (2, .ref (ga Γ 0))]) G dJ6_getChars_ba4f3_1 (by decide) rfl ?_
  refine p_iload_n G rfl 1 rfl dJ6_getChars_ba4f3_3 ?_
  refine p_ifge (tgt := 11) (A := some ()) (B := (none : Option Unit)) (out := ()) G dJ6_getChars_ba4f3_4 (by decide) (if_pos (by rw [zw_n (by omega)]; omega)) (fun _ _ => ?_) (fun c _ => absurd (by rw [zw_n (by omega)]; omega) c)
  refine p_iconst G rfl dJ6_getChars_ba4f3_11 ?_
  refine p_istoreU (lv' := [(6, .int (zJ 0)), (5, .int (zJ ((n + sb_dg v : Nat) : Int))), (0, .int (zJ (v : Int))), (1, .int (zJ ((n + sb_dg v : Nat) : Int))), (2, .ref (ga Γ 0))]) G dJ6_getChars_ba4f3_12 (by decide) rfl ?_
  refine p_iload G 0 rfl dJ6_getChars_ba4f3_14 ?_
  refine p_ifne (tgt := 22) (A := (none : Option Unit)) (B := some ()) (out := ()) G dJ6_getChars_ba4f3_16 (by decide) (by decide) (fun c _ => absurd c (by decide)) (fun _ _ => ?_)
  refine p_iload_n G rfl 2 rfl dJ6_getChars_ba4f3_19 ?_
  refine p_ineg G dJ6_getChars_ba4f3_20 ?_
  refine p_istore_nU (lv' := [(0, .int (zJ (-(v : Int)))), (6, .int (zJ 0)), (5, .int (zJ ((n + sb_dg v : Nat) : Int))), (1, .int (zJ ((n + sb_dg v : Nat) : Int))), (2, .ref (ga Γ 0))]) G rfl dJ6_getChars_ba4f3_21 (by decide) rfl ?_
  refine p_lv [0, 4, 2, 1] rfl ?_
  exact loop (v + 1) v (n + sb_dg v) σ (by omega) hv rfl hn rfl
theorem dg_of {i v : Nat} (hi : 1 ≤ i) (h6 : i ≤ 6) (h1 : 10 ^ (i - 1) ≤ v ∨ i = 1) (h2 : v < 10 ^ i) : sb_dg v = i := by
  unfold sb_dg
  obtain rfl | rfl | rfl | rfl | rfl | rfl : i = 1 ∨ i = 2 ∨ i = 3 ∨ i = 4 ∨ i = 5 ∨ i = 6 := by omega
  · exact if_pos h2
  · have g1 : 10 ≤ v := h1.resolve_right (by decide)
    have g2 : v < 100 := h2
    rw [if_neg (by omega), if_pos g2]
  · have g1 : 100 ≤ v := h1.resolve_right (by decide)
    have g2 : v < 1000 := h2
    rw [if_neg (by omega), if_neg (by omega), if_pos g2]
  · have g1 : 1000 ≤ v := h1.resolve_right (by decide)
    have g2 : v < 10000 := h2
    rw [if_neg (by omega), if_neg (by omega), if_neg (by omega), if_pos g2]
  · have g1 : 10000 ≤ v := h1.resolve_right (by decide)
    have g2 : v < 100000 := h2
    rw [if_neg (by omega), if_neg (by omega), if_neg (by omega), if_neg (by omega), if_pos g2]
  · have g1 : 100000 ≤ v := h1.resolve_right (by decide)
    have g2 : v < 1000000 := h2
    rw [if_neg (by omega), if_neg (by omega), if_neg (by omega), if_neg (by omega), if_neg (by omega), if_pos g2]
set_option maxHeartbeats 1000000 in
theorem c_stringSize (l : Launch) {D : va_G} {yy : Nat → ClassId} {tk tv a : Nat → Nat} {σ : Mm} {v : Nat} (hv : v < 1000000) : CT l yJ6_stringSize_0f7a4 cJ6_stringSize_0f7a4 4 (some .int) (rmS 0 0 0 0) shN D yy tk tv a σ [.int (zJ (v : Int))] σ (some (.int (zJ ((sb_dg v : Nat) : Int)))) := by
  refine ct_of (Ar := fun a tk => [.int (zJ (v : Int))]) (by decide) (Nat.le_of_ble_eq_true rfl) (fun Γ G _ _ hR => ?_)
  have loop : ∀ (k i : Nat), i + k = 7 → 1 ≤ i → (10 ^ (i - 1) ≤ v ∨ i = 1) → PT Γ 4 shN 16 σ [(3, .int (zJ (i : Int))), (2, .int (zJ (-((10 ^ i : Nat) : Int)))), (0, .int (zJ (-(v : Int)))), (1, .int (zJ 0))] [] := by
    intro k
    induction k with
    | zero =>
      intro i hi h1 h2
      obtain rfl : i = 7 := by omega
      have g1 : 1000000 ≤ v := h2.resolve_right (by decide)
      omega
    | succ k ih =>
      intro i hi h1 h2
      have hp : 10 ^ i ≤ 10 ^ 6 := Nat.pow_le_pow_right (by decide) (by omega)
      have hp6 : (10 : Nat) ^ 6 = 1000000 := by decide
      refine p_iload_n G rfl 0 rfl dJ6_stringSize_0f7a4_16 ?_
      refine p_bipush G (by decide) (by decide) dJ6_stringSize_0f7a4_17 ?_
      refine p_icmpge (tgt := 42) (A := (none : Option Unit)) (B := some ()) (out := ()) G dJ6_stringSize_0f7a4_19 (by decide) (if_neg (by rw [zw_n (by omega), show zw 10 = 10 from by decide]; omega)) (fun c _ => absurd c (by rw [zw_n (by omega), show zw 10 = 10 from by decide]; omega)) (fun _ _ => ?_)
      refine p_iload_n G rfl 2 rfl dJ6_stringSize_0f7a4_22 ?_
      refine p_iload_n G rfl 1 rfl dJ6_stringSize_0f7a4_23 ?_
      by_cases c : v < 10 ^ i
      · refine p_icmple (tgt := 31) (A := (none : Option Unit)) (B := some ()) (out := ()) G dJ6_stringSize_0f7a4_24 (by decide) (if_neg (by rw [zw_neg (by omega), zw_neg (by omega)]; omega)) (fun c _ => absurd c (by rw [zw_neg (by omega), zw_neg (by omega)]; omega)) (fun _ _ => ?_)
        refine p_iload_n G rfl 0 rfl dJ6_stringSize_0f7a4_27 ?_
        refine p_iload_n G rfl 3 rfl dJ6_stringSize_0f7a4_28 ?_
        refine p_iadd G dJ6_stringSize_0f7a4_29 ?_
        rw [Int.add_zero]
        exact p_iret G hR dJ6_stringSize_0f7a4_30 (by rw [dg_of h1 (by omega) h2 c]) rfl
      · refine p_icmple (tgt := 31) (A := some ()) (B := (none : Option Unit)) (out := ()) G dJ6_stringSize_0f7a4_24 (by decide) (if_pos (by rw [zw_neg (by omega), zw_neg (by omega)]; omega)) (fun _ _ => ?_) (fun c _ => absurd (by rw [zw_neg (by omega), zw_neg (by omega)]; omega) c)
        refine p_bipush G (by decide) (by decide) dJ6_stringSize_0f7a4_31 ?_
        refine p_iload_n G rfl 1 rfl dJ6_stringSize_0f7a4_33 ?_
        refine p_imul G dJ6_stringSize_0f7a4_34 ?_
        rw [show 10 * -((10 ^ i : Nat) : Int) = -((10 ^ (i + 1) : Nat) : Int) by rw [Nat.pow_succ]; omega]
        refine p_istore_nU (lv' := [(2, .int (zJ (-((10 ^ (i + 1) : Nat) : Int)))), (3, .int (zJ (i : Int))), (0, .int (zJ (-(v : Int)))), (1, .int (zJ 0))]) G rfl dJ6_stringSize_0f7a4_35 (by decide) rfl ?_
        refine p_iincU (lv2 := [(3, .int (zJ ((i + 1 : Nat) : Int))), (2, .int (zJ (-((10 ^ (i + 1) : Nat) : Int)))), (0, .int (zJ (-(v : Int)))), (1, .int (zJ 0))]) G dJ6_stringSize_0f7a4_36 1 rfl (by decide) rfl ?_
        refine p_goto (tgt := 16) G dJ6_stringSize_0f7a4_39 (by decide) ?_
        exact ih (i + 1) (by omega) (by omega) (Or.inl (by rw [Nat.add_sub_cancel]; omega))
  refine (?_ : PT Γ 4 shN 0 σ [(0, .int (zJ (v : Int)))] [])
  refine p_iconst G rfl dJ6_stringSize_0f7a4_0 ?_
  refine p_istore_nU (lv' := [(1, .int (zJ 1)), (0, .int (zJ (v : Int)))]) G rfl dJ6_stringSize_0f7a4_1 (by decide) rfl ?_
  refine p_iload_n G rfl 1 rfl dJ6_stringSize_0f7a4_2 ?_
  refine p_iflt (tgt := 11) (A := (none : Option Unit)) (B := some ()) (out := ()) G dJ6_stringSize_0f7a4_3 (by decide) (if_neg (by rw [zw_n (by omega)]; omega)) (fun c _ => absurd c (by rw [zw_n (by omega)]; omega)) (fun _ _ => ?_)
  refine p_iconst G rfl dJ6_stringSize_0f7a4_6 ?_
  refine p_istore_nU (lv' := [(1, .int (zJ 0)), (0, .int (zJ (v : Int)))]) G rfl dJ6_stringSize_0f7a4_7 (by decide) rfl ?_
  refine p_iload_n G rfl 1 rfl dJ6_stringSize_0f7a4_8 ?_
  refine p_ineg G dJ6_stringSize_0f7a4_9 ?_
  refine p_istore_nU (lv' := [(0, .int (zJ (-(v : Int)))), (1, .int (zJ 0))]) G rfl dJ6_stringSize_0f7a4_10 (by decide) rfl ?_
  refine p_bipush G (by decide) (by decide) dJ6_stringSize_0f7a4_11 ?_
  refine p_istore_nU (lv' := [(2, .int (zJ (-10))), (0, .int (zJ (-(v : Int)))), (1, .int (zJ 0))]) G rfl dJ6_stringSize_0f7a4_13 (by decide) rfl ?_
  refine p_iconst G rfl dJ6_stringSize_0f7a4_14 ?_
  refine p_istore_nU (lv' := [(3, .int (zJ 1)), (2, .int (zJ (-10))), (0, .int (zJ (-(v : Int)))), (1, .int (zJ 0))]) G rfl dJ6_stringSize_0f7a4_15 (by decide) rfl ?_
  exact loop 6 1 rfl (Nat.le_refl _) (Or.inr rfl)
set_option maxHeartbeats 2000000 in
theorem c_appendIA (l : Launch) {D : va_G} {yy : Nat → ClassId} {tk tv : Nat → Nat} {b v m : Nat} {σ : Mm} {t : Nat → Int} {n w : Nat} (hw : w < 1000000) (hB : OKB n m t σ) (hn : n + sb_dg w ≤ 34) : CB l yJ5_append_c97b9 cJ5_append_c97b9 4 (some (.object "java/lang/AbstractStringBuilder")) (rmS 4 1 34 113) D yy tk tv b v m σ [.ref b, .int (zJ (w : Int))] (fun m' σ' => OKB (n + sb_dg w) m' (catI t n (fun i => ((sb_dec w i : Nat) : Int))) σ') (some (.ref b)) 1 34 := by
  refine cb_of (Ar := fun a tk => [.ref (a 0), .int (zJ (w : Int))]) (by decide) (Nat.le_of_ble_eq_true rfl) (fun Γ G _ hM hR => ?_)
  refine (?_ : PT Γ 4 (shB m) 0 σ [(0, .ref (ga Γ 0)), (1, .int (zJ (w : Int)))] [])
  have hcs := mk_cs G hM (Nat.zero_le _) (Nat.zero_le _)
  refine p_aload_n G rfl 0 rfl dJ5_append_c97b9_0 ?_
  refine p_fldB G rfl dJ5_append_c97b9_1 flu_AbstractStringBuilder_79 ?_
  rw [hB.2.1]
  refine p_istore_nU (lv' := [(2, .int (zJ (n : Int))), (0, .ref (ga Γ 0)), (1, .int (zJ (w : Int)))]) G rfl dJ5_append_c97b9_4 (by decide) rfl ?_
  refine p_iload_n G rfl 0 rfl dJ5_append_c97b9_5 ?_
  refine p_iload_n G rfl 2 rfl dJ5_append_c97b9_6 ?_
  refine p_callS0 G dJ5_append_c97b9_7 ls_AbstractStringBuilder_245 (c_stringSize (gl Γ) hw) (As := [.int (zJ (w : Int))]) rfl rfl rfl (Nat.le_of_ble_eq_true rfl) ⟨rfl, rfl, Nat.le_of_ble_eq_true rfl, Nat.le_of_ble_eq_true rfl⟩ hcs ?_
  refine p_iadd G dJ5_append_c97b9_10 ?_
  rw [show (n : Int) + ((sb_dg w : Nat) : Int) = ((n + sb_dg w : Nat) : Int) by omega]
  refine p_istore_nU (lv' := [(3, .int (zJ ((n + sb_dg w : Nat) : Int))), (2, .int (zJ (n : Int))), (0, .ref (ga Γ 0)), (1, .int (zJ (w : Int)))]) G rfl dJ5_append_c97b9_11 (by decide) rfl ?_
  refine p_aload_n G rfl 2 rfl dJ5_append_c97b9_12 ?_
  refine p_iload_n G rfl 0 rfl dJ5_append_c97b9_13 ?_
  refine p_callUB (lv' := fun a => [(3, .int (zJ ((n + sb_dg w : Nat) : Int))), (2, .int (zJ (n : Int))), (0, .ref (a 0)), (1, .int (zJ (w : Int)))]) (st' := fun a => []) G hR hM dJ5_append_c97b9_14 lu_AbstractStringBuilder_100 (fun v1 => c_ensure (gl Γ) hB hn) (As := [.int (zJ ((n + sb_dg w : Nat) : Int))]) rfl rfl (Nat.le_of_ble_eq_true rfl) ⟨rfl, rfl, Nat.le_of_ble_eq_true rfl, Nat.le_of_ble_eq_true rfl⟩ (Nat.le_refl _) (Nat.le_refl _) (fun a e => by rw [e]; exact ⟨rfl, rfl⟩) (fun Γ' m' σ' G' R' M' hp => ?_)
  clear hcs hB G hR hM
  obtain ⟨⟨h1, h3, hnm, hm, hf, ht⟩, hq⟩ := hp
  have hcs := mk_cs G' M' (Nat.le_refl _) (Nat.le_refl _)
  refine p_aload_n G' rfl 2 rfl dJ5_append_c97b9_17 ?_
  refine p_callUi (k0 := 0) G' dJ5_append_c97b9_18 lu_AbstractStringBuilder_83 (c_isLatin1 (gl Γ') h1) (As := []) rfl rfl rfl (Nat.le_of_ble_eq_true rfl) ⟨rfl, rfl, Nat.le_of_ble_eq_true rfl, Nat.le_of_ble_eq_true rfl⟩ hcs ?_
  refine p_ifeq (tgt := 37) (A := (none : Option Unit)) (B := some ()) (out := ()) G' dJ5_append_c97b9_21 (by decide) (by decide) (fun c _ => absurd c (by decide)) (fun _ _ => ?_)
  refine p_iload_n G' rfl 3 rfl dJ5_append_c97b9_24 ?_
  refine p_iload_n G' rfl 0 rfl dJ5_append_c97b9_25 ?_
  refine p_aload_n G' rfl 2 rfl dJ5_append_c97b9_26 ?_
  refine p_valB G' dJ5_append_c97b9_27 flu_AbstractStringBuilder_15 ?_
  refine p_callS G' [1] dJ5_append_c97b9_30 ls_AbstractStringBuilder_248 (c_getChars (gl Γ') (m := m') hw hq (by omega)) (As := [.int (zJ (w : Int)), .int (zJ ((n + sb_dg w : Nat) : Int)), .ref (ga Γ' 1)]) rfl (zk_V m' hm).1 (zs_x (zk_V m' hm).2 σ') rfl (Nat.le_of_ble_eq_true rfl) ⟨rfl, rfl, Nat.le_of_ble_eq_true rfl, Nat.le_of_ble_eq_true rfl⟩ hcs ?_
  obtain ⟨σ2, hs⟩ : ∃ σ2 : Mm, σ2 = zj [1] σ' (dgM n (n + sb_dg w) w (fun i => σ' (zp [1] i))) := ⟨_, rfl⟩
  rw [← hs]
  rw [zj1] at hs
  have a0 : σ2 0 = σ' 0 := by rw [hs]; rfl
  have a1 : σ2 1 = dgR n (n + sb_dg w) w (σ' 1) := by rw [hs]; rfl
  refine p_pop G' rfl dJ5_append_c97b9_33 ?_
  refine p_goto (tgt := 48) G' dJ5_append_c97b9_34 (by decide) ?_
  refine p_aload_n G' rfl 2 rfl dJ5_append_c97b9_48 ?_
  refine p_iload_n G' rfl 0 rfl dJ5_append_c97b9_49 ?_
  refine p_putIU (k := 0) G' dJ5_append_c97b9_50 fpu_AbstractStringBuilder_79 rfl rfl rfl rfl rfl rfl ?_
  refine p_aload_n G' rfl 2 rfl dJ5_append_c97b9_53 ?_
  refine p_aretB G' M' (Nat.le_refl _) (Nat.le_refl _) R' ⟨?_, ?_, hq, hm, fun j => ?_, fun j hj => ?_⟩ (Or.inl ⟨_, rfl⟩) dJ5_append_c97b9_54 (by rw [rtb_0 R'])
  · rw [zu_self, a0]
    exact h1
  · rw [zu_self]
    rfl
  · rw [zu_ne _ _ _ (by decide), a1]
    unfold dgR
    by_cases c : n ≤ j ∧ j < n + sb_dg w
    · rw [if_pos c]
      have hd : ∀ d : Nat, d < 10 → fits .byte (.int (zJ ((48 + d : Nat) : Int))) = true := by decide +kernel
      exact hd _ (Nat.mod_lt _ (by decide))
    · rw [if_neg c]
      exact hf j
  · rw [zu_ne _ _ _ (by decide), a1]
    unfold dgR catI sb_dec
    by_cases c : j < n
    · rw [if_pos c, if_neg (by omega)]
      exact ht j c
    · rw [if_neg c, if_pos (by omega), show n + sb_dg w - 1 - j = sb_dg w - 1 - (j - n) by omega]
theorem c_appendI (l : Launch) {D : va_G} {yy : Nat → ClassId} {tk tv : Nat → Nat} {b v m : Nat} {σ : Mm} {t : Nat → Int} {n w : Nat} (hw : w < 1000000) (hB : OKB n m t σ) (hn : n + sb_dg w ≤ 34) : CB l yJ4_append_bf812 cJ4_append_bf812 2 (some (.object "java/lang/StringBuilder")) (rmS 5 1 34 136) D yy tk tv b v m σ [.ref b, .int (zJ (w : Int))] (fun m' σ' => OKB (n + sb_dg w) m' (catI t n (fun i => ((sb_dec w i : Nat) : Int))) σ') (some (.ref b)) 1 34 := by
  refine cb_of (Ar := fun a tk => [.ref (a 0), .int (zJ (w : Int))]) (by decide) (Nat.le_of_ble_eq_true rfl) (fun Γ G _ hM hR => ?_)
  refine (?_ : PT Γ 2 (shB m) 0 σ [(0, .ref (ga Γ 0)), (1, .int (zJ (w : Int)))] [])
  refine p_aload_n G rfl 0 rfl dJ4_append_bf812_0 ?_
  refine p_iload_n G rfl 1 rfl dJ4_append_bf812_1 ?_
  refine p_callWB (lv' := fun a => [(0, .ref (a 0)), (1, .int (zJ (w : Int)))]) (st' := fun a => []) G hR hM dJ4_append_bf812_2 lw_StringBuilder_53 (fun v1 => c_appendIA (gl Γ) hw hB hn) (As := [.int (zJ (w : Int))]) rfl rfl (Nat.le_of_ble_eq_true rfl) ⟨rfl, rfl, Nat.le_of_ble_eq_true rfl, Nat.le_of_ble_eq_true rfl⟩ (Nat.le_refl _) (Nat.le_refl _) (fun a e => by rw [e]; exact ⟨rfl, rfl⟩) (fun Γ' m' σ' G' R' M' hp => ?_)
  refine p_pop G' rfl dJ4_append_bf812_5 ?_
  refine p_aload_n G' rfl 0 rfl dJ4_append_bf812_6 ?_
  exact p_aretB G' M' (Nat.le_refl _) (Nat.le_refl _) R' hp (Or.inl ⟨_, rfl⟩) dJ4_append_bf812_7 (by rw [rtb_0 R'])
