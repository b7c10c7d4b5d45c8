/-! keep and restore -/
theorem l_51 (n : Nat) : zl_51 n = (64 + 5 * n) :: (64 + 5 * n + 1) :: (64 + 5 * n + 2) :: (64 + 5 * n + 3) :: (64 + 5 * n + 4) :: 1 :: (1 + 1) :: (1 + 2) :: (1 + 3) :: (1 + 4) :: [] := by
  unfold zl_51
  rw [show 65 + 5 * n = 64 + 5 * n + 1 by omega, show 66 + 5 * n = 64 + 5 * n + 2 by omega, show 67 + 5 * n = 64 + 5 * n + 3 by omega, show 68 + 5 * n = 64 + 5 * n + 4 by omega]
theorem l_52 (n : Nat) : zl_52 n = 1 :: (1 + 1) :: (1 + 2) :: (1 + 3) :: (1 + 4) :: (64 + 5 * n) :: (64 + 5 * n + 1) :: (64 + 5 * n + 2) :: (64 + 5 * n + 3) :: (64 + 5 * n + 4) :: [] := by
  unfold zl_52
  rw [show 65 + 5 * n = 64 + 5 * n + 1 by omega, show 66 + 5 * n = 64 + 5 * n + 2 by omega, show 67 + 5 * n = 64 + 5 * n + 3 by omega, show 68 + 5 * n = 64 + 5 * n + 4 by omega]
theorem l_50 (n : Nat) : zl_50 n = (64 + 5 * n) :: (64 + 5 * n + 1) :: (64 + 5 * n + 2) :: (64 + 5 * n + 3) :: (64 + 5 * n + 4) :: [] := by
  unfold zl_50
  rw [show 65 + 5 * n = 64 + 5 * n + 1 by omega, show 66 + 5 * n = 64 + 5 * n + 2 by omega, show 67 + 5 * n = 64 + 5 * n + 3 by omega, show 68 + 5 * n = 64 + 5 * n + 4 by omega]
/-- the class keeps the match in the slot n -/
theorem X6_kept {N : Nat} {c : Mm} {r : Nat → Int} {n : Nat} (hn : n < 2) (hV : V N r) (hM : MR (fun i => c (1 + i)) r) : ∃ c', (if zin (n : Int) 2 then (if c 63 (zix (n : Int)) = 0 then (if zin (n : Int) 2 then (x_X2_init (fun _ _ => 0)).bind fun σ2 => bnd (zu (zj (zl_50 (zix (n : Int))) c σ2) 63 (zix (n : Int)) 1) fun σ1 => (if zin (n : Int) 2 then (if σ1 63 (zix (n : Int)) = 0 then none else (x_X2_copyFrom (zb (zl_51 (zix (n : Int))) σ1)).bind fun σ4 => bnd (zj (zl_51 (zix (n : Int))) σ1 σ4) fun σ5 => some (σ5, (σ5 1 4))) else none) else none) else (if zin (n : Int) 2 then (if c 63 (zix (n : Int)) = 0 then none else (x_X2_copyFrom (zb (zl_51 (zix (n : Int))) c)).bind fun σ7 => bnd (zj (zl_51 (zix (n : Int))) c σ7) fun σ8 => some (σ8, (σ8 1 4))) else none)) else none) = some (c', r 3) ∧ c' 63 n ≠ 0 ∧ (∀ j, j ≠ n → c' 63 j = c 63 j) ∧ MR (fun i => c' (64 + 5 * n + i)) r ∧ ∀ i, i ≠ 63 → ¬ (64 + 5 * n ≤ i ∧ i < 64 + 5 * n + 5) → c' i = c i := by
  have zi : zin (n : Int) 2 := zin_i (by omega) (by omega) (by omega)
  simp only [if_pos zi, zix_nat (n := n) (by omega)]
  have fin : ∀ τ : Mm, τ 63 n ≠ 0 → (∀ j, j ≠ n → τ 63 j = c 63 j) → (∀ i, i ≠ 63 → ¬ (64 + 5 * n ≤ i ∧ i < 64 + 5 * n + 5) → τ i = c i) → ∃ c', ((x_X2_copyFrom (zb (zl_51 n) τ)).bind fun σ4 => bnd (zj (zl_51 n) τ σ4) fun σ5 => some (σ5, (σ5 1 4))) = some (c', r 3) ∧ c' 63 n ≠ 0 ∧ (∀ j, j ≠ n → c' 63 j = c 63 j) ∧ MR (fun i => c' (64 + 5 * n + i)) r ∧ ∀ i, i ≠ 63 → ¬ (64 + 5 * n ≤ i ∧ i < 64 + 5 * n + 5) → c' i = c i := fun τ t1 t2 t3 => by
    rw [l_51]
    have hMτ : MR (fun i => τ (1 + i)) r := MR_cells (fun i hi => t3 _ (by omega) (by omega)) hM
    obtain ⟨σ1, b1, b2, b3⟩ := copy_cells (σ := τ) (b := 64 + 5 * n) (d := 1) (.inr (by omega)) hV hMτ
    rw [b1, Option.bind_some, bnd_eq]
    generalize zj ((64 + 5 * n) :: (64 + 5 * n + 1) :: (64 + 5 * n + 2) :: (64 + 5 * n + 3) :: (64 + 5 * n + 4) :: 1 :: (1 + 1) :: (1 + 2) :: (1 + 3) :: (1 + 4) :: []) τ σ1 = υ at b2 b3
    have h14 : υ 1 4 = r 3 := by rw [b3 1 (by omega)]; exact hMτ.1.2.2.2.2.1
    refine ⟨υ, by rw [h14], ?_, fun j hj => ?_, b2, fun i h1 h2 => ?_⟩
    · rw [b3 63 (by omega)]; exact t1
    · rw [b3 63 (by omega)]; exact t2 j hj
    · rw [b3 i h2]; exact t3 i h1 h2
  by_cases e0 : c 63 n = 0
  · rw [if_pos e0]
    obtain ⟨σ2, b1⟩ := X2_init_ok
    rw [b1, Option.bind_some, bnd_eq]
    have hzj : ∀ i, zj (zl_50 n) c σ2 i = if 64 + 5 * n ≤ i ∧ i < 64 + 5 * n + 5 then σ2 (i - (64 + 5 * n)) else c i := fun i => by
      rw [l_50]
      exact zj_5 i (fun _ => .inl rfl)
    have hne : ∀ i, i ≠ 63 → zu (zj (zl_50 n) c σ2) 63 n 1 i = zj (zl_50 n) c σ2 i := fun i hi => by
      unfold zu
      rw [if_neg hi]
    have h1p : zu (zj (zl_50 n) c σ2) 63 n 1 63 n = 1 := zu_hit _ _ _ _
    rw [h1p, if_neg (by decide)]
    refine fin _ (by rw [h1p]; decide) (fun j hj => ?_) (fun i h1 h2 => ?_)
    · rw [zu_miss _ _ _ _ (fun _ => hj), hzj, if_neg (by omega)]
    · rw [hne i h1, hzj, if_neg h2]
  · rw [if_neg e0, if_neg e0]
    exact fin c e0 (fun _ _ => rfl) (fun _ _ _ => rfl)
theorem bad_ok {σ : Mm} {a : Int} {lo hi : Int64} {code l h : Int} (hl : lo.toInt = l) (hh : hi.toInt = h) (ha : zw a = a) (e : l ≤ a ∧ a ≤ h) : x_X7_bad σ (zi2l a) lo hi code = some (σ, 0) := by
  rw [X7_bad σ _ code hl hh, zi2l_toInt, ha, if_pos e]
theorem bad_no {σ : Mm} {a : Int} {lo hi : Int64} {code l h : Int} (hl : lo.toInt = l) (hh : hi.toInt = h) (ha : zw a = a) (e : ¬ (l ≤ a ∧ a ≤ h)) : x_X7_bad σ (zi2l a) lo hi code = some (zu σ 0 0 code, 1) := by
  rw [X7_bad σ _ code hl hh, zi2l_toInt, ha, if_neg e]
theorem req_1 : x_X6_require 1 = some (.inl ()) := rfl
theorem req_0 : x_X6_require 0 = some (.inr 0) := rfl
theorem d00 : zw (0 : Int) = 0 := by decide
theorem d10 : ¬ zw (1 : Int) = 0 := by decide
theorem c_keep {N : Nat} {c m : Mm} (h : REL N c m) {a : Int} (ha : zw a = a) : OK2 N [(0, 1)] c (x_X6_keep c a) (x_X7_keep m a) := by
  have h0 := REL_eq h (CE_r c) (ME_0 m 0)
  unfold x_X6_keep x_X7_keep
  rw [bnd_eq]
  by_cases e : 0 ≤ a ∧ a ≤ 1
  · obtain ⟨n, hn⟩ : ∃ n : Nat, a = (n : Int) := ⟨a.toNat, by omega⟩
    subst hn
    rw [if_neg (show ¬ zw (n : Int) < 0 by rw [ha]; omega), if_neg (show ¬ zw (2 : Int) ≤ zw (n : Int) by rw [ha, zw_eq (x := (2 : Int)) (by omega) (by omega)]; omega), bad_ok (l := 0) (h := 1) (by decide) (by decide) ha e, req_1, Option.bind_some, Option.bind_some, un2_mk, if_pos d00]
    show OK2 N _ c (inlO _) _
    obtain ⟨c', a1, a2, a3, a4, a5⟩ := X6_kept (c := c) (n := n) (by omega) h0.1 h0.2.1
    rw [a1]
    obtain ⟨s1, -⟩ := h0.2.2.2.1 n (by omega)
    rw [if_pos (zin_i (by omega) (by omega) (by omega)), zix_nat (n := n) (by omega), s1, if_pos (by omega), if_pos (by omega), show Int.toNat ((14 + n : Nat) : Int) = 14 + n from rfl]
    obtain ⟨m1, b1, b2, b3⟩ := X7_copy2 (zu m 0 0 0) (a := 1) (b := 14 + n) (by omega)
    rw [b1, Option.bind_some, bnd_eq, if_pos (zin_i (by omega) (by omega) (by omega)), bnd_eq, if_pos zc3, zx3, show zand (1 : Int) 1 = 1 by decide]
    generalize hm2 : zj [1, 14 + n] (zu m 0 0 0) m1 = m2 at b2 b3
    have d : ∀ i, i ≠ 16 → zu m2 16 n 1 i = m2 i := fun i hi => by unfold zu; rw [if_neg hi]
    have e13 : zu m2 16 n 1 1 3 = zu m 0 0 0 1 3 := by rw [d 1 (by omega), b2 1 (by omega)]
    refine .inl ⟨c', _, _, rfl, by rw [e13], by rw [d 0 (by omega), b2 0 (by omega)]; rfl, ?_⟩
    obtain ⟨r1, r2, r3, r4, ⟨L, t1, t2, t3, t4⟩, ⟨P, p1, p2, p3, p4⟩⟩ := h0
    have hc : ∀ i, i < 63 → c' i = c i := fun i hi => a5 i (by omega) (by omega)
    have hc2 : ∀ i, 74 ≤ i → c' i = c i := fun i hi => a5 i (by omega) (by omega)
    have hm : ∀ i, i < 14 → zu m2 16 n 1 i = zu m 0 0 0 i := fun i hi => by rw [d i (by omega), b2 i (by omega)]
    have hm3 : ∀ i, 17 ≤ i → zu m2 16 n 1 i = zu m 0 0 0 i := fun i hi => by rw [d i (by omega), b2 i (by omega)]
    refine ⟨by rw [hm 1 (by omega)]; exact r1, by rw [hm 1 (by omega)]; exact MR_cells (fun i hi => hc _ (by omega)) r2, HRel_eq (fun i hi => hc _ (by omega)) (by rw [hm 0 (by omega)]) (fun i i1 i2 => hm i (by omega)) r3, fun k hk => ?_, ⟨L, t1, by rw [hc2 74 (by omega)]; exact t2, by rw [hm 0 (by omega)]; exact t3, fun i hi => by rw [hm3 18 (by omega), hc2 75 (by omega)]; exact t4 i hi⟩, ⟨P, p1, by rw [hc2 99 (by omega)]; exact p2, by rw [hm 0 (by omega)]; exact p3, fun i hi => by rw [hc2 100 (by omega), hm3 19 (by omega)]; exact p4 i hi⟩⟩
    obtain ⟨g1, g2⟩ := r4 k hk
    refine ⟨by rw [hm 13 (by omega)]; exact g1, ?_⟩
    by_cases w : k = n
    · subst w
      have e14 : ∀ j, j < 171 → zu m2 16 k 1 (14 + k) j = zu m 0 0 0 1 j := fun j hj => by rw [d _ (by omega)]; exact b3 j hj
      exact .inr ⟨a2, zu_hit _ _ _ _, V_eq e14 r1, MR_eq e14 r1 a4⟩
    · rw [a3 k w, zu_miss m2 16 n 1 (fun _ => w), b2 16 (by omega), d (14 + k) (by omega), b2 (14 + k) (by omega)]
      rcases g2 with g2 | ⟨g2, g3, g4, g5⟩
      · exact .inl g2
      · exact .inr ⟨g2, g3, g4, MR_cells (fun i hi => a5 _ (by omega) (by omega)) g5⟩
  · rw [bad_no (l := 0) (h := 1) (by decide) (by decide) ha e, Option.bind_some, un2_mk, if_neg d10]
    refine .inr ⟨0, 1, _, _, .head _, ?_, rfl, rfl, REL_eq h0 (CE_r c) (ME_0 _ 1)⟩
    by_cases w : a < 0
    · rw [if_pos (show zw a < 0 by rw [ha]; exact w), req_0]; rfl
    · rw [if_neg (show ¬ zw a < 0 by rw [ha]; exact w), if_pos (show zw (2 : Int) ≤ zw a by rw [ha, zw_eq (x := (2 : Int)) (by omega) (by omega)]; omega), req_0]; rfl
theorem c_restore {N : Nat} {c m : Mm} (h : REL N c m) {a : Int} (ha : zw a = a) : OK2 N [(0, 1), (2, 2)] c (x_X6_restore c a) (x_X7_restore m a) := by
  have h0 := REL_eq h (CE_r c) (ME_0 m 0)
  unfold x_X6_restore x_X6_restore_j17 x_X6_restore_j18 x_X7_restore
  rw [bnd_eq]
  by_cases e : 0 ≤ a ∧ a ≤ 1
  · obtain ⟨n, hn⟩ : ∃ n : Nat, a = (n : Int) := ⟨a.toNat, by omega⟩
    subst hn
    rw [if_neg (show ¬ zw (n : Int) < 0 by rw [ha]; omega), if_neg (show ¬ zw (2 : Int) ≤ zw (n : Int) by rw [ha, zw_eq (x := (2 : Int)) (by omega) (by omega)]; omega), bad_ok (l := 0) (h := 1) (by decide) (by decide) ha e, req_1, Option.bind_some, Option.bind_some, un2_mk, if_pos d00]
    have zi : zin (n : Int) 2 := zin_i (by omega) (by omega) (by omega)
    show OK2 N _ c (if zin (n : Int) 2 then _ else none) _
    simp only [if_pos zi, zix_nat (n := n) (show n < 2147483648 by omega)]
    obtain ⟨s1, s2⟩ := h0.2.2.2.1 n (by omega)
    have h0' := h0
    rcases s2 with ⟨s2, s3⟩ | ⟨s2, s3, s4, s5⟩
    · rw [if_pos s2, s3, if_neg (show ¬ zw (0 : Int) ≠ 0 by decide), bnd_eq]
      exact .inr ⟨2, 2, _, _, .tail _ (.head _), rfl, rfl, rfl, REL_eq h0 (CE_r c) (ME_0 _ 2)⟩
    · have h14 : (14 : Int) ≤ ((14 + n : Nat) : Int) ∧ ((14 + n : Nat) : Int) < 16 := by omega
      rw [if_neg s2, s3, if_pos (show zw (1 : Int) ≠ 0 by decide), s1, if_pos h14, if_pos h14, show Int.toNat ((14 + n : Nat) : Int) = 14 + n from rfl, if_neg s2, l_52]
      obtain ⟨σ1, a1, a2, a3⟩ := copy_cells (σ := c) (b := 1) (d := 64 + 5 * n) (.inl (by omega)) s4 s5
      rw [a1, Option.bind_some, bnd_eq]
      generalize hc2 : zj (1 :: (1 + 1) :: (1 + 2) :: (1 + 3) :: (1 + 4) :: (64 + 5 * n) :: (64 + 5 * n + 1) :: (64 + 5 * n + 2) :: (64 + 5 * n + 3) :: (64 + 5 * n + 4) :: []) c σ1 = c2 at a2 a3
      have hfg : x_X0_forget (zb zl_53 c2) = some (zu (zb zl_53 c2) 0 2 0) := rfl
      rw [hfg, Option.bind_some, bnd_eq]
      have f1 : ∀ i, i < 101 → (i < 11 ∨ 63 ≤ i) → zj zl_53 c2 (zu (zb zl_53 c2) 0 2 0) i = c2 i := fun i h1 h2 => by
        rw [zj_q _ _ _ _ (q_53 i h1), if_neg (by omega)]; rfl
      have f2 : ∀ i, i < 52 → zj zl_53 c2 (zu (zb zl_53 c2) 0 2 0) (11 + i) = zu (zb zl_53 c2) 0 2 0 i := fun i h1 => by
        rw [zj_q _ _ _ _ (q_53 _ (by omega)), if_pos (by omega), show 11 + i - 11 = i by omega]; rfl
      have f3 : zb zl_53 c2 0 = c2 11 := rfl
      obtain ⟨m1, b1, b2, b3⟩ := X7_copy2 (zu m 0 0 0) (a := 14 + n) (b := 1) (by omega)
      rw [b1, Option.bind_some, bnd_eq, bnd_eq, if_pos zc3, zx3]
      generalize hm2 : zj [14 + n, 1] (zu m 0 0 0) m1 = m2 at b2 b3
      have d : ∀ i, i ≠ 0 → zu m2 0 3 0 i = m2 i := fun i hi => by unfold zu; rw [if_neg hi]
      have e1 : ∀ j, j < 171 → zu m2 0 3 0 1 j = zu m 0 0 0 (14 + n) j := fun j hj => by rw [d 1 (by omega)]; exact b3 j hj
      obtain ⟨r1, r2, ⟨ee, k, Pf, q1, q2, q3, q4, q5, q6, q7, q8⟩, r4, r5, r6⟩ := h0
      have hMn : MR (fun i => zj zl_53 c2 (zu (zb zl_53 c2) 0 2 0) (1 + i)) (zu m2 0 3 0 1) := MR_eq e1 s4 (MR_cells (fun i hi => f1 _ (by omega) (by omega)) a2)
      have hv : zj zl_53 c2 (zu (zb zl_53 c2) 0 2 0) 1 4 = zu m2 0 3 0 1 3 := hMn.1.2.2.2.2.1
      refine .inl ⟨_, _, zu m2 0 3 0 1 3, ?_, rfl, ?_, REL_mv h0' (V_eq e1 s4) hMn ?_ (fun i i1 i2 _ => by rw [f1 i i2 (by omega), a3 i (by omega)]) (by rw [f1 74 (by omega) (by omega), a3 74 (by omega)]) (fun i i1 i2 _ => by rw [d i (by omega), b2 i (by omega)]) ?_ ?_⟩
      · rw [hv]; rfl
      · rw [zu_miss _ _ _ _ (fun _ => by decide), b2 0 (by omega)]; rfl
      · refine ⟨ee, 0, Pf, ?_, q2, ?_, zu_hit _ _ _ _, by omega, fun i hi => by rw [d 2 (by omega), b2 2 (by omega)]; exact q6 i hi, q7, fun i hi => by omega⟩
        · show zj zl_53 c2 (zu (zb zl_53 c2) 0 2 0) (11 + 0) 1 = _
          rw [f2 0 (by omega), zu_miss _ _ _ _ (fun _ => by decide), f3, a3 11 (by omega)]
          exact q1
        · show zj zl_53 c2 (zu (zb zl_53 c2) 0 2 0) (11 + 0) 2 = _
          rw [f2 0 (by omega), zu_hit]; rfl
      · rw [zu_miss _ _ _ _ (fun _ => by decide), b2 0 (by omega)]
      · rw [zu_miss _ _ _ _ (fun _ => by decide), b2 0 (by omega)]
  · rw [bad_no (l := 0) (h := 1) (by decide) (by decide) ha e, Option.bind_some, un2_mk, if_neg d10]
    refine .inr ⟨0, 1, _, _, .head _, ?_, rfl, rfl, REL_eq h0 (CE_r c) (ME_0 _ 1)⟩
    by_cases w : a < 0
    · rw [if_pos (show zw a < 0 by rw [ha]; exact w), req_0]; rfl
    · rw [if_neg (show ¬ zw a < 0 by rw [ha]; exact w), if_pos (show zw (2 : Int) ≤ zw a by rw [ha, zw_eq (x := (2 : Int)) (by omega) (by omega)]; omega), req_0]; rfl
