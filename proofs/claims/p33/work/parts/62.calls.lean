/-! set, undo, keep, restore -/
theorem zi2l_toInt (x : Int) : (zi2l x).toInt = zw x := by
  unfold zi2l
  rw [Int32.toInt_toInt64]
  rfl
theorem X7_bad (σ : Mm) (x : Int64) {lo hi : Int64} (code : Int) {l h : Int} (hl : lo.toInt = l) (hh : hi.toInt = h) : x_X7_bad σ x lo hi code = some (if l ≤ x.toInt ∧ x.toInt ≤ h then (σ, 0) else (zu σ 0 0 code, 1)) := by
  unfold x_X7_bad
  by_cases c1 : x.toInt < l
  · rw [if_pos ((zcmp_l _ _).mpr (by rw [Int64.lt_iff_toInt_lt, hl]; exact c1)), bnd_eq, if_neg (by omega)]
  · rw [if_neg (fun z => c1 (by have := (zcmp_l _ _).mp z; rw [Int64.lt_iff_toInt_lt, hl] at this; exact this))]
    by_cases c2 : x.toInt ≤ h
    · rw [if_pos ((zcmp_g _ _).mpr (by rw [Int64.le_iff_toInt_le, hh]; exact c2)), if_pos (by omega)]
    · rw [if_neg (fun z => c2 (by have := (zcmp_g _ _).mp z; rw [Int64.le_iff_toInt_le, hh] at this; exact this)), bnd_eq, if_neg (by omega)]
theorem X6_within (x : Int) {l h : Int} (hl : zw l = l) (hh : zw h = h) : x_X6_isWithin x l h = some (if l ≤ zw x ∧ zw x ≤ h then 1 else 0) := by
  unfold x_X6_isWithin
  rw [hl, hh]
  by_cases c1 : zw x < l
  · rw [if_pos c1, if_neg (by omega)]
  · rw [if_neg c1]
    by_cases c2 : h < zw x
    · rw [if_pos c2, if_neg (by omega)]
    · rw [if_neg c2, if_pos (by omega)]
theorem V_num {N : Nat} {r r' : Nat → Int} (h : V N r) (e : ∀ k, k ≠ 1 → k ≠ 2 → r' k = r k) (h1 : 0 ≤ r' 1 ∧ r' 1 ≤ 20) (h2 : 20 ≤ r' 2 ∧ r' 2 ≤ 500) : V N r' := by
  have e15 : ∀ i, r' (15 + i) = r (15 + i) := fun i => e _ (by omega) (by omega)
  have e67 : ∀ i, r' (67 + i) = r (67 + i) := fun i => e _ (by omega) (by omega)
  have ew : ∀ i, r' (119 + i) = r (119 + i) := fun i => e _ (by omega) (by omega)
  have e0 := e 0 (by omega) (by omega)
  have e3 := e 3 (by omega) (by omega)
  have e4 := e 4 (by omega) (by omega)
  have e5 := e 5 (by omega) (by omega)
  have e6 := e 6 (by omega) (by omega)
  have e7 := e 7 (by omega) (by omega)
  have e12 := e 12 (by omega) (by omega)
  have e13 := e 13 (by omega) (by omega)
  have e14 := e 14 (by omega) (by omega)
  obtain ⟨⟨a, b, c, d⟩, D⟩ := h
  refine ⟨⟨by rw [e0]; exact a, h1, h2, ?_⟩, ?_⟩
  · rw [e0, e3, e4, e5, e6, e12, e13, e14]; exact d
  · unfold DKr PLr WHr CTr FPr at D ⊢
    simp only [e15, e67, ew, e0, e4, e5, e7, e13, e14]
    exact D
theorem MR_num {c : Mm} {r : Nat → Int} (h : MR (fun i => c (1 + i)) r) {j : Nat} (hj : j = 1 ∨ j = 2) (v : Int) : MR (fun i => zu c 1 j v (1 + i)) (zr r j v) := by
  obtain ⟨⟨a0, a1, a2, a3, a4, a5, a6, a7, a8, a9, a10, a11, a12⟩, ⟨s0, s1⟩, md, mp, mh⟩ := h
  have no : ∀ k, k ≠ 1 → k ≠ 2 → zr r j v k = r k := fun k h1 h2 => by
    unfold zr
    rw [if_neg (by omega)]
  have nf : ∀ k, k ≠ 1 → k ≠ 2 → zu c 1 j v 1 k = c 1 k := fun k h1 h2 => zu_miss _ _ _ _ (fun _ => by omega)
  have nc : ∀ k, k ≠ 1 → zu c 1 j v k = c k := fun k h1 => by
    unfold zu
    rw [if_neg h1]
  refine ⟨⟨?_, ?_, ?_, ?_, ?_, ?_, ?_, ?_, ?_, ?_, ?_, ?_, ?_⟩, ⟨?_, ?_⟩, fun k hk => ?_, fun k hk => ?_, fun p hp => ?_⟩
  · exact ((nf 0 (by omega) (by omega)).trans a0).trans (no 0 (by omega) (by omega)).symm
  · show zu c 1 j v 1 1 = zr r j v 1
    rw [zu_at]
    unfold zr
    by_cases w : 1 = j
    · rw [if_pos ⟨rfl, w⟩, if_pos w]
    · rw [if_neg (fun z => w z.2), if_neg w]; exact a1
  · show zu c 1 j v 1 2 = zr r j v 2
    rw [zu_at]
    unfold zr
    by_cases w : 2 = j
    · rw [if_pos ⟨rfl, w⟩, if_pos w]
    · rw [if_neg (fun z => w z.2), if_neg w]; exact a2
  · show zL (zu c 1 j v 1 3) = _
    rw [nf 3 (by omega) (by omega), no 12 (by omega) (by omega)]; exact a3
  · exact ((nf 4 (by omega) (by omega)).trans a4).trans (no 3 (by omega) (by omega)).symm
  · exact ((nf 5 (by omega) (by omega)).trans a5).trans (no 4 (by omega) (by omega)).symm
  · exact ((nf 6 (by omega) (by omega)).trans a6).trans (no 5 (by omega) (by omega)).symm
  · exact ((nf 7 (by omega) (by omega)).trans a7).trans (no 7 (by omega) (by omega)).symm
  · exact ((nf 8 (by omega) (by omega)).trans a8).trans (no 6 (by omega) (by omega)).symm
  · exact ((nf 9 (by omega) (by omega)).trans a9).trans (no 10 (by omega) (by omega)).symm
  · exact ((nf 10 (by omega) (by omega)).trans a10).trans (no 11 (by omega) (by omega)).symm
  · exact ((nf 14 (by omega) (by omega)).trans a11).trans (no 13 (by omega) (by omega)).symm
  · exact ((nf 16 (by omega) (by omega)).trans a12).trans (no 14 (by omega) (by omega)).symm
  · exact ((congrFun (nc 2 (by omega)) 0).trans s0).trans (no 8 (by omega) (by omega)).symm
  · exact ((congrFun (nc 2 (by omega)) 1).trans s1).trans (no 9 (by omega) (by omega)).symm
  · exact ((congrFun (nc 4 (by omega)) k).trans (md k hk)).trans (no _ (by omega) (by omega)).symm
  · rw [no 14 (by omega) (by omega)] at hk
    exact ((congrFun (nc 5 (by omega)) k).trans (mp k hk)).trans (no _ (by omega) (by omega)).symm
  · show cw (zL (zu c 1 j v 3 p)) ∧ ∀ k, k < 52 → bs (zL (zu c 1 j v 3 p)) k = _
    rw [nc 3 (by omega)]
    exact ⟨(mh p hp).1, fun k hk => by rw [no _ (by omega) (by omega)]; exact (mh p hp).2 k hk⟩
/-- a setting changed on both sides -/
theorem R_set {N : Nat} {c m : Mm} (h : REL N c m) {j : Nat} {v : Int} (hj : (j = 1 ∧ 0 ≤ v ∧ v ≤ 20) ∨ (j = 2 ∧ 20 ≤ v ∧ v ≤ 500)) : REL N (zu c 1 j v) (zu m 1 j v) := by
  have nc : ∀ k, k ≠ 1 → zu c 1 j v k = c k := fun k h1 => by
    unfold zu
    rw [if_neg h1]
  have nm : ∀ k, k ≠ 1 → zu m 1 j v k = m k := fun k h1 => by
    unfold zu
    rw [if_neg h1]
  have hb := h.1.1
  refine REL_mv h ?_ ?_ (HRel_eq (fun i hi => nc _ (by omega)) (by rw [nm 0 (by omega)]) (fun i i1 i2 => nm i (by omega)) h.2.2.1) (fun i i1 i2 _ => nc i (by omega)) (by rw [nc 74 (by omega)]) (fun i i1 i2 _ => nm i (by omega)) (by rw [nm 0 (by omega)]) (by rw [nm 0 (by omega)])
  · rw [zu_self]
    refine V_num h.1 (fun k h1 h2 => ?_) ?_ ?_
    · unfold zr
      rw [if_neg (by omega)]
    · unfold zr
      split
      · omega
      · exact hb.2.1
    · unfold zr
      split
      · omega
      · exact hb.2.2.1
  · rw [zu_self]
    exact MR_num h.2.1 (by omega) v
theorem X6_req (v : Int) : x_X6_require v = if zw v ≠ 0 then some (.inl ()) else some (.inr 0) := rfl
theorem cl_set {N : Nat} {c m : Mm} (h : REL N c m) {p a : Int} (hp : p = 0 ∨ p = 1) (ha : zw a = a) : OK2 N [(0, 1)] c (x_X6_set c p a) (x_X7_set m p a) := by
  have h0 := REL_eq h (CE_r c) (ME_0 m 0)
  unfold x_X6_set x_X7_set
  rw [bnd_eq]
  unfold x_X7_set_j19 x_X7_set_j32
  rcases hp with hp | hp <;> subst hp
  · rw [if_pos (by decide), if_pos (by decide), if_pos (by decide), X6_within a (l := 0) (h := 20) (by decide) (by decide), X7_bad _ (zi2l a) 1 (l := 0) (h := 20) (by decide) (by decide), zi2l_toInt, ha, Option.bind_some, Option.bind_some, X6_req]
    by_cases e : 0 ≤ a ∧ a ≤ 20
    · rw [if_pos e, if_pos e, if_pos (by decide), Option.bind_some, un2_mk, if_pos (by decide)]
      show OK2 N _ c (inlO _) _
      obtain ⟨σ2, m', a1, a2, a3, a4, a5, a6, a7, -⟩ := push_all h0
      rw [a1, Option.bind_some, bnd_eq, a2, Option.bind_some]
      simp only [if_pos (show zw (0 : Int) = 0 by decide), if_pos zc1, zx1, bnd_eq]
      refine .inl ⟨_, _, _, rfl, ?_, ?_, R_set a3 (.inl ⟨rfl, e⟩)⟩
      · have : zj zl_45 c σ2 1 1 = m' 1 1 := by
          have := a3.2.1.1.2.1
          exact this
        rw [this]
      · exact a5
    · rw [if_neg e, if_neg e, if_neg (by decide), Option.bind_some, un2_mk, if_neg (by decide)]
      exact .inr ⟨0, 1, _, _, .head _, rfl, rfl, rfl, REL_eq h0 (CE_r c) (ME_0 _ 1)⟩
  · rw [if_neg (by decide), if_neg (by decide), if_neg (by decide), X6_within a (l := 20) (h := 500) (by decide) (by decide), X7_bad _ (zi2l a) 1 (l := 20) (h := 500) (by decide) (by decide), zi2l_toInt, ha, Option.bind_some, Option.bind_some, X6_req]
    by_cases e : 20 ≤ a ∧ a ≤ 500
    · rw [if_pos e, if_pos e, if_pos (by decide), Option.bind_some, un2_mk, if_pos (by decide)]
      show OK2 N _ c (inlO _) _
      obtain ⟨σ2, m', a1, a2, a3, a4, a5, a6, a7, -⟩ := push_all h0
      rw [a1, Option.bind_some, bnd_eq, a2, Option.bind_some]
      simp only [if_neg (show ¬ zw (1 : Int) = 0 by decide), if_pos zc2, zx2, bnd_eq]
      refine .inl ⟨_, _, _, rfl, ?_, ?_, R_set a3 (.inr ⟨rfl, e⟩)⟩
      · have : zj zl_45 c σ2 1 2 = m' 1 2 := by
          have := a3.2.1.1.2.2.1
          exact this
        rw [this]
      · exact a5
    · rw [if_neg e, if_neg e, if_neg (by decide), Option.bind_some, un2_mk, if_neg (by decide)]
      exact .inr ⟨0, 1, _, _, .head _, rfl, rfl, rfl, REL_eq h0 (CE_r c) (ME_0 _ 1)⟩
theorem cl_undo {N : Nat} {c m : Mm} (h : REL N c m) : OK1 N (x_X6_undo c) (x_X7_undo m) := by
  have h0 := REL_eq h (CE_r c) (ME_0 m 0)
  unfold x_X6_undo x_X7_undo
  rw [bnd_eq]
  rcases hist_pop (R_hist h0) with ⟨a1, a2⟩ | ⟨k, q, σ', a1, a2, a3, a4, a5, a6, a7, a8, a9, a10⟩
  · rw [a2, Option.bind_some, un2_mk, bnd_eq, if_pos (by decide), a1, if_neg (by decide), zj_self]
    exact ⟨_, _, _, rfl, rfl, h0⟩
  · have e03 : ((k + 1 : Nat) : Int) - 1 = (k : Int) := by omega
    rw [a5, Option.bind_some, un2_mk, bnd_eq, if_neg (by decide), a1, if_pos (by rw [zwn (by omega)]; omega), e03, bnd_eq]
    generalize hm2 : zu (zu m 0 0 0) 0 3 (k : Int) = m2
    have d3 : m2 0 3 = (k : Int) := by rw [← hm2, zu_hit]
    have dc : ∀ i, i ≠ 0 → m2 i = zu m 0 0 0 i := fun i hi => by rw [← hm2]; unfold zu; rw [if_neg hi, if_neg hi]
    have d2 : m2 2 k = ((3 + q : Nat) : Int) := by rw [dc 2 (by omega)]; exact a4
    obtain ⟨m3, b1, b2, b3⟩ := X7_copy2 m2 (a := 3 + q) (b := 1) (by omega)
    rw [d3, if_pos (zin_i (by omega) (by omega) (by omega)), zix_nat (n := k) (by omega), d2, if_pos (by omega), if_pos (by omega), show Int.toNat ((3 + q : Nat) : Int) = 3 + q from rfl, b1, Option.bind_some, bnd_eq]
    have e1 : ∀ j, j < 171 → zj [3 + q, 1] m2 m3 1 j = zu m 0 0 0 (3 + q) j := fun j hj => by rw [b3 j hj, dc _ (by omega)]
    have g1 : ∀ i, i < 5 → zj zl_45 c σ' (1 + i) = σ' (52 + i) := fun i hi => by
      rw [zj_q _ _ _ _ (q_45 _ (by omega)), if_neg (by omega), if_pos (by omega), show 52 + (1 + i - 1) = 52 + i by omega]; rfl
    have g2 : ∀ i, i < 52 → zj zl_45 c σ' (11 + i) = σ' i := fun i hi => by
      rw [zj_q _ _ _ _ (q_45 _ (by omega)), if_pos (by omega), show 11 + i - 11 = i by omega]; rfl
    have g3 : ∀ i, 63 ≤ i → i < 101 → zj zl_45 c σ' i = c i := fun i h1 h2 => by
      rw [zj_q _ _ _ _ (q_45 _ (by omega)), if_neg (by omega), if_neg (by omega)]; rfl
    have k3 : zj [3 + q, 1] m2 m3 0 3 = (k : Int) := by rw [b2 0 (by omega)]; exact d3
    refine ⟨_, _, (k : Int), ?_, ?_, REL_mv h0 (V_eq e1 a7) (MR_eq e1 a7 (MR_cells g1 a8)) (HRel_eq g2 rfl (fun _ _ _ => rfl) (a9 _ k3 (fun i i1 i2 => by rw [b2 i (by omega), dc i (by omega)]))) (fun i i1 i2 _ => g3 i i1 i2) (by rw [g3 74 (by omega) (by omega)]) (fun i i1 i2 _ => by rw [b2 i (by omega), dc i (by omega)]) ?_ ?_⟩
    · have : zj zl_45 c σ' 11 2 = (k : Int) := by
        rw [show (11 : Nat) = 11 + 0 from rfl, g2 0 (by omega)]; exact a6
      rw [this]
    · rw [k3]
    · rw [b2 0 (by omega), ← hm2, zu_miss _ _ _ _ (fun _ => by decide)]
    · rw [b2 0 (by omega), ← hm2, zu_miss _ _ _ _ (fun _ => by decide)]
