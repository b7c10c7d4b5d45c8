/-! gap, meanRest, laid -/
def gPt : Int → Int64 → Int := fun b x => b + ((lW x : Nat) : Int)
theorem gPt_sum : ∀ (F : List Int64) (b : Int), F.foldl gPt b = b + ((sW F : Nat) : Int)
  | [], b => by
    show b = b + ((0 : Nat) : Int)
    omega
  | x :: F, b => by
    show F.foldl gPt (b + ((lW x : Nat) : Int)) = b + ((lW x + sW F : Nat) : Int)
    rw [gPt_sum F]
    omega
theorem gK0 : ∀ (F : List Int64) (b : Int), (∀ x ∈ F, mld x) → F.foldl (gKd 0) b = b
  | [], b, _ => rfl
  | x :: F, b, h => by
    have hx := h x (.head _)
    have : gKd 0 b x = b := by
      unfold gKd
      rcases hx with hx | hx
      · rw [(so_set hx).2, if_neg (by decide)]
      · rw [(so_run hx).2, if_neg (by decide)]
    show F.foldl (gKd 0) (gKd 0 b x) = b
    rw [this]
    exact gK0 F b (fun y hy => h y (.tail _ hy))
theorem Lay_sum {P : Int64} (hp : cw P) (h11 : cnt (bs P) 64 ≤ 11) : sW (Lay P) + RR P P = lW P := by
  obtain ⟨l1, l2, l3, l4⟩ := Lay_ok hp h11
  have := dl_fam (h := P) (u := 0) l1 (fun m hm => (l2 m hm).1)
  rw [dif_0, l3] at this
  omega
theorem X1_foundPoints {σ : Mm} {F : List Int64} (h7 : σ 0 7 = (F.length : Int)) (hf : ∀ j x, F[j]? = some x → zL (σ 6 j) = x) (h4 : F.length ≤ 4) (hw : ∀ x ∈ F, cw x) : x_X1_foundPoints σ = some ((sW F : Nat) : Int) := by
  unfold x_X1_foundPoints
  rw [fold_lup (f := fun (s6 : Int × Int) => x_X1_foundPoints_b4 σ s6.1 s6.2) (F := F) (g := gPt) (e := fun b => b) (fun i x b hi => by
    have hl := (List.getElem?_eq_some_iff.mp hi).1
    show x_X1_foundPoints_b4 σ b (i : Int) = _
    unfold x_X1_foundPoints_b4 gPt
    rw [h7, if_neg (nle_n hl (by omega)), X1_foundAt h7 hf h4 hi, Option.bind_some, lW_cw (hw x (List.mem_of_getElem? hi)), Option.bind_some]
    rfl) (fun b => by
    show x_X1_foundPoints_b4 σ b (F.length : Int) = _
    unfold x_X1_foundPoints_b4
    rw [h7, if_pos (Int.le_refl _)]) 0, gPt_sum]
  show some (0 + ((sW F : Nat) : Int)) = _
  rw [Int.zero_add]
theorem X7_wrongHand {σ : Mm} {p : Int} {P : Int64} (hP : hnd σ p P) (h11 : cnt (bs P) 64 ≤ 11) : ∃ σ', x_X7_wrongHand σ p = some (σ', 0) ∧ SC σ σ' := by
  obtain ⟨σ1, H, t1, ⟨u1, u2, u3, u4⟩, t3, t4⟩ := X7_layOutOf hP h11
  obtain ⟨l1, l2, l3, l4⟩ := Lay_ok hP.1 h11
  have hs := Lay_sum hP.1 h11
  unfold x_X7_wrongHand
  rw [t1, Option.bind_some, t3.1.1, X7_allcards t3, Option.bind_some, X7_pointsOf, Option.bind_some, u4, bnd_eq]
  have key : ∀ (l : List Int64) (i : Nat) (b : Int), i ≤ (Lay P).length → (Lay P).drop i = l → lup (fun (s16 : Int × Int × Int) => x_X7_wrongHand_b31 σ1 s16.1 s16.2.1 s16.2.2) (b, (0 : Int), (i : Int)) = some (b + ((sW l : Nat) : Int), 0) := by
    intro l
    induction l with
    | nil =>
      intro i b hi hd
      have : (Lay P).length ≤ i := List.drop_eq_nil_iff.mp hd
      have : i = (Lay P).length := by omega
      subst this
      refine lup_inr ?_
      show x_X7_wrongHand_b31 σ1 b 0 _ = _
      unfold x_X7_wrongHand_b31
      rw [u1, if_pos (Int.le_refl _)]
      show some (Sum.inr (b, (0 : Int))) = some (Sum.inr (b + ((0 : Nat) : Int), 0))
      rw [show b + ((0 : Nat) : Int) = b by omega]
    | cons x l ih =>
      intro i b hi hd
      obtain ⟨h1, h2, h3⟩ := drop_at hd
      have hm : mld x := (l2 x (List.mem_of_getElem? h1)).2
      have hk : kK x ≠ 0 := by
        rcases hm with hm | hm
        · rw [(so_set hm).2]; decide
        · rw [(so_run hm).2]; decide
      have hkl := kK_lt x
      have hstep : x_X7_wrongHand_b31 σ1 b 0 (i : Int) = some (.inl (b + ((lW x : Nat) : Int), 0, (i : Int) + 1)) := by
        unfold x_X7_wrongHand_b31
        rw [u1, if_neg (nle_n h3 (by omega)), if_pos (zin_i (by omega) (by omega) (by omega)), zix_nat (n := i) (by omega), u2 i x h1, X7_pointsOf, Option.bind_some, bnd_eq, if_pos (zin_i (by omega) (by omega) (by omega)), X7_kindOf (mld_cw hm), Option.bind_some, zwn (by omega), if_pos (by omega), bnd_eq, bnd_eq, Int.add_zero]
        rfl
      rw [lup_inl (f := fun (s16 : Int × Int × Int) => x_X7_wrongHand_b31 σ1 s16.1 s16.2.1 s16.2.2) (s := (b, (0 : Int), (i : Int))) hstep, show (i : Int) + 1 = ((i + 1 : Nat) : Int) by omega, ih (i + 1) _ (by omega) h2]
      show some (b + ((lW x : Nat) : Int) + ((sW l : Nat) : Int), (0 : Int)) = some (b + ((lW x + sW l : Nat) : Int), 0)
      rw [show b + ((lW x : Nat) : Int) + ((sW l : Nat) : Int) = b + ((lW x + sW l : Nat) : Int) by omega]
  have k0 := key (Lay P) 0 (((RR P P : Nat) : Int) - ((psum pts (bs P) 52 : Nat) : Int)) (by omega) rfl
  have k0 : lup (fun (s16 : Int × Int × Int) => x_X7_wrongHand_b31 σ1 s16.1 s16.2.1 s16.2.2) (((RR P P : Nat) : Int) - ((psum pts (bs P) 52 : Nat) : Int), (0 : Int), (0 : Int)) = _ := k0
  have hz : ((RR P P : Nat) : Int) - ((psum pts (bs P) 52 : Nat) : Int) + ((sW (Lay P) : Nat) : Int) = 0 := by
    have : lW P = psum pts (bs P) 52 := rfl
    omega
  rw [k0, Option.bind_some, un2_mk, hz]
  exact ⟨σ1, rfl, t4⟩
theorem X6_gap1 {N : Nat} {c m : Mm} {p : Nat} (h : REL N c m) (hp : p < 2) : ∃ c', x_X6_gap_b50 c 0 (p : Int) = some (.inl (c', 0, (p : Int) + 1)) ∧ REL N c' m := by
  obtain ⟨P, p1, p2, p3, -⟩ := R_hand h hp
  obtain ⟨σ1, s1, ⟨y1, y2, y3, y4⟩, s3⟩ := R_lay h p2.1 p3
  obtain ⟨l1, l2, l3, l4⟩ := Lay_ok p2.1 p3
  have hs := Lay_sum p2.1 p3
  have hm : ∀ x ∈ Lay P, mld x := fun x hx => (l2 x hx).2
  have g10 : zj zl_54 c σ1 77 10 = ((RR P P : Nat) : Int) := by rw [← l3]; exact y4
  have hfp : x_X1_foundPoints (zb zl_54 (zj zl_54 c σ1)) = some ((sW (Lay P) : Nat) : Int) := X1_foundPoints (σ := zb zl_54 (zj zl_54 c σ1)) y1 y2 (by omega) (fun x hx => mld_cw (hm x hx))
  have hck : x_X1_countKind (zb zl_54 (zj zl_54 c σ1)) (0 : Int) = some 0 := by
    have := X1_countKind (σ := zb zl_54 (zj zl_54 c σ1)) (k := 0) y1 y2 (by omega) (fun x hx => mld_cw (hm x hx)) (by omega)
    rw [gK0 _ _ hm] at this
    exact this
  have hho : x_X2_handOf (zb zl_47 (zj zl_54 c σ1)) (p : Int) = some P := p1
  refine ⟨zj zl_54 c σ1, ?_, s3⟩
  unfold x_X6_gap_b50
  rw [if_neg (nle_l (by omega) (by omega)), p1, Option.bind_some, s1, Option.bind_some, bnd_eq, hfp, Option.bind_some, hho, Option.bind_some, lW_cw p2.1, Option.bind_some, g10, show ((sW (Lay P) : Nat) : Int) + ((RR P P : Nat) : Int) - ((lW P : Nat) : Int) = 0 by omega, bnd_eq, hck, Option.bind_some, bnd_eq, bnd_eq]
  rfl
theorem c_gap {N : Nat} {c m : Mm} (h : REL N c m) : OK1 N (x_X6_gap c) (x_X7_gap m) := by
  have h0 := REL_eq h (CE_r c) (ME_0 m 0)
  obtain ⟨P, p1, p2, p3, p4⟩ := R_hand h0 (p := 0) (by omega)
  obtain ⟨Q, q1, q2, q3, q4⟩ := R_hand h0 (p := 1) (by omega)
  obtain ⟨c1, a1, a2⟩ := X6_gap1 h0 (p := 0) (by omega)
  obtain ⟨c2, b1, b2⟩ := X6_gap1 a2 (p := 1) (by omega)
  obtain ⟨m2, H, t1, t2, t3⟩ := X7_takeHand (zu m 0 0 0) 0 (-1) (-1) p2.1 p3 (sel_1 p2)
  obtain ⟨m4, H2, f1, f2, f3⟩ := X7_takeHand m2 1 (-1) (-1) q2.1 q3 (sel_1 (hnd_SK q2 (SK_of t3)))
  have s4 := SC_t t3 f3
  obtain ⟨m5, g1, g2⟩ := X7_wrongHand (hnd_SK p2 (SK_of s4)) p3
  have s5 := SC_t s4 g2
  obtain ⟨m6, k1, k2⟩ := X7_wrongHand (hnd_SK q2 (SK_of s5)) q3
  have s6 := SC_t s5 k2
  obtain ⟨n0, n1, n2, n3, n4, n5, n6, n12, n13, n14, n15⟩ := h0.1.1
  have hc14 : c 1 14 = zu m 0 0 0 1 13 := h0.2.1.1.2.2.2.2.2.2.2.2.2.2.2.1
  have hc16 : c 1 16 = zu m 0 0 0 1 14 := h0.2.1.1.2.2.2.2.2.2.2.2.2.2.2.2
  have hsum : ((cnt (bs P) 64 : Nat) : Int) + ((cnt (bs Q) 64 : Nat) : Int) = 2 * zu m 0 0 0 1 0 + zu m 0 0 0 1 5 := by
    rw [p4, q4]
    rcases n4 with w | w <;> rcases n5 with w2 | w2 <;> rw [w, w2] <;> simp <;> omega
  have p1' : x_X2_handOf (zb zl_47 c) (0 : Int) = some P := p1
  have q1' : x_X2_handOf (zb zl_47 c) (1 : Int) = some Q := q1
  have hst : x_X2_stockCount (zb zl_47 c) = some (52 - c 1 14) := rfl
  unfold x_X6_gap x_X7_gap
  rw [p1', Option.bind_some, bitCount_eq, Option.bind_some, q1', Option.bind_some, bitCount_eq, Option.bind_some, bnd_eq, hst, Option.bind_some, hc14, hc16, show (52 : Int) - (((cnt (bs P) 64 : Nat) : Int) + ((cnt (bs Q) 64 : Nat) : Int)) - (52 - zu m 0 0 0 1 13) - zu m 0 0 0 1 14 = 0 by omega, show zabs 0 = 0 by decide, bnd_eq]
  have hl : lup (fun (s19 : Mm × Int × Int) => x_X6_gap_b50 s19.1 s19.2.1 s19.2.2) (c, (0 : Int), (0 : Int)) = some (c2, 0) := by
    have a1 : x_X6_gap_b50 c 0 0 = some (.inl (c1, 0, 1)) := a1
    have b1 : x_X6_gap_b50 c1 0 1 = some (.inl (c2, 0, 2)) := b1
    rw [lup_inl (f := fun (s19 : Mm × Int × Int) => x_X6_gap_b50 s19.1 s19.2.1 s19.2.2) (s := (c, (0 : Int), (0 : Int))) a1, lup_inl (f := fun (s19 : Mm × Int × Int) => x_X6_gap_b50 s19.1 s19.2.1 s19.2.2) (s := (c1, (0 : Int), (1 : Int))) b1]
    refine lup_inr ?_
    show x_X6_gap_b50 c2 0 2 = _
    unfold x_X6_gap_b50
    rw [if_pos (by decide)]
  have t1' : x_X7_takeHand (zu m 0 0 0) (0 : Int) (-1) (-1) = some m2 := t1
  have g1' : x_X7_wrongHand m4 (0 : Int) = some (m5, 0) := g1
  have k1' : x_X7_wrongHand m5 (1 : Int) = some (m6, 0) := k1
  rw [hl, Option.bind_some, un2_mk, bnd_eq, t1', Option.bind_some, bnd_eq, f1, Option.bind_some, X7_stock, Option.bind_some, if_pos zc14, zx14, t2.1.1, f2.1.1, s4.1 1 (by omega) (by omega), bnd_eq, show (52 : Int) - (((cnt (bs P) 64 : Nat) : Int) + (((cnt (bs Q) 64 : Nat) : Int) + (52 - zu m 0 0 0 1 13) + zu m 0 0 0 1 14)) = 0 by omega, show x_X7_size 0 = some 0 by decide, Option.bind_some, g1', Option.bind_some, un2_mk, k1', Option.bind_some, un2_mk]
  exact ⟨_, _, 0, rfl, rfl, REL_eq b2 (CE_r _) (ME_SK (SK_of s6))⟩
theorem RR_110 {P : Int64} (hp : cw P) (h11 : cnt (bs P) 64 ≤ 11) : RR P P ≤ 110 := by
  have hs := Lay_sum hp h11
  have h1 : lW P ≤ 10 * cnt (bs P) 52 := psum_bound pts_le
  have h2 := cnt52 hp
  omega
theorem fp_mean : ∀ n : Nat, n < 221 → (FP.ddiv (FP.i2d (zJ (n : Int))) (4611686018427387904 : UInt64)) &&& 0x7fffffffffffffff ≤ 0x7ff0000000000000 := by decide +kernel
theorem fp_laid : ∀ n : Nat, n < 12 → 1 ≤ n → ∀ k : Nat, k < 12 → (FP.fdiv (FP.i2f (zJ (k : Int))) (FP.i2f (zJ (n : Int)))) &&& 0x7fffffff ≤ 0x7f800000 := by decide +kernel
theorem fp_laid2 : ∀ n : Nat, n < 12 → 1 ≤ n → ∀ k : Nat, k < 12 → (FP.f2d (FP.fdiv (FP.i2f (zJ (k : Int))) (FP.i2f (zJ (n : Int))))) &&& 0x7fffffffffffffff ≤ 0x7ff0000000000000 := by decide +kernel
theorem c_meanRest {N : Nat} {c m : Mm} (h : REL N c m) : ∃ (c' m' : Mm) (n : Nat), n < 221 ∧ x_X6_meanRest c = some (c', FP.ddiv (FP.i2d (zJ (n : Int))) (4611686018427387904 : UInt64)) ∧ x_X7_meanRest m = some (m', FP.ddiv (FP.i2d (zJ (n : Int))) (4611686018427387904 : UInt64)) ∧ REL N c' m' := by
  have h0 := REL_eq h (CE_r c) (ME_0 m 0)
  obtain ⟨P, p1, p2, p3, p4⟩ := R_hand h0 (p := 0) (by omega)
  obtain ⟨σ1, s1, ⟨y1, y2, y3, y4⟩, s3⟩ := R_lay h0 p2.1 p3
  obtain ⟨-, -, l3, -⟩ := Lay_ok p2.1 p3
  obtain ⟨m2, H, t1, ⟨u1, u2, u3, u4⟩, t3, t4⟩ := X7_layOutOf p2 p3
  have hR1 : REL N (zj zl_54 c σ1) m2 := REL_eq s3 (CE_r _) (ME_SK (SK_of t4))
  obtain ⟨Q, q1, q2, q3, q4⟩ := R_hand hR1 (p := 1) (by omega)
  obtain ⟨σ2, r1, ⟨z1, z2, z3, z4⟩, r3⟩ := R_lay hR1 q2.1 q3
  obtain ⟨-, -, k3, -⟩ := Lay_ok q2.1 q3
  obtain ⟨m4, H2, f1, ⟨g1, g2, g3, g4⟩, f3, f4⟩ := X7_layOutOf q2 q3
  have hP := RR_110 p2.1 p3
  have hQ := RR_110 q2.1 q3
  have e1 : zj zl_54 c σ1 77 10 = ((RR P P : Nat) : Int) := by rw [← l3]; exact y4
  have e2 : zj zl_54 (zj zl_54 c σ1) σ2 77 10 = ((RR Q Q : Nat) : Int) := by rw [← k3]; exact z4
  have p1' : x_X2_handOf (zb zl_47 c) (0 : Int) = some P := p1
  have q1' : x_X2_handOf (zb zl_47 (zj zl_54 c σ1)) (1 : Int) = some Q := q1
  have t1' : x_X7_layOutOf (zu m 0 0 0) (0 : Int) = some m2 := t1
  have f1' : x_X7_layOutOf m2 (1 : Int) = some m4 := f1
  have hfp := fp_mean (RR P P + RR Q Q) (by omega)
  refine ⟨_, m4, RR P P + RR Q Q, by omega, ?_, ?_, REL_eq r3 (CE_r _) (ME_SK (SK_of f4))⟩
  · unfold x_X6_meanRest
    rw [p1', Option.bind_some, s1, Option.bind_some, bnd_eq, e1, bnd_eq, q1', Option.bind_some, r1, Option.bind_some, bnd_eq, e2, bnd_eq, show ((RR P P : Nat) : Int) + ((RR Q Q : Nat) : Int) = ((RR P P + RR Q Q : Nat) : Int) by omega, if_pos hfp]
  · unfold x_X7_meanRest
    rw [bnd_eq, t1', Option.bind_some, u4, bnd_eq, f1', Option.bind_some, g4, show ((RR P P : Nat) : Int) + ((RR Q Q : Nat) : Int) = ((RR P P + RR Q Q : Nat) : Int) by omega, if_pos hfp]
theorem c_laid {N : Nat} {c m : Mm} (h : REL N c m) {a : Int} (ha : zw a = a) : (∃ (c' m' : Mm) (n k : Nat), n < 12 ∧ 1 ≤ n ∧ k < 12 ∧ x_X6_laid c a = some (.inl (c', FP.fdiv (FP.i2f (zJ (k : Int))) (FP.i2f (zJ (n : Int))))) ∧ x_X7_laid m a = some (m', FP.fdiv (FP.i2f (zJ (k : Int))) (FP.i2f (zJ (n : Int)))) ∧ m' 0 0 = 0 ∧ REL N c' m') ∨ ∃ (m' : Mm) (v : UInt32), x_X6_laid c a = some (.inr 0) ∧ x_X7_laid m a = some (m', v) ∧ m' 0 0 = 1 ∧ REL N c m' := by
  have h0 := REL_eq h (CE_r c) (ME_0 m 0)
  unfold x_X6_laid x_X7_laid
  rw [bnd_eq]
  by_cases e : 0 ≤ a ∧ a ≤ 1
  · rw [pl_ok ha e, Option.bind_some, req_1, Option.bind_some, np_ok ha e, Option.bind_some, un2_mk, if_pos d00]
    obtain ⟨p, hp, hap⟩ := pl_nat e
    subst hap
    obtain ⟨P, p1, p2, p3, p4⟩ := R_hand h0 hp
    obtain ⟨σ1, s1, ⟨y1, y2, y3, y4⟩, s3⟩ := R_lay h0 p2.1 p3
    obtain ⟨m4, H, t1, ⟨u1, u2, u3, u4⟩, t3, t4⟩ := X7_layOutOf p2 p3
    have hb := h0.1.1.1
    have hn7 : 7 ≤ cnt (bs P) 64 := by
      have : (0 : Int) ≤ (if zu m 0 0 0 1 4 = (p : Int) ∧ zu m 0 0 0 1 5 = 1 then 1 else 0) := by split <;> omega
      omega
    have hle := cnt_sb (dl_sb2 P (Lay P))
    have g9 : zL (zj zl_54 c σ1 77 9) = dl P (Lay P) := y3
    have hfp := fp_laid (cnt (bs P) 64) (by omega) (by omega) (cnt (bs P) 64 - cnt (bs (dl P (Lay P))) 64) (by omega)
    have hsub : ((cnt (bs P) 64 : Nat) : Int) - ((cnt (bs (dl P (Lay P))) 64 : Nat) : Int) = ((cnt (bs P) 64 - cnt (bs (dl P (Lay P))) 64 : Nat) : Int) := by omega
    refine .inl ⟨zj zl_54 c σ1, m4, cnt (bs P) 64, cnt (bs P) 64 - cnt (bs (dl P (Lay P))) 64, by omega, by omega, by omega, ?_, ?_, by rw [t4.2 0 (by omega)]; rfl, REL_eq s3 (CE_r _) (ME_SK (SK_of t4))⟩
    · show inlO _ = _
      rw [p1, Option.bind_some, bitCount_eq, Option.bind_some, Option.bind_some, s1, Option.bind_some, bnd_eq, g9, bitCount_eq, Option.bind_some, if_neg (by rw [zwn (by omega)]; omega), hsub, if_pos hfp]
      rfl
    · rw [t1, Option.bind_some, u3, X7_ones, Option.bind_some, t3.1.1, hsub, if_pos hfp]
  · rw [pl_no ha e, Option.bind_some, req_0, Option.bind_some, np_no ha e, Option.bind_some, un2_mk, if_neg d10]
    exact .inr ⟨_, _, rfl, rfl, rfl, REL_eq h0 (CE_r c) (ME_0 _ 1)⟩
