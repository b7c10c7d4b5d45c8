/-! append, truncate, and what there is: match, number, where, card, kind, reportByte -/
theorem zJ_bit (x : Int) {i : Nat} (hi : i < 8) : (zJ (zi2b x)).toBitVec.getLsbD i = (zJ x).toBitVec.getLsbD i := by
  unfold zi2b
  rw [zJ_toInt, Int8.toBitVec_toInt32, BitVec.getLsbD_signExtend, Int32.toBitVec_toInt8, BitVec.getLsbD_signExtend]
  simp [hi, show i < 32 by omega]
theorem zand_b (x : Int) : zand (zi2b (zi2b x)) 255 = zand x 255 := by
  unfold zand
  congr 1
  apply Int32.toBitVec_inj.mp
  apply BitVec.eq_of_getLsbD_eq
  intro i hi
  rw [Int32.toBitVec_and, Int32.toBitVec_and, BitVec.getLsbD_and, BitVec.getLsbD_and]
  by_cases h : i < 8
  · rw [zJ_bit _ h, zJ_bit _ h]
  · have : ∀ j : Nat, j < 32 → ¬ j < 8 → (zJ 255).toBitVec.getLsbD j = false := by decide
    rw [this i hi h, Bool.and_false, Bool.and_false]
theorem zand_255 (x : Int) : ∃ b : Nat, b < 256 ∧ zand x 255 = (b : Int) := by
  have h : (zJ x &&& zJ 255).toBitVec.toNat ≤ 255 := by
    rw [Int32.toBitVec_and, BitVec.toNat_and]
    exact Nat.and_le_right
  refine ⟨(zJ x &&& zJ 255).toBitVec.toNat, by omega, ?_⟩
  show (zJ x &&& zJ 255).toBitVec.toInt = _
  exact BitVec.toInt_eq_toNat_of_lt (by omega)
theorem wi_ok {a l h : Int} (hl : zw l = l) (hh : zw h = h) (ha : zw a = a) (e : l ≤ a ∧ a ≤ h) : x_X6_isWithin a l h = some 1 := by
  rw [X6_within a hl hh, ha, if_pos e]
theorem wi_no {a l h : Int} (hl : zw l = l) (hh : zw h = h) (ha : zw a = a) (e : ¬ (l ≤ a ∧ a ≤ h)) : x_X6_isWithin a l h = some 0 := by
  rw [X6_within a hl hh, ha, if_neg e]
/-- the texts: of the class's reader and the model -/
def TR2 (σ m : Mm) (L : Nat) : Prop := σ 0 1 = (L : Int) ∧ m 0 8 = (L : Int) ∧ ∀ i, i < L → ∃ b : Nat, b < 256 ∧ m 18 i = (b : Int) ∧ zand (σ 1 i) 255 = (b : Int)
/-- the text alone changes -/
def TF (σ σ' m m' : Mm) : Prop := (∀ j, j ≠ 1 → σ' 0 j = σ 0 j) ∧ (∀ c, 2 ≤ c → σ' c = σ c) ∧ (∀ j, j ≠ 8 → m' 0 j = m 0 j) ∧ ∀ c, c ≠ 0 → c ≠ 18 → m' c = m c
theorem TF_t {σ σ' σ'' m m' m'' : Mm} (h : TF σ σ' m m') (h2 : TF σ' σ'' m' m'') : TF σ σ'' m m'' := ⟨fun j hj => (h2.1 j hj).trans (h.1 j hj), fun j hj => (h2.2.1 j hj).trans (h.2.1 j hj), fun j hj => (h2.2.2.1 j hj).trans (h.2.2.1 j hj), fun j a b => (h2.2.2.2 j a b).trans (h.2.2.2 j a b)⟩
theorem one_byte {σ m : Mm} {L : Nat} (h : TR2 σ m L) (hL : L < 500) (x : Int) {u : Nat} (hu : u < 100) : ∃ σ' m', x_X3_writeFour_b3 x σ (u : Int) = some (.inl (σ', (u : Int) + (-8))) ∧ x_X7_type_b3 x m (u : Int) = some (.inl (m', (u : Int) + (-8))) ∧ TR2 σ' m' (L + 1) ∧ TF σ σ' m m' := by
  obtain ⟨h1, h2, h3⟩ := h
  have zi : zin (L : Int) 500 := zin_i (by omega) (by omega) (by omega)
  refine ⟨zu (zu σ 1 L (zi2b (zi2b (zushr x (u : Int))))) 0 1 ((L : Int) + 1), zu (zu m 18 L (zand (zushr x (u : Int)) 255)) 0 8 ((L : Int) + 1), ?_, ?_, ⟨?_, ?_, fun i hi => ?_⟩, fun j hj => ?_, fun c hc => ?_, fun j hj => ?_, fun c c1 c2 => ?_⟩
  · unfold x_X3_writeFour_b3 x_X3_writeByte
    have e : zu σ 1 L (zi2b (zi2b (zushr x (u : Int)))) 0 1 = (L : Int) := h1
    rw [if_neg (nlt0 (by omega)), h1, if_neg (nlt0 (by omega)), if_neg (nle_l (by omega) (by omega)), if_pos zi, zix_nat (n := L) (by omega), bnd_eq, e, bnd_eq, Option.bind_some, bnd_eq]
  · unfold x_X7_type_b3
    have e : zu m 18 L (zand (zushr x (u : Int)) 255) 0 8 = (L : Int) := h2
    rw [if_neg (nlt0 (by omega)), h2, if_pos zi, zix_nat (n := L) (by omega), bnd_eq, e, bnd_eq, bnd_eq]
  · rw [zu_hit]; omega
  · rw [zu_hit]; omega
  · by_cases w : i = L
    · subst w
      obtain ⟨b, b1, b2⟩ := zand_255 (zushr x (u : Int))
      refine ⟨b, b1, ?_, ?_⟩
      · rw [zu_miss _ _ _ _ (fun z => absurd z (by decide)), zu_hit, b2]
      · rw [zu_miss _ _ _ _ (fun z => absurd z (by decide)), zu_hit, zand_b, b2]
    · obtain ⟨b, b1, b2, b3⟩ := h3 i (by omega)
      refine ⟨b, b1, ?_, ?_⟩
      · rw [zu_miss _ _ _ _ (fun z => absurd z (by decide)), zu_miss _ _ _ _ (fun _ => w), b2]
      · rw [zu_miss _ _ _ _ (fun z => absurd z (by decide)), zu_miss _ _ _ _ (fun _ => w), b3]
  · rw [zu_miss _ _ _ _ (fun _ => hj), zu_miss _ _ _ _ (fun z => absurd z (by decide))]
  · unfold zu
    rw [if_neg (by omega), if_neg (by omega)]
  · rw [zu_miss _ _ _ _ (fun _ => hj), zu_miss _ _ _ _ (fun z => absurd z (by decide))]
  · unfold zu
    rw [if_neg c1, if_neg c2]
theorem four_bytes {σ m : Mm} {L : Nat} (h : TR2 σ m L) (hL : L + 4 ≤ 500) (x : Int) : ∃ σ' m', x_X3_writeFour σ x = some σ' ∧ x_X7_type m x = some m' ∧ TR2 σ' m' (L + 4) ∧ TF σ σ' m m' := by
  obtain ⟨σ1, m1, a1, a2, a3, a4⟩ := one_byte h (by omega) x (u := 24) (by omega)
  obtain ⟨σ2, m2, b1, b2, b3, b4⟩ := one_byte a3 (by omega) x (u := 16) (by omega)
  obtain ⟨σ3, m3, c1, c2, c3, c4⟩ := one_byte b3 (by omega) x (u := 8) (by omega)
  obtain ⟨σ4, m4, d1, d2, d3, d4⟩ := one_byte c3 (by omega) x (u := 0) (by omega)
  refine ⟨σ4, m4, ?_, ?_, d3, TF_t a4 (TF_t b4 (TF_t c4 d4))⟩
  · unfold x_X3_writeFour
    have e1 : x_X3_writeFour_b3 x σ 24 = some (.inl (σ1, 16)) := a1
    have e2 : x_X3_writeFour_b3 x σ1 16 = some (.inl (σ2, 8)) := b1
    have e3 : x_X3_writeFour_b3 x σ2 8 = some (.inl (σ3, 0)) := c1
    have e4 : x_X3_writeFour_b3 x σ3 0 = some (.inl (σ4, -8)) := d1
    have e5 : x_X3_writeFour_b3 x σ4 (-8) = some (.inr σ4) := by unfold x_X3_writeFour_b3; rw [if_pos (by decide)]
    rw [lup_inl (f := fun (s4 : Mm × Int) => x_X3_writeFour_b3 x s4.1 s4.2) (s := (σ, (24 : Int))) e1, lup_inl (f := fun (s4 : Mm × Int) => x_X3_writeFour_b3 x s4.1 s4.2) (s := (σ1, (16 : Int))) e2, lup_inl (f := fun (s4 : Mm × Int) => x_X3_writeFour_b3 x s4.1 s4.2) (s := (σ2, (8 : Int))) e3, lup_inl (f := fun (s4 : Mm × Int) => x_X3_writeFour_b3 x s4.1 s4.2) (s := (σ3, (0 : Int))) e4, lup_inr (f := fun (s4 : Mm × Int) => x_X3_writeFour_b3 x s4.1 s4.2) (s := (σ4, (-8 : Int))) e5]
    rfl
  · unfold x_X7_type
    have e1 : x_X7_type_b3 x m 24 = some (.inl (m1, 16)) := a2
    have e2 : x_X7_type_b3 x m1 16 = some (.inl (m2, 8)) := b2
    have e3 : x_X7_type_b3 x m2 8 = some (.inl (m3, 0)) := c2
    have e4 : x_X7_type_b3 x m3 0 = some (.inl (m4, -8)) := d2
    have e5 : x_X7_type_b3 x m4 (-8) = some (.inr m4) := by unfold x_X7_type_b3; rw [if_pos (by decide)]
    rw [lup_inl (f := fun (s6 : Mm × Int) => x_X7_type_b3 x s6.1 s6.2) (s := (m, (24 : Int))) e1, lup_inl (f := fun (s6 : Mm × Int) => x_X7_type_b3 x s6.1 s6.2) (s := (m1, (16 : Int))) e2, lup_inl (f := fun (s6 : Mm × Int) => x_X7_type_b3 x s6.1 s6.2) (s := (m2, (8 : Int))) e3, lup_inl (f := fun (s6 : Mm × Int) => x_X7_type_b3 x s6.1 s6.2) (s := (m3, (0 : Int))) e4, lup_inr (f := fun (s6 : Mm × Int) => x_X7_type_b3 x s6.1 s6.2) (s := (m4, (-8 : Int))) e5]
    rfl
/-- a text changed in the class's reader (cells 74, 75) and the model -/
theorem R_text {N : Nat} {c m σ' m' : Mm} {L : Nat} (h : REL N c m) (hT : TR2 σ' m' L) (hL : L ≤ 500) (hF : TF (zb zl_41 c) σ' m m') : REL N (zj zl_41 c σ') m' := by
  have e1 : ∀ i, i < 101 → (i < 74 ∨ 77 ≤ i) → zj zl_41 c σ' i = c i := fun i h1 h2 => by
    rw [zj_q _ _ _ _ (q_41 i h1), if_neg (by omega)]; rfl
  obtain ⟨r1, r2, r3, r4, -, ⟨P, p1, p2, p3, p4⟩⟩ := h
  obtain ⟨f1, f2, f3, f4⟩ := hF
  refine ⟨by rw [f4 1 (by omega) (by omega)]; exact r1, by rw [f4 1 (by omega) (by omega)]; exact MR_cells (fun i hi => e1 _ (by omega) (by omega)) r2, HRel_eq (fun i hi => e1 _ (by omega) (by omega)) (f3 3 (by omega)) (fun i i1 i2 => f4 i (by omega) (by omega)) r3, SRel_eq (fun i i1 i2 => e1 i (by omega) (by omega)) (fun i i1 i2 => f4 i (by omega) (by omega)) r4, ⟨L, hL, hT.1, hT.2.1, hT.2.2⟩, ⟨P, p1, by rw [e1 99 (by omega) (by omega)]; exact p2, by rw [f3 10 (by omega)]; exact p3, fun i hi => by rw [e1 100 (by omega) (by omega), f4 19 (by omega) (by omega)]; exact p4 i hi⟩⟩
theorem b41 (c σ' : Mm) : zb zl_41 (zj zl_41 c σ') 0 = σ' 0 ∧ zb zl_41 (zj zl_41 c σ') 1 = σ' 1 ∧ zb zl_41 (zj zl_41 c σ') 2 = σ' 2 := ⟨rfl, rfl, rfl⟩
theorem TR2_b {c σ' m : Mm} {L : Nat} (h : TR2 σ' m L) : TR2 (zb zl_41 (zj zl_41 c σ')) m L := h
/-- four bytes more on both sides, in the whole class -/
theorem R_four {N : Nat} {c m : Mm} {L : Nat} (h : REL N c m) (hT : TR2 (zb zl_41 c) m L) (hL : L + 4 ≤ 500) (x : Int) : ∃ σ' m', x_X3_writeFour (zb zl_41 c) x = some σ' ∧ x_X7_type m x = some m' ∧ REL N (zj zl_41 c σ') m' ∧ TR2 (zb zl_41 (zj zl_41 c σ')) m' (L + 4) ∧ m' 0 0 = m 0 0 := by
  obtain ⟨σ', m', a1, a2, a3, a4⟩ := four_bytes hT hL x
  exact ⟨σ', m', a1, a2, R_text h a3 hL a4, a3, a4.2.2.1 0 (by omega)⟩
theorem R_T {N : Nat} {c m : Mm} (h : REL N c m) : ∃ L, L ≤ 500 ∧ TR2 (zb zl_41 c) m L := by
  obtain ⟨r1, r2, r3, r4, ⟨L, t1, t2, t3, t4⟩, -⟩ := h
  exact ⟨L, t1, t2, t3, t4⟩
theorem c_append {N : Nat} {c m : Mm} (h : REL N c m) (p1 p2 p3 p4 p5 : Int) : OK1 N (x_X6_append c p1 p2 p3 p4 p5) (x_X7_append m p1 p2 p3 p4 p5) := by
  have h0 := REL_eq h (CE_r c) (ME_0 m 0)
  obtain ⟨L, l1, l2⟩ := R_T h0
  unfold x_X6_append x_X7_append
  have e74 : c 74 1 = (L : Int) := l2.1
  have e08 : zu m 0 0 0 0 8 = (L : Int) := l2.2.1
  rw [bnd_eq, e74, e08, show (L : Int) + 20 = ((L + 20 : Nat) : Int) by omega]
  by_cases e : L + 20 ≤ 500
  · have e' : zw ((L + 20 : Nat) : Int) ≤ zw (500 : Int) := by rw [zwn (by omega), zw_eq (x := (500 : Int)) (by omega) (by omega)]; omega
    rw [if_pos e', if_pos e']
    obtain ⟨s1, m1, a1, a2, a3, a4, -⟩ := R_four h0 l2 (by omega) p1
    obtain ⟨s2, m2, b1, b2, b3, b4, -⟩ := R_four a3 a4 (by omega) p2
    obtain ⟨s3, m3, c1, c2, c3, c4, -⟩ := R_four b3 b4 (by omega) p3
    obtain ⟨s4, m4, d1, d2, d3, d4, -⟩ := R_four c3 c4 (by omega) p4
    obtain ⟨s5, m5, f1, f2, f3, f4, -⟩ := R_four d3 d4 (by omega) p5
    rw [a1, Option.bind_some, bnd_eq, b1, Option.bind_some, bnd_eq, c1, Option.bind_some, bnd_eq, d1, Option.bind_some, bnd_eq, f1, Option.bind_some, bnd_eq, a2, Option.bind_some, b2, Option.bind_some, c2, Option.bind_some, d2, Option.bind_some, f2, Option.bind_some]
    refine ⟨_, _, ((L + 4 + 4 + 4 + 4 + 4 : Nat) : Int), ?_, ?_, f3⟩
    · rw [← f4.1]; rfl
    · rw [← f4.2.1]
  · have e' : ¬ zw ((L + 20 : Nat) : Int) ≤ zw (500 : Int) := by rw [zwn (by omega), zw_eq (x := (500 : Int)) (by omega) (by omega)]; omega
    rw [if_neg e', if_neg e']
    exact ⟨_, _, _, rfl, rfl, h0⟩
theorem c_truncate {N : Nat} {c m : Mm} (h : REL N c m) {a : Int} (ha : zw a = a) : OK2 N [(0, 1)] c (x_X6_truncate c a) (x_X7_truncate m a) := by
  have h0 := REL_eq h (CE_r c) (ME_0 m 0)
  obtain ⟨L, l1, l2⟩ := R_T h0
  unfold x_X6_truncate x_X7_truncate
  have e74 : c 74 1 = (L : Int) := l2.1
  have e08 : zu m 0 0 0 0 8 = (L : Int) := l2.2.1
  rw [bnd_eq, e74, e08, X6_within a (l := 0) (h := (L : Int)) (by decide) (zwn (by omega)), ha, Option.bind_some]
  by_cases e : 0 ≤ a ∧ a ≤ (L : Int)
  · obtain ⟨n, hn⟩ : ∃ n : Nat, a = (n : Int) := ⟨a.toNat, by omega⟩
    subst hn
    rw [if_pos e, req_1, Option.bind_some, bad_ok (l := 0) (h := (L : Int)) (by decide) (by rw [zi2l_toInt]; exact zwn (by omega)) ha e, Option.bind_some, un2_mk, if_pos d00, bnd_eq]
    show OK2 N _ c (inlO _) _
    unfold x_X3_shorten
    rw [bnd_eq, Option.bind_some, bnd_eq]
    have hT : TR2 (zu (zb zl_41 c) 0 1 (n : Int)) (zu (zu m 0 0 0) 0 8 (n : Int)) n := ⟨zu_hit _ _ _ _, zu_hit _ _ _ _, fun i hi => l2.2.2 i (by omega)⟩
    refine .inl ⟨_, _, (n : Int), rfl, by rw [zu_hit], rfl, R_text h0 hT (by omega) ⟨fun j hj => zu_miss _ _ _ _ (fun _ => hj), fun k hk => ?_, fun j hj => zu_miss _ _ _ _ (fun _ => hj), fun k k1 k2 => ?_⟩⟩
    · unfold zu; rw [if_neg (by omega)]
    · unfold zu; rw [if_neg k1]
  · rw [if_neg e, req_0, Option.bind_some, bad_no (l := 0) (h := (L : Int)) (by decide) (by rw [zi2l_toInt]; exact zwn (by omega)) ha e, Option.bind_some, un2_mk, if_neg d10]
    exact .inr ⟨0, 1, _, _, .head _, rfl, rfl, rfl, REL_eq h0 (CE_r c) (ME_0 _ 1)⟩
theorem c_match {N : Nat} {c m : Mm} (h : REL N c m) {a : Int} (ha : zw a = a) : OK3 N [(0, 1)] c (x_X6_match c a) (x_X7_match m a) := by
  have h0 := REL_eq h (CE_r c) (ME_0 m 0)
  unfold x_X6_match x_X7_match
  rw [bnd_eq]
  by_cases e : 0 ≤ a ∧ a ≤ 16
  · rw [wi_ok (l := 0) (h := 16) (by decide) (by decide) ha e, Option.bind_some, req_1, Option.bind_some, bad_ok (l := 0) (h := 16) (by decide) (by decide) ha e, Option.bind_some, un2_mk, if_pos d00]
    show OK3 N _ c (inlO _) _
    have hM := R_now h0
    obtain ⟨⟨a0, a1, a2, a3, a4, a5, a6, a7, a8, a9, a10, a11, a12⟩, ⟨s0, s1⟩, -⟩ := id hM
    have a0 : c 1 0 = m 1 0 := a0
    have a1 : c 1 1 = m 1 1 := a1
    have a2 : c 1 2 = m 1 2 := a2
    have a4 : c 1 4 = m 1 3 := a4
    have a5 : c 1 5 = m 1 4 := a5
    have a6 : c 1 6 = m 1 5 := a6
    have a8 : c 1 8 = m 1 6 := a8
    have a9 : c 1 9 = m 1 10 := a9
    have a10 : c 1 10 = m 1 11 := a10
    have a11 : c 1 14 = m 1 13 := a11
    have a12 : c 1 16 = m 1 14 := a12
    have fin : ∀ (x : Option Int) (y : Option (Mm × Int)) (v : Int), x = some v → y = some (zu m 0 0 0, v) → OK3 N [(0, 1)] c (inlO x) y := fun x y v hx hy => .inl ⟨_, v, by rw [hx]; rfl, hy, rfl, h0⟩
    have hd := V_d h0.1
    have ho := V_o h0.1
    have hcase : a = 0 ∨ a = 1 ∨ a = 2 ∨ a = 3 ∨ a = 4 ∨ a = 5 ∨ a = 6 ∨ a = 7 ∨ a = 8 ∨ a = 9 ∨ a = 10 ∨ a = 11 ∨ a = 12 ∨ a = 13 ∨ a = 14 ∨ a = 15 ∨ a = 16 := by omega
    rcases hcase with q | q | q | q | q | q | q | q | q | q | q | q | q | q | q | q | q <;> subst q
    · refine fin _ _ (m 1 0) ?_ ?_
      · rw [if_pos (by decide)]; exact congrArg some a0
      · rw [if_neg (by decide), if_neg (by decide), if_neg (by decide), if_neg (by decide), if_neg (by decide), if_neg (by decide), if_neg (by decide), if_neg (by decide), if_neg (by decide), if_neg (by decide)]; rw [if_pos zc0]; rfl
    · refine fin _ _ (m 1 1) ?_ ?_
      · rw [if_neg (by decide), if_pos (by decide)]; exact congrArg some a1
      · rw [if_neg (by decide), if_neg (by decide), if_neg (by decide), if_neg (by decide), if_neg (by decide), if_neg (by decide), if_neg (by decide), if_neg (by decide), if_neg (by decide), if_neg (by decide)]; rw [if_pos zc1]; rfl
    · refine fin _ _ (m 1 2) ?_ ?_
      · rw [if_neg (by decide), if_neg (by decide), if_pos (by decide)]; exact congrArg some a2
      · rw [if_neg (by decide), if_neg (by decide), if_neg (by decide), if_neg (by decide), if_neg (by decide), if_neg (by decide), if_neg (by decide), if_neg (by decide), if_neg (by decide), if_neg (by decide)]; rw [if_pos zc2]; rfl
    · refine fin _ _ (m 1 3) ?_ ?_
      · rw [if_neg (by decide), if_neg (by decide), if_neg (by decide), if_pos (by decide)]; exact congrArg some a4
      · rw [if_neg (by decide), if_neg (by decide), if_neg (by decide), if_neg (by decide), if_neg (by decide), if_neg (by decide), if_neg (by decide), if_neg (by decide), if_neg (by decide), if_neg (by decide)]; rw [if_pos zc3]; rfl
    · refine fin _ _ (m 1 4) ?_ ?_
      · rw [if_neg (by decide), if_neg (by decide), if_neg (by decide), if_neg (by decide), if_pos (by decide)]; exact congrArg some a5
      · rw [if_neg (by decide), if_neg (by decide), if_neg (by decide), if_neg (by decide), if_neg (by decide), if_neg (by decide), if_neg (by decide), if_neg (by decide), if_neg (by decide), if_neg (by decide)]; rw [if_pos zc4]; rfl
    · refine fin _ _ (m 1 5) ?_ ?_
      · rw [if_neg (by decide), if_neg (by decide), if_neg (by decide), if_neg (by decide), if_neg (by decide), if_pos (by decide)]; rw [a6]; show (if zw (m 1 5) = 0 then _ else _) = _; have hd : m 1 5 = 0 ∨ m 1 5 = 1 := hd; rcases hd with w | w <;> rw [w] <;> rfl
      · rw [if_neg (by decide), if_neg (by decide), if_neg (by decide), if_neg (by decide), if_neg (by decide), if_neg (by decide), if_neg (by decide), if_neg (by decide), if_neg (by decide), if_neg (by decide)]; rw [if_pos zc5]; rfl
    · refine fin _ _ (m 1 6) ?_ ?_
      · rw [if_neg (by decide), if_neg (by decide), if_neg (by decide), if_neg (by decide), if_neg (by decide), if_neg (by decide), if_pos (by decide)]; rw [a8]; show (if zw (m 1 6) = 0 then _ else _) = _; have ho : m 1 6 = 0 ∨ m 1 6 = 1 := ho; rcases ho with w | w <;> rw [w] <;> rfl
      · rw [if_neg (by decide), if_neg (by decide), if_neg (by decide), if_neg (by decide), if_neg (by decide), if_neg (by decide), if_neg (by decide), if_neg (by decide), if_neg (by decide), if_neg (by decide)]; rw [if_pos zc6]; rfl
    · refine fin _ _ (moR (zu m 0 0 0 1)) ?_ ?_
      · rw [if_neg (by decide), if_neg (by decide), if_neg (by decide), if_neg (by decide), if_neg (by decide), if_neg (by decide), if_neg (by decide), if_pos (by decide)]; rw [X2_moR h0.1 hM, Option.bind_some]; rcases moR_01 (zu m 0 0 0 1) with w | w <;> rw [w] <;> rfl
      · rw [if_pos (by decide)]; rw [X7_moR h0.1, Option.bind_some]; rcases moR_01 (zu m 0 0 0 1) with w | w <;> rw [w] <;> rfl
    · refine fin _ _ (52 - m 1 13) ?_ ?_
      · rw [if_neg (by decide), if_neg (by decide), if_neg (by decide), if_neg (by decide), if_neg (by decide), if_neg (by decide), if_neg (by decide), if_neg (by decide), if_pos (by decide)]; show some (52 - c 1 14) = _; rw [a11]
      · rw [if_neg (by decide), if_pos (by decide)]; rw [X7_stock]; rfl
    · refine fin _ _ (m 1 14) ?_ ?_
      · rw [if_neg (by decide), if_neg (by decide), if_neg (by decide), if_neg (by decide), if_neg (by decide), if_neg (by decide), if_neg (by decide), if_neg (by decide), if_neg (by decide), if_pos (by decide)]; exact congrArg some a12
      · rw [if_neg (by decide), if_neg (by decide), if_pos (by decide)]; rw [if_pos zc14]; rfl
    · rw [if_neg (by decide), if_neg (by decide), if_neg (by decide), if_neg (by decide), if_neg (by decide), if_neg (by decide), if_neg (by decide), if_neg (by decide), if_neg (by decide), if_neg (by decide), if_pos (by decide), if_neg (by decide), if_neg (by decide), if_neg (by decide), if_pos (by decide)]
      rcases X2_top h0.1 hM with ⟨z1, z2⟩ | ⟨p, k, z1, z2, z3, z4, z5⟩
      · rcases X7_top h0.1 with ⟨y1, y2⟩ | ⟨p', k', y1, y2, y3, y4, y5⟩
        · rw [z2, y2]
          exact fin _ _ (-1) rfl rfl
        · omega
      · rcases X7_top h0.1 with ⟨y1, y2⟩ | ⟨p', k', y1, y2, y3, y4, y5⟩
        · omega
        · have hp : p' = p := by omega
          subst hp
          have hk : k' = k := by rw [z4] at y4; omega
          subst hk
          rw [z5, y5]
          exact fin _ _ (k' : Int) rfl rfl
    · refine fin _ _ (m 1 8) ?_ ?_
      · rw [if_neg (by decide), if_neg (by decide), if_neg (by decide), if_neg (by decide), if_neg (by decide), if_neg (by decide), if_neg (by decide), if_neg (by decide), if_neg (by decide), if_neg (by decide), if_neg (by decide), if_pos (by decide)]; exact congrArg some s0
      · rw [if_neg (by decide), if_neg (by decide), if_neg (by decide), if_neg (by decide), if_pos (by decide)]; rw [if_pos zc8]; rfl
    · refine fin _ _ (m 1 9) ?_ ?_
      · rw [if_neg (by decide), if_neg (by decide), if_neg (by decide), if_neg (by decide), if_neg (by decide), if_neg (by decide), if_neg (by decide), if_neg (by decide), if_neg (by decide), if_neg (by decide), if_neg (by decide), if_neg (by decide), if_pos (by decide)]; exact congrArg some s1
      · rw [if_neg (by decide), if_neg (by decide), if_neg (by decide), if_neg (by decide), if_neg (by decide), if_pos (by decide)]; rw [if_pos zc9]; rfl
    · refine fin _ _ (m 1 10) ?_ ?_
      · rw [if_neg (by decide), if_neg (by decide), if_neg (by decide), if_neg (by decide), if_neg (by decide), if_neg (by decide), if_neg (by decide), if_neg (by decide), if_neg (by decide), if_neg (by decide), if_neg (by decide), if_neg (by decide), if_neg (by decide), if_pos (by decide)]; exact congrArg some a9
      · rw [if_neg (by decide), if_neg (by decide), if_neg (by decide), if_neg (by decide), if_neg (by decide), if_neg (by decide), if_pos (by decide)]; rw [if_pos zc10]; rfl
    · refine fin _ _ (m 1 11) ?_ ?_
      · rw [if_neg (by decide), if_neg (by decide), if_neg (by decide), if_neg (by decide), if_neg (by decide), if_neg (by decide), if_neg (by decide), if_neg (by decide), if_neg (by decide), if_neg (by decide), if_neg (by decide), if_neg (by decide), if_neg (by decide), if_neg (by decide), if_pos (by decide)]; exact congrArg some a10
      · rw [if_neg (by decide), if_neg (by decide), if_neg (by decide), if_neg (by decide), if_neg (by decide), if_neg (by decide), if_neg (by decide), if_pos (by decide)]; rw [if_pos zc11]; rfl
    · refine fin _ _ (m 0 3) ?_ ?_
      · rw [if_neg (by decide), if_neg (by decide), if_neg (by decide), if_neg (by decide), if_neg (by decide), if_neg (by decide), if_neg (by decide), if_neg (by decide), if_neg (by decide), if_neg (by decide), if_neg (by decide), if_neg (by decide), if_neg (by decide), if_neg (by decide), if_neg (by decide), if_pos (by decide)]; obtain ⟨-, -, ⟨e, k, Pf, q1, q2, q3, q4, -⟩, -⟩ := h0; exact congrArg some (q3.trans q4.symm)
      · rw [if_neg (by decide), if_neg (by decide), if_neg (by decide), if_neg (by decide), if_neg (by decide), if_neg (by decide), if_neg (by decide), if_neg (by decide), if_pos (by decide)]; rfl
    · refine fin _ _ (m 0 8) ?_ ?_
      · rw [if_neg (by decide), if_neg (by decide), if_neg (by decide), if_neg (by decide), if_neg (by decide), if_neg (by decide), if_neg (by decide), if_neg (by decide), if_neg (by decide), if_neg (by decide), if_neg (by decide), if_neg (by decide), if_neg (by decide), if_neg (by decide), if_neg (by decide), if_neg (by decide)]; obtain ⟨L, l1, l2⟩ := R_T h0; exact congrArg some (l2.1.trans l2.2.1.symm)
      · rw [if_neg (by decide), if_neg (by decide), if_neg (by decide), if_neg (by decide), if_neg (by decide), if_neg (by decide), if_neg (by decide), if_neg (by decide), if_neg (by decide), if_pos (by decide)]; rfl
  · rw [wi_no (l := 0) (h := 16) (by decide) (by decide) ha e, Option.bind_some, req_0, Option.bind_some, bad_no (l := 0) (h := 16) (by decide) (by decide) ha e, Option.bind_some, un2_mk, if_neg d10]
    exact .inr ⟨0, 1, _, _, .head _, rfl, rfl, rfl, REL_eq h0 (CE_r c) (ME_0 _ 1)⟩
