/-! the told text, read by the class -/
theorem text_head {σ : Mm} {L : Nat} {b : Nat → Nat} {N H K T p1 p2 p3 p4 p5 s1 s2 s3 s4 s5 : Nat} (h : TBc σ L b) (h2 : σ 0 2 = 0) (k0 : tok L b 0 = (5, 0, 1, 0)) (k1 : tok L b 5 = (p1, s1, 2, N)) (k2 : tok L b p1 = (p2, s2, 2, H)) (k3 : tok L b p2 = (p3, s3, 2, K)) (k4 : tok L b p3 = (p4, s4, 2, T)) (k5 : tok L b p4 = (p5, s5, 3, 0)) (hp : 5 ≤ L ∧ p1 ≤ L ∧ p2 ≤ L ∧ p3 ≤ L ∧ p4 ≤ L) (hw : wmF b 0 1 (zsLen.getD 1 0) 0 = true) (hN : N ≤ 999999999) (hH : 7 ≤ H ∧ H ≤ 10) (hK : K ≤ 20) (hT : 20 ≤ T ∧ T ≤ 500) : ∃ σ', x_X3_readHead σ = some (σ', 0) ∧ TBc σ' L b ∧ σ' 0 2 = (p5 : Int) ∧ HF σ σ' ∧ σ' 3 0 = (H : Int) ∧ σ' 3 1 = (K : Int) ∧ σ' 3 2 = (T : Int) ∧ zL (σ' 3 3) = zi2l (N : Int) := by
  obtain ⟨ρ, m', r1, r2, r3, -⟩ := adv2 (TBc_13 h) (a := 0) h2 (by omega) k0
  have f2 := AF_13 r3
  have T2 := TBc_F h f2
  have y2 := SY_13' (σ := σ) r2
  unfold x_X3_readHead
  rw [r1, Option.bind_some, bnd_eq]
  have e22 : zj zl_13 σ ρ 0 2 = ((5 : Nat) : Int) := y2.2.1
  generalize zj zl_13 σ ρ = σ2 at f2 T2 y2 e22 ⊢
  rw [word2 (SY_13 y2) (by omega) rfl hw, Option.bind_some, if_pos w1p]
  obtain ⟨ρ1, n1, n2, n3, n4, n5, -⟩ := hnum (lo := 0) (hi := 999999999) (lI := 0) (hI := 999999999) T2 e22 (by omega) k1 rfl rfl (by omega) (by omega) (by omega)
  rw [n1, Option.bind_some, un2_mk, bnd_eq, bnd_eq, n2, if_neg z0n]
  have H2 := HF_of f2
  have H3 := HF_t (HF_t H2 (HF_of n5)) (HF_u (zj zl_13 σ2 ρ1) 3 (Int64.toInt (zi2l (N : Int))))
  have T3 : TBc (zu (zj zl_13 σ2 ρ1) 3 3 (Int64.toInt (zi2l (N : Int)))) L b := TBc_A n3 rfl rfl
  have P3 : zu (zj zl_13 σ2 ρ1) 3 3 (Int64.toInt (zi2l (N : Int))) 0 2 = (p1 : Int) := n4
  generalize hσ3 : zu (zj zl_13 σ2 ρ1) 3 3 (Int64.toInt (zi2l (N : Int))) = σ3 at H3 T3 P3 ⊢
  have g33 : σ3 3 3 = Int64.toInt (zi2l (N : Int)) := by rw [← hσ3, zu_hit]
  obtain ⟨ρ2, o1, o2, o3, o4, o5, -⟩ := hnum (lo := 7) (hi := 10) (lI := 7) (hI := 10) T3 P3 (by omega) k2 rfl rfl (by omega) (by omega) (by omega)
  rw [o1, Option.bind_some, un2_mk, bnd_eq, bnd_eq, o2]
  have H4 := HF_t (HF_t H3 (HF_of o5)) (HF_u (zj zl_13 σ3 ρ2) 0 (H : Int))
  have T4 : TBc (zu (zj zl_13 σ3 ρ2) 3 0 (H : Int)) L b := TBc_A o3 rfl rfl
  have P4 : zu (zj zl_13 σ3 ρ2) 3 0 (H : Int) 0 2 = (p2 : Int) := o4
  have c4 : zj zl_13 σ3 ρ2 3 = σ3 3 := o5.1 3 (by omega)
  generalize hσ4 : zu (zj zl_13 σ3 ρ2) 3 0 (H : Int) = σ4 at H4 T4 P4 ⊢
  have g43 : σ4 3 3 = Int64.toInt (zi2l (N : Int)) := by rw [← hσ4, zu_miss _ _ _ _ (fun _ => by omega), c4, g33]
  have g40 : σ4 3 0 = (H : Int) := by rw [← hσ4, zu_hit]
  unfold x_X3_readHead_j57
  rw [if_neg z0n]
  obtain ⟨ρ3, u1, u2, u3, u4, u5, -⟩ := hnum (lo := 0) (hi := 20) (lI := 0) (hI := 20) T4 P4 (by omega) k3 rfl rfl (by omega) (by omega) (by omega)
  rw [u1, Option.bind_some, un2_mk, bnd_eq, bnd_eq, u2]
  have H5 := HF_t (HF_t H4 (HF_of u5)) (HF_u (zj zl_13 σ4 ρ3) 1 (K : Int))
  have T5 : TBc (zu (zj zl_13 σ4 ρ3) 3 1 (K : Int)) L b := TBc_A u3 rfl rfl
  have P5 : zu (zj zl_13 σ4 ρ3) 3 1 (K : Int) 0 2 = (p3 : Int) := u4
  have c5 : zj zl_13 σ4 ρ3 3 = σ4 3 := u5.1 3 (by omega)
  generalize hσ5 : zu (zj zl_13 σ4 ρ3) 3 1 (K : Int) = σ5 at H5 T5 P5 ⊢
  have g53 : σ5 3 3 = Int64.toInt (zi2l (N : Int)) := by rw [← hσ5, zu_miss _ _ _ _ (fun _ => by omega), c5, g43]
  have g50 : σ5 3 0 = (H : Int) := by rw [← hσ5, zu_miss _ _ _ _ (fun _ => by omega), c5, g40]
  have g51 : σ5 3 1 = (K : Int) := by rw [← hσ5, zu_hit]
  unfold x_X3_readHead_j77
  rw [if_neg z0n]
  obtain ⟨ρ4, x1, x2, x3, x4, x5, -⟩ := hnum (lo := 20) (hi := 500) (lI := 20) (hI := 500) T5 P5 (by omega) k4 rfl rfl (by omega) (by omega) (by omega)
  rw [x1, Option.bind_some, un2_mk, bnd_eq, bnd_eq, x2, if_neg z0n]
  have H6 := HF_t (HF_t H5 (HF_of x5)) (HF_u (zj zl_13 σ5 ρ4) 2 (T : Int))
  have T6 : TBc (zu (zj zl_13 σ5 ρ4) 3 2 (T : Int)) L b := TBc_A x3 rfl rfl
  have P6 : zu (zj zl_13 σ5 ρ4) 3 2 (T : Int) 0 2 = (p4 : Int) := x4
  have c6 : zj zl_13 σ5 ρ4 3 = σ5 3 := x5.1 3 (by omega)
  generalize hσ6 : zu (zj zl_13 σ5 ρ4) 3 2 (T : Int) = σ6 at H6 T6 P6 ⊢
  have g63 : σ6 3 3 = Int64.toInt (zi2l (N : Int)) := by rw [← hσ6, zu_miss _ _ _ _ (fun _ => by omega), c6, g53]
  have g60 : σ6 3 0 = (H : Int) := by rw [← hσ6, zu_miss _ _ _ _ (fun _ => by omega), c6, g50]
  have g61 : σ6 3 1 = (K : Int) := by rw [← hσ6, zu_miss _ _ _ _ (fun _ => by omega), c6, g51]
  have g62 : σ6 3 2 = (T : Int) := by rw [← hσ6, zu_hit]
  obtain ⟨ρ5, m5, y1, y2, y3, -⟩ := adv2 (TBc_13 T6) P6 (by omega) k5
  have f7 := AF_13 y3
  have e4 : ρ5 0 4 = ((3 : Nat) : Int) := y2.2.2.2.2.2.2.2.2.1
  have hs : x_X3_readSemicolon (zb zl_13 σ6) = some (ρ5, 0) := by
    unfold x_X3_readSemicolon
    rw [y1, Option.bind_some, e4, if_neg (fun z => z rfl)]
  rw [hs, Option.bind_some, un2_mk, bnd_eq]
  have c7 : zj zl_13 σ6 ρ5 3 = σ6 3 := f7.1 3 (by omega)
  refine ⟨_, rfl, TBc_F T6 f7, by rw [z13]; exact y2.2.1, HF_t H6 (HF_of f7), by rw [c7, g60], by rw [c7, g61], by rw [c7, g62], by rw [c7, g63]; exact Int64.ofInt_toInt _⟩
theorem text_deck {σ : Mm} {L p : Nat} {b : Nat → Nat} (h : TBc σ L b) (h2 : σ 0 2 = (p : Int)) (hp : p ≤ L) (k : tok L b p = (L, L, 0, 0)) : ∃ σ', x_X3_readDeck σ = some (σ', 0) ∧ σ' 0 4 = 0 ∧ σ' 0 7 = 0 ∧ DF σ σ' := by
  have F0 : DF σ (zu σ 0 7 0) := ⟨fun c h0 _ => by unfold zu; rw [if_neg h0], fun j hj h7 => zu_miss _ _ _ _ (fun _ => h7)⟩
  have T0 : TBc (zu σ 0 7 0) L b := TBc_A h (zu_miss _ _ _ _ (fun _ => by omega)) rfl
  have P0 : zu σ 0 7 0 0 2 = (p : Int) := h2
  have S0 : zu σ 0 7 0 0 7 = 0 := zu_hit _ _ _ _
  unfold x_X3_readDeck
  rw [bnd_eq]
  generalize zu σ 0 7 0 = σ1 at F0 T0 P0 S0 ⊢
  obtain ⟨σ2, m2, r1, r2, r3, -⟩ := adv2 T0 P0 hp k
  have e4 : σ2 0 4 = ((0 : Nat) : Int) := r2.2.2.2.2.2.2.2.2.1
  have hw : x_X3_isWord σ2 2 = some 0 := by
    unfold x_X3_isWord
    rw [e4, if_pos (by decide)]
  rw [r1, Option.bind_some, hw, Option.bind_some, if_neg z0n]
  exact ⟨σ2, rfl, e4, (r3.2 7 (by omega)).trans S0, DF_t F0 (DF_of r3)⟩
/-- what the text's letters must give -/
def told (L : Nat) (b : Nat → Nat) (N H K T : Nat) : Prop := ∃ p1 p2 p3 p4 p5 s1 s2 s3 s4 s5 : Nat, tok L b 0 = (5, 0, 1, 0) ∧ tok L b 5 = (p1, s1, 2, N) ∧ tok L b p1 = (p2, s2, 2, H) ∧ tok L b p2 = (p3, s3, 2, K) ∧ tok L b p3 = (p4, s4, 2, T) ∧ tok L b p4 = (p5, s5, 3, 0) ∧ tok L b p5 = (L, L, 0, 0) ∧ (5 ≤ L ∧ p1 ≤ L ∧ p2 ≤ L ∧ p3 ≤ L ∧ p4 ≤ L) ∧ p5 ≤ L ∧ wmF b 0 1 (zsLen.getD 1 0) 0 = true ∧ N ≤ 999999999 ∧ (7 ≤ H ∧ H ≤ 10) ∧ K ≤ 20 ∧ 20 ≤ T ∧ T ≤ 500
theorem text_deal {τ : Mm} {L : Nat} {b : Nat → Nat} {N H K T : Nat} (h : TBc τ L b) (ht : told L b N H K T) : ∃ σ', x_X3_readDeal τ = some (σ', 0) ∧ σ' 0 4 = 0 := by
  obtain ⟨p1, p2, p3, p4, p5, s1, s2, s3, s4, s5, k0, k1, k2, k3, k4, k5, k6, hp, hp5, hw, hN, hH, hK, hT⟩ := ht
  have hc : x_X3_readDeal τ = (x_X3_readHead (zu τ 0 2 0)).bind fun o => un2 o fun σ2 v3 => (if zw v3 ≠ 0 then (if zw v3 ≠ 0 then some (σ2, v3) else cbg σ2 v3) else (x_X3_readDeck (zb zl_13 σ2)).bind fun o => un2 o fun σ12 v13 => bnd (zj zl_13 σ2 σ12) fun σ14 => (if zw v13 ≠ 0 then some (σ14, v13) else cbg σ14 v13)) := rfl
  obtain ⟨σ2, a1, a2, a3, a4, a5, a6, a7, a8⟩ := text_head (TBc_A (σ' := zu τ 0 2 0) h rfl rfl) (zu_hit _ _ _ _) k0 k1 k2 k3 k4 k5 hp hw hN hH hK hT
  obtain ⟨ρ, d1, d2, d3, d4⟩ := text_deck (TBc_13 a2) a3 hp5 k6
  have y0 : zj zl_13 σ2 ρ 0 = ρ 0 := by rw [z13, if_pos (by omega)]
  have y3 : zj zl_13 σ2 ρ 3 = σ2 3 := by rw [z13, if_neg (by omega)]
  have hTD : TD (zj zl_13 σ2 ρ) (fun _ _ => 0) 0 (fun _ => 0) := ⟨by omega, by rw [y0]; exact d3, rfl, fun i hi => by omega, fun i j hi => by omega⟩
  obtain ⟨σ', m', e1, -, -, -, -, e6⟩ := begin_both (N := 0) (n := N) (h := H) (kk := K) (t := T) hTD (by omega) hH.1 hH.2 hK hT (by rw [y3]; exact a5) (by rw [y3]; exact a6) (by rw [y3]; exact a7) (by rw [y3]; exact a8)
  refine ⟨σ', ?_, by rw [e6 0 (by omega) (by omega), y0]; exact d2⟩
  rw [hc, a1, Option.bind_some, un2_mk, if_neg z0n, d1, Option.bind_some, un2_mk, bnd_eq, if_neg z0n, e1]
theorem text_load {N M : Nat} {c m : Mm} {L : Nat} {b : Nat → Nat} {n H K T : Nat} (hR : REL N c m) (hNM : N ≤ M) (h5 : 500 ≤ M) (h : TBc (zb zl_41 c) L b) (ht : told L b n H K T) : ∃ c' v m', x_X6_load c = some (c', v) ∧ 7 ≤ zw v ∧ REL M c' m' := by
  obtain ⟨c', m', v, e1, -, r⟩ := c_load hR hNM h5
  have e9 := e1
  have hT : TBc (zb zl_43 c) L b := TBc_A h rfl rfl
  obtain ⟨σ1, g1, g2⟩ := text_deal hT ht
  have hl : lup (fun (s12 : Mm × Int × Int) => x_X6_load_b14 s12.1 s12.2.1 s12.2.2) (zj zl_43 c σ1, (0 : Int), (0 : Int)) = some (zj zl_43 c σ1, 0) := lup_inr (by
    show x_X6_load_b14 (zj zl_43 c σ1) 0 0 = _
    have e4 : zb zl_41 (zj zl_43 c σ1) 0 4 = 0 := by
      show zj zl_43 c σ1 74 4 = _
      rw [zj_q _ _ _ _ (q_43 74 (by omega)), if_pos (by omega)]
      exact g2
    unfold x_X6_load_b14 x_X3_isAtEnd
    rw [if_neg (by decide), if_neg z0n, e4, if_neg z0n, Option.bind_some, if_pos w1p])
  unfold x_X6_load at e1
  rw [g1, Option.bind_some, un2_mk, bnd_eq, hl, Option.bind_some, un2_mk] at e1
  obtain ⟨σ16, -, e1⟩ := bnd_some e1
  rw [bnd_eq, if_pos d00] at e1
  obtain ⟨σ18, -, e1⟩ := bnd_some e1
  rw [bnd_eq] at e1
  obtain ⟨σ20, -, e1⟩ := bnd_some e1
  rw [bnd_eq] at e1
  have hv : v = c' 1 0 := by
    have e2 := Option.some.inj e1
    exact (congrArg Prod.snd e2).symm.trans (congrFun (congrFun (congrArg Prod.fst e2) 1) 0)
  have h1 : c' 1 0 = m' 1 0 := r.2.1.1.1
  have h2 : 7 ≤ m' 1 0 ∧ m' 1 0 ≤ 10 := r.1.1.1
  refine ⟨c', v, m', e9, ?_, r⟩
  rw [hv, h1, zw_eq (by omega) (by omega)]
  exact h2.1
