/-! both sides at their beginning -/
theorem wb_ok : ∀ u, u < 60 → zand (zi2b (zi2b (zsb 0 u))) 255 = (fb u : Int) := by decide +kernel
theorem first_write : ∀ (n u : Nat) (σ : Mm), u + n = 60 → σ 0 1 = (u : Int) → (∀ i, i < u → zand (σ 1 i) 255 = (fb i : Int)) → ∃ σ', lup (fun (s6 : Mm × Int) => x_X3_write_b2 0 s6.1 s6.2) (σ, (u : Int)) = some σ' ∧ TBc σ' 60 fb ∧ ∀ c, 2 ≤ c → σ' c = σ c := by
  obtain ⟨w1, w2, w3⟩ := str_tab 0 (by omega)
  have wl : x_zlen 0 = some ((60 : Nat) : Int) := w1
  intro n
  induction n with
  | zero =>
    intro u σ hu h1 hb
    have : u = 60 := by omega
    subst this
    refine ⟨σ, lup_inr ?_, ⟨by omega, h1, fun i hi => ⟨fb_lt i hi, hb i hi⟩⟩, fun _ _ => rfl⟩
    show x_X3_write_b2 0 σ ((60 : Nat) : Int) = _
    unfold x_X3_write_b2
    rw [wl, Option.bind_some, if_pos (Int.le_refl _)]
  | succ n ih =>
    intro u σ hu h1 hb
    have hu60 : u < 60 := by omega
    obtain ⟨c1, c2, c3⟩ := w3 u hu60
    have s1 : x_X3_write_b2 0 σ (u : Int) = some (.inl (zu (zu σ 1 u (zi2b (zi2b (zsb 0 u)))) 0 1 ((u + 1 : Nat) : Int), ((u + 1 : Nat) : Int))) := by
      have e : zu σ 1 u (zi2b (zi2b (zsb 0 u))) 0 1 = (u : Int) := h1
      unfold x_X3_write_b2 x_X3_writeByte
      rw [wl, Option.bind_some, if_neg (nle_n hu60 (by omega)), c1, Option.bind_some, h1, if_neg (nlt0 (by omega)), if_neg (nle_l (by omega) (by omega)), if_pos (zin_i (by omega) (by omega) (by omega)), zix_nat (n := u) (by omega), bnd_eq, e, bnd_eq, Option.bind_some, bnd_eq, show (u : Int) + 1 = ((u + 1 : Nat) : Int) by omega]
    obtain ⟨σ', r1, r2, r3⟩ := ih (u + 1) (zu (zu σ 1 u (zi2b (zi2b (zsb 0 u)))) 0 1 ((u + 1 : Nat) : Int)) (by omega) (zu_hit _ _ _ _) (fun i hi => by
      show zand (zu σ 1 u (zi2b (zi2b (zsb 0 u))) 1 i) 255 = _
      by_cases w : i = u
      · subst w; rw [zu_hit]; exact wb_ok i hu60
      · rw [zu_miss _ _ _ _ (fun _ => w)]; exact hb i (by omega))
    rw [lup_inl (f := fun (s6 : Mm × Int) => x_X3_write_b2 0 s6.1 s6.2) (s := (σ, (u : Int))) s1]
    exact ⟨σ', r1, r2, fun c hc => by rw [r3 c hc]; unfold zu; rw [if_neg (by omega), if_neg (by omega)]⟩
theorem opt_some {x : Option Mm} (h : x.isSome = true) : x = some (x.getD (fun _ _ => 0)) := by
  cases x with
  | none => cases h
  | some a => rfl
theorem i_0 : x_X0_init (fun _ _ => 0) = some ((x_X0_init (fun _ _ => 0)).getD (fun _ _ => 0)) := opt_some (by decide +kernel)
theorem i_1 : x_X1_init (fun _ _ => 0) = some ((x_X1_init (fun _ _ => 0)).getD (fun _ _ => 0)) := opt_some (by decide +kernel)
theorem i_2 : x_X2_init (fun _ _ => 0) = some ((x_X2_init (fun _ _ => 0)).getD (fun _ _ => 0)) := opt_some (by decide +kernel)
theorem i_3 : x_X3_init (fun _ _ => 0) = some ((x_X3_init (fun _ _ => 0)).getD (fun _ _ => 0)) := opt_some (by decide +kernel)
theorem i_4 : x_X4_init (fun _ _ => 0) = some ((x_X4_init (fun _ _ => 0)).getD (fun _ _ => 0)) := opt_some (by decide +kernel)
theorem i_5 : x_X5_init (fun _ _ => 0) = some ((x_X5_init (fun _ _ => 0)).getD (fun _ _ => 0)) := opt_some (by decide +kernel)
noncomputable def ini6 (B : Mm) : Option Mm := (x_X3_write (zb zl_41 B) 0).bind fun σ16 => bnd (zj zl_41 B σ16) fun σ17 => (x_X3_readDeal (zb zl_42 σ17)).bind fun o => un2 o fun σ18 v19 => bnd (zj zl_42 σ17 σ18) fun σ20 => (x_X3_shorten (zb zl_41 σ20) (0 : Int)).bind fun σ21 => bnd (zj zl_41 σ20 σ21) fun σ22 => some σ22
theorem init6 : ∃ B : Mm, x_X6_init (fun _ _ => 0) = ini6 B ∧ B 74 1 = 0 ∧ B 11 1 = 0 ∧ B 11 2 = 0 ∧ B 63 0 = 0 ∧ B 63 1 = 0 ∧ B 99 1 = 0 := by
  apply Exists.intro
  apply And.intro
  · unfold x_X6_init
    rw [i_2, Option.bind_some, bnd_eq, Option.bind_some, bnd_eq, i_0, Option.bind_some, bnd_eq, bnd_eq, i_3, Option.bind_some, bnd_eq, i_1, Option.bind_some, bnd_eq, i_5, Option.bind_some, bnd_eq, i_4, Option.bind_some, bnd_eq, if_pos (by decide +kernel)]
    rfl
  · refine ⟨?_, ?_, ?_, ?_, ?_, ?_⟩
    all_goals decide +kernel
theorem init7 : ∃ M : Mm, x_X7_init (fun _ _ => 0) = ((x_X7_begin M (1 : Int) (7 : Int) (10 : Int) (100 : Int)).bind fun σ45 => some σ45) ∧ M 0 26 = 14 ∧ (∀ i, i < 14 → M 25 i = (dkD i : Int)) ∧ M 0 3 = 0 ∧ M 0 8 = 0 ∧ M 0 10 = 0 ∧ (∀ i, i < 10 → M 2 i = ((3 + i : Nat) : Int)) ∧ ∀ n, n < 2 → M 13 n = ((14 + n : Nat) : Int) ∧ M 16 n = 0 := by
  apply Exists.intro
  apply And.intro
  · unfold x_X7_init
    simp only [bnd_eq]
    rw [if_pos (by decide +kernel), if_pos (by decide), if_pos (by decide), if_pos (by decide), if_pos (by decide), if_pos (by decide), if_pos (by decide), if_pos (by decide), if_pos (by decide), if_pos (by decide), if_pos (by decide), if_pos (by decide), if_pos (by decide), if_pos (by decide), if_pos (by decide)]
  · refine ⟨?_, ?_, ?_, ?_, ?_, ?_, ?_⟩
    all_goals decide +kernel
theorem q_42 : ∀ c, c < 101 → zq zl_42 c = if 74 ≤ c ∧ c < 77 then some (c - 74) else if 1 ≤ c ∧ c < 6 then some (3 + (c - 1)) else none := by decide +kernel
theorem init_both : ∃ c m : Mm, x_X6_init (fun _ _ => 0) = some c ∧ x_X7_init (fun _ _ => 0) = some m ∧ REL 0 c m := by
  obtain ⟨B, b0, b1, b2, b3, b4, b5, b6⟩ := init6
  obtain ⟨M, m0, m1, m2, m3, m4, m5, m6, m7⟩ := init7
  rw [b0, m0]
  obtain ⟨σ16, w1, w2, w3⟩ := first_write 60 0 (zb zl_41 B) (by omega) b1 (fun i hi => by omega)
  have hw : x_X3_write (zb zl_41 B) 0 = some σ16 := by
    unfold x_X3_write
    rw [show lup (fun (s6 : Mm × Int) => x_X3_write_b2 0 s6.1 s6.2) (zb zl_41 B, (0 : Int)) = some σ16 from w1, Option.bind_some]
  unfold ini6
  rw [hw, Option.bind_some, bnd_eq]
  have s74 : zj zl_41 B σ16 74 = σ16 0 := by rw [zj_q _ _ _ _ (q_41 74 (by omega)), if_pos (by omega)]; rfl
  have s75 : zj zl_41 B σ16 75 = σ16 1 := by rw [zj_q _ _ _ _ (q_41 75 (by omega)), if_pos (by omega)]; rfl
  have so : ∀ i, i < 101 → ¬ (74 ≤ i ∧ i < 77) → zj zl_41 B σ16 i = B i := fun i hi h => by rw [zj_q _ _ _ _ (q_41 i hi), if_neg h]; rfl
  generalize zj zl_41 B σ16 = σ17 at s74 s75 so ⊢
  have hT : TBc (zb zl_42 σ17) 60 fb := ⟨w2.1, by
    show σ17 74 1 = _
    rw [s74]; exact w2.2.1, fun i hi => by
    show fb i < 256 ∧ zand (σ17 75 i) 255 = _
    rw [s75]; exact w2.2.2 i hi⟩
  have hrd : ∃ σ18 m', x_X3_readDeal (zb zl_42 σ17) = some (σ18, 0) ∧ x_X7_begin M (1 : Int) (7 : Int) (10 : Int) (100 : Int) = some m' ∧ V 0 (m' 1) ∧ MR (fun c => σ18 (3 + c)) (m' 1) ∧ RW M m' := by
    generalize zb zl_42 σ17 = τ at hT
    have hc : x_X3_readDeal τ = (x_X3_readHead (zu τ 0 2 0)).bind fun o => un2 o fun σ2 v3 => (if zw v3 ≠ 0 then (if zw v3 ≠ 0 then some (σ2, v3) else cbg σ2 v3) else (x_X3_readDeck (zb zl_13 σ2)).bind fun o => un2 o fun σ12 v13 => bnd (zj zl_13 σ2 σ12) fun σ14 => (if zw v13 ≠ 0 then some (σ14, v13) else cbg σ14 v13)) := rfl
    obtain ⟨σ2, a1, a2, a3, a4, a5, a6, a7, a8⟩ := first_head (TBc_A (σ' := zu τ 0 2 0) hT rfl rfl) (zu_hit _ _ _ _)
    obtain ⟨ρ, d1, d2, d3, d4⟩ := first_deck (TBc_13 a2) a3
    have y0 : zj zl_13 σ2 ρ 0 = ρ 0 := by rw [z13, if_pos (by omega)]
    have y2 : zj zl_13 σ2 ρ 2 = ρ 2 := by rw [z13, if_pos (by omega)]
    have y3 : zj zl_13 σ2 ρ 3 = σ2 3 := by rw [z13, if_neg (by omega)]
    have hTD : TD (zj zl_13 σ2 ρ) M 14 dkD := ⟨by omega, by rw [y0]; exact d2, m1, fun i hi => ⟨(dk_lt i hi).1, by rw [y2]; exact d3 i hi, m2 i hi⟩, fun i j hi hj z => dk_inj i hi j hj z⟩
    obtain ⟨σ', m', e1, e2, e3, e4, e5, e6⟩ := begin_both (N := 0) (n := 1) (h := 7) (kk := 10) (t := 100) hTD (by omega) (by omega) (by omega) (by omega) (by omega) (by rw [y3]; exact a5) (by rw [y3]; exact a6) (by rw [y3]; exact a7) (by rw [y3]; exact a8)
    refine ⟨σ', m', ?_, e2, e3, e4, e5⟩
    rw [hc, a1, Option.bind_some, un2_mk, if_neg z0n, d1, Option.bind_some, un2_mk, bnd_eq, if_neg z0n, e1]
  obtain ⟨σ18, m', r1, r2, r3, r4, r5⟩ := hrd
  rw [r1, r2, Option.bind_some, Option.bind_some, un2_mk, bnd_eq]
  unfold x_X3_shorten
  rw [bnd_eq, Option.bind_some, bnd_eq]
  have t1 : ∀ i, i < 5 → zj zl_42 σ17 σ18 (1 + i) = σ18 (3 + i) := fun i hi => by
    rw [zj_q _ _ _ _ (q_42 (1 + i) (by omega)), if_neg (by omega), if_pos (by omega)]
    show σ18 (3 + (1 + i - 1)) = _
    rw [Nat.add_sub_cancel_left]
  have to : ∀ i, i < 101 → ¬ (74 ≤ i ∧ i < 77) → ¬ (1 ≤ i ∧ i < 6) → zj zl_42 σ17 σ18 i = B i := fun i hi h1 h2 => by
    rw [zj_q _ _ _ _ (q_42 i hi), if_neg h1, if_neg h2]
    exact so i hi h1
  generalize zj zl_42 σ17 σ18 = σ20 at t1 to ⊢
  have c0 : ∀ i, i < 101 → ¬ (74 ≤ i ∧ i < 77) → zj zl_41 σ20 (zu (zb zl_41 σ20) 0 1 0) i = σ20 i := fun i hi h => by rw [zj_q _ _ _ _ (q_41 i hi), if_neg h]; rfl
  have c74 : zj zl_41 σ20 (zu (zb zl_41 σ20) 0 1 0) 74 1 = 0 := by
    rw [zj_q _ _ _ _ (q_41 74 (by omega)), if_pos (by omega)]
    exact zu_hit _ _ _ _
  generalize zj zl_41 σ20 (zu (zb zl_41 σ20) 0 1 0) = c at c0 c74 ⊢
  have cB : ∀ i, i < 101 → ¬ (74 ≤ i ∧ i < 77) → ¬ (1 ≤ i ∧ i < 6) → c i = B i := fun i hi h1 h2 => (c0 i hi h1).trans (to i hi h1 h2)
  refine ⟨c, m', rfl, rfl, r3, MR_cells (fun i hi => (c0 (1 + i) (by omega) (by omega)).trans (t1 i hi)) r4, ?_, fun n hn => ?_, ⟨0, by omega, c74, by rw [r5 0 (by omega)]; exact m4, fun i hi => by omega⟩, ⟨0, by omega, ?_, by rw [r5 0 (by omega)]; exact m5, fun i hi => by omega⟩⟩
  · refine ⟨0, 0, fun i => i, ?_, by omega, ?_, by rw [r5 0 (by omega)]; exact m3, by omega, fun i hi => ⟨by rw [r5 2 (by omega)]; exact m6 i hi, hi⟩, fun i j _ _ z => z, fun i hi => by omega⟩
    · show c 11 1 = _
      rw [cB 11 (by omega) (by omega) (by omega)]; exact b2
    · show c 11 2 = _
      rw [cB 11 (by omega) (by omega) (by omega)]; exact b3
  · rw [r5 13 (by omega), r5 16 (by omega), cB 63 (by omega) (by omega) (by omega)]
    refine ⟨(m7 n hn).1, .inl ⟨?_, (m7 n hn).2⟩⟩
    rcases (show n = 0 ∨ n = 1 by omega) with rfl | rfl
    · exact b4
    · exact b5
  · rw [cB 99 (by omega) (by omega) (by omega)]; exact b6
