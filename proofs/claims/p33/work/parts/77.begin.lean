/-! a new match on both sides, from what the text tells -/
theorem q_15 (c : Nat) : zq zl_15 c = if 3 ≤ c ∧ c < 8 then some (c - 3) else none := by
  rcases c with _ | _ | _ | _ | _ | _ | _ | _ | c
  all_goals rfl
theorem z15_in (σ ρ : Mm) {c : Nat} (h : 3 ≤ c ∧ c < 8) : zj zl_15 σ ρ c = ρ (c - 3) := by
  rw [zj_q _ _ _ _ (q_15 c), if_pos h]; rfl
theorem z15_out (σ ρ : Mm) {c : Nat} (h : c < 3 ∨ 8 ≤ c) : zj zl_15 σ ρ c = σ c := by
  rw [zj_q _ _ _ _ (q_15 c), if_neg (by omega)]; rfl
theorem zb15 (σ : Mm) {c : Nat} (h : c < 5) : zb zl_15 σ c = σ (3 + c) := by
  rcases (show c = 0 ∨ c = 1 ∨ c = 2 ∨ c = 3 ∨ c = 4 by omega) with rfl | rfl | rfl | rfl | rfl <;> rfl
theorem X2_begin (μ : Mm) : ∃ μ', x_X2_begin μ = some μ' ∧ μ' 0 4 = 0 ∧ μ' 0 9 = 0 ∧ μ' 0 10 = -1 ∧ μ' 1 0 = 0 ∧ μ' 1 1 = 0 ∧ (∀ j, j ≠ 4 → j ≠ 9 → j ≠ 10 → μ' 0 j = μ 0 j) ∧ ∀ c, 2 ≤ c → μ' c = μ c := by
  unfold x_X2_begin
  rw [bnd_eq, bnd_eq, bnd_eq, if_pos (by decide), bnd_eq, if_pos (by decide), bnd_eq, show zix (0 : Int) = 0 by decide, show zix (1 : Int) = 1 by decide]
  refine ⟨_, rfl, ?_, ?_, ?_, ?_, ?_, fun j h1 h2 h3 => ?_, fun c hc => ?_⟩
  · rw [zu_miss _ _ _ _ (fun z => by cases z), zu_miss _ _ _ _ (fun z => by cases z), zu_miss _ _ _ _ (fun _ => by decide), zu_miss _ _ _ _ (fun _ => by decide), zu_hit]
  · rw [zu_miss _ _ _ _ (fun z => by cases z), zu_miss _ _ _ _ (fun z => by cases z), zu_miss _ _ _ _ (fun _ => by decide), zu_hit]
  · rw [zu_miss _ _ _ _ (fun z => by cases z), zu_miss _ _ _ _ (fun z => by cases z), zu_hit]
  · rw [zu_miss _ _ _ _ (fun _ => by decide), zu_hit]
  · rw [zu_hit]
  · rw [zu_miss _ _ _ _ (fun z => by cases z), zu_miss _ _ _ _ (fun z => by cases z), zu_miss _ _ _ _ (fun _ => h3), zu_miss _ _ _ _ (fun _ => h2), zu_miss _ _ _ _ (fun _ => h1)]
  · unfold zu
    rw [if_neg (by omega), if_neg (by omega), if_neg (by omega), if_neg (by omega), if_neg (by omega)]
theorem X7_zero (σ : Mm) (p1 p2 p3 p4 : Int) : ∃ σ', lup (fun (s5 : Mm × Int) => x_X7_begin_b3 p1 p2 p3 p4 s5.1 s5.2) (σ, (0 : Int)) = some σ' ∧ RW σ σ' ∧ ∀ j, j < 171 → σ' 1 j = 0 := by
  exact lup_for (f := fun (s5 : Mm × Int) => x_X7_begin_b3 p1 p2 p3 p4 s5.1 s5.2) (fun i s => s.2 = (i : Int) ∧ RW σ s.1 ∧ ∀ j, j < i → s.1 1 j = 0) (fun e => RW σ e ∧ ∀ j, j < 171 → e 1 j = 0) 171 (fun i s hi hs => by
    obtain ⟨τ, u⟩ := s
    obtain ⟨e1, e2, e3⟩ := hs
    simp only at e1 e2 e3
    subst e1
    refine ⟨(zu τ 1 i 0, (i : Int) + 1), ?_, by show (i : Int) + 1 = _; omega, RW_t e2 (RW_u _ _ _), fun j hj => ?_⟩
    · show x_X7_begin_b3 p1 p2 p3 p4 τ (i : Int) = _
      unfold x_X7_begin_b3
      rw [if_neg (by rw [zw_eq (x := (171 : Int)) (by omega) (by omega), zwn (by omega)]; omega), if_pos (zin_i (by omega) (by omega) (by omega)), zix_nat (n := i) (by omega), bnd_eq, bnd_eq]
    · show zu τ 1 i _ 1 j = _
      by_cases w : j = i
      · rw [w, zu_hit]
      · rw [zu_miss _ _ _ _ (fun _ => w)]; exact e3 j (by omega)) (fun s hs => by
    obtain ⟨τ, u⟩ := s
    obtain ⟨e1, e2, e3⟩ := hs
    simp only at e1 e2 e3
    subst e1
    refine ⟨τ, ?_, e2, e3⟩
    show x_X7_begin_b3 p1 p2 p3 p4 τ _ = _
    unfold x_X7_begin_b3
    rw [if_pos (by show zw 171 ≤ zw ((171 : Nat) : Int); decide)]) (s := (σ, 0)) ⟨rfl, RW_r σ, fun j hj => by omega⟩
noncomputable def cbg (σ14 : Mm) (v13 : Int) : Option (Mm × Int) := (x_X2_begin (zb zl_15 σ14)).bind fun σ15 => bnd (zj zl_15 σ14 σ15) fun σ16 => (x_X2_shuffle (zb zl_15 σ16)).bind fun σ17 => bnd (zj zl_15 σ16 σ17) fun σ18 => (x_X3_arrange σ18).bind fun σ19 => (x_X2_dealOut (zb zl_15 σ19)).bind fun σ20 => bnd (zj zl_15 σ19 σ20) fun σ21 => some (σ21, v13)
theorem begin_both {N k n h kk t : Nat} {D : Nat → Nat} {σ m : Mm} (hT : TD σ m k D) (hn : n < 1000000000) (h7 : 7 ≤ h) (h10 : h ≤ 10) (hk : kk ≤ 20) (ht : 20 ≤ t ∧ t ≤ 500) (s0 : σ 3 0 = (h : Int)) (s1 : σ 3 1 = (kk : Int)) (s2 : σ 3 2 = (t : Int)) (s3 : zL (σ 3 3) = zi2l (n : Int)) : ∃ σ' m', (∀ v : Int, cbg σ v = some (σ', v)) ∧ x_X7_begin m (n : Int) (h : Int) (kk : Int) (t : Int) = some m' ∧ V N (m' 1) ∧ MR (fun c => σ' (3 + c)) (m' 1) ∧ RW m m' ∧ ∀ c, c ≠ 2 → (c < 3 ∨ 8 ≤ c) → σ' c = σ c := by
  have hn2 : n < 2147483648 := by omega
  obtain ⟨hPM, hlt⟩ := shuf_PM (k := 51) (n := n) (by omega) PM_id hn2
  -- the class: begin and shuffle
  obtain ⟨μ1, a1, a2, a3, a4, a5, a6, a7, a8⟩ := X2_begin (zb zl_15 σ)
  have k16 : ∀ c, c < 5 → zb zl_15 (zj zl_15 σ μ1) c = μ1 c := fun c hc => by
    rw [zb15 _ hc, z15_in _ _ (by omega), Nat.add_sub_cancel_left]
  obtain ⟨μ2, b1, b2, b3, b4, b5⟩ := X2_shuffle (zb zl_15 (zj zl_15 σ μ1)) hn2 (by
    rw [k16 0 (by omega), a7 3 (by omega) (by omega) (by omega)]
    exact s3)
  have o18 : ∀ c, (c < 3 ∨ 8 ≤ c) → zj zl_15 (zj zl_15 σ μ1) μ2 c = σ c := fun c hc => by rw [z15_out _ _ hc, z15_out _ _ hc]
  have i18 : ∀ c, 3 ≤ c ∧ c < 8 → zj zl_15 (zj zl_15 σ μ1) μ2 c = μ2 (c - 3) := fun c hc => z15_in _ _ hc
  -- the model
  obtain ⟨m1, c1, c2, c3⟩ := X7_zero m (n : Int) (h : Int) (kk : Int) (t : Int)
  have hm2 : ∃ m2, x_X7_begin m (n : Int) (h : Int) (kk : Int) (t : Int) = ((x_X7_shuffle m2).bind fun σ18 => (x_X7_putFirst σ18).bind fun σ19 => (x_X7_dealOut σ19).bind fun σ20 => some σ20) ∧ RW m1 m2 ∧ m2 1 0 = (h : Int) ∧ m2 1 1 = (kk : Int) ∧ m2 1 2 = (t : Int) ∧ m2 1 12 = (n : Int) ∧ m2 1 11 = -1 ∧ ∀ j, 3 ≤ j → j ≠ 11 → j ≠ 12 → m2 1 j = m1 1 j := by
    refine ⟨zu (zu (zu (zu (zu m1 1 0 (h : Int)) 1 1 (kk : Int)) 1 2 (t : Int)) 1 12 (n : Int)) 1 11 (-1), ?_, RW_t (RW_t (RW_t (RW_t (RW_u _ _ _) (RW_u _ _ _)) (RW_u _ _ _)) (RW_u _ _ _)) (RW_u _ _ _), ?_, ?_, ?_, ?_, zu_hit _ _ _ _, fun j h1 h2 h3 => ?_⟩
    · unfold x_X7_begin
      rw [c1, Option.bind_some, if_pos (by decide), bnd_eq, if_pos (by decide), bnd_eq, if_pos (by decide), bnd_eq, if_pos (by decide), bnd_eq, if_pos (by decide), bnd_eq]
      rfl
    · rw [zu_miss _ _ _ _ (fun _ => by decide), zu_miss _ _ _ _ (fun _ => by decide), zu_miss _ _ _ _ (fun _ => by decide), zu_miss _ _ _ _ (fun _ => by decide), zu_hit]
    · rw [zu_miss _ _ _ _ (fun _ => by decide), zu_miss _ _ _ _ (fun _ => by decide), zu_miss _ _ _ _ (fun _ => by decide), zu_hit]
    · rw [zu_miss _ _ _ _ (fun _ => by decide), zu_miss _ _ _ _ (fun _ => by decide), zu_hit]
    · rw [zu_miss _ _ _ _ (fun _ => by decide), zu_hit]
    · rw [zu_miss _ _ _ _ (fun _ => h2), zu_miss _ _ _ _ (fun _ => h3), zu_miss _ _ _ _ (fun _ => by omega), zu_miss _ _ _ _ (fun _ => by omega), zu_miss _ _ _ _ (fun _ => by omega)]
  obtain ⟨m2, d1, d2, d3, d4, d5, d6, d7, d8⟩ := hm2
  obtain ⟨m3, e1, e2, e3, e4, e5⟩ := X7_shuffle m2 hn2 d6
  have R3 : RW m m3 := RW_t c2 (RW_t d2 e4)
  have hT3 : TD (zj zl_15 (zj zl_15 σ μ1) μ2) m3 k D := by
    obtain ⟨g1, g2, g3, g4, g5⟩ := hT
    refine ⟨g1, by rw [o18 0 (by omega)]; exact g2, by rw [R3 0 (by omega)]; exact g3, fun i hi => ?_, g5⟩
    rw [o18 2 (by omega), R3 25 (by omega)]
    exact g4 i hi
  obtain ⟨F, σ19, m4, f1, f2, f3, f4, f5, f6, f7, f8⟩ := arr_both hT3 hPM (fun j hj => by rw [i18 6 (by omega)]; exact b3 j hj) e3
  have n19 : ∀ c, c < 5 → c ≠ 3 → zb zl_15 σ19 c = μ2 c := fun c hc h3 => by
    rw [zb15 _ hc, f6 _ (by omega) (by omega), i18 _ (by omega), Nat.add_sub_cancel_left]
  have v0 : ∀ j, j ≠ 3 → j ≠ 4 → j ≠ 9 → j ≠ 10 → zb zl_15 σ19 0 j = σ 3 j := fun j h3 h4 h9 hA => by
    rw [n19 0 (by omega) (by omega), b5 j h3, k16 0 (by omega), a7 j h4 h9 hA]; rfl
  have v1 : ∀ j, j ≠ 3 → zb zl_15 σ19 0 j = μ1 0 j := fun j h3 => by
    rw [n19 0 (by omega) (by omega), b5 j h3, k16 0 (by omega)]
  have w0 : ∀ j, j < 15 → j ≠ 12 → m4 1 j = m2 1 j := fun j hj h12 => (f8 j (by omega)).trans (e5 j (by omega) (by omega))
  obtain ⟨μ3, g1, g2, g3, g4, g5, g6, g7, g8, g9, g10, g11, g12, g13, g14⟩ := X2_dealOut (σ := zb zl_15 σ19) (h := h) (rd := 0) f1 (fun j hj => f4 j hj) (by rw [v0 0 (by omega) (by omega) (by omega) (by omega)]; exact s0) h10 (by rw [v1 4 (by omega), a2]; rfl) (by omega)
  obtain ⟨m5, q1, q2, q3, q4, q5, q6, q7, q8, q9, q10, q11, q12, q13⟩ := X7_dealOut (σ := m4) (h := h) (rd := 0) f1 f5 (by rw [w0 0 (by omega) (by omega), d3]) h10 (by rw [w0 3 (by omega) (by omega), d8 3 (by omega) (by omega) (by omega), c3 3 (by omega)]; rfl) (by omega)
  have x3 : m5 1 3 = 0 := by rw [q3 3 (by omega), w0 3 (by omega) (by omega), d8 3 (by omega) (by omega) (by omega), c3 3 (by omega)]
  have x0 : m5 1 0 = (h : Int) := by rw [q3 0 (by omega), w0 0 (by omega) (by omega), d3]
  have x1 : m5 1 1 = (kk : Int) := by rw [q3 1 (by omega), w0 1 (by omega) (by omega), d4]
  have x2 : m5 1 2 = (t : Int) := by rw [q3 2 (by omega), w0 2 (by omega) (by omega), d5]
  have x12 : m5 1 12 = ((shuf 51 n (fun i => i)).1 : Int) := by rw [q8 12 (by omega) (by omega), f8 12 (by omega), e2]
  have xz : ∀ j, 8 ≤ j → j < 11 → m5 1 j = 0 := fun j h1 h2 => by rw [q8 j h1 (by omega), w0 j (by omega) (by omega), d8 j (by omega) (by omega) (by omega), c3 j (by omega)]
  have x11 : m5 1 11 = -1 := by rw [q8 11 (by omega) (by omega), w0 11 (by omega) (by omega), d7]
  have hdl := dealt (N := N) (h := h) (rd := 0) (μ := μ3) (r := m5 1) f1 h7 h10 x0 (by rw [x1]; omega) (by rw [x2]; omega) x3 (by omega) q4 q5 q6 q7 x12 hlt q9 q10 q11 q12 q13
    ⟨by rw [g2 0 (by omega), v0 0 (by omega) (by omega) (by omega) (by omega), s0, x0], by rw [g2 1 (by omega), v0 1 (by omega) (by omega) (by omega) (by omega), s1, x1], by rw [g2 2 (by omega), v0 2 (by omega) (by omega) (by omega) (by omega), s2, x2], by rw [g2 3 (by omega), n19 0 (by omega) (by omega), b2, x12], by rw [g2 4 (by omega), v1 4 (by omega), a2, x3]⟩
    ⟨g3, g4, g5, g6, by rw [g7, v1 9 (by omega), a3, xz 10 (by omega) (by omega)], by rw [g8, v1 10 (by omega), a4, x11], g9, g10⟩
    ⟨by rw [g11, n19 1 (by omega) (by omega), b4 1 (by omega) (by omega), k16 1 (by omega), a5, xz 8 (by omega) (by omega)], by rw [g11, n19 1 (by omega) (by omega), b4 1 (by omega) (by omega), k16 1 (by omega), a6, xz 9 (by omega) (by omega)]⟩
    (by rw [g12]; exact fun j hj => f4 j hj) g13 g14
  refine ⟨zj zl_15 σ19 μ3, m5, fun v => ?_, ?_, hdl.1, MR_cells (fun c hc => ?_) hdl.2, RW_t R3 (RW_t f7 q2), fun c h2 hc => ?_⟩
  · unfold cbg
    rw [a1, Option.bind_some, bnd_eq, b1, Option.bind_some, bnd_eq, f2, Option.bind_some, g1, Option.bind_some, bnd_eq]
  · rw [d1, e1, Option.bind_some, f3, Option.bind_some, q1, Option.bind_some]
  · show zj zl_15 σ19 μ3 (3 + c) = μ3 c
    rw [z15_in _ _ (by omega), Nat.add_sub_cancel_left]
  · rw [z15_out _ _ hc, f6 c h2 (by omega), o18 c hc]
