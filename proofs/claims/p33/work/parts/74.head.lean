/-! the head of a deal on both sides -/
theorem q_13 (c : Nat) : zq zl_13 c = if c < 3 then some c else none := by
  rcases c with _ | _ | _ | c
  · rfl
  · rfl
  · rfl
  · rw [if_neg (by omega)]
    simp [zq, zqi]
theorem z13 (σ ρ : Mm) (c : Nat) : zj zl_13 σ ρ c = if c < 3 then ρ c else σ c := by
  by_cases h : c < 3
  · rw [zj_q _ _ _ _ (q_13 c), if_pos h, if_pos h]; rfl
  · rw [zj_q _ _ _ _ (q_13 c), if_neg h, if_neg h]; rfl
theorem AF_13 {σ ρ : Mm} (h : AF (zb zl_13 σ) ρ) : AF σ (zj zl_13 σ ρ) := ⟨fun c hc => by
  rw [z13]
  by_cases e : c < 3
  · rw [if_pos e, h.1 c hc]
    rcases (show c = 1 ∨ c = 2 by omega) with rfl | rfl <;> rfl
  · rw [if_neg e], fun j hj => by
  rw [z13, if_pos (by omega)]
  exact h.2 j hj⟩
theorem AH_13 {σ m : Mm} {L : Nat} {b : Nat → Nat} {p : Nat} (h : AH σ m L b p) : AH (zb zl_13 σ) m L b p := AH_eq h rfl (fun _ _ _ => rfl) rfl rfl (fun _ _ _ => rfl)
theorem AH_13' {σ ρ m : Mm} {L : Nat} {b : Nat → Nat} {p : Nat} (h : AH ρ m L b p) : AH (zj zl_13 σ ρ) m L b p := AH_eq h (by rw [z13]; rfl) (fun j _ _ => by rw [z13]; rfl) rfl rfl (fun _ _ _ => rfl)
theorem SY_13 {σ m : Mm} {L : Nat} {b : Nat → Nat} {a s t : Nat} (h : SY σ m L b a s t) : SY (zb zl_13 σ) m L b a s t := SY_eq h rfl (fun _ _ _ => rfl) rfl rfl (fun _ _ _ => rfl)
theorem SY_13' {σ ρ m : Mm} {L : Nat} {b : Nat → Nat} {a s t : Nat} (h : SY ρ m L b a s t) : SY (zj zl_13 σ ρ) m L b a s t := SY_eq h (by rw [z13]; rfl) (fun j _ _ => by rw [z13]; rfl) rfl rfl (fun _ _ _ => rfl)
theorem num_13 {σ m : Mm} {L : Nat} {b : Nat → Nat} {p lo hi : Nat} {lI hI : Int} (h : AH σ m L b p) (hl : lI = (lo : Int)) (hh : hI = (hi : Int)) (hhi : hi < 2147483648) (hlo : lo ≤ hi) : (∃ (v p1 : Nat) (ρ m1 : Mm), lo ≤ v ∧ v ≤ hi ∧ v < 1000000000 ∧ x_X3_readNumber (zb zl_13 σ) lI hI = some (ρ, 0) ∧ zj zl_13 σ ρ 0 5 = (v : Int) ∧ x_X7_readNumber m lI hI = some (m1, (v : Int)) ∧ AH (zj zl_13 σ ρ) m1 L b p1 ∧ p ≤ p1 ∧ AF σ (zj zl_13 σ ρ) ∧ NF m m1) ∨ ∃ (E : Nat) (ρ m1 : Mm), 0 < E ∧ E < 10000 ∧ x_X3_readNumber (zb zl_13 σ) lI hI = some (ρ, (E : Int)) ∧ x_X7_readNumber m lI hI = some (m1, 0) ∧ m1 0 31 = (E : Int) ∧ AF σ (zj zl_13 σ ρ) ∧ NE2 m m1 := by
  subst hl hh
  rcases num_step (AH_13 h) hhi hlo with ⟨v, p1, ρ, m1, a1, a2, a3, a4, a5, a6, a7, a8, a9, a10⟩ | ⟨E, ρ, m1, a1, a2, a3, a4, a5, a6, a7⟩
  · exact .inl ⟨v, p1, ρ, m1, a1, a2, a3, a4, by rw [z13]; exact a5, a6, AH_13' a7, a8, AF_13 a9, a10⟩
  · exact .inr ⟨E, ρ, m1, a1, a2, a3, a4, a5, AF_13 a6, a7⟩
theorem semi_13 {σ m : Mm} {L : Nat} {b : Nat → Nat} {p : Nat} (h : AH σ m L b p) : (∃ (ρ : Mm) (a s : Nat), x_X3_readSemicolon (zb zl_13 σ) = some (ρ, 0) ∧ AF σ (zj zl_13 σ ρ) ∧ SY (zj zl_13 σ ρ) m L b a s 3 ∧ p ≤ s ∧ x_X7_ends m 0 = some (m, 1) ∧ ∀ r : Int, zw r ≠ 0 → x_X7_ends m r = some (zu m 0 31 ((8 * s + 4 : Nat) : Int), 0)) ∨ ∃ (E : Nat) (ρ : Mm), 0 < E ∧ E < 10000 ∧ x_X3_readSemicolon (zb zl_13 σ) = some (ρ, (E : Int)) ∧ AF σ (zj zl_13 σ ρ) ∧ ∀ r : Int, x_X7_ends m r = some (zu m 0 31 (E : Int), 0) := by
  rcases semi_step (AH_13 h) with ⟨ρ, a, s, a1, a2, a3, a4, a5, a6⟩ | ⟨E, ρ, a1, a2, a3, a4, a5⟩
  · exact .inl ⟨ρ, a, s, a1, AF_13 a2, SY_13' a3, a4, a5, a6⟩
  · exact .inr ⟨E, ρ, a1, a2, a3, AF_13 a4, a5⟩
/-- the class's head: its cell 3 beside the reader -/
def HF (σ σ' : Mm) : Prop := (∀ c, c ≠ 0 → c ≠ 3 → σ' c = σ c) ∧ ∀ j, (j < 2 ∨ 6 ≤ j) → σ' 0 j = σ 0 j
theorem HF_t {σ σ' σ'' : Mm} (h : HF σ σ') (h2 : HF σ' σ'') : HF σ σ'' := ⟨fun c a b => (h2.1 c a b).trans (h.1 c a b), fun j hj => (h2.2 j hj).trans (h.2 j hj)⟩
theorem HF_of {σ σ' : Mm} (h : AF σ σ') : HF σ σ' := ⟨fun c hc _ => h.1 c (by omega), h.2⟩
theorem HF_u (σ : Mm) (j : Nat) (v : Int) : HF σ (zu σ 3 j v) := ⟨fun c _ hc => by unfold zu; rw [if_neg hc], fun _ _ => rfl⟩
theorem AH_3 {σ m : Mm} {L : Nat} {b : Nat → Nat} {p : Nat} (h : AH σ m L b p) (j : Nat) (v : Int) : AH (zu σ 3 j v) m L b p := AH_eq h rfl (fun _ _ _ => rfl) rfl rfl (fun _ _ _ => rfl)
noncomputable def hdK (m : Mm) (v10 v12 v14 v16 v18 : Int) : Option (Mm × Int) := bnd (zu m 0 26 (0 : Int)) fun σ20 => (x_X7_isWord σ20 2).bind fun v21 => (if zw v21 = 0 then x_X7_load_j123 σ20 v10 v12 v14 v16 v18 else (x_X7_scan σ20).bind fun σ38 => (x_X7_readDeck σ38).bind fun σ39 => x_X7_load_j123 σ39 v10 v12 v14 v16 v18)
noncomputable def hd4 (m : Mm) (v10 v12 v14 v16 : Int) : Option (Mm × Int) := (x_X7_ends m (0 : Int)).bind fun o => un2 o fun σ17 v18 => (x_X7_goOn σ17).bind fun σ19 => hdK σ19 v10 v12 v14 v16 v18
noncomputable def hd3 (m : Mm) (v10 v12 v14 : Int) : Option (Mm × Int) := (x_X7_readNumber m (20 : Int) (500 : Int)).bind fun o => un2 o fun σ15 v16 => hd4 σ15 v10 v12 v14 v16
noncomputable def hd2 (m : Mm) (v10 v12 : Int) : Option (Mm × Int) := (x_X7_readNumber m (0 : Int) (20 : Int)).bind fun o => un2 o fun σ13 v14 => hd3 σ13 v10 v12 v14
noncomputable def hd1 (m : Mm) (v10 : Int) : Option (Mm × Int) := (x_X7_readNumber m (7 : Int) (10 : Int)).bind fun o => un2 o fun σ11 v12 => hd2 σ11 v10 v12
theorem j52_eq (m : Mm) : x_X7_load_j52 m = (x_X7_readNumber m (0 : Int) (999999999 : Int)).bind fun o => un2 o fun σ9 v10 => hd1 σ9 v10 := rfl
noncomputable def hd0 (m : Mm) : Option (Mm × Int) := (x_X7_scan m).bind fun σ6 => (x_X7_isWord σ6 1).bind fun v7 => (if zw v7 = 0 then (x_X7_wrong σ6 (1 : Int)).bind fun σ8 => x_X7_load_j52 σ8 else (x_X7_scan σ6).bind fun σ41 => x_X7_load_j52 σ41)
theorem dead_4 {m : Mm} {E : Nat} (h31 : m 0 31 = (E : Int)) (hE : 0 < E ∧ E < 10000) (v10 v12 v14 v16 : Int) : hd4 m v10 v12 v14 v16 = hdK m v10 v12 v14 v16 0 := by
  unfold hd4
  rw [dead_ends h31 hE, Option.bind_some, un2_mk, goOn_d h31 hE, Option.bind_some]
theorem dead_3 {m : Mm} {E : Nat} (h31 : m 0 31 = (E : Int)) (hE : 0 < E ∧ E < 10000) (v10 v12 v14 : Int) : hd3 m v10 v12 v14 = hdK m v10 v12 v14 0 0 := by
  unfold hd3
  rw [dead_num h31 hE, Option.bind_some, un2_mk, dead_4 h31 hE]
theorem dead_2 {m : Mm} {E : Nat} (h31 : m 0 31 = (E : Int)) (hE : 0 < E ∧ E < 10000) (v10 v12 : Int) : hd2 m v10 v12 = hdK m v10 v12 0 0 0 := by
  unfold hd2
  rw [dead_num h31 hE, Option.bind_some, un2_mk, dead_3 h31 hE]
theorem dead_1 {m : Mm} {E : Nat} (h31 : m 0 31 = (E : Int)) (hE : 0 < E ∧ E < 10000) (v10 : Int) : hd1 m v10 = hdK m v10 0 0 0 0 := by
  unfold hd1
  rw [dead_num h31 hE, Option.bind_some, un2_mk, dead_2 h31 hE]
theorem dead_0 {m : Mm} {E : Nat} (h31 : m 0 31 = (E : Int)) (hE : 0 < E ∧ E < 10000) : x_X7_load_j52 m = hdK m 0 0 0 0 0 := by
  rw [j52_eq, dead_num h31 hE, Option.bind_some, un2_mk, dead_1 h31 hE]
theorem j77_bad (σ : Mm) {E : Nat} (hE : 0 < E ∧ E < 10000) : x_X3_readHead_j77 σ (E : Int) = some (σ, (E : Int)) := by
  unfold x_X3_readHead_j77
  rw [if_pos (E_ne hE), if_pos (E_ne hE)]
theorem j57_bad (σ : Mm) {E : Nat} (hE : 0 < E ∧ E < 10000) : x_X3_readHead_j57 σ (E : Int) = some (σ, (E : Int)) := by
  unfold x_X3_readHead_j57
  rw [if_pos (E_ne hE), j77_bad σ hE]
theorem z0n : ¬ zw (0 : Int) ≠ 0 := by decide
theorem head_both {σ m : Mm} {L : Nat} {b : Nat → Nat} (hT : TB σ m L b) (h2 : σ 0 2 = 0) (h27 : m 0 27 = 0) (h31 : m 0 31 = 0) : (∃ (n h k t p : Nat) (σ' m' : Mm), n < 1000000000 ∧ 7 ≤ h ∧ h ≤ 10 ∧ k ≤ 20 ∧ 20 ≤ t ∧ t ≤ 500 ∧ x_X3_readHead σ = some (σ', 0) ∧ hd0 m = hdK m' (n : Int) (h : Int) (k : Int) (t : Int) 1 ∧ AH σ' m' L b p ∧ HF σ σ' ∧ NF m m' ∧ σ' 3 0 = (h : Int) ∧ σ' 3 1 = (k : Int) ∧ σ' 3 2 = (t : Int) ∧ zL (σ' 3 3) = zi2l (n : Int)) ∨ ∃ (E : Nat) (σ' m' : Mm) (v1 v2 v3 v4 : Int), 0 < E ∧ E < 10000 ∧ x_X3_readHead σ = some (σ', (E : Int)) ∧ hd0 m = hdK m' v1 v2 v3 v4 0 ∧ m' 0 31 = (E : Int) ∧ HF σ σ' ∧ NE2 m m' := by
  have hL := hT.1
  have hT' : TB (zb zl_13 σ) m L b := ⟨hT.1, hT.2.1, hT.2.2.1, hT.2.2.2⟩
  obtain ⟨ρ, m6, a, s, t, r1, r2, r3, r4, r5, r6⟩ := scan_both hT' (a := 0) h2 h27 (by omega)
  have e31 : m6 0 31 = 0 := by rw [r6.2 31 (by omega)]; exact h31
  have y2 : SY (zj zl_13 σ ρ) m6 L b a s t := SY_13' r3
  have f2 : AF σ (zj zl_13 σ ρ) := AF_13 r5
  have hc : x_X3_readHead σ = (x_X3_isWord (zb zl_13 (zj zl_13 σ ρ)) 1).bind fun v3 => (if zw v3 ≠ 0 then (x_X3_readNumber (zb zl_13 (zj zl_13 σ ρ)) (0 : Int) (999999999 : Int)).bind fun o => un2 o fun σ4 v5 => bnd (zj zl_13 (zj zl_13 σ ρ) σ4) fun σ6 => bnd (zu σ6 3 3 (Int64.toInt (zi2l (σ6 0 5)))) fun σ7 => (if zw v5 ≠ 0 then x_X3_readHead_j57 σ7 v5 else (x_X3_readNumber (zb zl_13 σ7) (7 : Int) (10 : Int)).bind fun o => un2 o fun σ26 v27 => bnd (zj zl_13 σ7 σ26) fun σ28 => bnd (zu σ28 3 0 (σ28 0 5)) fun σ29 => x_X3_readHead_j57 σ29 v27) else (x_X3_errorAs (zb zl_13 (zj zl_13 σ ρ)) (1 : Int)).bind fun v31 => some ((zj zl_13 σ ρ), v31)) := by
    unfold x_X3_readHead
    rw [r1, Option.bind_some, bnd_eq]
  unfold hd0
  rw [hc, r2, Option.bind_some]
  generalize zj zl_13 σ ρ = σ2 at y2 f2
  obtain ⟨w, w1, w2, w3, w4⟩ := word_both (u := 1) (SY_13 y2) e31 (by omega)
  rw [w2, w3, Option.bind_some, Option.bind_some]
  rcases w1 with rfl | rfl
  · -- another word
    right
    obtain ⟨hT2, y02, y27, y3, y28, ysa, yaL, -⟩ := y2
    have hE : 0 < 8 * s + 1 ∧ 8 * s + 1 < 10000 := by omega
    have ew : x_X7_wrong m6 (1 : Int) = some (zu m6 0 31 ((8 * s + 1 : Nat) : Int)) := wrong_0 e31 y28 1
    have ec : x_X3_errorAs (zb zl_13 σ2) (1 : Int) = some ((8 * s + 1 : Nat) : Int) := err_at (σ := zb zl_13 σ2) y3 1
    refine ⟨8 * s + 1, σ2, zu m6 0 31 ((8 * s + 1 : Nat) : Int), 0, 0, 0, 0, hE.1, hE.2, ?_, ?_, zu_hit _ _ _ _, HF_of f2, NE2_t (NE2_of r6) (NE2_u _ _)⟩
    · rw [if_neg z0n, ec, Option.bind_some]
    · rw [if_pos d00, ew, Option.bind_some, dead_0 (zu_hit _ _ _ _) hE]
  · rw [if_pos (show zw (1 : Int) ≠ 0 by decide), if_neg (show ¬ zw (1 : Int) = 0 by decide)]
    obtain ⟨m7, q1, q2, q3⟩ := SY_AH y2 e31
    rw [q1, Option.bind_some, j52_eq]
    have F7 : NF m m7 := NF_t r6 q3
    have H2 := HF_of f2
    rcases num_13 (lo := 0) (hi := 999999999) (lI := 0) (hI := 999999999) q2 rfl rfl (by omega) (by omega) with ⟨n, p1, ρ1, m8, n1, n2, n3, n4, n5, n6, n7, n8, n9, n10⟩ | ⟨E, ρ1, m8, n1, n2, n3, n4, n5, n6, n7⟩
    · rw [n4, n6, Option.bind_some, Option.bind_some, un2_mk, un2_mk, bnd_eq, bnd_eq, n5]
      have A3 := AH_3 n7 3 (Int64.toInt (zi2l (n : Int)))
      have H3 := HF_t (HF_t H2 (HF_of n9)) (HF_u (zj zl_13 σ2 ρ1) 3 (Int64.toInt (zi2l (n : Int))))
      have F8 := NF_t F7 n10
      generalize hσ3 : zu (zj zl_13 σ2 ρ1) 3 3 (Int64.toInt (zi2l (n : Int))) = σ3 at A3 H3
      have g33 : σ3 3 3 = Int64.toInt (zi2l (n : Int)) := by rw [← hσ3, zu_hit]
      rw [if_neg z0n]
      unfold hd1
      rcases num_13 (lo := 7) (hi := 10) (lI := 7) (hI := 10) A3 rfl rfl (by omega) (by omega) with ⟨h, p2, ρ2, m9, o1, o2, o3, o4, o5, o6, o7, o8, o9, o10⟩ | ⟨E, ρ2, m9, o1, o2, o3, o4, o5, o6, o7⟩
      · rw [o4, o6, Option.bind_some, Option.bind_some, un2_mk, un2_mk, bnd_eq, bnd_eq, o5]
        have A4 := AH_3 o7 0 (h : Int)
        have H4 := HF_t (HF_t H3 (HF_of o9)) (HF_u (zj zl_13 σ3 ρ2) 0 (h : Int))
        have F9 := NF_t F8 o10
        have c4 : zj zl_13 σ3 ρ2 3 = σ3 3 := o9.1 3 (by omega)
        generalize hσ4 : zu (zj zl_13 σ3 ρ2) 3 0 (h : Int) = σ4 at A4 H4
        have g43 : σ4 3 3 = Int64.toInt (zi2l (n : Int)) := by rw [← hσ4, zu_miss _ _ _ _ (fun _ => by omega), c4, g33]
        have g40 : σ4 3 0 = (h : Int) := by rw [← hσ4, zu_hit]
        unfold x_X3_readHead_j57
        rw [if_neg z0n]
        unfold hd2
        rcases num_13 (lo := 0) (hi := 20) (lI := 0) (hI := 20) A4 rfl rfl (by omega) (by omega) with ⟨k, p3, ρ3, m10, u1, u2, u3, u4, u5, u6, u7, u8, u9, u10⟩ | ⟨E, ρ3, m10, u1, u2, u3, u4, u5, u6, u7⟩
        · rw [u4, u6, Option.bind_some, Option.bind_some, un2_mk, un2_mk, bnd_eq, bnd_eq, u5]
          have A5 := AH_3 u7 1 (k : Int)
          have H5 := HF_t (HF_t H4 (HF_of u9)) (HF_u (zj zl_13 σ4 ρ3) 1 (k : Int))
          have F10 := NF_t F9 u10
          have c5 : zj zl_13 σ4 ρ3 3 = σ4 3 := u9.1 3 (by omega)
          generalize hσ5 : zu (zj zl_13 σ4 ρ3) 3 1 (k : Int) = σ5 at A5 H5
          have g53 : σ5 3 3 = Int64.toInt (zi2l (n : Int)) := by rw [← hσ5, zu_miss _ _ _ _ (fun _ => by omega), c5, g43]
          have g50 : σ5 3 0 = (h : Int) := by rw [← hσ5, zu_miss _ _ _ _ (fun _ => by omega), c5, g40]
          have g51 : σ5 3 1 = (k : Int) := by rw [← hσ5, zu_hit]
          unfold x_X3_readHead_j77
          rw [if_neg z0n]
          unfold hd3
          rcases num_13 (lo := 20) (hi := 500) (lI := 20) (hI := 500) A5 rfl rfl (by omega) (by omega) with ⟨t', p4, ρ4, m11, x1, x2, x3, x4, x5, x6, x7, x8, x9, x10⟩ | ⟨E, ρ4, m11, x1, x2, x3, x4, x5, x6, x7⟩
          · rw [x4, x6, Option.bind_some, Option.bind_some, un2_mk, un2_mk, bnd_eq, bnd_eq, x5]
            have A6 := AH_3 x7 2 (t' : Int)
            have H6 := HF_t (HF_t H5 (HF_of x9)) (HF_u (zj zl_13 σ5 ρ4) 2 (t' : Int))
            have F11 := NF_t F10 x10
            have c6 : zj zl_13 σ5 ρ4 3 = σ5 3 := x9.1 3 (by omega)
            generalize hσ6 : zu (zj zl_13 σ5 ρ4) 3 2 (t' : Int) = σ6 at A6 H6
            have g63 : σ6 3 3 = Int64.toInt (zi2l (n : Int)) := by rw [← hσ6, zu_miss _ _ _ _ (fun _ => by omega), c6, g53]
            have g60 : σ6 3 0 = (h : Int) := by rw [← hσ6, zu_miss _ _ _ _ (fun _ => by omega), c6, g50]
            have g61 : σ6 3 1 = (k : Int) := by rw [← hσ6, zu_miss _ _ _ _ (fun _ => by omega), c6, g51]
            have g62 : σ6 3 2 = (t' : Int) := by rw [← hσ6, zu_hit]
            unfold hd4
            rcases semi_13 A6 with ⟨ρ5, a5, s5, y1, y2', y3, y4, y5, y6⟩ | ⟨E, ρ5, y1, y2', y3, y4, y5⟩
            · left
              obtain ⟨m12, z1, z2, z3⟩ := SY_AH y3 A6.1
              have c7 : zj zl_13 σ6 ρ5 3 = σ6 3 := y2'.1 3 (by omega)
              refine ⟨n, h, k, t', a5, zj zl_13 σ6 ρ5, m12, n3, o1, o2, u2, x1, x2, ?_, ?_, z2, HF_t H6 (HF_of y2'), NF_t F11 z3, by rw [c7, g60], by rw [c7, g61], by rw [c7, g62], by rw [c7, g63]; exact Int64.ofInt_toInt _⟩
              · rw [if_neg z0n, y1, Option.bind_some, un2_mk, bnd_eq]
              · rw [y5, Option.bind_some, un2_mk, goOn_0 A6.1, z1, Option.bind_some]
            · right
              refine ⟨E, zj zl_13 σ6 ρ5, zu m11 0 31 (E : Int), n, h, k, t', y1, y2', ?_, ?_, zu_hit _ _ _ _, HF_t H6 (HF_of y4), NE2_t (NE2_of F11) (NE2_u _ _)⟩
              · rw [if_neg z0n, y3, Option.bind_some, un2_mk, bnd_eq]
              · rw [y5, Option.bind_some, un2_mk, goOn_d (zu_hit _ _ _ _) ⟨y1, y2'⟩, Option.bind_some]
          · right
            refine ⟨E, zu (zj zl_13 σ5 ρ4) 3 2 (zj zl_13 σ5 ρ4 0 5), m11, n, h, k, 0, x1, x2, ?_, ?_, x5, HF_t (HF_t H5 (HF_of x6)) (HF_u _ _ _), NE2_t (NE2_of F10) x7⟩
            · rw [x3, Option.bind_some, un2_mk, bnd_eq, bnd_eq, if_pos (E_ne ⟨x1, x2⟩)]
            · rw [x4, Option.bind_some, un2_mk, dead_4 x5 ⟨x1, x2⟩]
        · right
          refine ⟨E, zu (zj zl_13 σ4 ρ3) 3 1 (zj zl_13 σ4 ρ3 0 5), m10, n, h, 0, 0, u1, u2, ?_, ?_, u5, HF_t (HF_t H4 (HF_of u6)) (HF_u _ _ _), NE2_t (NE2_of F9) u7⟩
          · rw [u3, Option.bind_some, un2_mk, bnd_eq, bnd_eq, j77_bad _ ⟨u1, u2⟩]
          · rw [u4, Option.bind_some, un2_mk]
            exact dead_3 u5 ⟨u1, u2⟩ _ _ _
      · right
        refine ⟨E, zu (zj zl_13 σ3 ρ2) 3 0 (zj zl_13 σ3 ρ2 0 5), m9, n, 0, 0, 0, o1, o2, ?_, ?_, o5, HF_t (HF_t H3 (HF_of o6)) (HF_u _ _ _), NE2_t (NE2_of F8) o7⟩
        · rw [o3, Option.bind_some, un2_mk, bnd_eq, bnd_eq, j57_bad _ ⟨o1, o2⟩]
        · rw [o4, Option.bind_some, un2_mk]
          exact dead_2 o5 ⟨o1, o2⟩ _ _
    · right
      refine ⟨E, zu (zj zl_13 σ2 ρ1) 3 3 (Int64.toInt (zi2l (zj zl_13 σ2 ρ1 0 5))), m8, 0, 0, 0, 0, n1, n2, ?_, ?_, n5, HF_t (HF_t H2 (HF_of n6)) (HF_u _ _ _), NE2_t (NE2_of F7) n7⟩
      · rw [n3, Option.bind_some, un2_mk, bnd_eq, bnd_eq, if_pos (E_ne ⟨n1, n2⟩), j57_bad _ ⟨n1, n2⟩]
      · rw [n4, Option.bind_some, un2_mk]
        exact dead_1 n5 ⟨n1, n2⟩ _
