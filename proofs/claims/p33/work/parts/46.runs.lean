/-! The model's findSets and findRuns -/
/-- the sets' part of the row -/
theorem sets_mem {n : Nat} {H : Nat → Nat} (h : hOk n H) {r : Nat} (hr : r < 13) {x : Nat} (hx : x < 2 ^ n) : (3 ≤ cnt (bs (co H x n)) 64 ∧ (x = al r H n ∨ (cnt (bs (co H (al r H n) n)) 64 = 4 ∧ ∃ i, i < n ∧ (al r H n).testBit i = true ∧ x = ndif (al r H n) (2 ^ i)))) ↔ (3 ≤ cnt (bs (co H x n)) 64 ∧ ∀ c, bs (co H x n) c = true → c < 52 ∧ c % 13 = r) := by
  have hal := al_lt r H n
  generalize hA : al r H n = A at *
  have hAt : ∀ i, A.testBit i = decide (i < n ∧ H i % 13 = r) := fun i => by rw [← hA]; exact al_t i n
  have hrank : ∀ x, (∀ i, x.testBit i = true → A.testBit i = true) → ∀ c, bs (co H x n) c = true → c < 52 ∧ c % 13 = r := fun x hx c hc => by
    obtain ⟨i, i1, i2, i3⟩ := (co_bs c h.2.1).mp hc
    have h3 := hx i i2
    rw [hAt, decide_eq_true_eq] at h3
    subst i3
    exact ⟨h.2.1 i i1, h3.2⟩
  have hc4 := cnt_rank hr (hrank A (fun i z => z))
  have hcA : cnt (bs (co H A n)) 64 ≤ 4 := by rw [hc4]; split <;> split <;> split <;> split <;> omega
  constructor
  · rintro ⟨h1, h2 | ⟨-, i, i1, i2, i3⟩⟩
    · subst h2; exact ⟨h1, hrank _ (fun i z => z)⟩
    · refine ⟨h1, ?_⟩
      subst i3
      exact hrank _ (fun j hj => by
        rw [ndif_t] at hj
        simp only [Bool.and_eq_true] at hj
        exact hj.1)
  · rintro ⟨h1, h2⟩
    refine ⟨h1, ?_⟩
    have hsub : ∀ i, x.testBit i = true → A.testBit i = true := fun i hi => by
      have hin : i < n := by
        rcases Nat.lt_or_ge i n with c | c
        · exact c
        · rw [Nat.testBit_lt_two_pow (Nat.lt_of_lt_of_le hx (Nat.pow_le_pow_right (by decide) c))] at hi; cases hi
      rw [hAt, decide_eq_true_eq]
      exact ⟨hin, (h2 (H i) (by rw [co_at h x hin]; exact hi)).2⟩
    by_cases e : x = A
    · exact .inl e
    · right
      have key : ∃ i, A.testBit i = true ∧ x.testBit i = false := by
        false_or_by_contra
        rename_i hno
        apply e
        apply Nat.eq_of_testBit_eq
        intro i
        cases z : A.testBit i
        · cases z2 : x.testBit i
          · rfl
          · rw [hsub i z2] at z; cases z
        · cases z2 : x.testBit i
          · exact absurd ⟨i, z, z2⟩ hno
          · rfl
      obtain ⟨i, i1, i2⟩ := key
      have hin : i < n := by
        rw [hAt, decide_eq_true_eq] at i1; exact i1.1
      have hsb : sb (co H x n) (co H A n) := (co_sb h hx).mpr hsub
      have h5 := cnt_dif hsb
      have h6 := cnt_pos (x := dif (co H A n) (co H x n)) (c := H i) (by rw [bs_dif2, co_at h A hin, co_at h x hin, i1, i2]; rfl)
      refine ⟨by omega, i, hin, i1, ?_⟩
      have hP : sb (co H x n) (co H (ndif A (2 ^ i)) n) := (co_sb h hx).mpr (fun j hj => by
        rw [ndif_t, hsub j hj, Nat.testBit_two_pow]
        have : i ≠ j := fun z => by rw [← z, i2] at hj; cases hj
        simp [this])
      have hone : sb (co H (2 ^ i) n) (co H A n) := (co_sb h (Nat.pow_lt_pow_right (by decide) (by omega))).mpr (fun j hj => by
        rw [Nat.testBit_two_pow] at hj
        have : i = j := by simpa using hj
        rw [← this]; exact i1)
      have h7 := cnt_dif hone
      rw [← co_dif h, co_one h hin, cnt_one (by have := h.2.1 i hin; omega)] at h7
      exact co_inj h hx (ndif_lt hal) (sb_eq hP (by omega))
theorem X7_findSets {σ : Mm} {n : Nat} {H : Nat → Nat} (hH : HD σ n H) (h : hOk n H) (hN : NS σ []) : ∃ σ' N', x_X7_findSets σ = some σ' ∧ NS σ' N' ∧ nOk n H N' ∧ (∀ x, x ∈ N' ↔ (x < 2 ^ n ∧ isSet (co H x n))) ∧ N'.length ≤ 65 ∧ HD σ' n H ∧ SC σ σ' := by
  unfold x_X7_findSets
  obtain ⟨e9, b1, N', b2, b3, b4, b5, b6, b7⟩ := lup_for (f := fun (s26 : Mm × Int) => x_X7_findSets_b2 s26.1 s26.2) (fun i s => s.2 = (i : Int) ∧ ∃ N', NS s.1 N' ∧ nOk n H N' ∧ (∀ x, x ∈ N' ↔ (x < 2 ^ n ∧ 3 ≤ cnt (bs (co H x n)) 64 ∧ ∃ r, r < i ∧ ∀ c, bs (co H x n) c = true → c < 52 ∧ c % 13 = r)) ∧ N'.length ≤ 5 * i ∧ HD s.1 n H ∧ SC σ s.1) (fun e => ∃ N', NS e N' ∧ nOk n H N' ∧ (∀ x, x ∈ N' ↔ (x < 2 ^ n ∧ 3 ≤ cnt (bs (co H x n)) 64 ∧ ∃ r, r < 13 ∧ ∀ c, bs (co H x n) c = true → c < 52 ∧ c % 13 = r)) ∧ N'.length ≤ 65 ∧ HD e n H ∧ SC σ e) 13 (fun i s hi hs => by
    obtain ⟨τ, u⟩ := s
    obtain ⟨hu, N', q1, q2, q3, q4, q5, q6⟩ := hs
    simp only at hu q1 q5 q6
    subst hu
    obtain ⟨σ', N2, a1, a2, a3, a4, a5, a6, a7⟩ := X7_sets_r q5 h q1 q2 hi (by omega)
    refine ⟨_, a1, by show (i : Int) + 1 = _; omega, N2, a2, a3, fun x => ?_, by omega, a6, SC_t q6 a7⟩
    constructor
    · intro hx
      have hx2 := (a3.1 x hx).1
      rcases (a4 x).mp hx with z | z
      · obtain ⟨z1, z2, r, r1, r2⟩ := (q3 x).mp z
        exact ⟨z1, z2, r, by omega, r2⟩
      · obtain ⟨z1, z2⟩ := (sets_mem h hi hx2).mp z
        exact ⟨hx2, z1, i, by omega, z2⟩
    · rintro ⟨z1, z2, r, r1, r2⟩
      by_cases e : r = i
      · subst e
        exact (a4 x).mpr (.inr ((sets_mem h hi z1).mpr ⟨z2, r2⟩))
      · exact (a4 x).mpr (.inl ((q3 x).mpr ⟨z1, z2, r, by omega, r2⟩))) (fun s hs => by
    obtain ⟨τ, u⟩ := s
    obtain ⟨hu, N', q1, q2, q3, q4, q5, q6⟩ := hs
    simp only at hu q1 q5 q6
    subst hu
    refine ⟨τ, ?_, N', q1, q2, q3, by omega, q5, q6⟩
    show x_X7_findSets_b2 τ _ = _
    unfold x_X7_findSets_b2
    rw [if_pos (by show zw 13 ≤ zw ((13 : Nat) : Int); decide)]) (s := (σ, 0)) ⟨rfl, [], hN, ⟨fun a ha => absurd ha List.not_mem_nil, List.Pairwise.nil⟩, fun x => ⟨fun z => absurd z List.not_mem_nil, fun z => by obtain ⟨-, -, r, r1, -⟩ := z; omega⟩, Nat.le_refl _, hH, SC_r σ⟩
  rw [b1]
  refine ⟨e9, N', rfl, b2, b3, fun x => ?_, b5, b6, b7⟩
  rw [b4]
  constructor
  · rintro ⟨z1, z2, r, r1, r2⟩; exact ⟨z1, r, r1, r2, z2⟩
  · rintro ⟨z1, r, r1, r2, z2⟩; exact ⟨z1, z2, r, r1, r2⟩
theorem X7_placeOf {σ : Mm} {n : Nat} {H : Nat → Nat} (hH : HD σ n H) (h : hOk n H) {c : Nat} (hc : c < 52) : (∃ i, i < n ∧ H i = c ∧ x_X7_placeOf σ (c : Int) = some (i : Int)) ∨ ((∀ i, i < n → H i ≠ c) ∧ x_X7_placeOf σ (c : Int) = some (-1)) := by
  have h1 := h.1
  unfold x_X7_placeOf
  obtain ⟨e9, b1, b2⟩ := lup_ind (f := fun (s5 : Int) => x_X7_placeOf_b2 σ (c : Int) s5) (fun i s => s = (i : Int) ∧ i ≤ n ∧ ∀ j, j < i → H j ≠ c) (fun e => (∃ i, i < n ∧ H i = c ∧ e = .inl (i : Int)) ∨ ((∀ i, i < n → H i ≠ c) ∧ e = .inr ())) n (fun i s hs => by
    obtain ⟨hs, hi, hno⟩ := hs
    subst hs
    show (∃ s', x_X7_placeOf_b2 σ (c : Int) (i : Int) = _ ∧ _) ∨ (∃ e, x_X7_placeOf_b2 σ (c : Int) (i : Int) = _ ∧ _)
    unfold x_X7_placeOf_b2
    rw [hH.1]
    by_cases e : i = n
    · right
      subst e
      rw [if_pos (Int.le_refl _)]
      exact ⟨_, rfl, .inr ⟨hno, rfl⟩⟩
    · have hin : i < n := by omega
      have h52 := h.2.1 i hin
      rw [if_neg (by rw [zwn (by omega), zwn (by omega)]; omega), if_pos (zin_i (by omega) (by omega) (by omega)), zix_nat (by omega), hH.2 i hin, zwn (by omega), zwn (by omega)]
      by_cases z : H i = c
      · right
        rw [if_neg (by omega)]
        exact ⟨_, rfl, .inl ⟨i, hin, z, rfl⟩⟩
      · left
        rw [if_pos (by omega), bnd_eq]
        refine ⟨_, rfl, by omega, by omega, by omega, fun j hj => ?_⟩
        by_cases w : j = i
        · rw [w]; exact z
        · exact hno j (by omega)) (s := 0) 0 ⟨rfl, Nat.zero_le _, fun j hj => by omega⟩
  rw [b1, Option.bind_some]
  rcases b2 with ⟨i, i1, i2, i3⟩ | ⟨i1, i2⟩
  · left
    exact ⟨i, i1, i2, by rw [i3]; rfl⟩
  · right
    exact ⟨i1, by rw [i2]; rfl⟩
/-- one more card of a run -/
theorem run_s {s f m : Nat} (hs : s < 4) (c : Nat) : bs (run s f (m + 1)) c = (bs (run s f m) c || decide (c = 13 * s + (f + m) % 13)) := by
  cases e : bs (run s f (m + 1)) c
  · symm
    rw [Bool.or_eq_false_iff]
    constructor
    · cases e2 : bs (run s f m) c
      · rfl
      · obtain ⟨i, i1, i2⟩ := (bs_run hs c).mp e2
        rw [(bs_run hs c).mpr ⟨i, by omega, i2⟩] at e; cases e
    · rw [decide_eq_false_iff_not]
      intro z
      rw [(bs_run hs c).mpr ⟨m, by omega, z⟩] at e; cases e
  · symm
    obtain ⟨i, i1, i2⟩ := (bs_run hs c).mp e
    rw [Bool.or_eq_true_iff]
    by_cases z : i = m
    · subst z; right; rw [decide_eq_true_eq]; exact i2
    · left; exact (bs_run hs c).mpr ⟨i, by omega, i2⟩
theorem X7_runs_i {σ : Mm} {n : Nat} {H : Nat → Nat} (hH : HD σ n H) (h : hOk n H) {N : List Nat} (hN : NS σ N) (hO : nOk n H N) {i : Nat} (hi : i < n) (hl : N.length + 9 ≤ 200) : ∃ σ' N', x_X7_findRuns_b2 σ (i : Int) = some (.inl (σ', (i : Int) + 1)) ∧ NS σ' N' ∧ nOk n H N' ∧ (∀ x, x ∈ N' ↔ (x ∈ N ∨ (x < 2 ^ n ∧ ∃ m, 3 ≤ m ∧ m ≤ n ∧ co H x n = run (H i / 13) (H i % 13) m))) ∧ N'.length ≤ N.length + 9 ∧ HD σ' n H ∧ SC σ σ' := by
  have h1 := h.1
  have h52 := h.2.1 i hi
  have zi : zin (i : Int) 11 := zin_i (by omega) (by omega) (by omega)
  unfold x_X7_findRuns_b2
  rw [hH.1, if_neg (by rw [zwn (by omega), zwn (by omega)]; omega)]
  simp only [if_pos zi, bnd_eq]
  rw [zix_nat (by omega), hH.2 i hi, zdiv13 (by omega), zrem13 (by omega)]
  generalize hs0 : H i / 13 = s
  generalize hf0 : H i % 13 = f
  have hs : s < 4 := by omega
  have hf : f < 13 := by omega
  have e13 : ((s : Nat) : Int) * 13 = ((13 * s : Nat) : Int) := by omega
  rw [e13]
  obtain ⟨e9, b1, N', b2, b3, b4, b5, b6, b7⟩ := lup_ind (f := fun (s24 : Mm × Int × Int × Int) => x_X7_findRuns_b42 (i : Int) ((13 * s : Nat) : Int) (f : Int) s24.1 s24.2.1 s24.2.2.1 s24.2.2.2) (fun m t => t.2.2.2 = (m : Int) + 1 ∧ m ≤ n ∧ ∃ (a : Nat) (N' : List Nat), t.2.1 = (a : Int) ∧ a < 2 ^ n ∧ NS t.1 N' ∧ nOk n H N' ∧ N'.length ≤ N.length + (m - 2) ∧ HD t.1 n H ∧ SC σ t.1 ∧ (∀ x, x ∈ N' ↔ (x ∈ N ∨ (x < 2 ^ n ∧ ∃ k, 3 ≤ k ∧ k ≤ m ∧ co H x n = run s f k))) ∧ ((t.2.2.1 = 1 ∧ co H a n = run s f m) ∨ (t.2.2.1 = 0 ∧ ∀ k, m ≤ k → ∀ x, x < 2 ^ n → co H x n ≠ run s f k))) (fun e => ∃ N', NS e N' ∧ nOk n H N' ∧ (∀ x, x ∈ N' ↔ (x ∈ N ∨ (x < 2 ^ n ∧ ∃ m, 3 ≤ m ∧ m ≤ n ∧ co H x n = run s f m))) ∧ N'.length ≤ N.length + 9 ∧ HD e n H ∧ SC σ e) n (fun m t ht => by
    obtain ⟨τ, ra, g, u⟩ := t
    obtain ⟨hu, hm, a, N', q0, q1, q2, q3, q4, q5, q6, q7, q8⟩ := ht
    simp only at hu q0 q2 q5 q6 q8
    subst hu q0
    have ha2 := nlt31 q1 h1
    show (∃ s', x_X7_findRuns_b42 (i : Int) ((13 * s : Nat) : Int) (f : Int) τ (a : Int) g ((m : Int) + 1) = _ ∧ _) ∨ (∃ e, x_X7_findRuns_b42 (i : Int) ((13 * s : Nat) : Int) (f : Int) τ (a : Int) g ((m : Int) + 1) = _ ∧ _)
    unfold x_X7_findRuns_b42
    rw [q5.1]
    have fin : ∀ z : (∀ k, m < k → k ≤ n → ∀ x, x < 2 ^ n → co H x n ≠ run s f k), ∃ N', NS τ N' ∧ nOk n H N' ∧ (∀ x, x ∈ N' ↔ (x ∈ N ∨ (x < 2 ^ n ∧ ∃ m, 3 ≤ m ∧ m ≤ n ∧ co H x n = run s f m))) ∧ N'.length ≤ N.length + 9 ∧ HD τ n H ∧ SC σ τ := fun z => by
      refine ⟨N', q2, q3, fun x => ?_, by omega, q5, q6⟩
      rw [q7]
      constructor
      · rintro (w | ⟨w1, k, k1, k2, k3⟩)
        · exact .inl w
        · exact .inr ⟨w1, k, k1, by omega, k3⟩
      · rintro (w | ⟨w1, k, k1, k2, k3⟩)
        · exact .inl w
        · rcases Nat.lt_or_ge m k with c | c
          · exact absurd k3 (z k c k2 x w1)
          · exact .inr ⟨w1, k, k1, c, k3⟩
    by_cases e : m = n
    · right
      subst e
      rw [if_pos (by rw [zwn (by omega), zw_eq (by omega) (by omega)]; omega)]
      exact ⟨_, rfl, fin (fun k k1 k2 => by omega)⟩
    · rw [if_neg (by rw [zwn (by omega), zw_eq (by omega) (by omega)]; omega)]
      rcases q8 with ⟨g1, g2⟩ | ⟨g1, g2⟩
      · subst g1
        left
        have em : (f : Int) + ((m : Int) + 1) - 1 = ((f + m : Nat) : Int) := by omega
        have em2 : ((13 * s : Nat) : Int) + (((f + m) % 13 : Nat) : Int) = ((13 * s + (f + m) % 13 : Nat) : Int) := by omega
        have ez : zw (1 : Int) ≠ 0 := by decide
        rw [if_neg ez, em, zrem13 (by omega), em2]
        rcases X7_placeOf q5 h (c := 13 * s + (f + m) % 13) (by omega) with ⟨j, j1, j2, j3⟩ | ⟨j1, j3⟩
        · rw [j3, Option.bind_some, if_neg (by rw [zwn (by omega), zw_eq (x := (-1 : Int)) (by omega) (by omega)]; omega)]
          have hp : 2 ^ j < 2147483648 := Nat.pow_lt_pow_right (a := 2) (n := 31) (by decide) (by omega)
          have e1 : zshl (1 : Int) (j : Int) = ((2 ^ j : Nat) : Int) := by
            have := zshl_nat (a := 1) (n := j) (by omega) (by rw [Nat.one_mul]; exact hp)
            rw [Nat.one_mul] at this
            exact this
          have hor : a ||| 2 ^ j < 2 ^ n := Nat.or_lt_two_pow q1 (Nat.pow_lt_pow_right (by decide) j1)
          have hco : co H (a ||| 2 ^ j) n = run s f (m + 1) := by
            apply bs_ext
            intro c _
            rw [run_s hs, ← g2]
            cases e5 : bs (co H (a ||| 2 ^ j) n) c
            · symm
              rw [Bool.or_eq_false_iff]
              constructor
              · cases e6 : bs (co H a n) c
                · rfl
                · obtain ⟨y, y1, y2, y3⟩ := (co_bs c h.2.1).mp e6
                  rw [(co_bs c h.2.1).mpr ⟨y, y1, by rw [Nat.testBit_or, y2]; rfl, y3⟩] at e5; cases e5
              · rw [decide_eq_false_iff_not]
                intro z
                rw [(co_bs c h.2.1).mpr ⟨j, j1, by rw [Nat.testBit_or, Nat.testBit_two_pow_self]; simp, by rw [z]; exact j2⟩] at e5; cases e5
            · symm
              obtain ⟨y, y1, y2, y3⟩ := (co_bs c h.2.1).mp e5
              rw [Nat.testBit_or, Bool.or_eq_true_iff, Nat.testBit_two_pow, decide_eq_true_eq] at y2
              rw [Bool.or_eq_true_iff]
              rcases y2 with y2 | y2
              · left; exact (co_bs c h.2.1).mpr ⟨y, y1, y2, y3⟩
              · right
                rw [decide_eq_true_eq, ← y3, ← y2]; exact j2
          unfold x_X7_findRuns_j84_42
          rw [if_neg ez, e1, zor_nat (by omega) hp, bnd_eq, if_neg ez]
          have hlt := nlt31 hor h1
          have hq7 : ∀ x, (x ∈ N ∨ (x < 2 ^ n ∧ ∃ k, 3 ≤ k ∧ k ≤ m + 1 ∧ co H x n = run s f k)) ↔ ((3 ≤ m + 1 ∧ x = a ||| 2 ^ j) ∨ x ∈ N') := fun x => by
            rw [q7]
            constructor
            · rintro (w | ⟨w1, k, k1, k2, k3⟩)
              · exact .inr (.inl w)
              · by_cases z : k = m + 1
                · subst z
                  exact .inl ⟨k1, co_inj h w1 hor (k3.trans hco.symm)⟩
                · exact .inr (.inr ⟨w1, k, k1, by omega, k3⟩)
            · rintro (⟨w1, w2⟩ | w | ⟨w1, k, k1, k2, k3⟩)
              · subst w2; exact .inr ⟨hor, m + 1, w1, Nat.le_refl _, hco⟩
              · exact .inl w
              · exact .inr ⟨w1, k, k1, by omega, k3⟩
          by_cases e3 : 3 ≤ m + 1
          · rw [if_neg (by rw [zw_eq (x := (m : Int) + 1) (by omega) (by omega), zw_eq (x := (3 : Int)) (by omega) (by omega)]; omega)]
            have hmp : mP n H (a ||| 2 ^ j) := ⟨hor, .inr ⟨s, f, m + 1, hs, hf, e3, by omega, hco⟩⟩
            obtain ⟨σ3, N3, d1, d2, d3, d4, d5, d6, d7⟩ := X7_addMeld q5 h q2 q3 (by omega) hmp
            rw [d1, Option.bind_some, bnd_eq]
            refine ⟨_, rfl, by omega, by show (m : Int) + 1 + 1 = ((m + 1 : Nat) : Int) + 1; omega, by omega, a ||| 2 ^ j, N3, rfl, hor, d2, d3, by omega, d6, SC_t q6 d7, fun x => ?_, .inl ⟨rfl, hco⟩⟩
            rw [hq7, d4]
            constructor
            · rintro (w | w)
              · exact .inl ⟨e3, w⟩
              · exact .inr w
            · rintro (⟨-, w⟩ | w)
              · exact .inl w
              · exact .inr w
          · rw [if_pos (by rw [zw_eq (x := (m : Int) + 1) (by omega) (by omega), zw_eq (x := (3 : Int)) (by omega) (by omega)]; omega), bnd_eq]
            refine ⟨_, rfl, by omega, by show (m : Int) + 1 + 1 = ((m + 1 : Nat) : Int) + 1; omega, by omega, a ||| 2 ^ j, N', rfl, hor, q2, q3, by omega, q5, q6, fun x => ?_, .inl ⟨rfl, hco⟩⟩
            rw [hq7]
            constructor
            · intro w; exact .inr w
            · rintro (⟨w, -⟩ | w)
              · exact absurd w e3
              · exact w
        · rw [j3, Option.bind_some, if_pos (by decide)]
          have ez0 : zw (0 : Int) = 0 := by decide
          have e3 : zor (a : Int) 0 = (a : Int) := by
            have := zor_nat (a := a) (b := 0) (by omega) (by decide)
            rw [Nat.or_zero] at this
            exact this
          unfold x_X7_findRuns_j84_42
          rw [if_pos ez0, e3, bnd_eq, if_pos ez0, bnd_eq]
          have hno : ∀ k, m + 1 ≤ k → ∀ x, x < 2 ^ n → co H x n ≠ run s f k := fun k k1 x hx z => by
            have h3 : bs (co H x n) (13 * s + (f + m) % 13) = true := by
              rw [z]; exact (bs_run hs _).mpr ⟨m, by omega, rfl⟩
            obtain ⟨y, y1, y2, y3⟩ := (co_bs _ h.2.1).mp h3
            exact j1 y y1 y3
          refine ⟨_, rfl, by omega, by show (m : Int) + 1 + 1 = ((m + 1 : Nat) : Int) + 1; omega, by omega, a, N', rfl, q1, q2, q3, by omega, q5, q6, fun x => ?_, .inr ⟨rfl, hno⟩⟩
          rw [q7]
          constructor
          · rintro (w | ⟨w1, k, k1, k2, k3⟩)
            · exact .inl w
            · exact .inr ⟨w1, k, k1, by omega, k3⟩
          · rintro (w | ⟨w1, k, k1, k2, k3⟩)
            · exact .inl w
            · by_cases z : k = m + 1
              · subst z; exact absurd k3 (hno _ (Nat.le_refl _) x w1)
              · exact .inr ⟨w1, k, k1, by omega, k3⟩
      · right
        subst g1
        rw [if_pos (by decide)]
        exact ⟨_, rfl, fin (fun k k1 _ x hx => g2 k (by omega) x hx)⟩) (s := (σ, 0, 1, 1)) 0 ⟨rfl, Nat.zero_le _, 0, N, rfl, Nat.two_pow_pos n, hN, hO, by omega, hH, SC_r σ, fun x => ⟨fun z => .inl z, fun z => z.elim (fun w => w) (fun w => by obtain ⟨-, k, k1, k2, -⟩ := w; omega)⟩, .inl ⟨rfl, by
      rw [co_z h]
      apply bs_ext
      intro c _
      rw [bs_0]
      cases e : bs (run s f 0) c
      · rfl
      · obtain ⟨y, y1, -⟩ := (bs_run hs c).mp e
        omega⟩⟩
  rw [b1, Option.bind_some]
  exact ⟨e9, N', rfl, b2, b3, b4, b5, b6, b7⟩
theorem X7_findRuns {σ : Mm} {n : Nat} {H : Nat → Nat} (hH : HD σ n H) (h : hOk n H) {N : List Nat} (hN : NS σ N) (hO : nOk n H N) (hl : N.length ≤ 65) : ∃ σ' N', x_X7_findRuns σ = some σ' ∧ NS σ' N' ∧ nOk n H N' ∧ (∀ x, x ∈ N' ↔ (x ∈ N ∨ (x < 2 ^ n ∧ isRun (co H x n)))) ∧ N'.length ≤ 164 ∧ HD σ' n H ∧ SC σ σ' := by
  have h1 := h.1
  unfold x_X7_findRuns
  obtain ⟨e9, b1, N', b2, b3, b4, b5, b6, b7⟩ := lup_for (f := fun (s29 : Mm × Int) => x_X7_findRuns_b2 s29.1 s29.2) (fun i s => s.2 = (i : Int) ∧ ∃ N', NS s.1 N' ∧ nOk n H N' ∧ (∀ x, x ∈ N' ↔ (x ∈ N ∨ (x < 2 ^ n ∧ ∃ j m, j < i ∧ 3 ≤ m ∧ m ≤ n ∧ co H x n = run (H j / 13) (H j % 13) m))) ∧ N'.length ≤ 65 + 9 * i ∧ HD s.1 n H ∧ SC σ s.1) (fun e => ∃ N', NS e N' ∧ nOk n H N' ∧ (∀ x, x ∈ N' ↔ (x ∈ N ∨ (x < 2 ^ n ∧ ∃ j m, j < n ∧ 3 ≤ m ∧ m ≤ n ∧ co H x n = run (H j / 13) (H j % 13) m))) ∧ N'.length ≤ 164 ∧ HD e n H ∧ SC σ e) n (fun i s hi hs => by
    obtain ⟨τ, u⟩ := s
    obtain ⟨hu, N', q1, q2, q3, q4, q5, q6⟩ := hs
    simp only at hu q1 q5 q6
    subst hu
    obtain ⟨σ', N2, a1, a2, a3, a4, a5, a6, a7⟩ := X7_runs_i q5 h q1 q2 hi (by omega)
    refine ⟨_, a1, by show (i : Int) + 1 = _; omega, N2, a2, a3, fun x => ?_, by omega, a6, SC_t q6 a7⟩
    rw [a4, q3]
    constructor
    · rintro ((z | ⟨z1, j, m, j1, j2, j3, j4⟩) | ⟨z1, m, m1, m2, m3⟩)
      · exact .inl z
      · exact .inr ⟨z1, j, m, by omega, j2, j3, j4⟩
      · exact .inr ⟨z1, i, m, by omega, m1, m2, m3⟩
    · rintro (z | ⟨z1, j, m, j1, j2, j3, j4⟩)
      · exact .inl (.inl z)
      · by_cases e : j = i
        · subst e; exact .inr ⟨z1, m, j2, j3, j4⟩
        · exact .inl (.inr ⟨z1, j, m, by omega, j2, j3, j4⟩)) (fun s hs => by
    obtain ⟨τ, u⟩ := s
    obtain ⟨hu, N', q1, q2, q3, q4, q5, q6⟩ := hs
    simp only at hu q1 q5 q6
    subst hu
    refine ⟨τ, ?_, N', q1, q2, q3, by omega, q5, q6⟩
    show x_X7_findRuns_b2 τ _ = _
    unfold x_X7_findRuns_b2
    rw [q5.1, if_pos (Int.le_refl _)]) (s := (σ, 0)) ⟨rfl, N, hN, hO, fun x => ⟨fun z => .inl z, fun z => z.elim (fun w => w) (fun w => by obtain ⟨-, j, m, j1, -⟩ := w; omega)⟩, by omega, hH, SC_r σ⟩
  rw [b1]
  refine ⟨e9, N', rfl, b2, b3, fun x => ?_, b5, b6, b7⟩
  rw [b4]
  constructor
  · rintro (z | ⟨z1, j, m, j1, j2, j3, j4⟩)
    · exact .inl z
    · have := h.2.1 j j1
      exact .inr ⟨z1, H j / 13, H j % 13, m, by omega, by omega, j2, by omega, j4⟩
  · rintro (z | ⟨z1, s, f, m, s1, f1, m1, m2, z2⟩)
    · exact .inl z
    · right
      obtain ⟨j, j1, j2, j3⟩ := (co_bs (n := n) (13 * s + (f + 0) % 13) h.2.1).mp (by rw [z2]; exact (bs_run s1 _).mpr ⟨0, by omega, rfl⟩)
      have hm : m ≤ n := by
        have h5 : cnt (bs (co H x n)) 64 = m := by rw [z2]; exact cnt_run s1 (by omega)
        rw [co_cnt h] at h5
        have := cnt_le (fun i => x.testBit i) n
        omega
      have e1 : H j / 13 = s := by omega
      have e2 : H j % 13 = f := by omega
      exact ⟨z1, j, m, j1, m1, hm, by rw [e1, e2]; exact z2⟩
