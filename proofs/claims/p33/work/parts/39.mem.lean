/-! Which melds the class's row has, and how many -/
theorem bs_rank : ∀ r : Nat, r < 13 → ∀ c : Nat, c < 64 → bs (zlshl oneRank (r : Int)) c = decide (c < 52 ∧ c % 13 = r) := by decide +kernel
theorem bs_suit : ∀ i : Nat, i < 4 → ∀ c : Nat, c < 64 → bs (zlshl 8191 ((i : Int) * 13)) c = decide (13 * i ≤ c ∧ c < 13 * i + 13) := by decide +kernel
theorem bs_8191 : ∀ c : Nat, c < 64 → bs 8191 c = decide (c < 13) := by decide +kernel
def isSet (m : Int64) : Prop := ∃ r, r < 13 ∧ (∀ c, bs m c = true → c < 52 ∧ c % 13 = r) ∧ 3 ≤ cnt (bs m) 64
def run (s f n : Nat) : Int64 := zlshl (rn f n) ((s : Int) * 13)
def isRun (m : Int64) : Prop := ∃ s f n, s < 4 ∧ f < 13 ∧ 3 ≤ n ∧ n ≤ 12 ∧ m = run s f n
theorem cnt_sing {T : Nat → Bool} {r : Nat} : ∀ {n : Nat}, (∀ c, c < n → T c = true → c = r) → r < n → cnt T n = if T r = true then 1 else 0
  | 0, _, h => by omega
  | n + 1, h, hr => by
    unfold cnt
    rcases Nat.lt_or_ge r n with c | c
    · rw [cnt_sing (fun c hc => h c (by omega)) c]
      cases e : T n
      · simp
      · have := h n (by omega) e
        omega
    · have e : r = n := by omega
      subst e
      have : cnt T r = 0 := by
        rw [cnt_psum]
        refine psum_zero (fun c hc => ?_)
        cases e : T c
        · rfl
        · have := h c (by omega) e
          omega
      rw [this, Nat.zero_add]
theorem cnt_rank {x : Int64} {r : Nat} (hr : r < 13) (h : ∀ c, bs x c = true → c < 52 ∧ c % 13 = r) : cnt (bs x) 64 = (if bs x r = true then 1 else 0) + ((if bs x (13 + r) = true then 1 else 0) + ((if bs x (26 + r) = true then 1 else 0) + (if bs x (39 + r) = true then 1 else 0))) := by
  rw [show (64 : Nat) = 13 + (13 + (13 + (13 + 12))) by decide, cnt_split, cnt_split, cnt_split, cnt_split]
  rw [cnt_sing (r := r) (fun c hc hb => by have := h c hb; omega) hr]
  rw [cnt_sing (T := fun c => bs x (13 + c)) (r := r) (fun c hc hb => by have := h (13 + c) hb; omega) hr]
  rw [cnt_sing (T := fun c => bs x (13 + (13 + c))) (r := r) (fun c hc hb => by have := h _ hb; omega) hr]
  rw [cnt_sing (T := fun c => bs x (13 + (13 + (13 + c)))) (r := r) (fun c hc hb => by have := h _ hb; omega) hr]
  have z : cnt (fun c => bs x (13 + (13 + (13 + (13 + c))))) 12 = 0 := by
    rw [cnt_psum]
    refine psum_zero (fun c hc => ?_)
    cases e : bs x (13 + (13 + (13 + (13 + c))))
    · rfl
    · have := h _ e
      omega
  rw [z]
  rw [show 13 + (13 + (13 + r)) = 39 + r by omega, show 13 + (13 + r) = 26 + r by omega]
  omega
theorem rank_ext {x y : Int64} {r : Nat} (hx : ∀ c, bs x c = true → c < 52 ∧ c % 13 = r) (hy : ∀ c, bs y c = true → c < 52 ∧ c % 13 = r) (h : ∀ i, i < 4 → bs x (13 * i + r) = bs y (13 * i + r)) : x = y := by
  apply bs_ext
  intro c _
  by_cases e : c < 52 ∧ c % 13 = r
  · have := h (c / 13) (by omega)
    rw [show 13 * (c / 13) + r = c by omega] at this
    exact this
  · have h1 : bs x c = false := by
      cases z : bs x c
      · rfl
      · exact absurd (hx c z) e
    have h2 : bs y c = false := by
      cases z : bs y c
      · rfl
      · exact absurd (hy c z) e
    rw [h1, h2]
theorem cX_mem {s : Int64} {q : Int64 × Int} : ∀ {k i : Nat}, q ∈ cX s k i ↔ ∃ j, i ≤ j ∧ j < i + k ∧ q = (s &&& ((zlshl 8191 ((j : Int) * 13)) ^^^ (-1)), 1)
  | 0, i => by
    constructor
    · intro h
      cases h
    · rintro ⟨j, h1, h2, -⟩
      omega
  | k + 1, i => by
    constructor
    · intro h
      rcases List.mem_cons.mp h with e | e
      · exact ⟨i, by omega, by omega, e⟩
      · obtain ⟨j, h1, h2, h3⟩ := cX_mem.mp e
        exact ⟨j, by omega, by omega, h3⟩
    · rintro ⟨j, h1, h2, h3⟩
      by_cases e : j = i
      · subst e
        exact List.mem_cons.mpr (.inl h3)
      · exact List.mem_cons.mpr (.inr (cX_mem.mpr ⟨j, by omega, by omega, h3⟩))
theorem bs_dsuit (s : Int64) {i : Nat} (hi : i < 4) (c : Nat) : bs (s &&& ((zlshl 8191 ((i : Int) * 13)) ^^^ (-1))) c = (bs s c && !decide (13 * i ≤ c ∧ c < 13 * i + 13)) := by
  rw [bs_dif]
  rcases Nat.lt_or_ge c 64 with h | h
  · rw [bs_suit i hi c h]
  · rw [bs_big s h]; rfl
theorem cnt_dif {S m : Int64} (h : sb m S) : cnt (bs S) 64 = cnt (bs m) 64 + cnt (bs (dif S m)) 64 := by
  rw [cnt_psum, cnt_psum, cnt_psum, ← psum_add (fun c _ hc => by rw [bs_dif2, hc]; simp)]
  refine psum_congr (fun c _ => ?_)
  rw [bs_dif2]
  have := (sb_iff m S).mp h c
  cases e : bs m c
  · simp
  · rw [this e]; rfl
theorem cnt_pos {x : Int64} {c : Nat} (h : bs x c = true) : 1 ≤ cnt (bs x) 64 := by
  rcases Nat.eq_zero_or_pos (cnt (bs x) 64) with e | e
  · rw [cnt_z.mp e, bs_0] at h; cases h
  · exact e
theorem sb_eq {m S : Int64} (h : sb m S) (hc : cnt (bs S) 64 ≤ cnt (bs m) 64) : m = S := by
  have h1 := cnt_dif h
  have h2 : dif S m = 0 := cnt_z.mp (by omega)
  apply bs_ext
  intro c _
  cases e : bs S c
  · cases e2 : bs m c
    · rfl
    · rw [(sb_iff m S).mp h c e2] at e; cases e
  · have := bs_nz.mp h2 c
    rw [bs_dif2, e] at this
    simpa using this
theorem cSets_mem {s : Int64} {r : Nat} (hr : r < 13) (hs : ∀ c, bs s c = true → c < 52 ∧ c % 13 = r) {q : Int64 × Int} : q ∈ cSets s ↔ q.2 = 1 ∧ sb q.1 s ∧ 3 ≤ cnt (bs q.1) 64 := by
  have h4 := cnt_rank hr hs
  constructor
  · intro h
    unfold cSets at h
    by_cases e : 3 ≤ cnt (bs s) 64
    · rw [if_pos e] at h
      rcases List.mem_cons.mp h with z | z
      · subst z
        exact ⟨rfl, (sb_iff _ _).mpr (fun c hc => hc), e⟩
      · by_cases e4 : cnt (bs s) 64 = 4
        · rw [if_pos e4] at z
          obtain ⟨j, j1, j2, j3⟩ := cX_mem.mp z
          subst j3
          have hsb : sb (s &&& ((zlshl 8191 ((j : Int) * 13)) ^^^ (-1))) s := (sb_iff _ _).mpr (fun c hc => by
            rw [bs_dif] at hc
            simp only [Bool.and_eq_true] at hc
            exact hc.1)
          refine ⟨rfl, hsb, ?_⟩
          have h5 := cnt_rank (x := s &&& ((zlshl 8191 ((j : Int) * 13)) ^^^ (-1))) hr (fun c hc => hs c ((sb_iff _ _).mp hsb c hc))
          rw [h5, bs_dsuit s (by omega), bs_dsuit s (by omega), bs_dsuit s (by omega), bs_dsuit s (by omega)]
          rw [e4] at h4
          cases b0 : bs s r <;> cases b1 : bs s (13 + r) <;> cases b2 : bs s (26 + r) <;> cases b3 : bs s (39 + r) <;> rw [b0, b1, b2, b3] at h4 <;> simp at h4
          have hj : j = 0 ∨ j = 1 ∨ j = 2 ∨ j = 3 := by omega
          rcases hj with e0 | e0 | e0 | e0 <;> subst e0 <;> simp <;> split <;> first | omega | (split <;> first | omega | (split <;> first | omega | (split <;> omega)))
        · rw [if_neg e4] at z; cases z
    · rw [if_neg e] at h; cases h
  · rintro ⟨h1, h2, h3⟩
    obtain ⟨m, k⟩ := q
    simp only at h1 h2 h3
    subst h1
    have hm : ∀ c, bs m c = true → c < 52 ∧ c % 13 = r := fun c hc => hs c ((sb_iff _ _).mp h2 c hc)
    have h5 := cnt_rank hr hm
    have hle := cnt_sb h2
    have c0 := (sb_iff _ _).mp h2 r
    have c1 := (sb_iff _ _).mp h2 (13 + r)
    have c2 := (sb_iff _ _).mp h2 (26 + r)
    have c3 := (sb_iff _ _).mp h2 (39 + r)
    unfold cSets
    rw [if_pos (by omega)]
    by_cases e : m = s
    · subst e; exact List.mem_cons_self
    · apply List.mem_cons_of_mem
      have key : ∃ i, i < 4 ∧ bs m (13 * i + r) = false ∧ bs s (13 * i + r) = true := by
        false_or_by_contra
        rename_i hno
        apply e
        refine rank_ext hm hs (fun i hi => ?_)
        cases z : bs m (13 * i + r)
        · cases z2 : bs s (13 * i + r)
          · rfl
          · exact absurd ⟨i, hi, z, z2⟩ hno
        · exact ((sb_iff _ _).mp h2 _ z).symm
      obtain ⟨i, hi, m0, s0⟩ := key
      have e4 : cnt (bs s) 64 = 4 := by
        have h6 := cnt_dif h2
        have h7 := cnt_pos (x := dif s m) (c := 13 * i + r) (by rw [bs_dif2, s0, m0]; rfl)
        rw [h4] at h6 ⊢
        revert h6
        cases bs s r <;> cases bs s (13 + r) <;> cases bs s (26 + r) <;> cases bs s (39 + r) <;> simp <;> omega
      rw [if_pos e4]
      refine cX_mem.mpr ⟨i, by omega, by omega, ?_⟩
      congr 1
      have hP : sb (s &&& ((zlshl 8191 ((i : Int) * 13)) ^^^ (-1))) s := (sb_iff _ _).mpr (fun c hc => by
        rw [bs_dif] at hc
        simp only [Bool.and_eq_true] at hc
        exact hc.1)
      have h8 := cnt_dif hP
      have h9 := cnt_pos (x := dif s (s &&& ((zlshl 8191 ((i : Int) * 13)) ^^^ (-1)))) (c := 13 * i + r) (by
        rw [bs_dif2, s0, bs_dsuit s hi]
        have : 13 * i ≤ 13 * i + r ∧ 13 * i + r < 13 * i + 13 := by omega
        simp [this])
      refine sb_eq ((sb_iff _ _).mpr (fun c hc => ?_)) (by omega)
      rw [bs_dsuit s hi, (sb_iff _ _).mp h2 c hc]
      by_cases z : 13 * i ≤ c ∧ c < 13 * i + 13
      · have hc9 := (hm c hc).2
        have : c = 13 * i + r := by omega
        rw [this, m0] at hc; cases hc
      · rw [decide_eq_false z]; rfl
