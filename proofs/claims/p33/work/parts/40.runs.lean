/-! The class's runs -/
theorem bs_rn {f : Nat} (j : Nat) : ∀ n : Nat, bs (rn f n) j = true ↔ ∃ i, i < n ∧ j = (f + i) % 13
  | 0 => by
    constructor
    · intro h
      have : bs 0 j = true := h
      rw [bs_0] at this; cases this
    · rintro ⟨i, h, -⟩; omega
  | n + 1 => by
    show bs (rn f n ||| one ((f + n) % 13)) j = true ↔ _
    rw [bs_or, Bool.or_eq_true_iff, bs_rn j n, bs_one2 (by omega), decide_eq_true_eq]
    constructor
    · rintro (⟨i, h1, h2⟩ | h)
      · exact ⟨i, by omega, h2⟩
      · exact ⟨n, by omega, h⟩
    · rintro ⟨i, h1, h2⟩
      by_cases e : i = n
      · subst e; exact .inr h2
      · exact .inl ⟨i, by omega, h2⟩
theorem cnt_one {k : Nat} (h : k < 64) : cnt (bs (one k)) 64 = 1 := by
  rw [cnt_sing (r := k) (fun c _ hc => by rw [bs_one2 h] at hc; simpa using hc) h, bs_one2 h]
  simp
theorem cnt_rn {f : Nat} : ∀ n : Nat, n ≤ 13 → cnt (bs (rn f n)) 64 = n
  | 0, _ => by
    rw [cnt_psum]
    exact psum_zero (fun c _ => bs_0 c)
  | n + 1, h => by
    have hd : one ((f + n) % 13) &&& rn f n = 0 := (dj_iff _ _).mpr (fun c hc => by
      rw [bs_one2 (by omega)] at hc
      simp at hc
      cases e : bs (rn f n) c
      · rfl
      · obtain ⟨i, h1, h2⟩ := (bs_rn c n).mp e
        omega)
    show cnt (bs (rn f n ||| one ((f + n) % 13))) 64 = _
    rw [cnt_dj hd, cnt_rn n (by omega), cnt_one (by omega)]
theorem sh_i (s : Nat) : (s : Int) * 13 = ((13 * s : Nat) : Int) := by omega
theorem bs_run {s f n : Nat} (hs : s < 4) (c : Nat) : bs (run s f n) c = true ↔ ∃ i, i < n ∧ c = 13 * s + (f + i) % 13 := by
  unfold run
  rw [sh_i]
  rcases Nat.lt_or_ge c 64 with h | h
  · rw [bs_shl (13 * s) (by omega) _ h, Bool.and_eq_true, decide_eq_true_eq, bs_rn]
    constructor
    · rintro ⟨h1, i, h2, h3⟩; exact ⟨i, h2, by omega⟩
    · rintro ⟨i, h2, h3⟩; exact ⟨by omega, i, h2, by omega⟩
  · rw [bs_big _ h]
    constructor
    · intro z; cases z
    · rintro ⟨i, h1, h2⟩; omega
theorem cnt_sh {x : Int64} {k : Nat} (hk : k < 52) (hx : ∀ c, 12 < c → bs x c = false) : cnt (bs (zlshl x (k : Int))) 64 = cnt (bs x) 64 := by
  rcases Nat.lt_or_ge 51 k with e | e
  · omega
  · have h1 : cnt (bs (zlshl x (k : Int))) 64 = cnt (fun c => bs (zlshl x (k : Int)) (k + c)) (64 - k) := by
      rw [show (64 : Nat) = k + (64 - k) by omega, cnt_split]
      have : cnt (bs (zlshl x (k : Int))) k = 0 := by
        rw [cnt_psum]
        refine psum_zero (fun c hc => ?_)
        rw [bs_shl k (by omega) _ (by omega)]
        have : ¬ k ≤ c := by omega
        simp [this]
      rw [this, Nat.zero_add]
      congr 1
      omega
    rw [h1, cnt_psum, cnt_psum]
    have h2 : psum (fun _ => 1) (bs x) 64 = psum (fun _ => 1) (bs x) (64 - k) := by
      rcases Nat.lt_or_ge (64 - k) 13 with z | z
      · omega
      · exact psum_up (by omega) (fun c h3 h4 => hx c (by omega))
    rw [h2]
    refine psum_congr (fun c hc => ?_)
    rw [bs_shl k (by omega) _ (by omega)]
    simp
theorem cnt_run {s f n : Nat} (hs : s < 4) (hn : n ≤ 13) : cnt (bs (run s f n)) 64 = n := by
  unfold run
  rw [sh_i, cnt_sh (by omega), cnt_rn n hn]
  intro c hc
  cases e : bs (rn f n) c
  · rfl
  · obtain ⟨i, h1, h2⟩ := (bs_rn c n).mp e
    omega
theorem rl_mem {r : Int64} {sh : Int} {f : Nat} {q : Int64 × Int} : ∀ {k n : Nat}, 1 ≤ n → (q ∈ rl r sh f k n ↔ ∃ m, n ≤ m ∧ m < n + k ∧ 3 ≤ m ∧ (∀ j, n - 1 ≤ j → j < m → bs r ((f + j) % 13) = true) ∧ q = (zlshl (rn f m) sh, 2))
  | 0, n, _ => by
    constructor
    · intro h
      cases h
    · rintro ⟨m, h1, h2, -⟩
      omega
  | k + 1, n, hn => by
    have ih := rl_mem (r := r) (sh := sh) (f := f) (q := q) (k := k) (n := n + 1) (by omega)
    show q ∈ (if bs r ((f + (n - 1)) % 13) = true then (if 3 ≤ n then [(zlshl (rn f n) sh, 2)] else []) ++ rl r sh f k (n + 1) else []) ↔ _
    by_cases e : bs r ((f + (n - 1)) % 13) = true
    · rw [if_pos e, List.mem_append, ih]
      constructor
      · rintro (h | ⟨m, h1, h2, h3, h4, h5⟩)
        · by_cases e3 : 3 ≤ n
          · rw [if_pos e3] at h
            refine ⟨n, by omega, by omega, e3, fun j h1 h2 => ?_, List.mem_singleton.mp h⟩
            have : j = n - 1 := by omega
            rw [this]; exact e
          · rw [if_neg e3] at h; cases h
        · refine ⟨m, by omega, by omega, h3, fun j j1 j2 => ?_, h5⟩
          by_cases z : j = n - 1
          · rw [z]; exact e
          · exact h4 j (by omega) j2
      · rintro ⟨m, h1, h2, h3, h4, h5⟩
        by_cases z : m = n
        · subst z
          left
          rw [if_pos h3, h5]
          exact List.mem_singleton.mpr rfl
        · right
          exact ⟨m, by omega, by omega, h3, fun j j1 j2 => h4 j (by omega) j2, h5⟩
    · rw [if_neg e]
      constructor
      · intro h; cases h
      · rintro ⟨m, h1, h2, h3, h4, h5⟩
        exact absurd (h4 (n - 1) (by omega) (by omega)) e
theorem cR_mem {r : Int64} {sh : Int} {q : Int64 × Int} : ∀ {k i : Nat}, q ∈ cR r sh k i ↔ ∃ f, i ≤ f ∧ f < i + k ∧ q ∈ rl r sh f (if f = 0 then 13 else 12) 1
  | 0, i => by
    constructor
    · intro h
      cases h
    · rintro ⟨m, h1, h2, -⟩
      omega
  | k + 1, i => by
    show q ∈ rl r sh i (if i = 0 then 13 else 12) 1 ++ cR r sh k (i + 1) ↔ _
    rw [List.mem_append, cR_mem]
    constructor
    · rintro (h | ⟨f, h1, h2, h3⟩)
      · exact ⟨i, by omega, by omega, h⟩
      · exact ⟨f, by omega, by omega, h3⟩
    · rintro ⟨f, h1, h2, h3⟩
      by_cases e : f = i
      · subst e; exact .inl h3
      · exact .inr ⟨f, by omega, by omega, h3⟩
theorem bs_ranks (p : Int64) {s : Nat} (hs : s < 4) (c : Nat) : bs ((zlushr p ((s : Int) * 13)) &&& 8191) c = (bs p (13 * s + c) && decide (c < 13)) := by
  rw [bs_and, sh_i, bs_ushr _ (by omega)]
  rcases Nat.lt_or_ge c 64 with h | h
  · rw [bs_8191 c h]
  · rw [bs_big _ h, bs_big p (show 64 ≤ 13 * s + c by omega)]; rfl
theorem cRuns_mem {p : Int64} {s : Nat} (hs : s < 4) {q : Int64 × Int} : q ∈ cRuns ((zlushr p ((s : Int) * 13)) &&& 8191) ((s : Int) * 13) ↔ ∃ f n, f < 13 ∧ 3 ≤ n ∧ n ≤ (if f = 0 then 13 else 12) ∧ q = (run s f n, 2) ∧ sb (run s f n) p := by
  have key : ∀ f n, f < 13 → ((∀ j, 1 - 1 ≤ j → j < n → bs ((zlushr p ((s : Int) * 13)) &&& 8191) ((f + j) % 13) = true) ↔ sb (run s f n) p) := fun f n hf => by
    rw [sb_iff]
    constructor
    · intro h c hc
      obtain ⟨i, h1, h2⟩ := (bs_run hs c).mp hc
      have := h i (by omega) h1
      rw [bs_ranks p hs, Bool.and_eq_true] at this
      rw [h2]; exact this.1
    · intro h j _ hj
      rw [bs_ranks p hs, h (13 * s + (f + j) % 13) ((bs_run hs _).mpr ⟨j, hj, rfl⟩)]
      have : (f + j) % 13 < 13 := Nat.mod_lt _ (by decide)
      simp [this]
  unfold cRuns
  by_cases e : 3 ≤ cnt (bs ((zlushr p ((s : Int) * 13)) &&& 8191)) 64
  · rw [if_pos e, cR_mem]
    constructor
    · rintro ⟨f, h1, h2, h3⟩
      obtain ⟨m, m1, m2, m3, m4, m5⟩ := (rl_mem (by omega)).mp h3
      exact ⟨f, m, by omega, m3, by omega, m5, (key f m (by omega)).mp m4⟩
    · rintro ⟨f, n, h1, h2, h3, h4, h5⟩
      exact ⟨f, by omega, by omega, (rl_mem (by omega)).mpr ⟨n, by omega, by omega, h2, (key f n h1).mpr h5, h4⟩⟩
  · rw [if_neg e]
    constructor
    · intro h; cases h
    · rintro ⟨f, n, h1, h2, h3, h4, h5⟩
      exfalso
      apply e
      have hn : n ≤ 13 := by split at h3 <;> omega
      have h6 : sb (rn f n) ((zlushr p ((s : Int) * 13)) &&& 8191) := (sb_iff _ _).mpr (fun c hc => by
        obtain ⟨i, i1, i2⟩ := (bs_rn c n).mp hc
        rw [i2]
        exact (key f n h1).mpr h5 i (by omega) i1)
      have := cnt_sb h6
      rw [cnt_rn n hn] at this
      omega
theorem cT_mem {p : Int64} {q : Int64 × Int} : ∀ {k i : Nat}, q ∈ cT p k i ↔ ∃ r, i ≤ r ∧ r < i + k ∧ q ∈ cSets (p &&& zlshl oneRank (r : Int))
  | 0, i => by
    constructor
    · intro h
      cases h
    · rintro ⟨m, h1, h2, -⟩
      omega
  | k + 1, i => by
    show q ∈ cSets (p &&& zlshl oneRank (i : Int)) ++ cT p k (i + 1) ↔ _
    rw [List.mem_append, cT_mem]
    constructor
    · rintro (h | ⟨f, h1, h2, h3⟩)
      · exact ⟨i, by omega, by omega, h⟩
      · exact ⟨f, by omega, by omega, h3⟩
    · rintro ⟨f, h1, h2, h3⟩
      by_cases e : f = i
      · subst e; exact .inl h3
      · exact .inr ⟨f, by omega, by omega, h3⟩
theorem cS_mem {p : Int64} {q : Int64 × Int} : ∀ {k i : Nat}, q ∈ cS p k i ↔ ∃ s : Nat, i ≤ s ∧ s < i + k ∧ q ∈ cRuns ((zlushr p ((s : Int) * 13)) &&& 8191) ((s : Int) * 13)
  | 0, i => by
    constructor
    · intro h
      cases h
    · rintro ⟨m, h1, h2, -⟩
      omega
  | k + 1, i => by
    show q ∈ cRuns ((zlushr p ((i : Int) * 13)) &&& 8191) ((i : Int) * 13) ++ cS p k (i + 1) ↔ _
    rw [List.mem_append, cS_mem]
    constructor
    · rintro (h | ⟨f, h1, h2, h3⟩)
      · exact ⟨i, by omega, by omega, h⟩
      · exact ⟨f, by omega, by omega, h3⟩
    · rintro ⟨f, h1, h2, h3⟩
      by_cases e : f = i
      · subst e; exact .inl h3
      · exact .inr ⟨f, by omega, by omega, h3⟩
theorem bs_prank (p : Int64) {r : Nat} (hr : r < 13) (c : Nat) : bs (p &&& zlshl oneRank (r : Int)) c = (bs p c && decide (c < 52 ∧ c % 13 = r)) := by
  rw [bs_and]
  rcases Nat.lt_or_ge c 64 with h | h
  · rw [bs_rank r hr c h]
  · rw [bs_big p h]; rfl
/-- the row's melds: the sets and the runs of the hand -/
theorem cAll_mem {p : Int64} (hp : cw p) (h11 : cnt (bs p) 64 ≤ 11) {q : Int64 × Int} : q ∈ cAll p ↔ sb q.1 p ∧ ((q.2 = 1 ∧ isSet q.1) ∨ (q.2 = 2 ∧ isRun q.1)) := by
  unfold cAll
  rw [List.mem_append, cT_mem, cS_mem]
  have hrk : ∀ r : Nat, r < 13 → ∀ c, bs (p &&& zlshl oneRank (r : Int)) c = true → c < 52 ∧ c % 13 = r := fun r hr c hc => by
    rw [bs_prank p hr] at hc
    simp only [Bool.and_eq_true, decide_eq_true_eq] at hc
    exact hc.2
  constructor
  · rintro (⟨r, h1, h2, h3⟩ | ⟨s, h1, h2, h3⟩)
    · obtain ⟨a1, a2, a3⟩ := (cSets_mem (by omega) (hrk r (by omega))).mp h3
      refine ⟨(sb_iff _ _).mpr (fun c hc => ?_), .inl ⟨a1, r, by omega, fun c hc => hrk r (by omega) c ((sb_iff _ _).mp a2 c hc), a3⟩⟩
      have := (sb_iff _ _).mp a2 c hc
      rw [bs_and, Bool.and_eq_true] at this
      exact this.1
    · obtain ⟨f, n, b1, b2, b3, b4, b5⟩ := (cRuns_mem (by omega)).mp h3
      subst b4
      refine ⟨b5, .inr ⟨rfl, s, f, n, by omega, b1, b2, ?_, rfl⟩⟩
      have hn : n ≤ 13 := by split at b3 <;> omega
      have := cnt_sb b5
      rw [cnt_run (by omega) hn] at this
      omega
  · rintro ⟨h1, ⟨h2, r, hr, h3, h4⟩ | ⟨h2, s, f, n, h3, h4, h5, h6, h7⟩⟩
    · left
      refine ⟨r, by omega, by omega, (cSets_mem hr (hrk r hr)).mpr ⟨h2, (sb_iff _ _).mpr (fun c hc => ?_), h4⟩⟩
      rw [bs_prank p hr, (sb_iff _ _).mp h1 c hc]
      simp [h3 c hc]
    · right
      obtain ⟨m, k⟩ := q
      simp only at h1 h2 h7
      subst h2 h7
      exact ⟨s, by omega, by omega, (cRuns_mem h3).mpr ⟨f, n, h4, h5, by split <;> omega, rfl, h1⟩⟩
theorem cAll_ok {p : Int64} (hp : cw p) (h11 : cnt (bs p) 64 ≤ 11) : ∀ q ∈ cAll p, okM q ∧ sb q.1 p ∧ 3 ≤ cnt (bs q.1) 64 := fun q hq => by
  obtain ⟨h1, h2⟩ := (cAll_mem hp h11).mp hq
  have h3 : 3 ≤ cnt (bs q.1) 64 := by
    rcases h2 with ⟨-, r, -, -, h⟩ | ⟨-, s, f, n, h3, h4, h5, h6, h7⟩
    · exact h
    · rw [h7, cnt_run h3 (by omega)]; exact h5
  refine ⟨⟨fun z => ?_, cw_sb h1 hp, ?_⟩, h1, h3⟩
  · rw [cnt_z.mpr z] at h3; omega
  · rcases h2 with h | h
    · exact .inl h.1
    · exact .inr h.1
/-! How many -/
theorem rl_len {r : Int64} {sh : Int} {f : Nat} : ∀ k n : Nat, (rl r sh f k n).length = rlN (un r) f k n
  | 0, n => rfl
  | k + 1, n => by
    unfold rl rlN
    rw [bs_un]
    by_cases e : (un r).testBit ((f + (n - 1)) % 13) = true
    · rw [if_pos e, if_pos e, List.length_append, rl_len k (n + 1)]
      by_cases e3 : 3 ≤ n
      · rw [if_pos e3, if_pos e3]; rfl
      · rw [if_neg e3, if_neg e3]; rfl
    · rw [if_neg e, if_neg e]; rfl
theorem cR_len {r : Int64} {sh : Int} : ∀ k f : Nat, (cR r sh k f).length = cRN (un r) k f
  | 0, n => rfl
  | k + 1, n => by
    unfold cR cRN
    rw [List.length_append, rl_len, cR_len k (n + 1)]
