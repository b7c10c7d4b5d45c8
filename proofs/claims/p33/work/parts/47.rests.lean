/-! The model's findRests -/
/-- the places of some cards -/
def pl (H : Nat → Nat) (m : Int64) : Nat → Nat
  | 0 => 0
  | n + 1 => if bs m (H n) = true then pl H m n ||| 2 ^ n else pl H m n
theorem pl_t {H : Nat → Nat} {m : Int64} (i : Nat) : ∀ n : Nat, (pl H m n).testBit i = (decide (i < n) && bs m (H i))
  | 0 => by
    show (0 : Nat).testBit i = _
    rw [Nat.zero_testBit]
    simp
  | n + 1 => by
    unfold pl
    by_cases e : bs m (H n) = true
    · rw [if_pos e, Nat.testBit_or, pl_t i n, Nat.testBit_two_pow]
      by_cases z : n = i
      · subst z; simp [e]
      · have : (i < n + 1) ↔ (i < n) := by omega
        simp only [z, decide_false, Bool.or_false, this]
    · rw [if_neg e, pl_t i n]
      by_cases z : i = n
      · subst z
        have : bs m (H i) = false := by simpa using e
        rw [this]; simp
      · have : (i < n + 1) ↔ (i < n) := by omega
        simp only [this]
theorem pl_lt (H : Nat → Nat) (m : Int64) (n : Nat) : pl H m n < 2 ^ n := Nat.lt_pow_two_of_testBit _ (fun i hi => by
  rw [pl_t]
  have : ¬ i < n := by omega
  simp [this])
theorem pl_co {n : Nat} {H : Nat → Nat} {P m : Int64} (h : hOk n H) (hP : ∀ c, bs P c = true ↔ ∃ i, i < n ∧ H i = c) (hm : sb m P) : co H (pl H m n) n = m := by
  apply bs_ext
  intro c _
  cases e : bs (co H (pl H m n) n) c
  · symm
    cases e2 : bs m c
    · rfl
    · obtain ⟨i, i1, i2⟩ := (hP c).mp ((sb_iff _ _).mp hm c e2)
      rw [(co_bs c h.2.1).mpr ⟨i, i1, by rw [pl_t, i2, e2]; simp [i1], i2⟩] at e; cases e
  · obtain ⟨i, i1, i2, i3⟩ := (co_bs c h.2.1).mp e
    rw [pl_t, i3] at i2
    simp only [Bool.and_eq_true] at i2
    exact i2.2.symm
theorem co_sbP {n : Nat} {H : Nat → Nat} {P : Int64} (h : hOk n H) (hP : ∀ c, bs P c = true ↔ ∃ i, i < n ∧ H i = c) (a : Nat) : sb (co H a n) P := (sb_iff _ _).mpr (fun c hc => by
  obtain ⟨i, i1, i2, i3⟩ := (co_bs c h.2.1).mp hc
  exact (hP c).mpr ⟨i, i1, i3⟩)
def gPl (H : Nat → Nat) (n : Nat) (N : List Nat) (k : Nat) : List Int64 := (N.map (fun a => co H a n)).filter (fun m => decide (lo m = k))
theorem gPl_GG {n : Nat} {H : Nat → Nat} {P : Int64} {N : List Nat} (h : hOk n H) (hP : ∀ c, bs P c = true ↔ ∃ i, i < n ∧ H i = c) (hO : nOk n H N) (hN : ∀ x, x ∈ N ↔ mP n H x) : GG (gPl H n N) P := by
  refine ⟨fun k m => ?_, fun k => ?_⟩
  · unfold gPl
    rw [List.mem_filter, List.mem_map, decide_eq_true_eq]
    constructor
    · rintro ⟨⟨a, a1, a2⟩, h3⟩
      subst a2
      exact ⟨co_sbP h hP a, ((hN a).mp a1).2, h3⟩
    · rintro ⟨h1, h2, h3⟩
      have e := pl_co h hP h1
      exact ⟨⟨pl H m n, (hN _).mpr ⟨pl_lt H m n, by rw [e]; exact h2⟩, e⟩, h3⟩
  · unfold gPl
    have h5 : (N.map (fun a => co H a n)).Pairwise (fun a b => mR a ≤ mR b) := List.pairwise_map.mpr hO.2
    exact h5.filter _
theorem lR_skip {g : Nat → List Int64} {S : Int64} : ∀ {k : Nat}, k ≤ 52 → (∀ c, c < k → bs S c = false) → lR g 52 S = lR g (52 - k) S
  | 0, _, _ => rfl
  | k + 1, hk, hS => by
    rw [lR_skip (k := k) (by omega) (fun c hc => hS c (by omega)), show 52 - k = (51 - k) + 1 by omega]
    show (if bs S (51 - (51 - k)) = true then _ else lR g (51 - k) S) = _
    rw [if_neg (by rw [hS (51 - (51 - k)) (by omega)]; decide), show 52 - (k + 1) = 51 - k by omega]
theorem lG_skip {g : Nat → List Int64} {S : Int64} : ∀ {k : Nat}, k ≤ 52 → (∀ c, c < k → bs S c = false) → lG g 52 S = lG g (52 - k) S
  | 0, _, _ => rfl
  | k + 1, hk, hS => by
    rw [lG_skip (k := k) (by omega) (fun c hc => hS c (by omega)), show 52 - k = (51 - k) + 1 by omega]
    show (if bs S (51 - (51 - k)) = true then _ else lG g (51 - k) S) = _
    rw [if_neg (by rw [hS (51 - (51 - k)) (by omega)]; decide), show 52 - (k + 1) = 51 - k by omega]
theorem dif_low {S m : Int64} {k : Nat} (hS : isLow S k) (hm : bs m k = true) : ∀ c, c < k + 1 → bs (dif S m) c = false := fun c hc => by
  rw [bs_dif2]
  by_cases e : c = k
  · subst e; rw [hm]; simp
  · rw [hS.2 c (by omega)]; rfl
theorem lR_low {g : Nat → List Int64} {P S : Int64} {k : Nat} (hg : gOk g P) (hS : isLow S k) (hk : k < 52) : lR g 52 S = lM (pts k + lR g 52 (dif S (one k))) (lR g 52) S (g k) := by
  have h1 : lR g 52 S = lM (pts k + lR g (51 - k) (dif S (one k))) (lR g (51 - k)) S (g k) := by
    rw [lR_skip (k := k) (by omega) hS.2, show 52 - k = (51 - k) + 1 by omega]
    show (if bs S (51 - (51 - k)) = true then _ else _) = _
    rw [show 51 - (51 - k) = k by omega, if_pos hS.1]
  have h2 : ∀ m, bs m k = true → lR g (51 - k) (dif S m) = lR g 52 (dif S m) := fun m hm => by
    rw [lR_skip (S := dif S m) (k := k + 1) (by omega) (dif_low hS hm), show 52 - (k + 1) = 51 - k by omega]
  rw [h1, h2 (one k) (by rw [bs_one2 (by omega)]; simp)]
  exact Nat.le_antisymm (lM_le2 (Nat.le_refl _) (fun m hm _ => ⟨hm, by rw [h2 m (hg k m hm).1.1]; exact Nat.le_refl _⟩)) (lM_le2 (Nat.le_refl _) (fun m hm _ => ⟨hm, by rw [h2 m (hg k m hm).1.1]; exact Nat.le_refl _⟩))
theorem find_congr {α : Type} {p q : α → Bool} : ∀ {l : List α}, (∀ x ∈ l, p x = q x) → l.find? p = l.find? q
  | [], _ => rfl
  | a :: l, h => by
    rw [List.find?_cons, List.find?_cons, h a List.mem_cons_self, find_congr (fun x hx => h x (List.mem_cons_of_mem _ hx))]
theorem lG_low {g : Nat → List Int64} {P S : Int64} {k : Nat} (hg : gOk g P) (hS : isLow S k) (hk : k < 52) : lG g 52 S = (match (g k).find? (fun m => decide (sb m S ∧ lR g 52 (dif S m) ≤ lR g 52 S)) with
    | some m => m :: lG g 52 (dif S m)
    | none => lG g 52 (dif S (one k))) := by
  have h1 : lG g 52 S = (match (g k).find? (fun m => decide (sb m S ∧ lR g (51 - k) (dif S m) ≤ lR g ((51 - k) + 1) S)) with
      | some m => m :: lG g (51 - k) (dif S m)
      | none => lG g (51 - k) (dif S (one k))) := by
    rw [lG_skip (k := k) (by omega) hS.2, show 52 - k = (51 - k) + 1 by omega]
    show (if bs S (51 - (51 - k)) = true then _ else _) = _
    rw [show 51 - (51 - k) = k by omega, if_pos hS.1]
    rfl
  have h2 : ∀ m, bs m k = true → lR g (51 - k) (dif S m) = lR g 52 (dif S m) := fun m hm => by
    rw [lR_skip (S := dif S m) (k := k + 1) (by omega) (dif_low hS hm), show 52 - (k + 1) = 51 - k by omega]
  have h3 : ∀ m, bs m k = true → lG g (51 - k) (dif S m) = lG g 52 (dif S m) := fun m hm => by
    rw [lG_skip (S := dif S m) (k := k + 1) (by omega) (dif_low hS hm), show 52 - (k + 1) = 51 - k by omega]
  have h4 : lR g ((51 - k) + 1) S = lR g 52 S := by
    rw [lR_skip (S := S) (k := k) (by omega) hS.2, show 52 - k = (51 - k) + 1 by omega]
  rw [h1, find_congr (q := fun m => decide (sb m S ∧ lR g 52 (dif S m) ≤ lR g 52 S)) (fun m hm => by rw [h2 m (hg k m hm).1.1, h4])]
  cases hf : (g k).find? (fun m => decide (sb m S ∧ lR g 52 (dif S m) ≤ lR g 52 S)) with
  | none => exact h3 (one k) (by rw [bs_one2 (by omega)]; simp)
  | some m =>
    have hm := List.mem_of_find?_eq_some hf
    exact congrArg (m :: ·) (h3 m (hg k m hm).1.1)
/-- the best of a row, from left to right -/
def fmN (H : Nat → Nat) (n : Nat) (S : Int64) (k : Nat) (f : Int64 → Nat) : Nat → List Nat → Nat
  | b, [] => b
  | b, m :: l => fmN H n S k f (if lo (co H m n) = k ∧ sb (co H m n) S ∧ f (dif S (co H m n)) < b then f (dif S (co H m n)) else b) l
theorem lM_min {f : Int64 → Nat} {S : Int64} {v : Nat} : ∀ (l : List Int64) (b : Nat), lM (min v b) f S l = min v (lM b f S l)
  | [], b => rfl
  | m :: l, b => by
    rw [lM_cons, lM_cons, lM_min l b]
    by_cases e : sb m S
    · rw [if_pos e, if_pos e]; omega
    · rw [if_neg e, if_neg e]
theorem fmN_eq {H : Nat → Nat} {n : Nat} {S : Int64} {k : Nat} {f : Int64 → Nat} : ∀ (l : List Nat) (b : Nat), fmN H n S k f b l = lM b f S ((l.map (fun a => co H a n)).filter (fun m => decide (lo m = k)))
  | [], b => rfl
  | m :: l, b => by
    show fmN H n S k f (if lo (co H m n) = k ∧ sb (co H m n) S ∧ f (dif S (co H m n)) < b then f (dif S (co H m n)) else b) l = _
    rw [fmN_eq l, List.map_cons]
    by_cases e : lo (co H m n) = k
    · rw [List.filter_cons_of_pos (by simpa using e), lM_cons]
      by_cases e2 : sb (co H m n) S
      · rw [if_pos e2]
        by_cases e3 : f (dif S (co H m n)) < b
        · rw [if_pos ⟨e, e2, e3⟩, ← lM_min, Nat.min_eq_left (by omega)]
        · rw [if_neg (fun z => e3 z.2.2), ← lM_min, Nat.min_eq_right (by omega)]
      · rw [if_neg (fun z => e2 z.2.1), if_neg e2]
    · rw [List.filter_cons_of_neg (by simpa using e), if_neg (fun z => e z.1)]
theorem lM_le0 (b : Nat) (f : Int64 → Nat) (S : Int64) (l : List Int64) : lM b f S l ≤ b := by
  induction l with
  | nil => exact Nat.le_refl _
  | cons m l ih => rw [lM_cons]; split <;> omega
/-- the row of rests stands -/
def RS (σ : Mm) (n : Nat) (H : Nat → Nat) (P : Int64) (N : List Nat) : Prop := HP σ n H P ∧ NS σ N ∧ nOk n H N ∧ (∀ x, x ∈ N ↔ mP n H x) ∧ N.length ≤ 164
theorem cw_P {σ : Mm} {n : Nat} {H : Nat → Nat} {P : Int64} (h : HP σ n H P) : cw P := fun c hc => by
  cases e : bs P c
  · rfl
  · obtain ⟨i, i1, i2⟩ := (h.2.2.2 c).mp e
    have := h.2.1.2.1 i i1
    omega
theorem RR_le {P S : Int64} (hp : cw P) (h11 : cnt (bs P) 64 ≤ 11) (hS : sb S P) : RR P S ≤ 520 := by
  obtain ⟨g, hg⟩ := GG_ex hp h11
  have h1 := RR_B hp hg (dif P S)
  have e : dif P (dif P S) = S := by
    apply bs_ext
    intro c _
    rw [bs_dif2, bs_dif2]
    have := (sb_iff _ _).mp hS c
    cases e : bs S c
    · cases bs P c <;> rfl
    · rw [this e]; rfl
  rw [e] at h1
  have := lW_le S
  omega
theorem mlow_eq {n : Nat} {H : Nat → Nat} (h : hOk n H) {m k : Nat} (hm : mP n H m) (hk : k < n) : (zw (zand (m : Int) (-(m : Int))) ≠ zw ((2 ^ k : Nat) : Int)) ↔ lo (co H m n) ≠ H k := by
  have hm2 := nlt31 hm.1 h.1
  have hm0 : m ≠ 0 := fun z => meld_nz hm.2 (by rw [z]; exact co_z h)
  obtain ⟨j, hj⟩ := nlow_ex hm0
  have hjn := nlow_lt hj hm.1
  have p1 : 2 ^ j < 2147483648 := Nat.pow_lt_pow_right (a := 2) (n := 31) (by decide) (by have := h.1; omega)
  have p2 : 2 ^ k < 2147483648 := Nat.pow_lt_pow_right (a := 2) (n := 31) (by decide) (by have := h.1; omega)
  rw [zlow (by omega) hj, zwn p1, zwn p2, lo_eq (co_low h hm.1 hj)]
  constructor
  · intro z w
    have := hOk_inj h hjn hk w
    exact z (by rw [this])
  · intro z w
    apply z
    have h2 : 2 ^ j = 2 ^ k := by exact_mod_cast w
    have : j = k := by
      have h3 := congrArg (fun q => q.testBit j) h2
      simp only [Nat.testBit_two_pow_self, Nat.testBit_two_pow] at h3
      have h3 : true = decide (k = j) := h3
      have := of_decide_eq_true h3.symm
      exact this.symm
    rw [this]
theorem msub_eq {n : Nat} {H : Nat → Nat} (h : hOk n H) {m a : Nat} (hm : m < 2 ^ n) (ha : a < 2 ^ n) : (zw (zand (m : Int) (zxor (a : Int) (-1))) ≠ 0) ↔ ¬ sb (co H m n) (co H a n) := by
  have hm2 := nlt31 hm h.1
  have ha2 := nlt31 ha h.1
  have hle := ndif_le m a
  rw [zdif (by omega) (by omega), zwn (by omega), co_sb h hm]
  constructor
  · intro z w
    apply z
    have : ndif m a = 0 := by
      apply Nat.eq_of_testBit_eq
      intro i
      rw [ndif_t, Nat.zero_testBit]
      cases e : m.testBit i
      · rfl
      · rw [w i e]; rfl
    rw [this]; rfl
  · intro z w
    apply z
    intro i hi
    have h0 : ndif m a = 0 := by omega
    have := congrArg (fun q => q.testBit i) h0
    simp only [ndif_t, Nat.zero_testBit, hi, Bool.true_and] at this
    simpa using this
theorem zsh1 {k : Nat} (hk : k < 31) : zshl (1 : Int) (k : Int) = ((2 ^ k : Nat) : Int) := by
  have hp : 2 ^ k < 2147483648 := Nat.pow_lt_pow_right (a := 2) (n := 31) (by decide) hk
  have := zshl_nat (a := 1) (n := k) (by omega) (by rw [Nat.one_mul]; exact hp)
  rw [Nat.one_mul] at this
  exact this
theorem low_place {a k : Nat} {n : Nat} {H : Nat → Nat} (h : hOk n H) (ha : a < 2 ^ n) (hk : nlow a k) : x_X7_ones (zi2l (((2 ^ k : Nat) : Int) - 1)) = some (k : Int) := by
  have hkn := nlow_lt hk ha
  have h1 := h.1
  have hp0 : 0 < 2 ^ k := Nat.two_pow_pos k
  have hp : 2 ^ k < 2147483648 := Nat.pow_lt_pow_right (a := 2) (n := 31) (by decide) (by omega)
  have e : ((2 ^ k : Nat) : Int) - 1 = ((2 ^ k - 1 : Nat) : Int) := by omega
  rw [e, X7_ones, zi2l_cnt (n := k) (by omega) (by omega)]
  rw [cnt_congr (T := fun c => decide (c < k)) (fun c hc => by rw [Nat.testBit_two_pow_sub_one]), cnt_below (Nat.le_refl k)]
theorem ndif_low {a k n : Nat} (ha : a < 2 ^ n) (hk : nlow a k) : ndif a (2 ^ k) < a := by
  rcases Nat.lt_or_ge (ndif a (2 ^ k)) a with c | c
  · exact c
  · have e : ndif a (2 ^ k) = a := Nat.le_antisymm (ndif_le _ _) c
    have := congrArg (fun q => q.testBit k) e
    simp only [ndif_t, Nat.testBit_two_pow_self, hk.1] at this
    cases this
theorem ndif_m {n : Nat} {H : Nat → Nat} (h : hOk n H) {a m : Nat} (hm : mP n H m) (hs : sb (co H m n) (co H a n)) : ndif a m < a := by
  rcases Nat.lt_or_ge (ndif a m) a with c | c
  · exact c
  · exfalso
    have e : ndif a m = a := Nat.le_antisymm (ndif_le _ _) c
    apply meld_nz hm.2
    rw [bs_nz]
    intro c
    cases w : bs (co H m n) c
    · rfl
    · have h1 := (sb_iff _ _).mp hs c w
      rw [← e, co_dif h, bs_dif2, w] at h1
      simp at h1
theorem X7_findRests {σ : Mm} {n : Nat} {H : Nat → Nat} {P : Int64} (hH : HP σ n H P) : ∃ (σ' : Mm) (N : List Nat), x_X7_findRests σ = some (σ', (RR P P : Int)) ∧ RS σ' n H P N ∧ (∀ a, a < 2 ^ n → σ' 22 a = ((RR P (co H a n) : Nat) : Int)) ∧ SC σ σ' := by
  obtain ⟨hD, h, hn, hP⟩ := hH
  have h1 := h.1
  have hcw : cw P := cw_P ⟨hD, h, hn, hP⟩
  have h11 : cnt (bs P) 64 ≤ 11 := by omega
  unfold x_X7_findRests
  rw [bnd_eq]
  obtain ⟨σ2, N1, a1, a2, a3, a4, a5, a6, a7⟩ := X7_findSets (σ := zu σ 0 14 0) (HD_zu hD (by omega)) h ⟨zu_hit σ 0 14 0, fun i a z => by simp at z⟩
  rw [a1, Option.bind_some]
  obtain ⟨σ3, N, b1, b2, b3, b4, b5, b6, b7⟩ := X7_findRuns a6 h a2 a3 a5
  have hmem : ∀ x, x ∈ N ↔ mP n H x := fun x => by
    rw [b4, a4]
    constructor
    · rintro (⟨z1, z2⟩ | ⟨z1, z2⟩)
      · exact ⟨z1, .inl z2⟩
      · exact ⟨z1, .inr z2⟩
    · rintro ⟨z1, z2 | z2⟩
      · exact .inl ⟨z1, z2⟩
      · exact .inr ⟨z1, z2⟩
  have hGG := gPl_GG h hP b3 hmem
  have hgk := GG_ok hGG
  rw [b1, Option.bind_some, if_pos (zin_i (by omega) (by omega) (by omega)), bnd_eq]
  have hz0 : zix (0 : Int) = 0 := by decide
  rw [hz0]
  have hRS0 : RS (zu σ3 22 0 0) n H P N := ⟨⟨HD_zu b6 (by omega), h, hn, hP⟩, ⟨by rw [zu_miss _ _ _ _ (fun z => by cases z)]; exact b2.1, fun i a hx => by rw [zu_miss _ _ _ _ (fun z => by cases z)]; exact b2.2 i a hx⟩, b3, hmem, b5⟩
  have hSC0 : SC σ (zu σ3 22 0 0) := SC_t (SC_u σ 0 (.inr (by omega))) (SC_t a7 (SC_t b7 (SC_u _ _ (.inl (by omega)))))
  have hR0 : RR P (co H 0 n) = 0 := by
    rw [co_z h, RR_eq hGG, lR_skip (k := 52) (Nat.le_refl _) (fun c _ => bs_0 c)]
    rfl
  obtain ⟨e9, d1, d2, d3, d4⟩ := lup_ind (f := fun (s36 : Mm × Int) => x_X7_findRests_b22 s36.1 s36.2) (fun i s => s.2 = (i : Int) ∧ 1 ≤ i ∧ i ≤ 2 ^ n ∧ RS s.1 n H P N ∧ (∀ b, b < i → s.1 22 b = ((RR P (co H b n) : Nat) : Int)) ∧ SC σ s.1) (fun e => RS e n H P N ∧ (∀ b, b < 2 ^ n → e 22 b = ((RR P (co H b n) : Nat) : Int)) ∧ SC σ e) (2 ^ n) (fun a s hs => by
    obtain ⟨τ, u⟩ := s
    obtain ⟨hu, ha1, han, hRS, hr, hsc⟩ := hs
    simp only at hu hRS hr hsc
    subst hu
    have hRS2 := hRS
    obtain ⟨⟨hDτ, -⟩, hNτ, -⟩ := hRS2
    have hpn : 2 ^ n ≤ 2048 := Nat.pow_le_pow_right (n := 2) (j := 11) (by decide) h1
    show (∃ s', x_X7_findRests_b22 τ (a : Int) = _ ∧ _) ∨ (∃ e, x_X7_findRests_b22 τ (a : Int) = _ ∧ _)
    unfold x_X7_findRests_b22
    rw [hDτ.1, zsh1 (by omega)]
    by_cases e : a = 2 ^ n
    · right
      rw [if_pos (by rw [zwn (by omega), zwn (by omega)]; omega)]
      exact ⟨_, rfl, hRS, fun b hb => hr b (by omega), hsc⟩
    · left
      have haL : a < 2 ^ n := by omega
      obtain ⟨k, hk⟩ := nlow_ex (show a ≠ 0 by omega)
      have hkn := nlow_lt hk haL
      have hk52 := h.2.1 k hkn
      have p2 : 2 ^ k < 2147483648 := Nat.pow_lt_pow_right (a := 2) (n := 31) (by decide) (by omega)
      have hlow := co_low h haL hk
      rw [if_neg (by rw [zwn (by omega), zwn (by omega)]; omega), zlow (by omega) hk, bnd_eq, low_place h haL hk, Option.bind_some, if_pos (zin_i (by omega) (by omega) (by omega)), zix_nat (by omega), hDτ.2 k hkn, bnd_eq, X7_points (by omega), Option.bind_some, zdif (by omega) p2]
      have hd1 := ndif_low haL hk
      rw [if_pos (zin_i (by omega) (by omega) (by omega)), zix_nat (by omega), hr _ hd1, bnd_eq]
      have hS1 : co H (ndif a (2 ^ k)) n = dif (co H a n) (one (H k)) := by rw [co_dif h, co_one h hkn]
      rw [hS1]
      have hsbP : sb (co H a n) P := co_sbP h hP a
      have hRa : RR P (co H a n) = lM (pts (H k) + RR P (dif (co H a n) (one (H k)))) (RR P) (co H a n) (gPl H n N (H k)) := by
        have hfun : RR P = lR (gPl H n N) 52 := funext (fun S => RR_eq hGG S)
        rw [hfun]
        exact lR_low hgk hlow hk52
      have hb0 : pts (H k) + RR P (dif (co H a n) (one (H k))) ≤ 1000 := by
        have := RR_le hcw h11 (sb_tr (sb_dif (co H a n) (one (H k))) hsbP)
        have := pts_le (H k)
        omega
      have hcast : ((pts (H k) : Nat) : Int) + ((RR P (dif (co H a n) (one (H k))) : Nat) : Int) = ((pts (H k) + RR P (dif (co H a n) (one (H k))) : Nat) : Int) := by omega
      rw [hcast]
      obtain ⟨e8, f1, f2⟩ := lup_for (f := fun (s29 : Int × Int) => x_X7_findRests_b70 τ (a : Int) ((2 ^ k : Nat) : Int) s29.1 s29.2) (fun j s => s.2 = (j : Int) ∧ ∃ b : Nat, s.1 = (b : Int) ∧ b ≤ 1000 ∧ fmN H n (co H a n) (H k) (RR P) b (N.drop j) = RR P (co H a n)) (fun e => e = ((RR P (co H a n) : Nat) : Int)) N.length (fun j s hj hs => by
        obtain ⟨v, u⟩ := s
        obtain ⟨hu, b, hv, hb, hf⟩ := hs
        simp only at hu hv
        subst hu hv
        have hjx : N[j]? = some N[j] := List.getElem?_eq_getElem hj
        have hdrop : N.drop j = N[j] :: N.drop (j + 1) := List.drop_eq_getElem_cons hj
        generalize N[j] = m at hjx hdrop
        have hm := (hmem m).mp (List.mem_of_getElem? hjx)
        have hm2 := nlt31 hm.1 h1
        rw [hdrop] at hf
        have hf : fmN H n (co H a n) (H k) (RR P) (if lo (co H m n) = H k ∧ sb (co H m n) (co H a n) ∧ RR P (dif (co H a n) (co H m n)) < b then RR P (dif (co H a n) (co H m n)) else b) (N.drop (j + 1)) = RR P (co H a n) := hf
        show ∃ s', x_X7_findRests_b70 τ (a : Int) ((2 ^ k : Nat) : Int) (b : Int) (j : Int) = _ ∧ _
        have zj200 : zin (j : Int) 200 := zin_i (by omega) (by have := hRS.2.2.2.2; omega) (by omega)
        have hl164 := hRS.2.2.2.2
        unfold x_X7_findRests_b70
        rw [hNτ.1, if_neg (by rw [zwn (by omega), zwn (by omega)]; omega)]
        simp only [if_pos zj200, bnd_eq]
        rw [zix_nat (by omega), hNτ.2 j m hjx]
        simp only [mlow_eq h hm hkn, msub_eq h hm.1 haL]
        by_cases c1 : lo (co H m n) = H k
        · rw [if_neg (fun z => z c1)]
          by_cases c2 : sb (co H m n) (co H a n)
          · rw [if_neg (fun z => z c2), zdif (by omega) (by omega)]
            have hd2 := ndif_m h hm c2
            rw [if_pos (zin_i (by omega) (by omega) (by omega)), if_pos (zin_i (by omega) (by omega) (by omega)), zix_nat (by omega), hr _ hd2, co_dif h]
            have hle := RR_le hcw h11 (sb_tr (sb_dif (co H a n) (co H m n)) hsbP)
            by_cases c3 : RR P (dif (co H a n) (co H m n)) < b
            · rw [if_neg (by rw [zwn (by omega), zwn (by omega)]; omega)]
              rw [if_pos ⟨c1, c2, c3⟩] at hf
              exact ⟨_, rfl, by show (j : Int) + 1 = _; omega, _, rfl, by omega, hf⟩
            · rw [if_pos (by rw [zwn (by omega), zwn (by omega)]; omega)]
              rw [if_neg (fun z => c3 z.2.2)] at hf
              exact ⟨_, rfl, by show (j : Int) + 1 = _; omega, b, rfl, hb, hf⟩
          · rw [if_pos c2]
            rw [if_neg (fun z => c2 z.2.1)] at hf
            exact ⟨_, rfl, by show (j : Int) + 1 = _; omega, b, rfl, hb, hf⟩
        · rw [if_pos c1]
          rw [if_neg (fun z => c1 z.1)] at hf
          exact ⟨_, rfl, by show (j : Int) + 1 = _; omega, b, rfl, hb, hf⟩) (fun s hs => by
        obtain ⟨v, u⟩ := s
        obtain ⟨hu, b, hv, hb, hf⟩ := hs
        simp only at hu hv
        subst hu hv
        rw [List.drop_length] at hf
        have hf : b = RR P (co H a n) := hf
        refine ⟨(b : Int), ?_, by rw [hf]⟩
        show x_X7_findRests_b70 τ (a : Int) ((2 ^ k : Nat) : Int) _ _ = _
        unfold x_X7_findRests_b70
        rw [hNτ.1, if_pos (Int.le_refl _)]) (s := (((pts (H k) + RR P (dif (co H a n) (one (H k))) : Nat) : Int), 0)) ⟨rfl, _, rfl, hb0, by rw [List.drop_zero, fmN_eq, hRa]; rfl⟩
      rw [f1, Option.bind_some, if_pos (zin_i (by omega) (by omega) (by omega)), bnd_eq, bnd_eq, f2, zix_nat (n := a) (by omega)]
      refine ⟨_, rfl, by omega, by show (a : Int) + 1 = _; omega, by omega, by omega, ⟨⟨HD_zu hDτ (by omega), h, hn, hP⟩, ⟨?_, fun i x hx => ?_⟩, b3, hmem, b5⟩, fun b hb => ?_, SC_t hsc (SC_u _ _ (.inl (by omega)))⟩
      · exact (zu_miss (c := 0) (i := 14) τ 22 a ((RR P (co H a n) : Nat) : Int) (fun z => by cases z)).trans hNτ.1
      · exact (zu_miss (c := 21) (i := i) τ 22 a ((RR P (co H a n) : Nat) : Int) (fun z => by cases z)).trans (hNτ.2 i x hx)
      · by_cases z : b = a
        · subst z
          exact zu_hit τ 22 b ((RR P (co H b n) : Nat) : Int)
        · exact (zu_miss (c := 22) (i := b) τ 22 a ((RR P (co H a n) : Nat) : Int) (fun _ => z)).trans (hr b (by omega))) (s := (zu σ3 22 0 0, 1)) 1 ⟨rfl, Nat.le_refl _, Nat.one_le_two_pow, hRS0, fun b hb => by
      have : b = 0 := by omega
      subst this
      rw [hR0]
      exact zu_hit σ3 22 0 0, hSC0⟩
  rw [d1, Option.bind_some]
  have hD9 := d2.1.1
  have hpn : 2 ^ n ≤ 2048 := Nat.pow_le_pow_right (n := 2) (j := 11) (by decide) h1
  have hp0 : 0 < 2 ^ n := Nat.two_pow_pos n
  rw [hD9.1, zsh1 (by omega)]
  have ea : ((2 ^ n : Nat) : Int) - 1 = ((2 ^ n - 1 : Nat) : Int) := by omega
  rw [ea, if_pos (zin_i (by omega) (by omega) (by omega)), zix_nat (by omega), d3 (2 ^ n - 1) (by omega)]
  have hfull : co H (2 ^ n - 1) n = P := by
    apply bs_ext
    intro c _
    cases e : bs (co H (2 ^ n - 1) n) c
    · symm
      cases e2 : bs P c
      · rfl
      · obtain ⟨i, i1, i2⟩ := (hP c).mp e2
        rw [(co_bs c h.2.1).mpr ⟨i, i1, by rw [Nat.testBit_two_pow_sub_one]; simp [i1], i2⟩] at e; cases e
    · exact ((sb_iff _ _).mp (co_sbP h hP _) c e).symm
  rw [hfull]
  exact ⟨e9, N, rfl, d2, d3, d4⟩
