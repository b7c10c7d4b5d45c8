/-! The class's sort -/
def lo (x : Int64) : Nat := cnt (bs ((x &&& -x) - 1)) 64
theorem lo_eq {x : Int64} {k : Nat} (h : isLow x k) : lo x = k := by
  unfold lo
  rw [cnt_congr (T := fun c => decide (c < k)) (fun c hc => bs_below h hc), cnt_below (by have := low_lt h; omega)]
theorem lo_spec {x : Int64} (h : x ≠ 0) : isLow x (lo x) := by
  obtain ⟨k, hk⟩ := low_ex h
  rw [lo_eq hk]; exact hk
def rv (x : Int64) : Nat → Nat
  | 0 => 0
  | n + 1 => 2 * rv x n + if bs x n then 1 else 0
theorem rv_lt (x : Int64) : ∀ n, rv x n < 2 ^ n
  | 0 => by show 0 < 1; decide
  | n + 1 => by
    unfold rv
    have := rv_lt x n
    rw [Nat.pow_succ]
    cases bs x n <;> simp <;> omega
theorem rv_eq {x y : Int64} : ∀ {n : Nat}, (∀ j, j < n → bs x j = bs y j) → rv x n = rv y n
  | 0, _ => rfl
  | n + 1, h => by unfold rv; rw [rv_eq (fun j hj => h j (by omega)), h n (by omega)]
theorem rv_less {x y : Int64} {k : Nat} (h : ∀ j, j < k → bs x j = bs y j) (hx : bs x k = true) (hy : bs y k = false) : ∀ {n : Nat}, k < n → rv y n < rv x n
  | 0, h => by omega
  | n + 1, hk => by
    unfold rv
    rcases Nat.lt_or_ge k n with c | c
    · have := rv_less h hx hy c
      cases bs x n <;> cases bs y n <;> simp <;> omega
    · have e : k = n := by omega
      subst e
      rw [rv_eq h, hx, hy]
      simp
theorem rv_inj {x y : Int64} (hx : cw x) (hy : cw y) (h : rv x 52 = rv y 52) : x = y := by
  false_or_by_contra
  rename_i c
  have hd : x ^^^ y ≠ 0 := fun z => c (by
    apply bs_ext
    intro j _
    have := bs_nz.mp z j
    rw [bs_xor] at this
    cases e : bs x j <;> cases e2 : bs y j <;> rw [e, e2] at this <;> first | rfl | cases this)
  obtain ⟨k, hk1, hk2⟩ := low_ex hd
  have hb : ∀ j, j < k → bs x j = bs y j := fun j hj => by
    have := hk2 j hj
    rw [bs_xor] at this
    cases e : bs x j <;> cases e2 : bs y j <;> rw [e, e2] at this <;> first | rfl | cases this
  rw [bs_xor] at hk1
  have hk : k < 52 := by
    rcases Nat.lt_or_ge k 52 with e | e
    · exact e
    · rw [hx k e, hy k e] at hk1; cases hk1
  cases e : bs x k <;> cases e2 : bs y k <;> rw [e, e2] at hk1
  · cases hk1
  · have := rv_less (fun j hj => (hb j hj).symm) e2 e hk; omega
  · have := rv_less hb e e2 hk; omega
  · cases hk1
theorem lex_eq {x y : Int64} (hx : cw x) (hy : cw y) : (x &&& (x ^^^ y)) &&& -(x ^^^ y) = 0 ↔ rv x 52 ≤ rv y 52 := by
  by_cases c : x = y
  · subst c
    have : x ^^^ x = 0 := by apply bs_ext; intro j _; rw [bs_xor, bs_0]; simp
    rw [this]
    constructor
    · intro _; exact Nat.le_refl _
    · intro _; apply bs_ext; intro j _; rw [bs_and, bs_and, bs_0]; simp
  · have hd : x ^^^ y ≠ 0 := fun z => c (by
      apply bs_ext
      intro j _
      have := bs_nz.mp z j
      rw [bs_xor] at this
      cases e : bs x j <;> cases e2 : bs y j <;> rw [e, e2] at this <;> first | rfl | cases this)
    obtain ⟨k, hk⟩ := low_ex hd
    obtain ⟨hk1, hk2⟩ := hk
    have hb : ∀ j, j < k → bs x j = bs y j := fun j hj => by
      have := hk2 j hj
      rw [bs_xor] at this
      cases e : bs x j <;> cases e2 : bs y j <;> rw [e, e2] at this <;> first | rfl | cases this
    have hiso : ∀ j, bs ((x &&& (x ^^^ y)) &&& -(x ^^^ y)) j = (bs x j && decide (j = k)) := fun j => by
      have := bs_iso ⟨hk1, hk2⟩ j
      rw [bs_and] at this
      rw [bs_and, bs_and, Bool.and_assoc, this]
    rw [bs_xor] at hk1
    have hk : k < 52 := by
      rcases Nat.lt_or_ge k 52 with e | e
      · exact e
      · rw [hx k e, hy k e] at hk1; cases hk1
    rw [bs_nz]
    cases e : bs x k <;> cases e2 : bs y k <;> rw [e, e2] at hk1
    · cases hk1
    · have := rv_less (fun j hj => (hb j hj).symm) e2 e hk
      constructor
      · intro _; omega
      · intro _ j
        rw [hiso]
        by_cases z : j = k
        · subst z; rw [e]; rfl
        · simp [z]
    · have := rv_less hb e e2 hk
      constructor
      · intro h9
        have := h9 k
        rw [hiso, e] at this
        simp at this
      · intro _; omega
    · cases hk1
def keyN (q : Int64 × Int) : Nat := (lo q.1 * 14 + cnt (bs q.1) 64) * 4 + q.2.toNat
def rk (q : Int64 × Int) : Nat := keyN q * 4503599627370496 + (4503599627370495 - rv q.1 52)
def KF (σ : Mm) (n : Nat) (A : Nat → Int64 × Int) : Prop := σ 0 4 = (n : Int) ∧ ∀ i, i < n → zL (σ 1 i) = (A i).1 ∧ σ 3 i = ((keyN (A i) : Nat) : Int) ∧ σ 4 i = ((lW (A i).1 : Nat) : Int)
/-- what a row of melds is made of -/
def okM (q : Int64 × Int) : Prop := q.1 ≠ 0 ∧ cw q.1 ∧ (q.2 = 1 ∨ q.2 = 2)
theorem keyN_lt {q : Int64 × Int} (h : okM q) : keyN q < 4000 := by
  have h1 := low_lt (lo_spec h.1)
  have h2 := cnt_le (bs q.1) 64
  have h3 : q.2.toNat ≤ 2 := by rcases h.2.2 with e | e <;> rw [e] <;> decide
  unfold keyN
  omega
theorem rk_lt {p q : Int64 × Int} : rk p < rk q ↔ keyN p < keyN q ∨ (keyN p = keyN q ∧ rv q.1 52 < rv p.1 52) := by
  have h1 := rv_lt p.1 52
  have h2 := rv_lt q.1 52
  unfold rk
  omega
theorem X1_isAhead {σ : Mm} {n : Nat} {A : Nat → Int64 × Int} (h : KF σ n A) (hn : n ≤ 64) (hA : ∀ i, i < n → okM (A i)) {a b : Nat} (ha : a < n) (hb : b < n) : x_X1_isAhead σ (a : Int) (b : Int) = some (if rk (A a) < rk (A b) then 1 else 0) := by
  have za : zin (a : Int) 64 := zin_i (by omega) (by omega) (by omega)
  have zb9 : zin (b : Int) 64 := zin_i (by omega) (by omega) (by omega)
  obtain ⟨a1, a2, a3⟩ := h.2 a ha
  obtain ⟨b1, b2, b3⟩ := h.2 b hb
  have ka := keyN_lt (hA a ha)
  have kb := keyN_lt (hA b hb)
  unfold x_X1_isAhead
  simp only [if_pos za, if_pos zb9, bnd_eq]
  rw [zix_nat (by omega), zix_nat (by omega), a1, b1, a2, b2]
  rw [zwn (by omega), zwn (by omega)]
  by_cases e : keyN (A a) = keyN (A b)
  · rw [if_pos (by omega)]
    by_cases e2 : ((A a).1 &&& ((A a).1 ^^^ (A b).1)) &&& -((A a).1 ^^^ (A b).1) = 0
    · rw [if_pos ((zcmp_e _ _).mpr e2), if_neg]
      rw [rk_lt]
      have := (lex_eq (hA a ha).2.1 (hA b hb).2.1).mp e2
      omega
    · rw [if_neg (fun z => e2 ((zcmp_e _ _).mp z)), if_pos]
      rw [rk_lt]
      have : ¬ rv (A a).1 52 ≤ rv (A b).1 52 := fun z => e2 ((lex_eq (hA a ha).2.1 (hA b hb).2.1).mpr z)
      omega
  · rw [if_neg (by omega)]
    by_cases e2 : keyN (A b) ≤ keyN (A a)
    · rw [if_pos (by omega), if_neg]
      rw [rk_lt]
      omega
    · rw [if_neg (by omega), if_pos]
      rw [rk_lt]
      omega
def swp {α : Type} (A : Nat → α) (t : Nat) : Nat → α := fun j => if j = t + 1 then A t else if j = t then A (t + 1) else A j
theorem swp_1 {α : Type} (A : Nat → α) (t : Nat) : swp A t (t + 1) = A t := if_pos rfl
theorem swp_0 {α : Type} (A : Nat → α) (t : Nat) : swp A t t = A (t + 1) := by unfold swp; rw [if_neg (by omega), if_pos rfl]
theorem swp_e {α : Type} (A : Nat → α) {t j : Nat} (h : j ≠ t) (h2 : j ≠ t + 1) : swp A t j = A j := by unfold swp; rw [if_neg h2, if_neg h]
theorem swp_mem {α : Type} (A : Nat → α) {t n : Nat} (h : t + 1 < n) (q : α) : (∃ j, j < n ∧ swp A t j = q) ↔ (∃ j, j < n ∧ A j = q) := by
  constructor
  · rintro ⟨j, h1, h2⟩
    by_cases e : j = t
    · subst e; rw [swp_0] at h2; exact ⟨j + 1, h, h2⟩
    · by_cases e2 : j = t + 1
      · subst e2; rw [swp_1] at h2; exact ⟨t, by omega, h2⟩
      · rw [swp_e A e e2] at h2; exact ⟨j, h1, h2⟩
  · rintro ⟨j, h1, h2⟩
    by_cases e : j = t
    · subst e; exact ⟨j + 1, h, by rw [swp_1]; exact h2⟩
    · by_cases e2 : j = t + 1
      · subst e2; exact ⟨t, by omega, by rw [swp_0]; exact h2⟩
      · exact ⟨j, h1, by rw [swp_e A e e2]; exact h2⟩
/-- one swap of the sort -/
theorem X1_swap {σ : Mm} {n : Nat} {A : Nat → Int64 × Int} (h : KF σ n A) (hn : n ≤ 64) (hA : ∀ i, i < n → okM (A i)) {t i : Nat} (ht : t + 1 < n) (hr : rk (A (t + 1)) < rk (A t)) : ∃ σ', x_X1_sort_b18 (i : Int) σ ((t : Int) + 1) = some (.inl (σ', (t : Int))) ∧ KF σ' n (swp A t) := by
  have et : (t : Int) + 1 = ((t + 1 : Nat) : Int) := by omega
  have et2 : ((t + 1 : Nat) : Int) - 1 = ((t : Nat) : Int) := by omega
  have za : zin ((t + 1 : Nat) : Int) 64 := zin_i (by omega) (by omega) (by omega)
  have zb9 : zin (t : Int) 64 := zin_i (by omega) (by omega) (by omega)
  obtain ⟨a1, a2, a3⟩ := h.2 (t + 1) ht
  obtain ⟨b1, b2, b3⟩ := h.2 t (by omega)
  unfold x_X1_sort_b18
  rw [et, et2, if_neg (by rw [zwn (by omega)]; omega), X1_isAhead h hn hA ht (show t < n by omega), Option.bind_some, if_pos hr, if_neg (by decide), if_pos za, bnd_eq, if_pos zb9, if_pos za, bnd_eq, if_pos zb9, bnd_eq, if_pos za, bnd_eq, if_pos zb9, if_pos za, bnd_eq, if_pos zb9, bnd_eq, if_pos za, bnd_eq, if_pos zb9, if_pos za, bnd_eq, if_pos zb9, bnd_eq, bnd_eq]
  rw [zix_nat (n := t + 1) (by omega), zix_nat (n := t) (by omega)]
  have ec : ((t + 1 : Nat) : Int) + -1 = (t : Int) := by omega
  rw [ec]
  refine ⟨_, rfl, ?_, ?_⟩
  · simp only [zu_at]
    simpa using h.1
  · intro j hj
    obtain ⟨c1, c2, c3⟩ := h.2 j hj
    by_cases e : j = t
    · subst e
      rw [swp_0]
      refine ⟨?_, ?_, ?_⟩
      · simp [zu_at, zL_toInt, a1]
      · simp [zu_at, a2]
      · simp [zu_at, a3]
    · by_cases e2 : j = t + 1
      · subst e2
        rw [swp_1]
        refine ⟨?_, ?_, ?_⟩
        · simp [zu_at, zL_toInt, b1]
        · simp [zu_at, b2]
        · simp [zu_at, b3]
      · rw [swp_e A e e2]
        refine ⟨?_, ?_, ?_⟩
        · simp [zu_at, e, e2, c1]
        · simp [zu_at, e, e2, c2]
        · simp [zu_at, e, e2, c3]
def srt (A : Nat → Int64 × Int) (n : Nat) : Prop := ∀ a b, a < b → b < n → rk (A a) ≤ rk (A b)
theorem X1_sort_in {σ : Mm} {n : Nat} {A : Nat → Int64 × Int} (h : KF σ n A) (hn : n ≤ 64) (hA : ∀ i, i < n → okM (A i)) {i : Nat} (hi : i < n) (hs : srt A i) : ∃ σ' A', lup (fun (s26 : Mm × Int) => x_X1_sort_b18 (i : Int) s26.1 s26.2) (σ, (i : Int)) = some σ' ∧ KF σ' n A' ∧ srt A' (i + 1) ∧ ∀ q, (∃ j, j < n ∧ A' j = q) ↔ (∃ j, j < n ∧ A j = q) := by
  obtain ⟨e9, b1, A', b2⟩ := lup_ind (f := fun (s26 : Mm × Int) => x_X1_sort_b18 (i : Int) s26.1 s26.2) (fun k s => ∃ (B : Nat → Int64 × Int) (t : Nat), s.2 = (t : Int) ∧ t + k = i ∧ KF s.1 n B ∧ (∀ a b, a < b → b ≤ i → a ≠ t → b ≠ t → rk (B a) ≤ rk (B b)) ∧ (∀ b, t < b → b ≤ i → rk (B t) ≤ rk (B b)) ∧ ∀ q, (∃ j, j < n ∧ B j = q) ↔ (∃ j, j < n ∧ A j = q)) (fun σ' => ∃ A', KF σ' n A' ∧ srt A' (i + 1) ∧ ∀ q, (∃ j, j < n ∧ A' j = q) ↔ (∃ j, j < n ∧ A j = q)) i (fun k s hp => by
    obtain ⟨τ, u⟩ := s
    obtain ⟨B, t, hu, htk, hB, s1, s2, hm⟩ := hp
    simp only at hu hB
    subst hu
    have hBo : ∀ j, j < n → okM (B j) := fun j hj => by
      obtain ⟨j2, h1, h2⟩ := (hm (B j)).mp ⟨j, hj, rfl⟩
      rw [← h2]; exact hA j2 h1
    show (∃ s', x_X1_sort_b18 (i : Int) τ (t : Int) = _ ∧ _) ∨ (∃ e, x_X1_sort_b18 (i : Int) τ (t : Int) = _ ∧ _)
    cases t with
    | zero =>
      right
      refine ⟨τ, ?_, B, hB, fun a b h1 h2 => ?_, hm⟩
      · unfold x_X1_sort_b18
        rw [if_pos (by decide)]
      · by_cases e : a = 0
        · subst e; exact s2 b h1 (by omega)
        · exact s1 a b h1 (by omega) e (by omega)
    | succ t =>
      by_cases e : rk (B (t + 1)) < rk (B t)
      · left
        obtain ⟨σ', c1, c2⟩ := X1_swap (i := i) hB hn hBo (t := t) (by omega) e
        refine ⟨_, c1, by omega, swp B t, t, rfl, by omega, c2, fun a b h1 h2 h3 h4 => ?_, fun b h1 h2 => ?_, fun q => ?_⟩
        · by_cases e1 : a = t + 1
          · subst e1
            rw [swp_1, swp_e B (by omega) (by omega)]
            exact s1 t b (by omega) h2 (by omega) (by omega)
          · rw [swp_e B h3 e1]
            by_cases e2 : b = t + 1
            · subst e2
              rw [swp_1]
              exact s1 a t (by omega) (by omega) e1 (by omega)
            · rw [swp_e B h4 e2]
              exact s1 a b h1 h2 e1 e2
        · rw [swp_0]
          by_cases e2 : b = t + 1
          · subst e2
            rw [swp_1]; omega
          · rw [swp_e B (by omega) e2]
            exact s2 b (by omega) h2
        · rw [swp_mem B (by omega), hm]
      · right
        refine ⟨τ, ?_, B, hB, fun a b h1 h2 => ?_, hm⟩
        · have et : ((t + 1 : Nat) : Int) - 1 = (t : Int) := by omega
          unfold x_X1_sort_b18
          rw [if_neg (by rw [zwn (by omega)]; omega), et, X1_isAhead hB hn hBo (show t + 1 < n by omega) (show t < n by omega), Option.bind_some, if_neg e, if_pos (by decide)]
        · by_cases e1 : a = t + 1
          · subst e1; exact s2 b h1 (by omega)
          · by_cases e2 : b = t + 1
            · subst e2
              by_cases e3 : a = t
              · subst e3; omega
              · have := s1 a t (by omega) (by omega) e1 (by omega)
                omega
            · exact s1 a b h1 (by omega) e1 e2) (s := (σ, (i : Int))) 0 ⟨A, i, rfl, rfl, h, fun a b h1 h2 h3 h4 => hs a b h1 (by omega), fun b h1 h2 => by omega, fun q => Iff.rfl⟩
  exact ⟨e9, A', b1, b2⟩
theorem X1_sort {σ : Mm} {n : Nat} {A : Nat → Int64 × Int} (h : KF σ n A) (hn : n ≤ 64) (hA : ∀ i, i < n → okM (A i)) : ∃ σ' A', x_X1_sort σ = some σ' ∧ KF σ' n A' ∧ srt A' n ∧ ∀ q, (∃ j, j < n ∧ A' j = q) ↔ (∃ j, j < n ∧ A j = q) := by
  unfold x_X1_sort
  obtain ⟨e9, b1, A', b2⟩ := lup_ind (f := fun (s32 : Mm × Int) => x_X1_sort_b2 s32.1 s32.2) (fun i s => s.2 = (i : Int) ∧ 1 ≤ i ∧ i ≤ 64 ∧ ∃ B : Nat → Int64 × Int, KF s.1 n B ∧ srt B i ∧ ∀ q, (∃ j, j < n ∧ B j = q) ↔ (∃ j, j < n ∧ A j = q)) (fun σ' => ∃ A', KF σ' n A' ∧ srt A' n ∧ ∀ q, (∃ j, j < n ∧ A' j = q) ↔ (∃ j, j < n ∧ A j = q)) 64 (fun i s hp => by
    obtain ⟨τ, u⟩ := s
    obtain ⟨hu, h1, h64, B, hB, hs, hm⟩ := hp
    simp only at hu hB
    subst hu
    have hBo : ∀ j, j < n → okM (B j) := fun j hj => by
      obtain ⟨j2, h1, h2⟩ := (hm (B j)).mp ⟨j, hj, rfl⟩
      rw [← h2]; exact hA j2 h1
    show (∃ s', x_X1_sort_b2 τ (i : Int) = _ ∧ _) ∨ (∃ e, x_X1_sort_b2 τ (i : Int) = _ ∧ _)
    unfold x_X1_sort_b2
    rw [hB.1]
    by_cases e : n ≤ i
    · right
      rw [if_pos (by rw [zwn (by omega), zwn (by omega)]; omega)]
      exact ⟨τ, rfl, B, hB, fun a b h2 h3 => hs a b h2 (by omega), hm⟩
    · left
      rw [if_neg (by rw [zwn (by omega), zwn (by omega)]; omega), if_neg (by rw [zw_eq (x := (64 : Int)) (by omega) (by omega), zwn (by omega)]; omega)]
      obtain ⟨σ', A', c1, c2, c3, c4⟩ := X1_sort_in hB hn hBo (show i < n by omega) hs
      rw [c1, Option.bind_some, bnd_eq]
      exact ⟨_, rfl, by omega, rfl, by omega, by omega, A', c2, c3, fun q => (c4 q).trans (hm q)⟩) (s := (σ, 1)) 1 ⟨rfl, by omega, by omega, A, h, fun a b h1 h2 => by omega, fun q => Iff.rfl⟩
  rw [b1]
  exact ⟨e9, A', rfl, b2⟩
