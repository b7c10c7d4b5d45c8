/-! the same tokens, by a program on the bytes -/
def skT (p : Nat → Bool) (b : Nat → Nat) : Nat → Nat → Nat
  | 0, a => a
  | k + 1, a => if p (b a) = true then skT p b k (a + 1) else a
def skV (b : Nat → Nat) (s : Nat) : Nat → Nat → Nat → Nat × Nat
  | 0, a, v => (a, v)
  | k + 1, a, v => if fig (b a) = true then (if 9 ≤ a - s then skV b s k (a + 1) v else skV b s k (a + 1) (v * 10 + (b a - 48))) else (a, v)
theorem skT_1 {p : Nat → Bool} {b : Nat → Nat} {k a : Nat} (h : p (b a) = true) : skT p b (k + 1) a = skT p b k (a + 1) := if_pos h
theorem skT_0 {p : Nat → Bool} {b : Nat → Nat} {k a : Nat} (h : ¬ p (b a) = true) : skT p b (k + 1) a = a := if_neg h
theorem skV_0 {b : Nat → Nat} {s k a v : Nat} (h : ¬ fig (b a) = true) : skV b s (k + 1) a v = (a, v) := if_neg h
theorem skV_9 {b : Nat → Nat} {s k a v : Nat} (h : fig (b a) = true) (w : 9 ≤ a - s) : skV b s (k + 1) a v = skV b s k (a + 1) v := (if_pos h).trans (if_pos w)
theorem skV_1 {b : Nat → Nat} {s k a v : Nat} (h : fig (b a) = true) (w : ¬ 9 ≤ a - s) : skV b s (k + 1) a v = skV b s k (a + 1) (v * 10 + (b a - 48)) := (if_pos h).trans (if_neg w)
theorem blanks2 {L : Nat} {b : Nat → Nat} : ∀ (k a : Nat) (σ m : Mm), a + k = L → TB σ m L b → σ 0 2 = (a : Int) → m 0 27 = (a : Int) → ∃ (a' : Nat) (σ' m' : Mm), lup (fun (s6 : Mm) => x_X3_advance_b0 s6) σ = some σ' ∧ lup (fun (s8 : Mm) => x_X7_scan_b0 s8) m = some m' ∧ a ≤ a' ∧ a' ≤ L ∧ σ' 0 2 = (a' : Int) ∧ m' 0 27 = (a' : Int) ∧ AF σ σ' ∧ NF m m' ∧ a' = skT blk b k a := by
  intro k
  induction k with
  | zero =>
    intro a σ m hk h h2 h27
    have : a = L := by omega
    subst this
    refine ⟨a, σ, m, lup_inr ?_, lup_inr ?_, Nat.le_refl a, Nat.le_refl a, h2, h27, AF_r σ, NF_r m, rfl⟩
    · show x_X3_advance_b0 σ = _
      unfold x_X3_advance_b0
      rw [h.2.1, h2, if_pos (Int.le_refl _)]
    · show x_X7_scan_b0 m = _
      unfold x_X7_scan_b0
      rw [h.2.2.1, h27, if_pos (Int.le_refl _)]
  | succ k ih =>
    intro a σ m hk h h2 h27
    have ha : a < L := by omega
    obtain ⟨l1, l2, l3, l4⟩ := id h
    obtain ⟨b1, b2, b3⟩ := l4 a ha
    have ei : (a : Int) + 1 = ((a + 1 : Nat) : Int) := by omega
    by_cases e : blk (b a) = true
    · have s1 : x_X3_advance_b0 σ = some (.inl (zu σ 0 2 ((a + 1 : Nat) : Int))) := by
        unfold x_X3_advance_b0
        rw [l2, h2, if_neg (nle_n ha (by omega)), sgn_at h ha, Option.bind_some, X3_blk b1, Option.bind_some, if_pos e, if_neg d10, ei]; rfl
      have s2 : x_X7_scan_b0 m = some (.inl (zu m 0 27 ((a + 1 : Nat) : Int))) := by
        unfold x_X7_scan_b0
        rw [l3, h27, if_neg (nle_n ha (by omega)), if_pos (zin_i (by omega) (by omega) (by omega)), zix_nat (n := a) (by omega), b2, zwn (n := b a) (by omega), zw_eq (x := (32 : Int)) (by omega) (by omega), zw_eq (x := (10 : Int)) (by omega) (by omega), ei]
        unfold blk at e
        by_cases w : b a = 32
        · rw [if_pos (by omega)]; rfl
        · have w2 : b a = 10 := by simpa [w] using e
          rw [if_neg (by omega), if_pos (zin_i (by omega) (by omega) (by omega)), if_neg (by omega)]; rfl
      rw [lup_inl (f := fun (s6 : Mm) => x_X3_advance_b0 s6) s1, lup_inl (f := fun (s8 : Mm) => x_X7_scan_b0 s8) s2]
      have f1 := AF_u σ (j := 2) ((a + 1 : Nat) : Int) (by omega)
      have f2 := NF_u m (j := 27) ((a + 1 : Nat) : Int) (by omega)
      obtain ⟨a', σ', m', r1, r2, r3, r4, r5, r6, r7, r8, r9⟩ := ih (a + 1) _ _ (by omega) (TB_f h f1 f2) (zu_hit _ _ _ _) (zu_hit _ _ _ _)
      exact ⟨a', σ', m', r1, r2, by omega, r4, r5, r6, AF_t f1 r7, NF_t f2 r8, r9.trans (skT_1 e).symm⟩
    · refine ⟨a, σ, m, lup_inr ?_, lup_inr ?_, Nat.le_refl a, by omega, h2, h27, AF_r σ, NF_r m, (skT_0 e).symm⟩
      · show x_X3_advance_b0 σ = _
        unfold x_X3_advance_b0
        rw [l2, h2, if_neg (nle_n ha (by omega)), sgn_at h ha, Option.bind_some, X3_blk b1, Option.bind_some, if_neg e, if_pos d00]
      · show x_X7_scan_b0 m = _
        unfold x_X7_scan_b0
        unfold blk at e
        have w1 : b a ≠ 32 := fun z => e (by simp [z])
        have w2 : b a ≠ 10 := fun z => e (by simp [z])
        rw [l3, h27, if_neg (nle_n ha (by omega)), if_pos (zin_i (by omega) (by omega) (by omega)), zix_nat (n := a) (by omega), b2, zwn (n := b a) (by omega), zw_eq (x := (32 : Int)) (by omega) (by omega), zw_eq (x := (10 : Int)) (by omega) (by omega), if_neg (by omega), if_pos (zin_i (by omega) (by omega) (by omega)), if_pos (by omega)]
theorem letters2 {L : Nat} {b : Nat → Nat} : ∀ (k a : Nat) (σ m : Mm), a + k = L → TB σ m L b → σ 0 2 = (a : Int) → m 0 27 = (a : Int) → ∃ (a' : Nat) (σ' m' : Mm), lup (fun (s27 : Mm) => x_X3_advance_b85 s27) σ = some σ' ∧ lup (fun (s39 : Mm) => x_X7_scan_b90 s39) m = some m' ∧ a ≤ a' ∧ a' ≤ L ∧ (a < L → ltr (b a) = true → a < a') ∧ σ' 0 2 = (a' : Int) ∧ m' 0 27 = (a' : Int) ∧ (∀ j, j ≠ 2 → σ' 0 j = σ 0 j) ∧ (∀ j, j ≠ 27 → m' 0 j = m 0 j) ∧ AF σ σ' ∧ NF m m' ∧ a' = skT ltr b k a := by
  intro k
  induction k with
  | zero =>
    intro a σ m hk h h2 h27
    have : a = L := by omega
    subst this
    refine ⟨a, σ, m, lup_inr ?_, lup_inr ?_, Nat.le_refl a, Nat.le_refl a, fun z => absurd z (Nat.lt_irrefl _), h2, h27, fun _ _ => rfl, fun _ _ => rfl, AF_r σ, NF_r m, rfl⟩
    · show x_X3_advance_b85 σ = _
      unfold x_X3_advance_b85
      rw [h.2.1, h2, if_pos (Int.le_refl _)]
    · show x_X7_scan_b90 m = _
      unfold x_X7_scan_b90
      rw [h27, X7_ltr0 h (Nat.le_refl a) (fun z => Nat.lt_irrefl _ z.1), Option.bind_some, if_pos d00]
  | succ k ih =>
    intro a σ m hk h h2 h27
    have ha : a < L := by omega
    obtain ⟨l1, l2, l3, l4⟩ := id h
    obtain ⟨b1, b2, b3⟩ := l4 a ha
    have ei : (a : Int) + 1 = ((a + 1 : Nat) : Int) := by omega
    by_cases e : ltr (b a) = true
    · have s1 : x_X3_advance_b85 σ = some (.inl (zu σ 0 2 ((a + 1 : Nat) : Int))) := by
        unfold x_X3_advance_b85
        rw [l2, h2, if_neg (nle_n ha (by omega)), sgn_at h ha, Option.bind_some, X3_ltr b1, Option.bind_some, if_pos e, if_neg d10, ei]; rfl
      have s2 : x_X7_scan_b90 m = some (.inl (zu m 0 27 ((a + 1 : Nat) : Int))) := by
        unfold x_X7_scan_b90
        rw [h27, X7_ltr1 h ha e, Option.bind_some, if_neg d10, ei]; rfl
      rw [lup_inl (f := fun (s27 : Mm) => x_X3_advance_b85 s27) s1, lup_inl (f := fun (s39 : Mm) => x_X7_scan_b90 s39) s2]
      have f1 := AF_u σ (j := 2) ((a + 1 : Nat) : Int) (by omega)
      have f2 := NF_u m (j := 27) ((a + 1 : Nat) : Int) (by omega)
      obtain ⟨a', σ', m', r1, r2, r3, r4, r5, r6, r7, r8, r9, r10, r11, r12⟩ := ih (a + 1) _ _ (by omega) (TB_f h f1 f2) (zu_hit _ _ _ _) (zu_hit _ _ _ _)
      exact ⟨a', σ', m', r1, r2, by omega, r4, fun _ _ => by omega, r6, r7, fun j hj => (r8 j hj).trans (zu_miss _ _ _ _ (fun _ => hj)), fun j hj => (r9 j hj).trans (zu_miss _ _ _ _ (fun _ => hj)), AF_t f1 r10, NF_t f2 r11, r12.trans (skT_1 e).symm⟩
    · refine ⟨a, σ, m, lup_inr ?_, lup_inr ?_, Nat.le_refl a, by omega, fun _ z => absurd z e, h2, h27, fun _ _ => rfl, fun _ _ => rfl, AF_r σ, NF_r m, (skT_0 e).symm⟩
      · show x_X3_advance_b85 σ = _
        unfold x_X3_advance_b85
        rw [l2, h2, if_neg (nle_n ha (by omega)), sgn_at h ha, Option.bind_some, X3_ltr b1, Option.bind_some, if_neg e, if_pos d00]
      · show x_X7_scan_b90 m = _
        unfold x_X7_scan_b90
        rw [h27, X7_ltr0 h (by omega) (fun z => e z.2), Option.bind_some, if_pos d00]
theorem figures2 {L : Nat} {b : Nat → Nat} {s : Nat} : ∀ (k a : Nat) (σ m : Mm) (v : Nat), a + k = L → s ≤ a → TB σ m L b → σ 0 2 = (a : Int) → m 0 27 = (a : Int) → σ 0 3 = (s : Int) → m 0 28 = (s : Int) → σ 0 5 = (v : Int) → m 0 30 = (v : Int) → v < 10 ^ (min (a - s) 9) → ∃ (a' v' : Nat) (σ' m' : Mm), lup (fun (s10 : Mm) => x_X3_readFigures_b0 s10) σ = some σ' ∧ lup (fun (s29 : Mm) => x_X7_scan_b138 s29) m = some m' ∧ a ≤ a' ∧ a' ≤ L ∧ (a < L → fig (b a) = true → a < a') ∧ σ' 0 2 = (a' : Int) ∧ m' 0 27 = (a' : Int) ∧ σ' 0 3 = (s : Int) ∧ m' 0 28 = (s : Int) ∧ σ' 0 5 = (v' : Int) ∧ m' 0 30 = (v' : Int) ∧ v' < 1000000000 ∧ AF σ σ' ∧ NF m m' ∧ (a', v') = skV b s k a v := by
  intro k
  induction k with
  | zero =>
    intro a σ m v hk hs h h2 h27 h3 h28 h5 h30 hv
    have : a = L := by omega
    subst this
    refine ⟨a, v, σ, m, lup_inr ?_, lup_inr ?_, Nat.le_refl a, Nat.le_refl a, fun z => absurd z (Nat.lt_irrefl _), h2, h27, h3, h28, h5, h30, pow_9 hv (by omega), AF_r σ, NF_r m, rfl⟩
    · show x_X3_readFigures_b0 σ = _
      unfold x_X3_readFigures_b0
      rw [h.2.1, h2, if_pos (Int.le_refl _)]
    · show x_X7_scan_b138 m = _
      unfold x_X7_scan_b138
      rw [h27, X7_fig0 h (Nat.le_refl a) (fun z => Nat.lt_irrefl _ z.1), Option.bind_some, if_pos d00]
  | succ k ih =>
    intro a σ m v hk hs h h2 h27 h3 h28 h5 h30 hv
    have ha : a < L := by omega
    obtain ⟨l1, l2, l3, l4⟩ := id h
    obtain ⟨b1, b2, b3⟩ := l4 a ha
    have ei : (a : Int) + 1 = ((a + 1 : Nat) : Int) := by omega
    have es : (a : Int) - (s : Int) = ((a - s : Nat) : Int) := by omega
    by_cases e : fig (b a) = true
    · have hb : 48 ≤ b a ∧ b a ≤ 57 := by
        unfold fig at e
        simpa using e
      by_cases w : 9 ≤ a - s
      · have w' : zw (9 : Int) ≤ zw ((a - s : Nat) : Int) := by rw [zw_eq (x := (9 : Int)) (by omega) (by omega), zwn (by omega)]; omega
        have s1 : x_X3_readFigures_b0 σ = some (.inl (zu σ 0 2 ((a + 1 : Nat) : Int))) := by
          unfold x_X3_readFigures_b0
          rw [l2, h2, if_neg (nle_n ha (by omega)), sgn_at h ha, Option.bind_some, X3_fig b1, Option.bind_some, if_pos e, if_neg d10, h3, es, if_pos w', ei]; rfl
        have s2 : x_X7_scan_b138 m = some (.inl (zu (zu m 0 30 (v : Int)) 0 27 ((a + 1 : Nat) : Int))) := by
          unfold x_X7_scan_b138
          rw [h27, X7_fig1 h ha e, Option.bind_some, if_neg d10, h28, es, if_pos w', h30, bnd_eq]
          have : zu m 0 30 (v : Int) 0 27 = (a : Int) := h27
          rw [this, ei]; rfl
        rw [lup_inl (f := fun (s10 : Mm) => x_X3_readFigures_b0 s10) s1, lup_inl (f := fun (s29 : Mm) => x_X7_scan_b138 s29) s2]
        have f1 := AF_u σ (j := 2) ((a + 1 : Nat) : Int) (by omega)
        have f2 := NF_t (NF_u m (j := 30) (v : Int) (by omega)) (NF_u _ (j := 27) ((a + 1 : Nat) : Int) (by omega))
        obtain ⟨a', v', σ', m', r1, r2, r3, r4, r5, r6, r7, r8, r9, r10, r11, r12, r13, r14, r15⟩ := ih (a + 1) _ _ v (by omega) (by omega) (TB_f h f1 f2) (zu_hit _ _ _ _) (zu_hit _ _ _ _) h3 h28 h5 rfl (by rw [show min (a + 1 - s) 9 = min (a - s) 9 by omega]; exact hv)
        exact ⟨a', v', σ', m', r1, r2, by omega, r4, fun _ _ => by omega, r6, r7, r8, r9, r10, r11, r12, AF_t f1 r13, NF_t f2 r14, r15.trans (skV_9 e w).symm⟩
      · have w' : ¬ zw (9 : Int) ≤ zw ((a - s : Nat) : Int) := nle_l (by omega) (by omega)
        have ev1 : (v : Int) * 10 + (b a : Int) - 48 = ((v * 10 + (b a - 48) : Nat) : Int) := by omega
        have ev2 : 10 * (v : Int) + (b a : Int) - 48 = ((v * 10 + (b a - 48) : Nat) : Int) := by omega
        have hv2 : v * 10 + (b a - 48) < 10 ^ (min (a + 1 - s) 9) := by
          rw [show min (a + 1 - s) 9 = min (a - s) 9 + 1 by omega]
          exact pow_s hv (by omega)
        have s1 : x_X3_readFigures_b0 σ = some (.inl (zu (zu σ 0 5 ((v * 10 + (b a - 48) : Nat) : Int)) 0 2 ((a + 1 : Nat) : Int))) := by
          unfold x_X3_readFigures_b0
          rw [l2, h2, if_neg (nle_n ha (by omega)), sgn_at h ha, Option.bind_some, X3_fig b1, Option.bind_some, if_pos e, if_neg d10, h3, es, if_neg w', Option.bind_some, h5, ev1, bnd_eq]
          have : zu σ 0 5 ((v * 10 + (b a - 48) : Nat) : Int) 0 2 = (a : Int) := h2
          rw [this, ei]; rfl
        have s2 : x_X7_scan_b138 m = some (.inl (zu (zu m 0 30 ((v * 10 + (b a - 48) : Nat) : Int)) 0 27 ((a + 1 : Nat) : Int))) := by
          unfold x_X7_scan_b138
          rw [h27, X7_fig1 h ha e, Option.bind_some, if_neg d10, h28, es, if_neg w', if_pos (zin_i (by omega) (by omega) (by omega)), zix_nat (n := a) (by omega), b2, h30, ev2, bnd_eq]
          have : zu m 0 30 ((v * 10 + (b a - 48) : Nat) : Int) 0 27 = (a : Int) := h27
          rw [this, ei]; rfl
        rw [lup_inl (f := fun (s10 : Mm) => x_X3_readFigures_b0 s10) s1, lup_inl (f := fun (s29 : Mm) => x_X7_scan_b138 s29) s2]
        have f1 := AF_t (AF_u σ (j := 5) ((v * 10 + (b a - 48) : Nat) : Int) (by omega)) (AF_u _ (j := 2) ((a + 1 : Nat) : Int) (by omega))
        have f2 := NF_t (NF_u m (j := 30) ((v * 10 + (b a - 48) : Nat) : Int) (by omega)) (NF_u _ (j := 27) ((a + 1 : Nat) : Int) (by omega))
        obtain ⟨a', v', σ', m', r1, r2, r3, r4, r5, r6, r7, r8, r9, r10, r11, r12, r13, r14, r15⟩ := ih (a + 1) _ _ (v * 10 + (b a - 48)) (by omega) (by omega) (TB_f h f1 f2) (zu_hit _ _ _ _) (zu_hit _ _ _ _) h3 h28 rfl rfl hv2
        exact ⟨a', v', σ', m', r1, r2, by omega, r4, fun _ _ => by omega, r6, r7, r8, r9, r10, r11, r12, AF_t f1 r13, NF_t f2 r14, r15.trans (skV_1 e w).symm⟩
    · refine ⟨a, v, σ, m, lup_inr ?_, lup_inr ?_, Nat.le_refl a, by omega, fun _ z => absurd z e, h2, h27, h3, h28, h5, h30, pow_9 hv (by omega), AF_r σ, NF_r m, (skV_0 e).symm⟩
      · show x_X3_readFigures_b0 σ = _
        unfold x_X3_readFigures_b0
        rw [l2, h2, if_neg (nle_n ha (by omega)), sgn_at h ha, Option.bind_some, X3_fig b1, Option.bind_some, if_neg e, if_pos d00]
      · show x_X7_scan_b138 m = _
        unfold x_X7_scan_b138
        rw [h27, X7_fig0 h (by omega) (fun z => e z.2), Option.bind_some, if_pos d00]
/-- a token: its end, its begin, its kind, its value -/
def tok (L : Nat) (b : Nat → Nat) (a : Nat) : Nat × Nat × Nat × Nat := if skT blk b (L - a) a = L then (L, L, 0, 0) else if ltr (b (skT blk b (L - a) a)) = true then (skT ltr b (L - skT blk b (L - a) a) (skT blk b (L - a) a), skT blk b (L - a) a, 1, 0) else if fig (b (skT blk b (L - a) a)) = true then ((skV b (skT blk b (L - a) a) (L - skT blk b (L - a) a) (skT blk b (L - a) a) 0).1, skT blk b (L - a) a, (if 9 < (skV b (skT blk b (L - a) a) (L - skT blk b (L - a) a) (skT blk b (L - a) a) 0).1 - skT blk b (L - a) a then 4 else 2), (skV b (skT blk b (L - a) a) (L - skT blk b (L - a) a) (skT blk b (L - a) a) 0).2) else (skT blk b (L - a) a + 1, skT blk b (L - a) a, (if b (skT blk b (L - a) a) = 59 then 3 else 4), 0)
theorem scan2 {L : Nat} {b : Nat → Nat} {a : Nat} {σ m : Mm} (h : TB σ m L b) (h2 : σ 0 2 = (a : Int)) (h27 : m 0 27 = (a : Int)) (ha : a ≤ L) : ∃ (σ' m' : Mm) (a' s' t v : Nat), x_X3_advance σ = some σ' ∧ x_X7_scan m = some m' ∧ SY σ' m' L b a' s' t ∧ a ≤ s' ∧ AF σ σ' ∧ NF m m' ∧ tok L b a = (a', s', t, v) ∧ (t = 2 → σ' 0 5 = (v : Int)) := by
  obtain ⟨a1, σ1, m1, r1, r2, r3, r4, r5, r6, r7, r8, rk⟩ := blanks2 (L - a) a σ m (by omega) h h2 h27
  have hT := TB_f h r7 r8
  unfold tok
  rw [← rk]
  generalize hσ3 : zu (zu σ1 0 3 (a1 : Int)) 0 5 0 = σ3
  generalize hm3 : zu m1 0 28 (a1 : Int) = m3
  have f1 : AF σ1 σ3 := by rw [← hσ3]; exact AF_t (AF_u _ _ (by omega)) (AF_u _ _ (by omega))
  have f2 : NF m1 m3 := by rw [← hm3]; exact NF_u _ _ (by omega)
  have hT3 := TB_f hT f1 f2
  have e2 : σ3 0 2 = (a1 : Int) := by rw [← hσ3]; exact r5
  have e3 : σ3 0 3 = (a1 : Int) := by rw [← hσ3]; rfl
  have e5 : σ3 0 5 = 0 := by rw [← hσ3, zu_hit]
  have e27 : m3 0 27 = (a1 : Int) := by rw [← hm3]; exact r6
  have e28 : m3 0 28 = (a1 : Int) := by rw [← hm3, zu_hit]
  have z1 : zu σ1 0 3 (a1 : Int) 0 2 = (a1 : Int) := r5
  have hA : x_X3_advance σ = x_X3_advance_j38 σ1 := by
    unfold x_X3_advance
    rw [r1, Option.bind_some]
  have hS : x_X7_scan m = x_X7_scan_j52 m1 := by
    unfold x_X7_scan
    rw [r2, Option.bind_some]
  obtain ⟨l1, l2, l3, l4⟩ := id hT3
  by_cases e : a1 = L
  · subst e
    refine ⟨zu σ3 0 4 0, zu m3 0 29 0, a1, a1, 0, 0, ?_, ?_, ⟨TB_f hT3 (AF_u _ _ (by omega)) (NF_u _ _ (by omega)), e2, e27, e3, e28, Nat.le_refl _, Nat.le_refl _, by omega, zu_hit _ _ _ _, zu_hit _ _ _ _, fun z => absurd rfl z, fun z => by omega⟩, r3, AF_t r7 (AF_t f1 (AF_u _ _ (by omega))), NF_t r8 (NF_t f2 (NF_u _ _ (by omega))), if_pos rfl, fun z => by omega⟩
    · rw [hA]
      unfold x_X3_advance_j38
      rw [r5, bnd_eq, bnd_eq, hσ3, e2, sgn_end hT3, Option.bind_some, if_neg (fun z => z rfl)]; rfl
    · rw [hS]
      unfold x_X7_scan_j52
      rw [r6, bnd_eq, hm3, e27, l3, if_neg (fun z => z rfl)]; rfl
  · have ha1 : a1 < L := by omega
    obtain ⟨b1, b2, b3⟩ := l4 a1 ha1
    have nz : zw (b a1 : Int) ≠ zw (-1 : Int) := by rw [zwn (by omega), zw_eq (x := (-1 : Int)) (by omega) (by omega)]; omega
    have nL : zw (a1 : Int) ≠ zw (L : Int) := by rw [zwn (by omega), zwn (by omega)]; omega
    have ei : (a1 : Int) + 1 = ((a1 + 1 : Nat) : Int) := by omega
    by_cases c1 : ltr (b a1) = true
    · -- a word
      have f3 := AF_u σ3 (j := 4) 1 (by omega)
      obtain ⟨a2, σ4, m4, q1, q2, q3, q4, q5, q6, q7, q8, q9, q10, q11, qk⟩ := letters2 (L - a1) a1 (zu σ3 0 4 1) m3 (by omega) (TB_f hT3 f3 (NF_r m3)) e2 e27
      have f4 := NF_u m4 (j := 29) 3 (by omega)
      refine ⟨σ4, zu m4 0 29 3, a2, a1, 1, 0, ?_, ?_, ⟨TB_f (TB_f hT3 f3 (NF_r m3)) q10 (NF_t q11 f4), q6, q7, by rw [q8 3 (by omega)]; exact e3, by rw [zu_miss _ _ _ _ (fun _ => by decide), q9 28 (by omega)]; exact e28, by omega, q4, by omega, by rw [q8 4 (by omega), zu_hit]; rfl, by rw [zu_hit]; rfl, fun _ => q5 ha1 c1, fun z => by omega⟩, r3, AF_t r7 (AF_t f1 (AF_t f3 q10)), NF_t r8 (NF_t f2 (NF_t q11 f4)), by rw [if_neg e, if_pos c1, ← qk], fun z => by omega⟩
      · rw [hA]
        unfold x_X3_advance_j38
        rw [r5, bnd_eq, bnd_eq, hσ3, e2, sgn_at hT3 ha1, Option.bind_some, if_pos nz, X3_ltr b1, Option.bind_some, if_pos c1, if_neg d10, bnd_eq, q1, Option.bind_some]
      · rw [hS]
        unfold x_X7_scan_j52
        rw [r6, bnd_eq, hm3, e27, l3, if_pos nL, X7_ltr1 hT3 ha1 c1, Option.bind_some, if_neg d10, q2, Option.bind_some]; rfl
    · by_cases c2 : fig (b a1) = true
      · -- a number
        have f3 := NF_u m3 (j := 30) 0 (by omega)
        obtain ⟨a2, v, σ4, m4, q1, q2, q3, q4, q5, q6, q7, q8, q9, q10, q11, q12, q13, q14, qk⟩ := figures2 (L - a1) a1 σ3 (zu m3 0 30 0) 0 (by omega) (Nat.le_refl _) (TB_f hT3 (AF_r σ3) f3) e2 e27 e3 e28 e5 (zu_hit _ _ _ _) (by rw [Nat.sub_self]; decide)
        have es : (a2 : Int) - (a1 : Int) = ((a2 - a1 : Nat) : Int) := by omega
        have cls : x_X3_advance σ = some (zu σ4 0 4 (if 9 < a2 - a1 then 4 else 2)) := by
          rw [hA]
          unfold x_X3_advance_j38
          rw [r5, bnd_eq, bnd_eq, hσ3, e2, sgn_at hT3 ha1, Option.bind_some, if_pos nz, X3_ltr b1, Option.bind_some, if_neg c1, if_pos d00, X3_fig b1, Option.bind_some, if_pos c2, if_neg d10]
          unfold x_X3_readFigures
          rw [q1, Option.bind_some, q6, q8, es, zw_eq (x := (9 : Int)) (by omega) (by omega), zwn (by omega)]
          by_cases w : 9 < a2 - a1
          · rw [if_pos (by omega), if_pos w]; rfl
          · rw [if_neg (by omega), if_neg w]; rfl
        have mdl' : x_X7_scan m = some (zu m4 0 29 (if 9 < a2 - a1 then 4 else 2)) := by
          rw [hS]
          unfold x_X7_scan_j52
          rw [r6, bnd_eq, hm3, e27, l3, if_pos nL, X7_ltr0 hT3 (by omega) (fun z => c1 z.2), Option.bind_some, if_pos d00, X7_fig1 hT3 ha1 c2, Option.bind_some, if_neg d10, bnd_eq, q2, Option.bind_some, q7, q9, es, zw_eq (x := (9 : Int)) (by omega) (by omega), zwn (by omega)]
          by_cases w : 9 < a2 - a1
          · rw [if_neg (by omega), if_pos w]; rfl
          · rw [if_pos (by omega), if_neg w]; rfl
        have hT4 := TB_f (TB_f hT3 (AF_r σ3) f3) q13 q14
        refine ⟨_, _, a2, a1, if 9 < a2 - a1 then 4 else 2, v, cls, mdl', ⟨TB_f hT4 (AF_u _ _ (by omega)) (NF_u _ _ (by omega)), q6, q7, q8, q9, by omega, q4, by split <;> omega, ?_, ?_, fun _ => q5 ha1 c2, fun _ => ⟨v, q12, q10, q11⟩⟩, r3, AF_t r7 (AF_t f1 (AF_t q13 (AF_u _ _ (by omega)))), NF_t r8 (NF_t f2 (NF_t f3 (NF_t q14 (NF_u _ _ (by omega))))), by rw [if_neg e, if_neg c1, if_pos c2, ← qk], fun _ => q10⟩
        · rw [zu_hit]; split <;> rfl
        · rw [zu_hit]; split <;> rfl
      · -- a semicolon, or a strange byte
        have hz59 : zw (59 : Int) = 59 := by decide
        have cls : x_X3_advance σ = some (zu (zu σ3 0 4 (if b a1 = 59 then 3 else 4)) 0 2 ((a1 + 1 : Nat) : Int)) := by
          rw [hA]
          unfold x_X3_advance_j38
          rw [r5, bnd_eq, bnd_eq, hσ3, e2, sgn_at hT3 ha1, Option.bind_some, if_pos nz, X3_ltr b1, Option.bind_some, if_neg c1, if_pos d00, X3_fig b1, Option.bind_some, if_neg c2, if_pos d00, hz59, zwn (by omega)]
          by_cases w : b a1 = 59
          · have y : zu σ3 0 4 3 0 2 = (a1 : Int) := e2
            rw [if_neg (by omega), if_pos w, bnd_eq, y, ei]; rfl
          · have y : zu σ3 0 4 4 0 2 = (a1 : Int) := e2
            rw [if_pos (by omega), if_neg w, bnd_eq, y, ei]; rfl
        have mdl' : x_X7_scan m = some (zu (zu m3 0 29 (if b a1 = 59 then 1 else 4)) 0 27 ((a1 + 1 : Nat) : Int)) := by
          rw [hS]
          unfold x_X7_scan_j52
          rw [r6, bnd_eq, hm3, e27, l3, if_pos nL, X7_ltr0 hT3 (by omega) (fun z => c1 z.2), Option.bind_some, if_pos d00, X7_fig0 hT3 (by omega) (fun z => c2 z.2), Option.bind_some, if_pos d00, if_pos (zin_i (by omega) (by omega) (by omega)), zix_nat (n := a1) (by omega), b2, hz59, zwn (n := b a1) (by omega)]
          by_cases w : b a1 = 59
          · have y : zu m3 0 29 1 0 27 = (a1 : Int) := e27
            rw [if_neg (by omega), if_pos w, bnd_eq, y, ei]; rfl
          · have y : zu m3 0 29 4 0 27 = (a1 : Int) := e27
            rw [if_pos (by omega), if_neg w, bnd_eq, y, ei]; rfl
        have g1 := AF_t (AF_u σ3 (j := 4) (if b a1 = 59 then 3 else 4) (by omega)) (AF_u _ (j := 2) ((a1 + 1 : Nat) : Int) (by omega))
        have g2 := NF_t (NF_u m3 (j := 29) (if b a1 = 59 then 1 else 4) (by omega)) (NF_u _ (j := 27) ((a1 + 1 : Nat) : Int) (by omega))
        refine ⟨_, _, a1 + 1, a1, if b a1 = 59 then 3 else 4, 0, cls, mdl', ⟨TB_f hT3 g1 g2, zu_hit _ _ _ _, zu_hit _ _ _ _, e3, e28, by omega, by omega, by split <;> omega, ?_, ?_, fun _ => by omega, fun z => by split at z <;> omega⟩, r3, AF_t r7 (AF_t f1 g1), NF_t r8 (NF_t f2 g2), by rw [if_neg e, if_neg c1, if_neg c2], fun z => by split at z <;> omega⟩
        · rw [zu_miss _ _ _ _ (fun _ => by decide), zu_hit]; split <;> rfl
        · rw [zu_miss _ _ _ _ (fun _ => by decide), zu_hit]; split <;> rfl
