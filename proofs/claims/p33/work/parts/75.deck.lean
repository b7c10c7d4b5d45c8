/-! the told cards on both sides -/
theorem pig : ∀ (n : Nat) (D : Nat → Nat), (∀ i, i < n → D i < n) → (∀ i j, i < n → j < n → D i = D j → i = j) → ∀ c, c < n → ∃ i, i < n ∧ D i = c := by
  intro n
  induction n with
  | zero => intro D _ _ c h; omega
  | succ n ih =>
    intro D h1 h2 c hc
    have hx := h1 n (by omega)
    have hinj : ∀ i, i < n → D i ≠ D n := fun i hi z => by
      have := h2 i n (by omega) (by omega) z
      omega
    by_cases e : D n = c
    · exact ⟨n, by omega, e⟩
    · have hI := ih (fun i => if D i = n then D n else D i) (fun i hi => by
        have a1 := h1 i (by omega)
        have a2 := hinj i hi
        show (if D i = n then D n else D i) < n
        by_cases w : D i = n
        · rw [if_pos w]; omega
        · rw [if_neg w]; omega) (fun i j hi hj z => by
        have z' : (if D i = n then D n else D i) = (if D j = n then D n else D j) := z
        have a2 := hinj i hi
        have a3 := hinj j hj
        by_cases w : D i = n
        · by_cases w' : D j = n
          · exact h2 i j (by omega) (by omega) (by omega)
          · rw [if_pos w, if_neg w'] at z'; exact absurd z'.symm a3
        · by_cases w' : D j = n
          · rw [if_neg w, if_pos w'] at z'; exact absurd z' a2
          · rw [if_neg w, if_neg w'] at z'
            exact h2 i j (by omega) (by omega) z')
      by_cases e2 : c = n
      · obtain ⟨i, i1, i2⟩ := hI (D n) (by omega)
        have i2' : (if D i = n then D n else D i) = D n := i2
        by_cases w : D i = n
        · exact ⟨i, by omega, by omega⟩
        · rw [if_neg w] at i2'; exact absurd i2' (hinj i i1)
      · obtain ⟨i, i1, i2⟩ := hI c (by omega)
        have i2' : (if D i = n then D n else D i) = c := i2
        by_cases w : D i = n
        · rw [if_pos w] at i2'; omega
        · rw [if_neg w] at i2'; exact ⟨i, by omega, i2'⟩
def TD (σ m : Mm) (k : Nat) (D : Nat → Nat) : Prop := k ≤ 52 ∧ σ 0 7 = (k : Int) ∧ m 0 26 = (k : Int) ∧ (∀ i, i < k → D i < 52 ∧ σ 2 i = (D i : Int) ∧ m 25 i = (D i : Int)) ∧ ∀ i j, i < k → j < k → D i = D j → i = j
def DF (σ σ' : Mm) : Prop := (∀ c, c ≠ 0 → c ≠ 2 → σ' c = σ c) ∧ ∀ j, (j < 2 ∨ 6 ≤ j) → j ≠ 7 → σ' 0 j = σ 0 j
def NG (m m' : Mm) : Prop := (∀ c, c ≠ 0 → c ≠ 25 → m' c = m c) ∧ ∀ j, (j < 26 ∨ 32 ≤ j) → m' 0 j = m 0 j
theorem DF_t {σ σ' σ'' : Mm} (h : DF σ σ') (h2 : DF σ' σ'') : DF σ σ'' := ⟨fun c a b => (h2.1 c a b).trans (h.1 c a b), fun j hj h7 => (h2.2 j hj h7).trans (h.2 j hj h7)⟩
theorem NG_t {σ σ' σ'' : Mm} (h : NG σ σ') (h2 : NG σ' σ'') : NG σ σ'' := ⟨fun c a b => (h2.1 c a b).trans (h.1 c a b), fun j hj => (h2.2 j hj).trans (h.2 j hj)⟩
theorem DF_of {σ σ' : Mm} (h : AF σ σ') : DF σ σ' := ⟨fun c hc _ => h.1 c (by omega), fun j hj _ => h.2 j hj⟩
theorem NG_of {m m' : Mm} (h : NF m m') : NG m m' := ⟨fun c hc _ => h.1 c hc, fun j hj => h.2 j (by omega)⟩
theorem DF_r (σ : Mm) : DF σ σ := ⟨fun _ _ _ => rfl, fun _ _ _ => rfl⟩
theorem NG_r (σ : Mm) : NG σ σ := ⟨fun _ _ _ => rfl, fun _ _ => rfl⟩
theorem NG_31 (m : Mm) (v : Int) : NG m (zu m 0 31 v) := ⟨fun c hc _ => by unfold zu; rw [if_neg hc], fun j hj => zu_miss _ _ _ _ (fun _ => by omega)⟩
theorem DF_st (σ : Mm) (k : Nat) (v w : Int) : DF σ (zu (zu σ 2 k v) 0 7 w) := ⟨fun c h0 h2 => by unfold zu; rw [if_neg h0, if_neg h2], fun j hj h7 => by rw [zu_miss _ _ _ _ (fun _ => h7)]; rfl⟩
theorem NG_st (σ : Mm) (k : Nat) (v w : Int) : NG σ (zu (zu σ 25 k v) 0 26 w) := ⟨fun c h0 h2 => by unfold zu; rw [if_neg h0, if_neg h2], fun j hj => by rw [zu_miss _ _ _ _ (fun _ => by omega)]; rfl⟩
theorem X7_b31 {m : Mm} {k s v : Nat} {D : Nat → Nat} (hk : k ≤ 52) (h26 : m 0 26 = (k : Int)) (h31 : m 0 31 = 0) (h30 : m 0 30 = (v : Int)) (hv : v < 52) (h28 : m 0 28 = (s : Int)) (hs : s ≤ 500) (hD : ∀ i, i < k → D i < 52 ∧ m 25 i = (D i : Int)) : ∀ (n i : Nat), i + n = k → (∀ j, j < i → D j ≠ v) → ((∃ j, j < k ∧ D j = v) ∧ lup (fun (s9 : Mm × Int) => x_X7_readDeck_b31 s9.1 s9.2) (m, (i : Int)) = some (zu m 0 31 ((8 * s + 3 : Nat) : Int))) ∨ ((∀ j, j < k → D j ≠ v) ∧ lup (fun (s9 : Mm × Int) => x_X7_readDeck_b31 s9.1 s9.2) (m, (i : Int)) = some m) := by
  intro n
  induction n with
  | zero =>
    intro i hi hn
    right
    refine ⟨fun j hj => hn j (by omega), lup_inr ?_⟩
    show x_X7_readDeck_b31 m (i : Int) = _
    unfold x_X7_readDeck_b31
    rw [h26, if_pos (by rw [zwn (by omega), zwn (by omega)]; omega)]
  | succ n ih =>
    intro i hi hn
    obtain ⟨d1, d2⟩ := hD i (by omega)
    by_cases e : D i = v
    · left
      refine ⟨⟨i, by omega, e⟩, ?_⟩
      have s1 : x_X7_readDeck_b31 m (i : Int) = some (.inl (zu m 0 31 ((8 * s + 3 : Nat) : Int), ((i + 1 : Nat) : Int))) := by
        unfold x_X7_readDeck_b31
        rw [h26, if_neg (nle_n (by omega) (by omega)), h31, if_neg z0n, if_pos (zin_i (by omega) (by omega) (by omega)), zix_nat (n := i) (by omega), d2, h30, e, if_neg (fun z => z rfl), show (3 : Int) = ((3 : Nat) : Int) from rfl, wrong_0 h31 h28]; rfl
      rw [lup_inl (f := fun (s9 : Mm × Int) => x_X7_readDeck_b31 s9.1 s9.2) (s := (m, (i : Int))) s1]
      apply lup_inr
      show x_X7_readDeck_b31 (zu m 0 31 ((8 * s + 3 : Nat) : Int)) ((i + 1 : Nat) : Int) = _
      unfold x_X7_readDeck_b31
      by_cases w : zw (zu m 0 31 ((8 * s + 3 : Nat) : Int) 0 26) ≤ zw ((i + 1 : Nat) : Int)
      · rw [if_pos w]
      · rw [if_neg w, zu_hit, if_pos (E_ne (by omega))]
    · have s1 : x_X7_readDeck_b31 m (i : Int) = some (.inl (m, ((i + 1 : Nat) : Int))) := by
        unfold x_X7_readDeck_b31
        rw [h26, if_neg (nle_n (by omega) (by omega)), h31, if_neg z0n, if_pos (zin_i (by omega) (by omega) (by omega)), zix_nat (n := i) (by omega), d2, h30, if_pos (by rw [zwn (by omega), zwn (by omega)]; omega)]; rfl
      rw [lup_inl (f := fun (s9 : Mm × Int) => x_X7_readDeck_b31 s9.1 s9.2) (s := (m, (i : Int))) s1]
      exact ih (i + 1) (by omega) (fun j hj => by
        by_cases w : j = i
        · subst w; exact e
        · exact hn j (by omega))
/-- what the class does behind its loop -/
noncomputable def dkA (e : Mm ⊕ (Mm × Int)) : Option (Mm × Int) := zel e (fun σ24 => (x_X3_errorAs σ24 (3 : Int)).bind fun v25 => some (σ24, v25)) (fun e => un2 e fun σ26 v27 => x_X3_readDeck_j137 σ26 v27)
theorem dk_dead {m : Mm} {E : Nat} (h31 : m 0 31 = (E : Int)) (hE : 0 < E ∧ E < 10000) : lup (fun (s21 : Mm) => x_X7_readDeck_b0 s21) m = some m := lup_inr (by
  show x_X7_readDeck_b0 m = _
  unfold x_X7_readDeck_b0
  rw [h31, if_pos (E_ne hE)])
theorem j70_dead {m : Mm} {E : Nat} (h31 : m 0 31 = (E : Int)) (hE : 0 < E ∧ E < 10000) : x_X7_readDeck_j70_0 m = some (.inl m) := by
  unfold x_X7_readDeck_j70_0
  rw [h31, if_pos (E_ne hE), goOn_d h31 hE]; rfl
theorem kdT2 {t : Nat} (h : t < 5) (e : t ≠ 2) : zw ((kdT t : Nat) : Int) ≠ zw (2 : Int) := by
  rcases (show t = 0 ∨ t = 1 ∨ t = 3 ∨ t = 4 by omega) with rfl | rfl | rfl | rfl <;> decide
theorem deck_loop {L : Nat} {b : Nat → Nat} : ∀ (n k : Nat) (σ m : Mm) (D : Nat → Nat) (mask : Int64) (u3 : Int) (a s t : Nat), k + n = 53 → SY σ m L b a s t → m 0 31 = 0 → TD σ m k D → (∀ c, bs mask c = true ↔ ∃ i, i < k ∧ D i = c) → ((u3 = 0 ∧ ((0 < k ∧ t ≠ 2) ∨ ∃ v : Nat, v ≤ 51 ∧ t = 2 ∧ σ 0 5 = (v : Int) ∧ m 0 30 = (v : Int) ∧ x_X7_bounds m (0 : Int) (51 : Int) = some m)) ∨ ∃ E : Nat, 0 < E ∧ E < 10000 ∧ u3 = (E : Int) ∧ (k = 0 ∨ t = 2) ∧ x_X7_bounds m (0 : Int) (51 : Int) = some (zu m 0 31 (E : Int))) → (∃ (k' : Nat) (D' : Nat → Nat) (σ' m' : Mm) (a' s' t' : Nat), lup (fun (s22 : Mm × Int64 × Int × Int) => x_X3_readDeck_b33 s22.1 s22.2.1 s22.2.2.1 s22.2.2.2) (σ, mask, u3, (k : Int)) = some (.inr (σ', 0)) ∧ lup (fun (s21 : Mm) => x_X7_readDeck_b0 s21) m = some m' ∧ TD σ' m' k' D' ∧ SY σ' m' L b a' s' t' ∧ m' 0 31 = 0 ∧ DF σ σ' ∧ NG m m') ∨ ∃ (E : Nat) (e : Mm ⊕ (Mm × Int)) (σ' m' : Mm), 0 < E ∧ E < 10000 ∧ lup (fun (s22 : Mm × Int64 × Int × Int) => x_X3_readDeck_b33 s22.1 s22.2.1 s22.2.2.1 s22.2.2.2) (σ, mask, u3, (k : Int)) = some e ∧ dkA e = some (σ', (E : Int)) ∧ lup (fun (s21 : Mm) => x_X7_readDeck_b0 s21) m = some m' ∧ m' 0 31 = (E : Int) ∧ DF σ σ' ∧ NG m m' := by
  intro n
  induction n with
  | zero =>
    intro k σ m D mask u3 a s t hk hS h31 hTD
    have := hTD.1
    omega
  | succ n ih =>
    intro k σ m D mask u3 a s t hk hS h31 hTD hM hu
    obtain ⟨k52, t7, t26, tD, tI⟩ := id hTD
    obtain ⟨hT, y2, y27, y3, y28, ysa, yaL, yt, y4, y29, ypos, yval⟩ := id hS
    have hL := hT.1
    have nb : ¬ zw (52 : Int) < zw (k : Int) := by rw [zwn (by omega), zw_eq (x := (52 : Int)) (by omega) (by omega)]; omega
    rcases hu with ⟨rfl, ⟨k0, t2⟩ | ⟨v, v51, rfl, v5, v30, vb⟩⟩ | ⟨E, e1, e2, rfl, e3, e4⟩
    · -- no number: the end
      left
      have n4 : zw (σ 0 4) ≠ zw (2 : Int) := by rw [y4, zwn (by omega), zw_eq (x := (2 : Int)) (by omega) (by omega)]; omega
      refine ⟨k, D, σ, m, a, s, t, lup_inr ?_, lup_inr ?_, hTD, hS, h31, DF_r σ, NG_r m⟩
      · show x_X3_readDeck_b33 σ mask 0 (k : Int) = _
        unfold x_X3_readDeck_b33
        rw [if_neg nb, if_neg z0n, if_pos n4]
      · show x_X7_readDeck_b0 m = _
        unfold x_X7_readDeck_b0
        rw [h31, if_neg z0n, t26, if_neg (by rw [zwn (by omega)]; omega), y29, if_pos (kdT2 yt t2)]
    · -- a card's number
      have c4 : ¬ zw (σ 0 4) ≠ zw (2 : Int) := by rw [y4]; exact fun z => z rfl
      have hb0 : x_X7_readDeck_b0 m = x_X7_readDeck_j22_0 m := by
        unfold x_X7_readDeck_b0
        rw [h31, if_neg z0n]
        by_cases w : zw (m 0 26) = 0
        · rw [if_pos w]
        · rw [if_neg w, y29, if_neg (fun z => z rfl)]
      have hcl : x_X3_readDeck_b33 σ mask 0 (k : Int) = (x_X6_has mask (v : Int)).bind fun v6 => (if zw v6 ≠ 0 then some (.inr (.inl σ)) else (if zw (σ 0 7) < zw (52 : Int) then (x_X6_bitOf (σ 0 5)).bind fun v7 => bnd ((mask ||| v7)) fun v8 => (if zin (σ 0 7) 52 then bnd (zu σ 2 (zix (σ 0 7)) (σ 0 5)) fun σ9 => bnd (zu σ9 0 7 ((σ9 0 7) + (1 : Int))) fun σ11 => (x_X3_advance σ11).bind fun σ12 => (if zw (σ12 0 4) ≠ zw (2 : Int) then bnd ((k : Int) + 1) fun v13 => some (.inl (σ12, v8, (0 : Int), v13)) else (x_X3_rangeError σ12 (0 : Int) (51 : Int)).bind fun v14 => bnd ((k : Int) + 1) fun v15 => some (.inl (σ12, v8, v14, v15))) else none) else some (.inr (.inl σ)))) := by
        unfold x_X3_readDeck_b33
        rw [if_neg nb, if_neg z0n, if_neg c4, v5]
      rw [X6_has mask (show v < 52 by omega), Option.bind_some] at hcl
      rcases X7_b31 k52 t26 h31 v30 (by omega) y28 (by omega) (fun i hi => ⟨(tD i hi).1, (tD i hi).2.2⟩) k 0 (by omega) (fun j hj => by omega) with ⟨f1, f2⟩ | ⟨f1, f2⟩
      · -- told before
        right
        have hE : 0 < 8 * s + 3 ∧ 8 * s + 3 < 10000 := by omega
        rw [if_pos ((hM v).mpr f1), if_pos (show zw (1 : Int) ≠ 0 by decide)] at hcl
        refine ⟨8 * s + 3, .inl σ, σ, zu m 0 31 ((8 * s + 3 : Nat) : Int), hE.1, hE.2, lup_inr hcl, ?_, ?_, zu_hit _ _ _ _, DF_r σ, NG_31 _ _⟩
        · unfold dkA
          rw [zel_l, show (3 : Int) = ((3 : Nat) : Int) from rfl, err_at y3]; rfl
        · have s1 : x_X7_readDeck_b0 m = some (.inl (zu m 0 31 ((8 * s + 3 : Nat) : Int))) := by
            rw [hb0]
            unfold x_X7_readDeck_j22_0
            rw [vb, Option.bind_some, show (0 : Int) = ((0 : Nat) : Int) from rfl, f2, Option.bind_some, j70_dead (zu_hit _ _ _ _) hE]
          rw [lup_inl (f := fun (s21 : Mm) => x_X7_readDeck_b0 s21) s1, dk_dead (zu_hit _ _ _ _) hE]
      · -- a new one
        have hk52 : k < 52 := by
          rcases Nat.lt_or_ge k 52 with w | w
          · exact w
          · have w' : k = 52 := by omega
            subst w'
            obtain ⟨i, i1, i2⟩ := pig 52 D (fun i hi => (tD i hi).1) tI v (by omega)
            exact absurd i2 (f1 i i1)
        have hnb : ¬ bs mask v = true := fun z => by
          obtain ⟨i, i1, i2⟩ := (hM v).mp z
          exact f1 i i1 i2
        rw [if_neg hnb, if_neg z0n, t7, if_pos (by rw [zwn (by omega), zw_eq (x := (52 : Int)) (by omega) (by omega)]; omega), v5, X6_bitOf (by omega), Option.bind_some, bnd_eq, if_pos (zin_i (by omega) (by omega) (by omega)), zix_nat (n := k) (by omega), bnd_eq, zu_miss _ _ _ _ (fun z => by omega), t7, bnd_eq, show (k : Int) + 1 = ((k + 1 : Nat) : Int) by omega] at hcl
        have hS2 : SY (zu (zu σ 2 k (v : Int)) 0 7 ((k + 1 : Nat) : Int)) (zu (zu m 25 k (v : Int)) 0 26 ((k + 1 : Nat) : Int)) L b a s 2 := SY_eq hS rfl (fun j j1 j2 => by rw [zu_miss _ _ _ _ (fun _ => by omega)]; rfl) rfl rfl (fun j j1 j2 => by rw [zu_miss _ _ _ _ (fun _ => by omega)]; rfl)
        have hTD2 : TD (zu (zu σ 2 k (v : Int)) 0 7 ((k + 1 : Nat) : Int)) (zu (zu m 25 k (v : Int)) 0 26 ((k + 1 : Nat) : Int)) (k + 1) (fun i => if i = k then v else D i) := by
          refine ⟨by omega, zu_hit _ _ _ _, zu_hit _ _ _ _, fun i hi => ?_, fun i j hi hj z => ?_⟩
          · show (if i = k then v else D i) < 52 ∧ zu σ 2 k (v : Int) 2 i = ((if i = k then v else D i : Nat) : Int) ∧ zu m 25 k (v : Int) 25 i = ((if i = k then v else D i : Nat) : Int)
            by_cases w : i = k
            · subst w
              rw [if_pos rfl, zu_hit, zu_hit]
              exact ⟨by omega, rfl, rfl⟩
            · rw [if_neg w, zu_miss _ _ _ _ (fun _ => w), zu_miss _ _ _ _ (fun _ => w)]
              exact tD i (by omega)
          · have z' : (if i = k then v else D i) = (if j = k then v else D j) := z
            by_cases w : i = k
            · by_cases w' : j = k
              · omega
              · rw [if_pos w, if_neg w'] at z'
                exact absurd z'.symm (f1 j (by omega))
            · by_cases w' : j = k
              · rw [if_neg w, if_pos w'] at z'
                exact absurd z' (f1 i (by omega))
              · rw [if_neg w, if_neg w'] at z'
                exact tI i j (by omega) (by omega) z'
        have F1 := DF_st σ k (v : Int) ((k + 1 : Nat) : Int)
        have F2 := NG_st m k (v : Int) ((k + 1 : Nat) : Int)
        have hm1 : x_X7_readDeck_b0 m = (x_X7_goOn (zu (zu m 25 k (v : Int)) 0 26 ((k + 1 : Nat) : Int))).bind fun σ16 => some (.inl σ16) := by
          rw [hb0]
          unfold x_X7_readDeck_j22_0
          rw [vb, Option.bind_some, show (0 : Int) = ((0 : Nat) : Int) from rfl, f2, Option.bind_some]
          unfold x_X7_readDeck_j70_0
          rw [h31, if_neg z0n, t26, if_pos (zin_i (by omega) (by omega) (by omega)), zix_nat (n := k) (by omega), v30, bnd_eq, zu_miss _ _ _ _ (fun z => by omega), t26, bnd_eq, show (k : Int) + 1 = ((k + 1 : Nat) : Int) by omega]
        have e31 : zu (zu m 25 k (v : Int)) 0 26 ((k + 1 : Nat) : Int) 0 31 = 0 := by rw [zu_miss _ _ _ _ (fun _ => by omega), zu_miss _ _ _ _ (fun z => by omega)]; exact h31
        rw [goOn_0 e31] at hm1
        generalize zu (zu σ 2 k (v : Int)) 0 7 ((k + 1 : Nat) : Int) = σ2 at hcl hS2 hTD2 F1
        generalize zu (zu m 25 k (v : Int)) 0 26 ((k + 1 : Nat) : Int) = m2 at hm1 hS2 hTD2 F2 e31
        obtain ⟨σ', m', a', s', t', r1, r2, r3, r4, r5, r6⟩ := scan_both hS2.1 hS2.2.1 hS2.2.2.1 hS2.2.2.2.2.2.2.1
        rw [r1, Option.bind_some] at hcl
        rw [r2, Option.bind_some] at hm1
        have e31' : m' 0 31 = 0 := by rw [r6.2 31 (by omega)]; exact e31
        have hTD3 : TD σ' m' (k + 1) (fun i => if i = k then v else D i) := by
          obtain ⟨g1, g2, g3, g4, g5⟩ := hTD2
          refine ⟨g1, (r5.2 7 (by omega)).trans g2, (r6.2 26 (by omega)).trans g3, fun i hi => ?_, g5⟩
          rw [r5.1 2 (by omega), r6.1 25 (by omega)]
          exact g4 i hi
        have hM2 : ∀ c, bs (mask ||| zlshl 1 (v : Int)) c = true ↔ ∃ i, i < k + 1 ∧ (if i = k then v else D i) = c := fun c => by
          show bs (mask ||| one v) c = true ↔ _
          rw [bs_add _ (by omega), Bool.or_eq_true_iff, hM c, decide_eq_true_eq]
          constructor
          · rintro (⟨i, i1, i2⟩ | z)
            · exact ⟨i, by omega, by rw [if_neg (by omega)]; exact i2⟩
            · exact ⟨k, by omega, by rw [if_pos rfl]; exact z.symm⟩
          · rintro ⟨i, i1, i2⟩
            by_cases w : i = k
            · rw [if_pos w] at i2; exact .inr i2.symm
            · rw [if_neg w] at i2; exact .inl ⟨i, by omega, i2⟩
        have fin : ∀ u3' : Int, x_X3_readDeck_b33 σ mask 0 (k : Int) = some (.inl (σ', mask ||| zlshl 1 (v : Int), u3', ((k + 1 : Nat) : Int))) → ((u3' = 0 ∧ ((0 < k + 1 ∧ t' ≠ 2) ∨ ∃ v : Nat, v ≤ 51 ∧ t' = 2 ∧ σ' 0 5 = (v : Int) ∧ m' 0 30 = (v : Int) ∧ x_X7_bounds m' (0 : Int) (51 : Int) = some m')) ∨ ∃ E : Nat, 0 < E ∧ E < 10000 ∧ u3' = (E : Int) ∧ (k + 1 = 0 ∨ t' = 2) ∧ x_X7_bounds m' (0 : Int) (51 : Int) = some (zu m' 0 31 (E : Int))) → _ := fun u3' hc' hu' => ih (k + 1) σ' m' (fun i => if i = k then v else D i) (mask ||| zlshl 1 (v : Int)) u3' a' s' t' (by omega) r3 e31' hTD3 hM2 hu'
        have G1 := DF_t F1 (DF_of r5)
        have G2 := NG_t F2 (NG_of r6)
        have fin2 : ∀ u3' : Int, x_X3_readDeck_b33 σ mask 0 (k : Int) = some (.inl (σ', mask ||| zlshl 1 (v : Int), u3', ((k + 1 : Nat) : Int))) → ((u3' = 0 ∧ ((0 < k + 1 ∧ t' ≠ 2) ∨ ∃ v : Nat, v ≤ 51 ∧ t' = 2 ∧ σ' 0 5 = (v : Int) ∧ m' 0 30 = (v : Int) ∧ x_X7_bounds m' (0 : Int) (51 : Int) = some m')) ∨ ∃ E : Nat, 0 < E ∧ E < 10000 ∧ u3' = (E : Int) ∧ (k + 1 = 0 ∨ t' = 2) ∧ x_X7_bounds m' (0 : Int) (51 : Int) = some (zu m' 0 31 (E : Int))) → (∃ (k' : Nat) (D' : Nat → Nat) (σ'' m'' : Mm) (a' s' t' : Nat), lup (fun (s22 : Mm × Int64 × Int × Int) => x_X3_readDeck_b33 s22.1 s22.2.1 s22.2.2.1 s22.2.2.2) (σ, mask, 0, (k : Int)) = some (.inr (σ'', 0)) ∧ lup (fun (s21 : Mm) => x_X7_readDeck_b0 s21) m = some m'' ∧ TD σ'' m'' k' D' ∧ SY σ'' m'' L b a' s' t' ∧ m'' 0 31 = 0 ∧ DF σ σ'' ∧ NG m m'') ∨ ∃ (E : Nat) (e : Mm ⊕ (Mm × Int)) (σ'' m'' : Mm), 0 < E ∧ E < 10000 ∧ lup (fun (s22 : Mm × Int64 × Int × Int) => x_X3_readDeck_b33 s22.1 s22.2.1 s22.2.2.1 s22.2.2.2) (σ, mask, 0, (k : Int)) = some e ∧ dkA e = some (σ'', (E : Int)) ∧ lup (fun (s21 : Mm) => x_X7_readDeck_b0 s21) m = some m'' ∧ m'' 0 31 = (E : Int) ∧ DF σ σ'' ∧ NG m m'' := fun u3' hc' hu' => by
          rw [lup_inl (f := fun (s22 : Mm × Int64 × Int × Int) => x_X3_readDeck_b33 s22.1 s22.2.1 s22.2.2.1 s22.2.2.2) (s := (σ, mask, (0 : Int), (k : Int))) hc', lup_inl (f := fun (s21 : Mm) => x_X7_readDeck_b0 s21) hm1]
          rcases fin u3' hc' hu' with ⟨k', D', σ'', m'', x1, x2, x3, w1, w2, w3, w4, w5, w6, w7⟩ | ⟨E, e, σ'', m'', w1, w2, w3, w4, w5, w6, w7, w8⟩
          · exact .inl ⟨k', D', σ'', m'', x1, x2, x3, w1, w2, w3, w4, w5, DF_t G1 w6, NG_t G2 w7⟩
          · exact .inr ⟨E, e, σ'', m'', w1, w2, w3, w4, w5, w6, DF_t G1 w7, NG_t G2 w8⟩
        rcases num_check (lo := 0) (hi := 51) r3 e31' (by omega) (by omega) with ⟨v', q1, q2, q3, q4, q5, q6, q7, q8, q9⟩ | ⟨E, q1, q2, q3, q4, q5⟩
        · refine fin2 0 ?_ (.inl ⟨rfl, .inr ⟨v', q2, q4, q5, q6, q9⟩⟩)
          have e4 : ¬ zw (σ' 0 4) ≠ zw (2 : Int) := by rw [r3.2.2.2.2.2.2.2.2.1, q4]; exact fun z => z rfl
          rw [hcl, if_neg e4, show x_X3_rangeError σ' (0 : Int) (51 : Int) = some 0 from q8]; rfl
        · by_cases w : t' = 2
          · refine fin2 (E : Int) ?_ (.inr ⟨E, q1, q2, rfl, .inr w, q5⟩)
            have e4 : ¬ zw (σ' 0 4) ≠ zw (2 : Int) := by rw [r3.2.2.2.2.2.2.2.2.1, w]; exact fun z => z rfl
            rw [hcl, if_neg e4, show x_X3_rangeError σ' (0 : Int) (51 : Int) = some (E : Int) from q4 w]; rfl
          · refine fin2 0 ?_ (.inl ⟨rfl, .inl ⟨by omega, w⟩⟩)
            have ht5 := r3.2.2.2.2.2.2.2.1
            have e4 : zw (σ' 0 4) ≠ zw (2 : Int) := by rw [r3.2.2.2.2.2.2.2.2.1, zwn (by omega), zw_eq (x := (2 : Int)) (by omega) (by omega)]; omega
            rw [hcl, if_pos e4]; rfl
    · -- a fault
      right
      have hE : 0 < E ∧ E < 10000 := ⟨e1, e2⟩
      refine ⟨E, .inr (σ, (E : Int)), σ, zu m 0 31 (E : Int), e1, e2, lup_inr ?_, ?_, ?_, zu_hit _ _ _ _, DF_r σ, NG_31 _ _⟩
      · show x_X3_readDeck_b33 σ mask (E : Int) (k : Int) = _
        unfold x_X3_readDeck_b33
        rw [if_neg nb, if_pos (E_ne hE)]
      · unfold dkA x_X3_readDeck_j137
        rw [zel_r, un2_mk, if_neg (E_ne hE)]
      · have s1 : x_X7_readDeck_b0 m = some (.inl (zu m 0 31 (E : Int))) := by
          have hb0 : x_X7_readDeck_b0 m = x_X7_readDeck_j22_0 m := by
            unfold x_X7_readDeck_b0
            rw [h31, if_neg z0n]
            rcases e3 with rfl | rfl
            · rw [t26, if_pos (by decide)]
            · by_cases w : zw (m 0 26) = 0
              · rw [if_pos w]
              · rw [if_neg w, y29, if_neg (fun z => z rfl)]
          rw [hb0]
          unfold x_X7_readDeck_j22_0
          have l1 : lup (fun (s9 : Mm × Int) => x_X7_readDeck_b31 s9.1 s9.2) (zu m 0 31 (E : Int), (0 : Int)) = some (zu m 0 31 (E : Int)) := lup_inr (by
            show x_X7_readDeck_b31 (zu m 0 31 (E : Int)) (0 : Int) = _
            unfold x_X7_readDeck_b31
            by_cases w : zw (zu m 0 31 (E : Int) 0 26) ≤ zw (0 : Int)
            · rw [if_pos w]
            · rw [if_neg w, zu_hit, if_pos (E_ne hE)])
          rw [e4, Option.bind_some, l1, Option.bind_some, j70_dead (zu_hit _ _ _ _) hE]
        rw [lup_inl (f := fun (s21 : Mm) => x_X7_readDeck_b0 s21) s1, dk_dead (zu_hit _ _ _ _) hE]
theorem deck_both {σ m : Mm} {L : Nat} {b : Nat → Nat} {p : Nat} (h : AH σ m L b p) (v10 v12 v14 v16 v18 : Int) : (∃ (k : Nat) (D : Nat → Nat) (σ' m' : Mm) (a s t : Nat), x_X3_readDeck σ = some (σ', 0) ∧ hdK m v10 v12 v14 v16 v18 = x_X7_load_j123 m' v10 v12 v14 v16 v18 ∧ TD σ' m' k D ∧ SY σ' m' L b a s t ∧ m' 0 31 = 0 ∧ DF σ σ' ∧ NG m m') ∨ ∃ (E : Nat) (σ' m' : Mm), 0 < E ∧ E < 10000 ∧ x_X3_readDeck σ = some (σ', (E : Int)) ∧ hdK m v10 v12 v14 v16 v18 = x_X7_load_j123 m' v10 v12 v14 v16 v18 ∧ m' 0 31 = (E : Int) ∧ DF σ σ' ∧ NG m m' := by
  have h1 : AH (zu σ 0 7 0) (zu m 0 26 0) L b p := AH_eq h rfl (fun j _ _ => zu_miss _ _ _ _ (fun _ => by omega)) rfl (zu_miss _ _ _ _ (fun _ => by omega)) (fun j _ _ => zu_miss _ _ _ _ (fun _ => by omega))
  have F0 : DF σ (zu σ 0 7 0) := ⟨fun c h0 _ => by unfold zu; rw [if_neg h0], fun j hj h7 => zu_miss _ _ _ _ (fun _ => h7)⟩
  have G0 : NG m (zu m 0 26 0) := ⟨fun c h0 _ => by unfold zu; rw [if_neg h0], fun j hj => zu_miss _ _ _ _ (fun _ => by omega)⟩
  have e26 : zu m 0 26 0 0 26 = 0 := zu_hit _ _ _ _
  have e7 : zu σ 0 7 0 0 7 = 0 := zu_hit _ _ _ _
  unfold x_X3_readDeck hdK
  rw [bnd_eq, bnd_eq]
  generalize zu σ 0 7 0 = σ1 at h1 F0 e7
  generalize zu m 0 26 0 = m1 at h1 G0 e26
  have h31 := h1.1
  obtain ⟨σ2, a, s, t, r1, r5, r3, -⟩ := AH_x h1
  have F2 := DF_t F0 (DF_of r5)
  obtain ⟨w, w1, w2, w3, -⟩ := word_both (u := 2) r3 h31 (by omega)
  rw [r1, Option.bind_some, w2, w3, Option.bind_some, Option.bind_some]
  have e27 : σ2 0 7 = 0 := (r5.2 7 (by omega)).trans e7
  rcases w1 with rfl | rfl
  · left
    refine ⟨0, fun _ => 0, σ2, m1, a, s, t, by rw [if_neg z0n], by rw [if_pos d00], ⟨by omega, e27, e26, fun i hi => by omega, fun i j hi => by omega⟩, r3, h31, F2, G0⟩
  · rw [if_pos (show zw (1 : Int) ≠ 0 by decide), if_neg (show ¬ zw (1 : Int) = 0 by decide)]
    obtain ⟨m2, q1, q2, q3⟩ := SY_AH r3 h31
    rw [q1, Option.bind_some]
    have G2 := NG_t G0 (NG_of q3)
    obtain ⟨σ3, a3, s3, t3, x1, x2, x3, -⟩ := AH_x q2
    have F3 := DF_t F2 (DF_of x2)
    have e37 : σ3 0 7 = 0 := (x2.2 7 (by omega)).trans e27
    have e226 : m2 0 26 = 0 := (q3.2 26 (by omega)).trans e26
    have hTD : TD σ3 m2 0 (fun _ => 0) := ⟨by omega, e37, e226, fun i hi => by omega, fun i j hi => by omega⟩
    have hM : ∀ c, bs (0 : Int64) c = true ↔ ∃ i, i < 0 ∧ (fun _ : Nat => 0) i = c := fun c => by
      rw [bs_0]
      constructor
      · intro z; cases z
      · rintro ⟨i, i1, -⟩; omega
    have hn : ∃ u3 : Int, x_X3_readNumber σ2 (0 : Int) (51 : Int) = some (σ3, u3) ∧ ((u3 = 0 ∧ ((0 < 0 ∧ t3 ≠ 2) ∨ ∃ v : Nat, v ≤ 51 ∧ t3 = 2 ∧ σ3 0 5 = (v : Int) ∧ m2 0 30 = (v : Int) ∧ x_X7_bounds m2 (0 : Int) (51 : Int) = some m2)) ∨ ∃ E : Nat, 0 < E ∧ E < 10000 ∧ u3 = (E : Int) ∧ (0 = 0 ∨ t3 = 2) ∧ x_X7_bounds m2 (0 : Int) (51 : Int) = some (zu m2 0 31 (E : Int))) := by
      unfold x_X3_readNumber
      rw [x1, Option.bind_some]
      rcases num_check (lo := 0) (hi := 51) x3 q2.1 (by omega) (by omega) with ⟨v', q1, q2, q3, q4, q5, q6, q7, q8, q9⟩ | ⟨E, q1, q2, q3, q4, q5⟩
      · exact ⟨0, q7, .inl ⟨rfl, .inr ⟨v', q2, q4, q5, q6, q9⟩⟩⟩
      · exact ⟨(E : Int), q3, .inr ⟨E, q1, q2, rfl, .inl rfl, q5⟩⟩
    obtain ⟨u3, n1, n2⟩ := hn
    rw [n1, Option.bind_some, un2_mk]
    unfold x_X7_readDeck
    rcases deck_loop 53 0 σ3 m2 (fun _ => 0) 0 u3 a3 s3 t3 (by omega) x3 q2.1 hTD hM n2 with ⟨k', D', σ4, m4, a4, s4, t4, y1, y2, y3, y4, y5, y6, y7⟩ | ⟨E, e, σ4, m4, y1, y2, y3, y4, y5, y6, y7, y8⟩
    · rw [show (0 : Int) = ((0 : Nat) : Int) from rfl] at y1
      have y1' : lup (fun (s22 : Mm × Int64 × Int × Int) => x_X3_readDeck_b33 s22.1 s22.2.1 s22.2.2.1 s22.2.2.2) (σ3, (0 : Int64), u3, (0 : Int)) = some (.inr (σ4, 0)) := y1
      have F4 := DF_t F3 y6
      have G4 := NG_t G2 y7
      rw [y1', y2, Option.bind_some, Option.bind_some, zel_r, un2_mk]
      obtain ⟨hT4, z2, z27, z3, z28, zsa, zaL, zt, z4, z29, zpos, zval⟩ := id y4
      unfold x_X3_readDeck_j137
      rw [if_pos d00, y5, if_neg z0n]
      by_cases e3 : t4 = 3
      · left
        subst e3
        obtain ⟨σ', m', a', s', t', r1, r2, r3, r4, r5, r6⟩ := scan_both hT4 z2 z27 zaL
        refine ⟨k', D', σ', m', a', s', t', ?_, ?_, ?_, r3, (r6.2 31 (by omega)).trans y5, DF_t F4 (DF_of r5), NG_t G4 (NG_of r6)⟩
        · rw [z4, if_pos (show zw ((3 : Nat) : Int) = zw (3 : Int) from rfl), r1, Option.bind_some]
        · rw [z29, if_pos (show zw ((kdT 3 : Nat) : Int) = zw (1 : Int) from rfl), goOn_0 y5, r2]; rfl
        · obtain ⟨g1, g2, g3, g4, g5⟩ := y3
          refine ⟨g1, (r5.2 7 (by omega)).trans g2, (r6.2 26 (by omega)).trans g3, fun i hi => ?_, g5⟩
          rw [r5.1 2 (by omega), r6.1 25 (by omega)]
          exact g4 i hi
      · right
        have hL := hT4.1
        have hE : 0 < 8 * s4 + 1 ∧ 8 * s4 + 1 < 10000 := by omega
        have ew : x_X7_wrong m4 (1 : Int) = some (zu m4 0 31 ((8 * s4 + 1 : Nat) : Int)) := wrong_0 y5 z28 1
        have ec : x_X3_errorAs σ4 (1 : Int) = some ((8 * s4 + 1 : Nat) : Int) := err_at z3 1
        have n4 : ¬ zw (σ4 0 4) = zw (3 : Int) := by rw [z4, zwn (by omega), zw_eq (x := (3 : Int)) (by omega) (by omega)]; omega
        have n29 : ¬ zw (m4 0 29) = zw (1 : Int) := by
          rw [z29]
          rcases (show t4 = 0 ∨ t4 = 1 ∨ t4 = 2 ∨ t4 = 4 by omega) with rfl | rfl | rfl | rfl <;> decide
        refine ⟨8 * s4 + 1, σ4, zu m4 0 31 ((8 * s4 + 1 : Nat) : Int), hE.1, hE.2, ?_, ?_, zu_hit _ _ _ _, F4, NG_t G4 (NG_31 _ _)⟩
        · rw [if_neg n4, ec, Option.bind_some]
        · rw [if_neg n29, ew, Option.bind_some, goOn_d (zu_hit _ _ _ _) hE]; rfl
    · right
      have y3' : lup (fun (s22 : Mm × Int64 × Int × Int) => x_X3_readDeck_b33 s22.1 s22.2.1 s22.2.2.1 s22.2.2.2) (σ3, (0 : Int64), u3, (0 : Int)) = some e := y3
      rw [y3', y5, Option.bind_some, Option.bind_some, y6, if_pos (E_ne ⟨y1, y2⟩), goOn_d y6 ⟨y1, y2⟩]
      exact ⟨E, σ4, m4, y1, y2, y4, rfl, y6, DF_t F3 y7, NG_t G2 y8⟩
