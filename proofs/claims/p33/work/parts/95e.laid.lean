theorem v_kind {c : Mm} {x : Int64} (hx : cw x) : x_X6_kind c x = some (.inl ((kK x : Nat) : Int)) := by
  have h63 := hx 63 (by decide)
  have hu := un_63 h63
  have hlt : un x < 2 ^ 52 := un_bits.mpr (fun d hd => hx d hd)
  have e : 0 ≤ x.toInt ∧ x.toInt ≤ 4503599627370495 := by omega
  unfold x_X6_kind
  have c1 : zw (zcmp x 0) < 0 ↔ x.toInt < 0 := by rw [zcmp_l, Int64.lt_iff_toInt_lt]; exact Iff.rfl
  have c2 : 0 < zw (zcmp x 4503599627370495) ↔ 4503599627370495 < x.toInt := by
    have := zcmp_g x 4503599627370495
    rw [Int64.le_iff_toInt_le, show (4503599627370495 : Int64).toInt = 4503599627370495 by decide] at this
    omega
  rw [if_neg (fun z => by have := c1.mp z; omega), if_neg (fun z => by have := c2.mp z; omega), req_1, Option.bind_some]
  show inlO _ = _
  rw [X6_kindOf hx, Option.bind_some]
  rfl
theorem h_player {σ c' : Mm} {a b v : Int} (h : x_X6_player σ a b = some (.inl (c', v))) : x_L_player σ a b = some (c', v) := by
  unfold x_L_player
  rw [h]
  rfl
theorem h_card {σ : Mm} {a b v : Int} (h : x_X6_card σ a b = some (.inl v)) : x_L_card σ a b = some v := by
  unfold x_L_card
  rw [h]
  rfl
theorem h_where {σ : Mm} {a v : Int} (h : x_X6_where σ a = some (.inl v)) : x_L_where σ a = some v := by
  unfold x_L_where
  rw [h]
  rfl
theorem h_match {σ : Mm} {a v : Int} (h : x_X6_match σ a = some (.inl v)) : x_L_match σ a = some v := by
  unfold x_L_match
  rw [h]
  rfl
theorem h_kind {σ : Mm} {a : Int64} {v : Int} (h : x_X6_kind σ a = some (.inl v)) : x_L_kind σ a = some v := by
  unfold x_L_kind
  rw [h]
  rfl
theorem h_meldOf {σ c' : Mm} {a b v : Int} (h : x_X6_meldOf σ a b = some (.inl (c', v))) : x_L_meldOf σ a b = some (c', v) := by
  unfold x_L_meldOf
  rw [h]
  rfl
theorem h_meld {σ c' : Mm} {a b d v : Int} (h : x_X6_meld σ a b d = some (.inl (c', v))) : x_L_meld σ a b d = some (c', v) := by
  unfold x_L_meld
  rw [h]
  rfl
theorem gKd_12 : ∀ (l : List Int64) (a b : Int), (∀ x ∈ l, kK x = 1 ∨ kK x = 2) → l.foldl (gKd 1) a + l.foldl (gKd 2) b = a + b + (l.length : Int)
  | [], a, b, _ => by simp
  | x :: l, a, b, h => by
    show l.foldl (gKd 1) (gKd 1 a x) + l.foldl (gKd 2) (gKd 2 b x) = _
    rw [gKd_12 l _ _ (fun y hy => h y (List.mem_cons_of_mem _ hy))]
    unfold gKd
    rw [List.length_cons]
    rcases h x List.mem_cons_self with e | e <;> rw [e] <;> simp <;> omega
/-- the cards in rising order, whatever the class's own work space -/
theorem v_cardsH {N : Nat} {c m : Mm} (h : REL N c m) {p : Nat} (hp : p < 2) {P : Int64} (hP : HND m p P) : ∃ H : Nat → Nat, (∀ i j, i < j → j < cnt (bs P) 64 → H i < H j) ∧ (∀ i, i < cnt (bs P) 64 → H i < 52 ∧ bs P (H i) = true) ∧ (∀ d, bs P d = true ↔ ∃ i, i < cnt (bs P) 64 ∧ H i = d) ∧ ∀ c', REL N c' m → ∀ i, i < cnt (bs P) 64 → x_X6_card c' (p : Int) (i : Int) = some (.inl ((H i : Nat) : Int)) := by
  obtain ⟨H, h1, h2, h3⟩ := v_cards h hp hP
  refine ⟨H, h1, fun i hi => ⟨(h2 i hi).1, (h2 i hi).2.1⟩, h3, fun c' hc' i hi => ?_⟩
  obtain ⟨K, k1, k2, k3⟩ := v_cards hc' hp hP
  rw [(k2 i hi).2.2, asc_u k1 h1 (fun d => by rw [← k3 d, ← h3 d]) i hi]
