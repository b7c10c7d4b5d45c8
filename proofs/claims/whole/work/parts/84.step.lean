/-! one command of the script on both sides: the views -/
theorem p_72 : ∀ i, i < 101 → zp zl_72 i = 26 + i := by decide +kernel
theorem p_73 : ∀ i, i < 26 → zp zl_73 i = i := by decide +kernel
theorem p_74 : ∀ i, i < 102 → zp zl_74 i = 26 + i := by decide +kernel
theorem p_75 : ∀ i, i < 101 → zp zl_75 i = 26 + i := by decide +kernel
theorem p_70 : ∀ i, i < 101 → zp zl_70 i = i := by decide +kernel
theorem p_71 : ∀ i, i < 101 → zp zl_71 i = i := by decide +kernel
theorem p_73l (i : Nat) : zp zl_73 i < 26 := by
  rcases Nat.lt_or_ge i 26 with h | h
  · rw [p_73 i h]; exact h
  · unfold zp
    rw [List.getD_eq_getElem?_getD, List.getElem?_eq_none (by show 26 ≤ i; exact h)]
    exact (by decide : (0 : Nat) < 26)
theorem q_72 : ∀ c, c < 129 → zq zl_72 c = if 26 ≤ c ∧ c < 127 then some (c - 26) else none := by decide +kernel
theorem q_73 : ∀ c, c < 129 → zq zl_73 c = if c < 26 then some c else none := by decide +kernel
theorem q_74 : ∀ c, c < 129 → zq zl_74 c = if 26 ≤ c ∧ c < 128 then some (c - 26) else none := by decide +kernel
theorem q_75 : ∀ c, c < 129 → zq zl_75 c = if 26 ≤ c ∧ c < 127 then some (c - 26) else if c = 128 then some 101 else none := by decide +kernel
theorem q_70 : ∀ c, c < 102 → zq zl_70 c = if c < 101 then some c else none := by decide +kernel
theorem q_71 : ∀ c, c < 102 → zq zl_71 c = if c < 101 then some c else none := by decide +kernel
/-- the law's memory holds both, and they agree -/
def LR (N : Nat) (σ : Mm) : Prop := REL N (zb zl_72 σ) (zb zl_73 σ)
/-- a view of the class's cells in the law -/
def CL (l : List Nat) : Prop := (∀ j, 26 ≤ j → j < 127 → zq l j = some (j - 26)) ∧ ∀ j, j < 26 → zq l j = none
theorem CL_72 : CL zl_72 := ⟨fun j a b => by rw [q_72 j (by omega), if_pos ⟨a, b⟩], fun j a => by rw [q_72 j (by omega), if_neg (by omega)]⟩
theorem CL_74 : CL zl_74 := ⟨fun j a b => by rw [q_74 j (by omega), if_pos (by omega)], fun j a => by rw [q_74 j (by omega), if_neg (by omega)]⟩
theorem CL_75 : CL zl_75 := ⟨fun j a b => by rw [q_75 j (by omega), if_pos ⟨a, b⟩], fun j a => by rw [q_75 j (by omega), if_neg (by omega), if_neg (by omega)]⟩
theorem far {l : List Nat} (hl : CL l) (σ ρ : Mm) : zb zl_73 (zj l σ ρ) = zb zl_73 σ := funext (fun i => by
  show zj l σ ρ (zp zl_73 i) = σ (zp zl_73 i)
  rw [zj_q _ _ _ _ (hl.2 _ (p_73l i))]; rfl)
theorem LR_join {l : List Nat} (hl : CL l) {σ c' m' : Mm} {M : Nat} (h : REL M c' m') : LR M (zj zl_73 (zj l σ c') m') := by
  have h2 : ∀ i, i < 101 → zb zl_72 (zj zl_73 (zj l σ c') m') i = c' i := fun i hi => by
    show zj zl_73 (zj l σ c') m' (zp zl_72 i) = _
    rw [p_72 i hi, zj_q _ _ _ _ (q_73 (26 + i) (by omega)), if_neg (by omega)]
    show zj l σ c' (26 + i) = _
    rw [zj_q _ _ _ _ (hl.1 (26 + i) (by omega) (by omega))]
    show c' (26 + i - 26) = _
    rw [Nat.add_sub_cancel_left]
  have h3 : ∀ i, i < 26 → zb zl_73 (zj zl_73 (zj l σ c') m') i = m' i := fun i hi => by
    show zj zl_73 (zj l σ c') m' (zp zl_73 i) = _
    rw [p_73 i hi, zj_q _ _ _ _ (q_73 i (by omega)), if_pos hi]; rfl
  exact REL_eq h ⟨fun i _ b _ => h2 i b, by rw [h2 74 (by omega)]⟩ ⟨fun i _ b _ => h3 i (by omega), by rw [h3 0 (by omega)], by rw [h3 0 (by omega)], by rw [h3 0 (by omega)]⟩
theorem LR_one {σ m' : Mm} {M : Nat} (h : REL M (zb zl_72 σ) m') : LR M (zj zl_73 σ m') := by
  have h2 : ∀ i, i < 101 → zb zl_72 (zj zl_73 σ m') i = zb zl_72 σ i := fun i hi => by
    show zj zl_73 σ m' (zp zl_72 i) = σ (zp zl_72 i)
    rw [p_72 i hi, zj_q _ _ _ _ (q_73 (26 + i) (by omega)), if_neg (by omega)]; rfl
  have h3 : ∀ i, i < 26 → zb zl_73 (zj zl_73 σ m') i = m' i := fun i hi => by
    show zj zl_73 σ m' (zp zl_73 i) = _
    rw [p_73 i hi, zj_q _ _ _ _ (q_73 i (by omega)), if_pos hi]; rfl
  exact REL_eq h ⟨fun i _ b _ => h2 i b, by rw [h2 74 (by omega)]⟩ ⟨fun i _ b _ => h3 i (by omega), by rw [h3 0 (by omega)], by rw [h3 0 (by omega)], by rw [h3 0 (by omega)]⟩
/-- the class in a helper's view -/
theorem HV {N : Nat} {σ : Mm} (h : LR N σ) : REL N (zb zl_70 (zb zl_74 σ)) (zb zl_73 σ) := REL_eq h (by
  have e : ∀ i, i < 101 → zb zl_70 (zb zl_74 σ) i = zb zl_72 σ i := fun i hi => by
    show σ (zp zl_74 (zp zl_70 i)) = σ (zp zl_72 i)
    rw [p_70 i hi, p_74 i (by omega), p_72 i hi]
  exact ⟨fun i _ b _ => e i b, by rw [e 74 (by omega)]⟩) (ME_r _)
theorem HV5 {N : Nat} {σ : Mm} (h : LR N σ) : REL N (zb zl_71 (zb zl_75 σ)) (zb zl_73 σ) := REL_eq h (by
  have e : ∀ i, i < 101 → zb zl_71 (zb zl_75 σ) i = zb zl_72 σ i := fun i hi => by
    show σ (zp zl_75 (zp zl_71 i)) = σ (zp zl_72 i)
    rw [p_71 i hi, p_75 i hi, p_72 i hi]
  exact ⟨fun i _ b _ => e i b, by rw [e 74 (by omega)]⟩) (ME_r _)
/-- what the law's helper gives: w how it ended, the answer laid away -/
def HK (M : Nat) (x : Option (Mm × Int)) (y : Option (Mm × Int)) : Prop := ∃ (τ' m' : Mm) (w v : Int), x = some (τ', w) ∧ y = some (m', v) ∧ m' 0 0 = w ∧ (w = 0 ∨ zw w ≠ 0) ∧ (w = 0 → τ' 101 0 = Int64.toInt (zi2l v)) ∧ REL M τ' m'
noncomputable def hOut (EX : Nat → Option (Mm × Int)) (τ : Mm) (r : (Mm × Int) ⊕ Nat) : Option (Mm × Int) := zel r (fun o => un2 o fun σ1 v2 => bnd (zj zl_70 τ σ1) fun σ3 => (if zin (0 : Int) 1 then bnd (zu σ3 101 (zix (0 : Int)) (Int64.toInt (zi2l v2))) fun σ4 => some (σ4, (0 : Int)) else none)) EX
noncomputable def hOut3 (EX : Nat → Option (Mm × Int)) (τ : Mm) (r : Int ⊕ Nat) : Option (Mm × Int) := zel r (fun v1 => (if zin (0 : Int) 1 then bnd (zu τ 101 (zix (0 : Int)) (Int64.toInt (zi2l v1))) fun σ2 => some (σ2, (0 : Int)) else none)) EX
theorem REL_c {M : Nat} {c c' m : Mm} (h : REL M c m) (e : ∀ i, i < 101 → c' i = c i) : REL M c' m := REL_eq h ⟨fun i _ b _ => e i b, by rw [e 74 (by omega)]⟩ (ME_r _)
theorem h_2 {M : Nat} {T : List (Nat × Int)} {EX : Nat → Option (Mm × Int)} {τ : Mm} {X : Option ((Mm × Int) ⊕ Nat)} {Y : Option (Mm × Int)} (hT : ∀ q, q ∈ T → EX q.1 = some (τ, q.2) ∧ zw q.2 ≠ 0) (h : OK2 M T (zb zl_70 τ) X Y) : HK M (X.bind (hOut EX τ)) Y := by
  rcases h with ⟨c', m', v, h1, h2, h3, h4⟩ | ⟨e, k, v, m', h0, h1, h2, h3, h4⟩
  · rw [h1, Option.bind_some]
    unfold hOut
    rw [zel_l, un2_mk, bnd_eq, if_pos (by decide), bnd_eq]
    refine ⟨_, m', 0, v, rfl, h2, h3, .inl rfl, fun _ => zu_hit _ _ _ _, REL_c h4 (fun i hi => ?_)⟩
    unfold zu
    rw [if_neg (by omega), zj_q _ _ _ _ (q_70 i (by omega)), if_pos hi]; rfl
  · obtain ⟨t1, t2⟩ := hT _ h0
    rw [h1, Option.bind_some]
    unfold hOut
    rw [zel_r]
    refine ⟨τ, m', k, v, t1, h2, h3, .inr t2, fun z => ?_, REL_c h4 (fun i hi => ?_)⟩
    · exfalso
      have t2' : zw k ≠ 0 := t2
      rw [z] at t2'
      exact t2' (by decide)
    · show τ i = τ (zp zl_70 i)
      rw [p_70 i hi]
theorem h_3 {M : Nat} {T : List (Nat × Int)} {EX : Nat → Option (Mm × Int)} {τ : Mm} {X : Option (Int ⊕ Nat)} {Y : Option (Mm × Int)} (hT : ∀ q, q ∈ T → EX q.1 = some (τ, q.2) ∧ zw q.2 ≠ 0) (h : OK3 M T (zb zl_70 τ) X Y) : HK M (X.bind (hOut3 EX τ)) Y := by
  rcases h with ⟨m', v, h1, h2, h3, h4⟩ | ⟨e, k, v, m', h0, h1, h2, h3, h4⟩
  · rw [h1, Option.bind_some]
    unfold hOut3
    rw [zel_l, if_pos (by decide), bnd_eq]
    refine ⟨_, m', 0, v, rfl, h2, h3, .inl rfl, fun _ => zu_hit _ _ _ _, REL_c h4 (fun i hi => ?_)⟩
    unfold zu
    rw [if_neg (by omega)]
    show τ i = τ (zp zl_70 i)
    rw [p_70 i hi]
  · obtain ⟨t1, t2⟩ := hT _ h0
    rw [h1, Option.bind_some]
    unfold hOut3
    rw [zel_r]
    refine ⟨τ, m', k, v, t1, h2, h3, .inr t2, fun z => ?_, REL_c h4 (fun i hi => ?_)⟩
    · exfalso
      have t2' : zw k ≠ 0 := t2
      rw [z] at t2'
      exact t2' (by decide)
    · show τ i = τ (zp zl_70 i)
      rw [p_70 i hi]
/-- the law behind a direct call -/
theorem l_1 {M : Nat} {σ : Mm} {u : Int} {X : Option (Mm × Int)} {g : Mm → Option (Mm × Int)} (h : OK1 M X (g (zb zl_73 σ))) : ∃ σ', (X.bind fun o => un2 o fun σ2 v3 => bnd (zj zl_72 σ σ2) fun σ4 => (g (zb zl_73 σ4)).bind fun o => un2 o fun σ5 v6 => bnd (zj zl_73 σ4 σ5) fun σ7 => (if zw v3 = zw v6 then bnd (u + 6) fun v8 => some (.inl (σ7, v8)) else none)) = (some (.inl (σ', u + 6)) : Option ((Mm × Int) ⊕ Mm)) ∧ LR M σ' := by
  obtain ⟨c', m', v, h1, h2, h3⟩ := h
  rw [h1, Option.bind_some, un2_mk, bnd_eq, far CL_72, h2, Option.bind_some, un2_mk, bnd_eq, if_pos rfl, bnd_eq]
  exact ⟨_, rfl, LR_join CL_72 h3⟩
theorem l_2 {M : Nat} {σ : Mm} {u : Int} {X : Option (Mm × Int)} {g : Mm → Option (Mm × Int)} (h : HK M X (g (zb zl_73 σ))) : ∃ σ', (X.bind fun o => un2 o fun σ43 v44 => bnd (zj zl_74 σ σ43) fun σ45 => (g (zb zl_73 σ45)).bind fun o => un2 o fun σ47 v48 => bnd (zj zl_73 σ45 σ47) fun σ49 => (x_X7_thrown (zb zl_73 σ49)).bind fun v50 => (if zw v50 = zw v44 then (if zw v44 ≠ 0 then bnd (u + 6) fun v51 => some (.inl (σ49, v51)) else (if zin (0 : Int) 1 then (if zw (zcmp (zL (σ49 127 (zix (0 : Int)))) (zi2l v48)) = 0 then bnd (u + 6) fun v53 => some (.inl (σ49, v53)) else none) else none)) else none)) = (some (.inl (σ', u + 6)) : Option ((Mm × Int) ⊕ Mm)) ∧ LR M σ' := by
  obtain ⟨τ', m', w, v, h1, h2, h3, h4, h5, h6⟩ := h
  rw [h1, Option.bind_some, un2_mk, bnd_eq, far CL_74, h2, Option.bind_some, un2_mk, bnd_eq]
  have ht : x_X7_thrown (zb zl_73 (zj zl_73 (zj zl_74 σ τ') m')) = some w := by
    unfold x_X7_thrown
    show some (zj zl_73 (zj zl_74 σ τ') m' 0 0) = _
    rw [zj_q _ _ _ _ (q_73 0 (by omega)), if_pos (by omega)]
    show some (m' 0 0) = _
    rw [h3]
  rw [ht, Option.bind_some, if_pos rfl]
  refine ⟨zj zl_73 (zj zl_74 σ τ') m', ?_, LR_join CL_74 h6⟩
  rcases h4 with rfl | h4
  · have e : zj zl_73 (zj zl_74 σ τ') m' 127 (zix (0 : Int)) = Int64.toInt (zi2l v) := by
      rw [zj_q _ _ _ _ (q_73 127 (by omega)), if_neg (by omega), show zix (0 : Int) = 0 by decide]
      show zj zl_74 σ τ' 127 0 = _
      rw [zj_q _ _ _ _ (q_74 127 (by omega)), if_pos (by omega)]
      exact h5 rfl
    have ez : zL (Int64.toInt (zi2l v)) = zi2l v := Int64.ofInt_toInt _
    have ec : zw (zcmp (zi2l v) (zi2l v)) = 0 := by
      unfold zcmp lg_cmp
      simp
      decide
    rw [if_neg z0n, if_pos (by decide), e, ez, if_pos ec, bnd_eq]
  · rw [if_pos h4, bnd_eq]
