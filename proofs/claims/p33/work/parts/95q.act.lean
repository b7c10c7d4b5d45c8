/-! a turn of the law -/
theorem l_draw {N : Nat} {σ m : Mm} (h : REL N σ m) (q : Int) : ∃ σ', (x_X6_draw (zb zl_101 σ) q).bind (fun o => un2 o fun σ1 _ => bnd (zj zl_101 σ σ1) fun σ2 => some σ2) = some σ' ∧ ∃ m', REL N σ' m' := by
  obtain ⟨c', m', v, e1, -, e3⟩ := c_draw (REL_zb h) q
  rw [e1, Option.bind_some, un2_mk, bnd_eq]
  exact ⟨_, rfl, m', REL_zj e3⟩
theorem l_drop {N : Nat} {σ m : Mm} (h : REL N σ m) {p : Nat} (hp : p < 2) (h4 : m 1 4 = (p : Int)) {a : Int} (ha : ∃ k : Nat, a = (k : Int) ∧ k < 52 ∧ m 1 (119 + k) = (p : Int)) : ∃ σ', (x_L_drop (zb zl_101 σ) a).bind (fun o => un2 o fun σ1 _ => bnd (zj zl_101 σ σ1) fun σ2 => some σ2) = some σ' ∧ ∃ m', REL N σ' m' := by
  obtain ⟨k, rfl, k1, k2⟩ := ha
  obtain ⟨c', m', v, e1, e3⟩ := t_drop (REL_zb (REL_zb h)) hp h4 k1 k2
  unfold x_L_drop
  rw [e1, Option.bind_some, zel_l, un2_mk, bnd_eq, Option.bind_some, un2_mk, bnd_eq]
  exact ⟨_, rfl, m', REL_zj (REL_zj e3)⟩
theorem l_knock {N : Nat} {σ m : Mm} (h : REL N σ m) {p : Nat} (hp : p < 2) (h4 : m 1 4 = (p : Int)) {a : Int} (ha : ∃ k : Nat, a = (k : Int) ∧ k < 52 ∧ m 1 (119 + k) = (p : Int)) : ∃ σ', (x_L_knock (zb zl_101 σ) a).bind (fun o => un2 o fun σ1 _ => bnd (zj zl_101 σ σ1) fun σ2 => some σ2) = some σ' ∧ ∃ m', REL N σ' m' := by
  obtain ⟨k, rfl, k1, k2⟩ := ha
  obtain ⟨c', m', v, e1, e3⟩ := t_knock (REL_zb (REL_zb h)) hp h4 k1 k2
  unfold x_L_knock
  rw [e1, Option.bind_some, zel_l, un2_mk, bnd_eq, Option.bind_some, un2_mk, bnd_eq]
  exact ⟨_, rfl, m', REL_zj (REL_zj e3)⟩
theorem l_set {N : Nat} {σ m : Mm} (h : REL N σ m) {p a : Int} (hp : (p = 0 ∧ 0 ≤ a ∧ a ≤ 20) ∨ (p = 1 ∧ 20 ≤ a ∧ a ≤ 500)) : ∃ σ', (x_L_set (zb zl_101 σ) p a).bind (fun o => un2 o fun σ1 _ => bnd (zj zl_101 σ σ1) fun σ2 => some σ2) = some σ' ∧ ∃ m', REL N σ' m' := by
  obtain ⟨c', m', v, e1, e3⟩ := w_set (REL_zb (REL_zb h)) hp
  unfold x_L_set
  rw [e1, Option.bind_some, zel_l, un2_mk, bnd_eq, Option.bind_some, un2_mk, bnd_eq]
  exact ⟨_, rfl, m', REL_zj (REL_zj e3)⟩
theorem l_deal {N : Nat} {σ m : Mm} (h : REL N σ m) (hN : N < 100000) : ∃ σ', (x_X6_deal (zb zl_101 σ)).bind (fun o => un2 o fun σ1 _ => bnd (zj zl_101 σ σ1) fun σ2 => some σ2) = some σ' ∧ ∃ m', REL (N + 1) σ' m' := by
  obtain ⟨c', m', v, e1, -, e3⟩ := c_deal (REL_zb h) hN
  rw [e1, Option.bind_some, un2_mk, bnd_eq]
  exact ⟨_, rfl, m', REL_zj e3⟩
