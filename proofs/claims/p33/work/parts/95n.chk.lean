/-! the law's check, and its turns -/
theorem t_chk {N : Nat} {σ m : Mm} (hR : REL N σ m) : ∃ σ' m', x_L_chk σ = some σ' ∧ REL N σ' m' ∧ m' 0 8 = m 0 8 := by
  obtain ⟨c1, e1, r1⟩ := t_isSound (REL_zb hR)
  have R1 := REL_zj (c := σ) r1
  obtain ⟨c2, m', e2, r2, r3⟩ := t_isNotWorse (REL_zb R1)
  unfold x_L_chk
  rw [e1, Option.bind_some, un2_mk, if_neg (by decide), e2, Option.bind_some, un2_mk, if_neg (by decide)]
  exact ⟨_, _, rfl, REL_zj r2, r3⟩
