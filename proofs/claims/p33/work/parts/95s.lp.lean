/-! the law's loop, and its start -/
theorem t_lp (xs : Mm) {L : Nat} (hL : L ≤ 260) : ∀ (n k N : Nat) (σ m : Mm), REL N σ m → N + n < 100000 → k + 2 * n < 900 → x_L_lp xs L n (k : Int) σ = some ()
  | 0, _, _, _, _, _, _, _ => rfl
  | n + 1, k, N, σ, m, hR, h1, h2 => by
    obtain ⟨σ1, e1, m1, r1⟩ := t_act (REL_zb hR) (by omega) xs hL k (by omega)
    obtain ⟨σ2, m2, e2, r2, -⟩ := t_chk (REL_zj (c := σ) r1)
    have ih := t_lp xs hL n (k + 2) (N + 1) σ2 m2 r2 (by omega) (by omega)
    show (x_L_act (zb zl_101 σ) xs L (k : Int)).bind _ = _
    rw [e1, Option.bind_some, e2, Option.bind_some]
    exact ih
theorem init_t {c : Mm} (h : x_X6_init (fun _ _ => 0) = some c) : c 74 1 = 0 := by
  obtain ⟨B, b0, -⟩ := init6
  rw [b0] at h
  unfold ini6 at h
  obtain ⟨σ16, -, h⟩ := Option.bind_eq_some_iff.mp h
  rw [bnd_eq] at h
  obtain ⟨⟨σ18, v⟩, -, h⟩ := Option.bind_eq_some_iff.mp h
  rw [un2_mk, bnd_eq] at h
  obtain ⟨σ21, h1, h⟩ := Option.bind_eq_some_iff.mp h
  rw [bnd_eq] at h
  have h := Option.some.inj h
  unfold x_X3_shorten at h1
  rw [bnd_eq] at h1
  have h1 := Option.some.inj h1
  rw [← h, zj_q _ _ _ _ (q_41 74 (by omega)), if_pos (by omega), ← h1]
  exact zu_hit _ _ _ _
theorem t_start : ∃ σ1 m, x_X6_init (fun _ _ => 0) = some σ1 ∧ REL 0 (zu (zj zl_101 (fun _ _ => 0) σ1) 200 0 1) m ∧ m 0 8 = 0 := by
  obtain ⟨c, m, e1, -, r⟩ := init_both
  have ht := init_t e1
  obtain ⟨L, l1, l2, l3, l4⟩ := r.2.2.2.2.1
  have l2 : c 74 1 = (L : Int) := l2
  have l3 : m 0 8 = (L : Int) := l3
  refine ⟨c, m, e1, REL_c r (fun i hi => ?_), by omega⟩
  rw [zu_ne _ _ _ (by omega), zjl_lo _ _ hi]
