/-! the law's moves never throw -/
theorem inlO_ne {α : Type} {x : Option α} {e : Nat} (h : inlO x = some (.inr e)) : False := by
  cases x
  · cases h
  · cases h
theorem hld {N : Nat} {c m : Mm} (h : REL N c m) {p : Nat} (hp : p < 2) {k : Nat} (hk : k < 52) (hh : m 1 (119 + k) = (p : Int)) : x_X6_requireHeld c (p : Int) (k : Int) = some (.inl ()) := by
  rcases held_all h hp (a := (k : Int)) (zwn (by omega)) with ⟨k', k1, k2, k3, k4, k5⟩ | ⟨k4, k5⟩
  · exact k4
  · exfalso
    rw [X7_owns m (p : Int) hk, hh, if_pos rfl] at k5
    exact absurd (Option.some.inj k5) (by decide)
theorem t_drop {N : Nat} {c m : Mm} (h : REL N c m) {p : Nat} (hp : p < 2) (h4 : m 1 4 = (p : Int)) {k : Nat} (hk : k < 52) (hh : m 1 (119 + k) = (p : Int)) : ∃ c' m' v, x_X6_drop c (k : Int) = some (.inl (c', v)) ∧ REL N c' m' := by
  have hm5 : c 1 5 = (p : Int) := (h.2.1.1.2.2.2.2.2.1).trans h4
  rcases c_drop h (a := (k : Int)) (zwn (by omega)) with ⟨c', m', v, e1, -, -, e4⟩ | ⟨e, kk, v, m', -, e1, -⟩
  · exact ⟨c', m', v, e1, e4⟩
  · exfalso
    unfold x_X6_drop at e1
    rw [hm5, hld h hp hk hh, Option.bind_some] at e1
    exact inlO_ne e1
theorem t_knock {N : Nat} {c m : Mm} (h : REL N c m) {p : Nat} (hp : p < 2) (h4 : m 1 4 = (p : Int)) {k : Nat} (hk : k < 52) (hh : m 1 (119 + k) = (p : Int)) : ∃ c' m' v, x_X6_knock c (k : Int) = some (.inl (c', v)) ∧ REL N c' m' := by
  have hm5 : c 1 5 = (p : Int) := (h.2.1.1.2.2.2.2.2.1).trans h4
  rcases c_knock h (a := (k : Int)) (zwn (by omega)) with ⟨c', m', v, e1, -, -, e4⟩ | ⟨e, kk, v, m', -, e1, -⟩
  · exact ⟨c', m', v, e1, e4⟩
  · exfalso
    unfold x_X6_knock at e1
    rw [hm5, hld h hp hk hh, Option.bind_some] at e1
    exact inlO_ne e1
theorem w_set {N : Nat} {c m : Mm} (h : REL N c m) {p a : Int} (hp : (p = 0 ∧ 0 ≤ a ∧ a ≤ 20) ∨ (p = 1 ∧ 20 ≤ a ∧ a ≤ 500)) : ∃ c' m' v, x_X6_set c p a = some (.inl (c', v)) ∧ REL N c' m' := by
  have ha : zw a = a := zw_eq (by omega) (by omega)
  rcases cl_set h (p := p) (a := a) (by omega) ha with ⟨c', m', v, e1, -, -, e4⟩ | ⟨e, kk, v, m', -, e1, -⟩
  · exact ⟨c', m', v, e1, e4⟩
  · exfalso
    unfold x_X6_set at e1
    rcases hp with ⟨hp, h1, h2⟩ | ⟨hp, h1, h2⟩ <;> subst hp
    · rw [if_pos (by decide), X6_within a (l := 0) (h := 20) (by decide) (by decide), ha, if_pos ⟨h1, h2⟩, Option.bind_some, X6_req, if_pos (by decide), Option.bind_some] at e1
      exact inlO_ne e1
    · rw [if_neg (by decide), X6_within a (l := 20) (h := 500) (by decide) (by decide), ha, if_pos ⟨h1, h2⟩, Option.bind_some, X6_req, if_pos (by decide), Option.bind_some] at e1
      exact inlO_ne e1
theorem t_bestDrop {N : Nat} {c m : Mm} (h : REL N c m) {p : Nat} (hp : p < 2) (h4 : m 1 4 = (p : Int)) : ∃ c' v, x_X6_bestDrop c = some (c', v) ∧ REL N c' m ∧ (v = -1 ∨ ∃ k : Nat, v = (k : Int) ∧ k < 52 ∧ m 1 (119 + k) = (p : Int)) := by
  have hm5 : c 1 5 = (p : Int) := (h.2.1.1.2.2.2.2.2.1).trans h4
  unfold x_X6_bestDrop
  rw [X2_canDrop h.1 (R_now h), Option.bind_some]
  rcases cdR_01 (m 1) with ⟨e, e6, e5⟩ | e
  · rw [e, if_pos (show zw (1 : Int) ≠ 0 by decide)]
    obtain ⟨q1, q2, q3, q4⟩ := hnd_of h.1 (R_now h) hp
    generalize hP : zL (zb zl_47 c 2 p) = P at q1 q2 q3 q4
    obtain ⟨c', e', k1, k2, k3⟩ := X6_bestL (N := N) (m := m) (x := c 1 7) hp q1 q4 52 0 c (-1) 0 (by omega) h hm5 rfl hP (.inl ⟨rfl, rfl, fun d hd => by omega⟩)
    have k1 : lup (fun (s31 : Mm × Int × Int × Int) => x_X6_bestDrop_b18 s31.1 s31.2.1 s31.2.2.1 s31.2.2.2) (c, (-1 : Int), (0 : Int), (0 : Int)) = some (c', e') := k1
    rw [k1, Option.bind_some, un2_mk]
    refine ⟨c', e', rfl, k2, ?_⟩
    rcases k3 with ⟨k4, -⟩ | ⟨d, k4, k5, k6⟩
    · exact .inl k4
    · have d52 := cw_52 q1 k5.1
      obtain ⟨Q, hQ⟩ := HND_ex h hp
      have : P = Q := HND_hnd h hp hQ ⟨q1, q2⟩
      subst this
      exact .inr ⟨d, k4, d52, of_decide_eq_true ((hQ.2 d d52).symm.trans k5.1)⟩
  · rw [e, if_neg (show ¬ zw (0 : Int) ≠ 0 by decide)]
    exact ⟨_, _, rfl, h, .inl rfl⟩
