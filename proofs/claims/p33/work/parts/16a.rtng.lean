/-- the goal of a maker, seen from a world that keeps the cells without a guard -/
theorem rtn_gr {Γ : Cx} {s0 s9 t0 : Sh} {ret : Option FieldType} {σ1 : Mm} {ov : Option Value} {mc ms : Nat} (h : RTN Γ s0 s9 ret σ1 ov mc ms) (h0 : ∀ (k : Nat) (q : Zs), s0[k]? = some q → q.2.2.2 = none → t0[k]? = some q) : RTN Γ t0 s9 ret σ1 ov mc ms := by
  rcases h with h | ⟨e0, sb, se, a0, σ0, e1, e2, e3, e4, e5⟩
  · exact Or.inl h
  · exact Or.inr ⟨e0, sb, se, a0, σ0, e1, e2, e3, fun k q hq hx => ⟨(e4 k q hq hx).1, (e4 k q hq hx).2.elim fun q9 hq9 => ⟨q9, h0 k q9 hq9.1 hq9.2, hq9.2⟩⟩, e5⟩
def zpg (s t : Sh) : Bool := (List.range s.length).all (fun k => zqe s[k]? t[k]? || (match s[k]? with | some q => q.2.2.2.isSome | none => true))
theorem zpg_up {s t : Sh} (h : zpg s t = true) (k : Nat) (q : Zs) (hq : s[k]? = some q) (hx : q.2.2.2 = none) : t[k]? = some q := by
  have h1 := List.all_eq_true.mp h k (List.mem_range.mpr (List.getElem?_eq_some_iff.mp hq).1)
  simp only [hq, hx, Option.isSome_none, Bool.or_false] at h1
  exact (zqe_eq h1).symm
