/-! four letters appended to the class's text -/
theorem one_let {σ : Mm} {L : Nat} {b : Nat → Nat} {x : Int} {u e : Nat} (h : TBc σ L b) (hL : L < 500) (he : zand (zushr x (u : Int)) 255 = (e : Int)) (h256 : e < 256) (hu : u < 100) : ∃ σ', x_X3_writeFour_b3 x σ (u : Int) = some (.inl (σ', (u : Int) + (-8))) ∧ TBc σ' (L + 1) (fun i => if i = L then e else b i) := by
  obtain ⟨h0, h1, h2⟩ := h
  have zi : zin (L : Int) 500 := zin_i (by omega) (by omega) (by omega)
  refine ⟨zu (zu σ 1 L (zi2b (zi2b (zushr x (u : Int))))) 0 1 ((L : Int) + 1), ?_, by omega, by rw [zu_hit]; rfl, fun i hi => ?_⟩
  · unfold x_X3_writeFour_b3 x_X3_writeByte
    have e : zu σ 1 L (zi2b (zi2b (zushr x (u : Int)))) 0 1 = (L : Int) := h1
    rw [if_neg (nlt0 (by omega)), h1, if_neg (nlt0 (by omega)), if_neg (nle_l (by omega) (by omega)), if_pos zi, zix_nat (n := L) (by omega), bnd_eq, e, bnd_eq, Option.bind_some, bnd_eq]
  · show (if i = L then e else b i) < 256 ∧ zand (zu σ 1 L (zi2b (zi2b (zushr x (u : Int)))) 1 i) 255 = ((if i = L then e else b i : Nat) : Int)
    by_cases w : i = L
    · subst w
      rw [if_pos rfl, zu_hit, zand_b]
      exact ⟨h256, he⟩
    · rw [if_neg w, zu_miss _ _ _ _ (fun _ => w)]
      exact h2 i (by omega)
