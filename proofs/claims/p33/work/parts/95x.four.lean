/-! four letters appended to the class's text -/
theorem one_let {σ : Mm} {L : Nat} {b : Nat → Nat} {x : Int} {u e : Nat} (h : TBc σ L b) (hL : L < 500) (he : zand (zushr x (u : Int)) 255 = (e : Int)) (h256 : e < 256) (hu : u < 100) : ∃ σ', x_X3_writeFour_b3 x σ (u : Int) = some (.inl (σ', (u : Int) + (-8))) ∧ TBc σ' (L + 1) (fun i => if i = L then e else b i) := by
  obtain ⟨h0, h1, h2⟩ := h
  have zi : zin (L : Int) 500 := zin_i (by omega) (by omega) (by omega)
  refine ⟨zu (zu σ 1 L (zi2b (zi2b (zushr x (u : Int))))) 0 1 ((L : Int) + 1), ?_, by omega, by rw [zu_hit]; rfl, fun i hi => ?_⟩
  · unfold x_X3_writeFour_b3 x_X3_writeByte
    have e : zu σ 1 L (zi2b (zi2b (zushr x (u : Int)))) 0 1 = (L : Int) := h1
    rw [if_neg (nlt0 (by omega)), h1, if_neg (nlt0 (by omega)), if_neg (nle_l (by omega) (by omega)), if_pos zi, zix_nat (n := L) (by omega), bnd_eq, e, bnd_eq, Option.bind_some, bnd_eq]
  · show (if i = L then e else b i) < 256 ∧ zand (zu σ 1 L (zi2b (zi2b (zushr x (u : Int)))) 1 i) 255 = ((if i = L then e else b i : Nat) : Int)
    by_cases w : i = L
    · subst w
      rw [if_pos rfl, zu_hit, zand_b]
      exact ⟨h256, he⟩
    · rw [if_neg w, zu_miss _ _ _ _ (fun _ => w)]
      exact h2 i (by omega)
theorem four_let {σ : Mm} {L : Nat} {b : Nat → Nat} {a0 a1 a2 a3 : Nat} (h : TBc σ L b) (hL : L + 4 ≤ 500) (h0 : a0 < 128) (h1 : a1 < 128) (h2 : a2 < 128) (h3 : a3 < 128) : ∃ σ', x_X3_writeFour σ ((wd4 a0 a1 a2 a3 : Nat) : Int) = some σ' ∧ TBc σ' (L + 4) (fun i => if i = L + 3 then a3 else if i = L + 2 then a2 else if i = L + 1 then a1 else if i = L then a0 else b i) := by
  obtain ⟨d0, d1, d2, d3⟩ := wd4_at h0 h1 h2 h3
  generalize ((wd4 a0 a1 a2 a3 : Nat) : Int) = x at d0 d1 d2 d3
  obtain ⟨σ1, e1, t1⟩ := one_let (u := 24) h (by omega) d0 (by omega) (by omega)
  obtain ⟨σ2, e2, t2⟩ := one_let (u := 16) t1 (by omega) d1 (by omega) (by omega)
  obtain ⟨σ3, e3, t3⟩ := one_let (u := 8) t2 (by omega) d2 (by omega) (by omega)
  obtain ⟨σ4, e4, t4⟩ := one_let (u := 0) t3 (by omega) d3 (by omega) (by omega)
  refine ⟨σ4, ?_, t4⟩
  unfold x_X3_writeFour
  have e1 : x_X3_writeFour_b3 x σ 24 = some (.inl (σ1, 16)) := e1
  have e2 : x_X3_writeFour_b3 x σ1 16 = some (.inl (σ2, 8)) := e2
  have e3 : x_X3_writeFour_b3 x σ2 8 = some (.inl (σ3, 0)) := e3
  have e4 : x_X3_writeFour_b3 x σ3 0 = some (.inl (σ4, -8)) := e4
  have e5 : x_X3_writeFour_b3 x σ4 (-8) = some (.inr σ4) := by unfold x_X3_writeFour_b3; rw [if_pos (by decide)]
  rw [lup_inl (f := fun (s4 : Mm × Int) => x_X3_writeFour_b3 x s4.1 s4.2) (s := (σ, (24 : Int))) e1, lup_inl (f := fun (s4 : Mm × Int) => x_X3_writeFour_b3 x s4.1 s4.2) (s := (σ1, (16 : Int))) e2, lup_inl (f := fun (s4 : Mm × Int) => x_X3_writeFour_b3 x s4.1 s4.2) (s := (σ2, (8 : Int))) e3, lup_inl (f := fun (s4 : Mm × Int) => x_X3_writeFour_b3 x s4.1 s4.2) (s := (σ3, (0 : Int))) e4, lup_inr (f := fun (s4 : Mm × Int) => x_X3_writeFour_b3 x s4.1 s4.2) (s := (σ4, (-8 : Int))) e5]
  rfl
