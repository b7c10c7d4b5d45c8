/-! isLaid's second loop, and isLaid -/
set_option maxHeartbeats 4000000 in
theorem loop166 {N : Nat} {m : Mm} {p : Nat} (hp : p < 2) {P : Int64} (hP : HND m p P) (h11 : cnt (bs P) 64 ≤ 11) {v2 a1 a2 a3 : Int} {σ8 : Mm} (hσ : REL N σ8 m) (hz : ∀ (j : Nat) (x : Int64), (Lay P)[j]? = some x → σ8 101 j = ((cnt (bs x) 64 : Nat) : Int) ∧ zL (σ8 102 j) = x) :
    ∃ e, lup (fun (s61 : Mm × Int × Int) => x_L_isLaid_b166 (p : Int) v2 ((Lay P).length : Int) a1 a2 a3 s61.1 s61.2.1 s61.2.2) (σ8, (0 : Int), (0 : Int)) = some e ∧ ∃ σ' : Mm, e = (.inr (σ', (Lay P).foldl (gKd 1) 0)) ∧ REL N σ' m := by
  obtain ⟨l1, l2, l3, l4⟩ := Lay_ok hP.1 h11
  have hmld : ∀ x ∈ Lay P, mld x := fun x hx => (l2 x hx).2
  refine lup_for (f := fun (s61 : Mm × Int × Int) => x_L_isLaid_b166 (p : Int) v2 ((Lay P).length : Int) a1 a2 a3 s61.1 s61.2.1 s61.2.2) (fun i s => REL N s.1 m ∧ s.2.1 = ((Lay P).take i).foldl (gKd 1) 0 ∧ s.2.2 = (i : Int) ∧ ∀ (j : Nat) (x : Int64), (Lay P)[j]? = some x → s.1 101 j = ((cnt (bs x) 64 : Nat) : Int) ∧ zL (s.1 102 j) = x) (fun e => ∃ σ' : Mm, e = (.inr (σ', (Lay P).foldl (gKd 1) 0)) ∧ REL N σ' m) (Lay P).length (fun i s hi hs => ?_) (fun s hs => ?_) ⟨hσ, rfl, rfl, hz⟩
  · obtain ⟨σ, sm, iv⟩ := s
    obtain ⟨hR, i1, i2, i3⟩ := hs
    simp only at hR i1 i2 i3
    subst i2
    obtain ⟨x, hx⟩ : ∃ x, (Lay P)[i]? = some x := ⟨_, List.getElem?_eq_getElem hi⟩
    have hm : mld x := hmld x (List.mem_of_getElem? hx)
    obtain ⟨j1, j2⟩ := i3 i x hx
    have hzk : zin ((i : Nat) : Int) 12 := ⟨by rw [zwn (by omega)]; omega, by rw [zwn (by omega)]; omega⟩
    have hxk : zix ((i : Nat) : Int) = i := zix_nat (by omega)
    have hk := h_kind (v_kind (c := zb zl_101 σ) (mld_cw hm))
    obtain ⟨c1, r1, -, m1⟩ := v_meld (REL_zb hR) hp hP hx
    have q1 := h_meld m1
    have R1 := REL_zj (c := σ) r1
    obtain ⟨c2, r2, m2, -⟩ := v_meld (REL_zb R1) hp hP hx
    have q2 := h_meld m2
    have R2 := REL_zj (c := zj zl_101 σ c1) r2
    obtain ⟨c3, r3, -, m3⟩ := v_meld (REL_zb R2) hp hP hx
    have q3 := h_meld m3
    have R3 := REL_zj (c := zj zl_101 (zj zl_101 σ c1) c2) r3
    have hkk : kK x = 1 ∨ kK x = 2 := by
      rcases hm with hm | hm
      · exact .inl (so_set hm).2
      · exact .inr (so_run hm).2
    have hcnt := cnt_le (bs x) 64
    have htk : ((Lay P).take (i + 1)).foldl (gKd 1) 0 = gKd 1 (((Lay P).take i).foldl (gKd 1) 0) x := by
      rw [List.take_add_one, hx]
      show List.foldl (gKd 1) 0 (List.take i (Lay P) ++ [x]) = _
      rw [List.foldl_append]
      rfl
    refine ⟨(zj zl_101 (zj zl_101 (zj zl_101 σ c1) c2) c3, ((Lay P).take (i + 1)).foldl (gKd 1) 0, (i : Int) + 1), ?_, R3, rfl, by show (i : Int) + 1 = ((i + 1 : Nat) : Int); omega, fun j y hy => ?_⟩
    · show x_L_isLaid_b166 (p : Int) v2 ((Lay P).length : Int) a1 a2 a3 σ sm (i : Int) = _
      unfold x_L_isLaid_b166
      rw [e104, if_neg (nle_n hi (by omega)), if_pos hzk, hxk, j2, hk, Option.bind_some, q1, Option.bind_some, un2_mk, bnd_eq, if_neg (by rcases hkk with e | e <;> rw [e] <;> decide), if_pos hzk, q2, Option.bind_some, un2_mk, bnd_eq, zjl_hi _ _ (show 101 ≤ 101 by decide), j1, if_pos rfl, q3, Option.bind_some, un2_mk, bnd_eq, htk, ← i1]
      unfold gKd
      rcases hkk with e | e
      · rw [e]
        rfl
      · rw [e]
        show some (Sum.inl (_, sm + 0, _)) = some (Sum.inl (_, sm, _))
        rw [Int.add_zero]
    · rw [show (zj zl_101 (zj zl_101 (zj zl_101 σ c1) c2) c3, ((Lay P).take (i + 1)).foldl (gKd 1) 0, (i : Int) + 1).1 = zj zl_101 (zj zl_101 (zj zl_101 σ c1) c2) c3 from rfl]
      rw [zjl_hi _ _ (by decide), zjl_hi _ _ (by decide), zjl_hi _ _ (by decide), zjl_hi _ _ (by decide), zjl_hi _ _ (by decide), zjl_hi _ _ (by decide)]
      exact i3 j y hy
  · obtain ⟨σ, sm, iv⟩ := s
    obtain ⟨hR, i1, i2, i3⟩ := hs
    simp only at hR i1 i2 i3
    subst i2
    refine ⟨.inr (σ, sm), ?_, σ, ?_, hR⟩
    · show x_L_isLaid_b166 (p : Int) v2 ((Lay P).length : Int) a1 a2 a3 σ sm ((Lay P).length : Int) = _
      unfold x_L_isLaid_b166
      rw [if_pos (Int.le_refl _)]
    · show Sum.inr (σ, sm) = Sum.inr (σ, _)
      rw [i1, List.take_length]
