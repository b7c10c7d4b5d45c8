/-! the law's step -/
theorem l_laid {N : Nat} {σ : Mm} {u a : Int} (h : LR N σ) (ha : zw a = a) : ∃ σ', ((x_L_laid (zb zl_75 σ) a).bind fun o => un2 o fun σ423 v424 => bnd (zj zl_75 σ σ423) fun σ425 => (x_X7_laid (zb zl_73 σ425) a).bind fun o => un2 o fun σ427 v428 => bnd (zj zl_73 σ425 σ427) fun σ429 => (x_X7_thrown (zb zl_73 σ429)).bind fun v430 => (if zw v430 = zw v424 then (if zw v424 ≠ 0 then bnd (u + 6) fun v431 => some (.inl (σ429, v431)) else (if zin (0 : Int) 1 then (if (FP.f2d v428) &&& 0x7fffffffffffffff ≤ 0x7ff0000000000000 then (if zw (zdcmp (zU (σ429 128 (zix (0 : Int)))) (FP.f2d v428) .l) = 0 then bnd (u + 6) fun v433 => some (.inl (σ429, v433)) else (if zin (0 : Int) 1 then (if zin (0 : Int) 1 then (if zw (zdcmp (zU (σ429 128 (zix (0 : Int)))) (zU (σ429 128 (zix (0 : Int)))) .l) = 0 then none else (if zw (zfcmp v428 v428 .l) ≠ 0 then bnd (u + 6) fun v436 => some (.inl (σ429, v436)) else none)) else none) else none)) else none) else none)) else none)) = (some (.inl (σ', u + 6)) : Option ((Mm × Int) ⊕ Mm)) ∧ LR N σ' := by
  have ht : ∀ τ' m', x_X7_thrown (zb zl_73 (zj zl_73 (zj zl_75 σ τ') m')) = some (m' 0 0) := fun τ' m' => by
    unfold x_X7_thrown
    show some (zj zl_73 (zj zl_75 σ τ') m' 0 0) = _
    rw [zj_q _ _ _ _ (q_73 0 (by omega)), if_pos (by omega)]; rfl
  rcases c_laid (HV5 h) ha with ⟨c', m', n, k, hn, hn1, hk, h1, h2, h3, h4⟩ | ⟨m', v, h1, h2, h3, h4⟩
  · have hp := fp_laid2 n hn hn1 k hk
    have hz := fp_l2 n hn hn1 k hk
    generalize FP.fdiv (FP.i2f (zJ (k : Int))) (FP.i2f (zJ (n : Int))) = d at h1 h2 hp hz
    have hx : x_L_laid (zb zl_75 σ) a = some (zu (zj zl_71 (zb zl_75 σ) c') 101 0 (zUi (FP.f2d d)), 0) := by
      unfold x_L_laid
      rw [h1, Option.bind_some, zel_l, un2_mk, bnd_eq, if_pos hp, if_pos (by decide), bnd_eq, show zix (0 : Int) = 0 by decide]
    have hR : REL N (zu (zj zl_71 (zb zl_75 σ) c') 101 0 (zUi (FP.f2d d))) m' := REL_c h4 (fun i hi => by
      unfold zu
      rw [if_neg (by omega), zj_q _ _ _ _ (q_71 i (by omega)), if_pos hi]; rfl)
    have h101 : zu (zj zl_71 (zb zl_75 σ) c') 101 0 (zUi (FP.f2d d)) 101 0 = zUi (FP.f2d d) := zu_hit _ _ _ _
    generalize zu (zj zl_71 (zb zl_75 σ) c') 101 0 (zUi (FP.f2d d)) = τ' at hx hR h101
    rw [hx, Option.bind_some, un2_mk, bnd_eq, far CL_75, h2, Option.bind_some, un2_mk, bnd_eq, ht, h3, Option.bind_some, if_pos rfl, if_neg z0n, if_pos (by decide), if_pos hp]
    have e : zj zl_73 (zj zl_75 σ τ') m' 128 (zix (0 : Int)) = zUi (FP.f2d d) := by
      rw [zj_q _ _ _ _ (q_73 128 (by omega)), if_neg (by omega), show zix (0 : Int) = 0 by decide]
      show zj zl_75 σ τ' 128 0 = _
      rw [zj_q _ _ _ _ (q_75 128 (by omega)), if_neg (by omega), if_pos rfl]
      exact h101
    rw [e, zU_i, if_pos hz, bnd_eq]
    exact ⟨_, rfl, LR_join CL_75 hR⟩
  · have hx : x_L_laid (zb zl_75 σ) a = some (zb zl_75 σ, 1) := by
      unfold x_L_laid
      rw [h1, Option.bind_some, zel_r]; rfl
    have hR : REL N (zb zl_75 σ) m' := REL_c h4 (fun i hi => by
      show zb zl_75 σ i = zb zl_75 σ (zp zl_71 i)
      rw [p_71 i hi])
    generalize zb zl_75 σ = τ' at hx hR
    rw [hx, Option.bind_some, un2_mk, bnd_eq, far CL_75, h2, Option.bind_some, un2_mk, bnd_eq, ht, h3, Option.bind_some, if_pos rfl, if_pos w1p, bnd_eq]
    exact ⟨_, rfl, LR_join CL_75 hR⟩
theorem law_step {N M L n : Nat} {xs σ : Mm} (h : LR N σ) (hx : ∀ j, zw (xs 0 j) = xs 0 j) (hL : L ≤ 3072) (hn : n + 6 ≤ L) (hNM : N + 1 ≤ M) (h5 : 500 ≤ M) (hN : N < 100000) : ∃ σ', x_L_law_b28 xs L σ (n : Int) = some (.inl (σ', (n : Int) + 6)) ∧ LR M σ' := by
  have up1 : ∀ {x y}, OK1 N x y → OK1 M x y := fun hh => OK1_up hh (by omega)
  have up2 : ∀ {x y}, HK N x y → HK M x y := fun hh => HK_up hh (by omega)
  have up3 : ∀ {X : Option ((Mm × Int) ⊕ Mm)}, (∃ σ', X = some (.inl (σ', (n : Int) + 6)) ∧ LR N σ') → ∃ σ', X = some (.inl (σ', (n : Int) + 6)) ∧ LR M σ' := fun ⟨σ', a, b⟩ => ⟨σ', a, REL_up b (by omega)⟩
  have hz0 : zin (n : Int) L := zin_i (by omega) (by omega) (by omega)
  have hz1 : zin ((n : Int) + (1 : Int)) L := by rw [show (n : Int) + 1 = ((n + 1 : Nat) : Int) by omega]; exact zin_i (by omega) (by omega) (by omega)
  have hz2 : zin ((n : Int) + (2 : Int)) L := by rw [show (n : Int) + 2 = ((n + 2 : Nat) : Int) by omega]; exact zin_i (by omega) (by omega) (by omega)
  have hz3 : zin ((n : Int) + (3 : Int)) L := by rw [show (n : Int) + 3 = ((n + 3 : Nat) : Int) by omega]; exact zin_i (by omega) (by omega) (by omega)
  have hz4 : zin ((n : Int) + (4 : Int)) L := by rw [show (n : Int) + 4 = ((n + 4 : Nat) : Int) by omega]; exact zin_i (by omega) (by omega) (by omega)
  have hz5 : zin ((n : Int) + (5 : Int)) L := by rw [show (n : Int) + 5 = ((n + 5 : Nat) : Int) by omega]; exact zin_i (by omega) (by omega) (by omega)
  have hlim : ¬ zw ((L : Int) - (6 : Int)) < zw (n : Int) := by
    rw [show (L : Int) - 6 = ((L - 6 : Nat) : Int) by omega, zwn (by omega), zwn (by omega)]; omega
  unfold x_L_law_b28
  rw [if_neg hlim, if_pos hz0]
  simp only [if_pos hz1, if_pos hz2, if_pos hz3, if_pos hz4, if_pos hz5]
  generalize zw (zand (xs 0 (zix (n : Int))) (31 : Int)) = q
  by_cases e : q = 0
  · rw [if_pos e]; exact l_1 (g := x_X7_load) (c_load h (by omega) h5)
  rw [if_neg e]; clear e
  by_cases e : q = 1
  · rw [if_pos e]
    by_cases w : zw (xs 0 (zix ((n : Int) + (1 : Int)))) = 0
    · simp only [if_pos w]
      exact l_1 (g := fun m => x_X7_draw m 0) (up1 (c_draw h 0))
    · simp only [if_neg w]
      exact l_1 (g := fun m => x_X7_draw m 1) (up1 (c_draw h 1))
  rw [if_neg e]; clear e
  by_cases e : q = 2
  · rw [if_pos e]; exact l_2 (g := fun m => x_X7_drop m _) (up2 (s_drop h (hx _)))
  rw [if_neg e]; clear e
  by_cases e : q = 3
  · rw [if_pos e]; exact l_2 (g := fun m => x_X7_knock m _) (up2 (s_knock h (hx _)))
  rw [if_neg e]; clear e
  by_cases e : q = 4
  · rw [if_pos e]; exact l_1 (g := x_X7_deal) (OK1_up (c_deal h hN) hNM)
  rw [if_neg e]; clear e
  by_cases e : q = 5
  · rw [if_pos e]
    by_cases w : zw (xs 0 (zix ((n : Int) + (1 : Int)))) = 0
    · simp only [if_pos w]
      exact l_2 (g := fun m => x_X7_set m 0 _) (up2 (s_set h (.inl rfl) (hx _)))
    · simp only [if_neg w]
      exact l_2 (g := fun m => x_X7_set m 1 _) (up2 (s_set h (.inr rfl) (hx _)))
  rw [if_neg e]; clear e
  by_cases e : q = 6
  · rw [if_pos e]; exact l_1 (g := x_X7_undo) (up1 (cl_undo h))
  rw [if_neg e]; clear e
  by_cases e : q = 7
  · rw [if_pos e]; exact l_2 (g := fun m => x_X7_keep m _) (up2 (s_keep h (hx _)))
  rw [if_neg e]; clear e
  by_cases e : q = 8
  · rw [if_pos e]; exact l_2 (g := fun m => x_X7_restore m _) (up2 (s_restore h (hx _)))
  rw [if_neg e]; clear e
  by_cases e : q = 9
  · rw [if_pos e]; exact l_1 (g := fun m => x_X7_append m _ _ _ _ _) (up1 (c_append h _ _ _ _ _))
  rw [if_neg e]; clear e
  by_cases e : q = 10
  · rw [if_pos e]; exact l_2 (g := fun m => x_X7_truncate m _) (up2 (s_truncate h (hx _)))
  rw [if_neg e]; clear e
  by_cases e : q = 11
  · rw [if_pos e]; exact l_2 (g := fun m => x_X7_match m _) (up2 (s_match h (hx _)))
  rw [if_neg e]; clear e
  by_cases e : q = 12
  · rw [if_pos e]; exact up3 (l_number h)
  rw [if_neg e]; clear e
  by_cases e : q = 13
  · rw [if_pos e]; exact l_2 (g := fun m => x_X7_player m _ _) (up2 (s_player h (hx _) (hx _)))
  rw [if_neg e]; clear e
  by_cases e : q = 14
  · rw [if_pos e]; exact l_2 (g := fun m => x_X7_card m _ _) (up2 (s_card h (hx _) (hx _)))
  rw [if_neg e]; clear e
  by_cases e : q = 15
  · rw [if_pos e]; exact l_2 (g := fun m => x_X7_where m _) (up2 (s_where h (hx _)))
  rw [if_neg e]; clear e
  by_cases e : q = 16
  · rw [if_pos e]; exact l_2 (g := fun m => x_X7_meldOf m _ _) (up2 (s_meldOf h (hx _) (hx _)))
  rw [if_neg e]; clear e
  by_cases e : q = 17
  · rw [if_pos e]; exact l_2 (g := fun m => x_X7_meld m _ _ _) (up2 (s_meld h (hx _) (hx _) (hx _)))
  rw [if_neg e]; clear e
  by_cases e : q = 18
  · rw [if_pos e]; exact l_2 (g := fun m => x_X7_restWithout m _) (up2 (s_restWithout h (hx _)))
  rw [if_neg e]; clear e
  by_cases e : q = 19
  · rw [if_pos e]; exact l_1 (g := x_X7_bestDrop) (up1 (c_bestDrop h))
  rw [if_neg e]; clear e
  by_cases e : q = 20
  · rw [if_pos e]; exact l_1 (g := x_X7_restByPile) (up1 (c_restByPile h))
  rw [if_neg e]; clear e
  by_cases e : q = 21
  · rw [if_pos e]; exact l_2 (g := fun m => x_X7_helping m _) (up2 (s_helping h (hx _)))
  rw [if_neg e]; clear e
  by_cases e : q = 22
  · rw [if_pos e]; exact l_2 (g := fun m => x_X7_ifKnock m _ _) (up2 (s_ifKnock h (hx _) (hx _)))
  rw [if_neg e]; clear e
  by_cases e : q = 23
  · rw [if_pos e]; exact l_1 (g := x_X7_needed) (up1 (c_needed h))
  rw [if_neg e]; clear e
  by_cases e : q = 24
  · rw [if_pos e]; exact l_2 (g := fun m => x_X7_kind m _) (up2 (s_kind h _))
  rw [if_neg e]; clear e
  by_cases e : q = 25
  · rw [if_pos e]; exact l_1 (g := x_X7_gap) (up1 (c_gap h))
  rw [if_neg e]; clear e
  by_cases e : q = 26
  · rw [if_pos e]; exact up3 (l_mean h)
  rw [if_neg e]; clear e
  by_cases e : q = 27
  · rw [if_pos e]; exact up3 (l_laid h (hx _))
  rw [if_neg e]; clear e
  by_cases e : q = 28
  · rw [if_pos e]; exact l_2 (g := fun m => x_X7_writeLaying m _) (up2 (s_writeLaying h (hx _)))
  rw [if_neg e]; clear e
  by_cases e : q = 29
  · rw [if_pos e]; exact up3 (l_byte h (hx _))
  rw [if_neg e, bnd_eq]
  exact ⟨σ, rfl, REL_up h (by omega)⟩
