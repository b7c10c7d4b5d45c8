/-! the words of the row -/
theorem wrow_st (t : Nat → Int) (n at_ i k : Nat) : wrow t n at_ (i + 1) k = if k = i / 4 then zor (wrow t n at_ i (i / 4)) (zshl (wch t n (at_ + i)) (24 - 8 * ((i % 4 : Nat) : Int))) else wrow t n at_ i k := by
  show zr (wrow t n at_ i) (i / 4) _ k = _
  unfold zr
  rfl
theorem wrow_4 (t : Nat → Int) (n at_ q k : Nat) (hk : k ≠ q) : wrow t n at_ (4 * q + 4) k = wrow t n at_ (4 * q) k := by
  rw [wrow_st, if_neg (by omega), wrow_st, if_neg (by omega), wrow_st, if_neg (by omega), wrow_st, if_neg (by omega)]
theorem wrow_q (t : Nat → Int) (n at_ q : Nat) (h0 : wrow t n at_ (4 * q) q = 0) : wrow t n at_ (4 * q + 4) q = zor (zor (zor (zor 0 (zshl (wch t n (at_ + 4 * q)) 24)) (zshl (wch t n (at_ + (4 * q + 1))) 16)) (zshl (wch t n (at_ + (4 * q + 2))) 8)) (zshl (wch t n (at_ + (4 * q + 3))) 0) := by
  rw [wrow_st, if_pos (by omega), show (4 * q + 3) / 4 = q by omega, show (4 * q + 3) % 4 = 3 by omega, wrow_st, if_pos (by omega), show (4 * q + 2) / 4 = q by omega, show (4 * q + 2) % 4 = 2 by omega, wrow_st, if_pos (by omega), show (4 * q + 1) / 4 = q by omega, show (4 * q + 1) % 4 = 1 by omega, wrow_st, if_pos (by omega), show (4 * q) / 4 = q by omega, show (4 * q) % 4 = 0 by omega, h0]
  rfl
theorem wrow_z (t : Nat → Int) (n at_ : Nat) : ∀ i k, i ≤ 4 * k → wrow t n at_ i k = 0
  | 0, _, _ => rfl
  | i + 1, k, h => by rw [wrow_st, if_neg (by omega)]; exact wrow_z t n at_ i k (by omega)
theorem wrow_k (t : Nat → Int) (n at_ q : Nat) : ∀ r, wrow t n at_ (4 * q + 4 + r) q = wrow t n at_ (4 * q + 4) q
  | 0 => rfl
  | r + 1 => by
    show wrow t n at_ (4 * q + 4 + r + 1) q = _
    rw [wrow_st, if_neg (by omega)]
    exact wrow_k t n at_ q r
/-- the letters of the text, blanks behind it -/
def lets (t : Nat → Int) (n j : Nat) : Nat := (wch t n j).toNat
theorem lets_ok {t : Nat → Int} {n : Nat} (h : asc t n) (j : Nat) : lets t n j < 128 ∧ wch t n j = (lets t n j : Int) := by
  unfold lets wch
  by_cases e : j < n
  · rw [if_pos e]
    obtain ⟨d, d1, d2⟩ := h j e
    omega
  · rw [if_neg e]
    exact ⟨by decide, rfl⟩
theorem wrow_w {t : Nat → Int} {n at_ : Nat} (h : asc t n) {q : Nat} (hq : q < 5) : wrow t n at_ 20 q = ((wd4 (lets t n (at_ + 4 * q)) (lets t n (at_ + 4 * q + 1)) (lets t n (at_ + 4 * q + 2)) (lets t n (at_ + 4 * q + 3)) : Nat) : Int) := by
  have e := wrow_k t n at_ q (16 - 4 * q)
  rw [show 4 * q + 4 + (16 - 4 * q) = 20 by omega] at e
  rw [e, wrow_q _ _ _ _ (wrow_z t n at_ _ _ (Nat.le_refl _)), (lets_ok h _).2, (lets_ok h _).2, (lets_ok h _).2, (lets_ok h _).2]
  exact wd4_z (lets_ok h _).1 (lets_ok h _).1 (lets_ok h _).1 (lets_ok h _).1
theorem bgA_t {N : Nat} {σ m : Mm} {t : Nat → Int} {n at_ : Nat} (hR : REL N σ m) (h : asc t n) (hT : TBc (zb zl_41 σ) at_ (lets t n)) (ha : at_ + 20 ≤ 500) : ∃ σ' m', x_bgA t n at_ σ = some σ' ∧ REL N σ' m' ∧ TBc (zb zl_41 σ') (at_ + 20) (lets t n) := by
  have hT2 : TBc (zb zl_41 (zb zl_101 σ)) at_ (lets t n) := TBc_A hT rfl rfl
  obtain ⟨c1, v1, e1, t1⟩ := app_t hT2 ha (fun j _ => (lets_ok h _).1) (wrow t n at_ 20) (fun q hq => wrow_w h hq)
  obtain ⟨c2, m', v2, e2, -, r2⟩ := c_append (REL_zb hR) (wrow t n at_ 20 0) (wrow t n at_ 20 1) (wrow t n at_ 20 2) (wrow t n at_ 20 3) (wrow t n at_ 20 4)
  rw [e1] at e2
  have e3 : c1 = c2 := congrArg Prod.fst (Option.some.inj e2)
  subst e3
  unfold x_bgA
  rw [e1, Option.bind_some, un2_mk]
  refine ⟨_, m', rfl, REL_zj r2, TBc_A t1 ?_ ?_⟩
  · show zj zl_101 σ c1 74 1 = c1 74 1
    rw [zjl_lo _ _ (by omega)]
  · show zj zl_101 σ c1 75 = c1 75
    rw [zjl_lo _ _ (by omega)]
theorem bgL_t {N : Nat} {σ m : Mm} {t : Nat → Int} {n : Nat} (hR : REL N σ m) (h : asc t n) (hT : TBc (zb zl_41 σ) 0 (lets t n)) (hn : n ≤ 40) : ∃ σ' m' L, x_bgL t n σ = some σ' ∧ REL N σ' m' ∧ TBc (zb zl_41 σ') L (lets t n) ∧ n ≤ L ∧ L ≤ 40 := by
  obtain ⟨σ1, m1, e1, r1, t1⟩ := bgA_t hR h hT (by omega)
  unfold x_bgL
  rw [e1, Option.bind_some]
  by_cases c : n ≤ 20
  · rw [if_pos c]
    exact ⟨_, _, 20, rfl, r1, t1, c, by omega⟩
  · rw [if_neg c]
    obtain ⟨σ2, m2, e2, r2, t2⟩ := bgA_t r1 h t1 (by omega)
    exact ⟨_, _, 40, e2, r2, t2, hn, by omega⟩
