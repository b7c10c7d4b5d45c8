/-! a card more adds at most its points to the rest -/
theorem lM_add {a b b' : Nat} {f : Int64 → Nat} {S S' : Int64} (hb : b ≤ a + b') : ∀ {l : List Int64}, (∀ m ∈ l, sb m S' → sb m S ∧ f (dif S m) ≤ a + f (dif S' m)) → lM b f S l ≤ a + lM b' f S' l
  | [], _ => hb
  | m :: l, h => by
    have ih := lM_add (f := f) (S := S) (S' := S') hb (l := l) (fun x hx => h x (List.mem_cons_of_mem _ hx))
    rw [lM_cons, lM_cons]
    by_cases e : sb m S'
    · obtain ⟨h1, h2⟩ := h m List.mem_cons_self e
      rw [if_pos e, if_pos h1]
      omega
    · rw [if_neg e]
      split <;> omega
theorem lM_b {b : Nat} {f : Int64 → Nat} {S : Int64} : ∀ l : List Int64, lM b f S l ≤ b
  | [] => Nat.le_refl _
  | m :: l => by
    have := lM_b (b := b) (f := f) (S := S) l
    rw [lM_cons]
    split <;> omega
theorem dif_c (S m k : Int64) : dif (dif S m) k = dif (dif S k) m := by
  apply bs_ext
  intro c _
  rw [bs_dif2, bs_dif2, bs_dif2, bs_dif2]
  cases bs S c <;> cases bs m c <;> cases bs k c <;> rfl
theorem lR_one {g : Nat → List Int64} : ∀ (d : Nat), d ≤ 52 → ∀ (S : Int64) (k : Nat), bs S k = true → 52 - d ≤ k → k < 52 → lR g d S ≤ pts k + lR g d (dif S (one k))
  | 0, _, S, k, _, h, h2 => by omega
  | d + 1, hd, S, k, hk, h1, h2 => by
    have hb : ∀ c, bs (dif S (one k)) c = (bs S c && !decide (c = k)) := fun c => by rw [bs_dif2, bs_one2 (by omega)]
    by_cases e : k = 51 - d
    · have e1 : lR g (d + 1) (dif S (one k)) = lR g d (dif S (one k)) := by
        show (if bs (dif S (one k)) (51 - d) = true then _ else lR g d (dif S (one k))) = _
        rw [if_neg (by rw [hb, e]; simp)]
      rw [e1]
      show (if bs S (51 - d) = true then lM _ _ _ _ else _) ≤ _
      rw [if_pos (e ▸ hk), ← e]
      exact lM_b _
    · by_cases q : bs S (51 - d) = true
      · have q' : bs (dif S (one k)) (51 - d) = true := by rw [hb, q]; simp; omega
        show (if bs S (51 - d) = true then lM _ _ _ _ else _) ≤ pts k + (if bs (dif S (one k)) (51 - d) = true then lM _ _ _ _ else _)
        rw [if_pos q, if_pos q']
        refine lM_add ?_ (fun m _ hm => ?_)
        · have := lR_one (g := g) d (by omega) (dif S (one (51 - d))) k (by rw [bs_dif2, bs_one2 (by omega), hk]; simp; omega) (by omega) h2
          rw [dif_c] at this
          omega
        · have hm' := (sb_iff _ _).mp hm
          have hmk : bs m k = false := by
            cases w : bs m k
            · rfl
            · have := hm' k w
              rw [hb] at this
              simp at this
          refine ⟨(sb_iff _ _).mpr (fun j hj => by
            have := hm' j hj
            rw [hb, Bool.and_eq_true] at this
            exact this.1), ?_⟩
          have := lR_one (g := g) d (by omega) (dif S m) k (by rw [bs_dif2, hk, hmk]; rfl) (by omega) h2
          rw [dif_c] at this
          exact this
      · have q' : ¬ bs (dif S (one k)) (51 - d) = true := by rw [hb]; simp [q]
        show (if bs S (51 - d) = true then _ else lR g d S) ≤ pts k + (if bs (dif S (one k)) (51 - d) = true then _ else lR g d (dif S (one k)))
        rw [if_neg q, if_neg q']
        exact lR_one d (by omega) S k hk (by omega) h2
theorem RR_one {P : Int64} (hp : cw P) (h11 : cnt (bs P) 64 ≤ 11) {k : Nat} (hk : bs P k = true) : RR P P ≤ pts k + RR (dif P (one k)) (dif P (one k)) := by
  obtain ⟨g, hg⟩ := GG_ex hp h11
  rw [← RR_sub hp h11 (sb_dif P (one k)), RR_eq hg, RR_eq hg]
  exact lR_one 52 (Nat.le_refl _) P k hk (by omega) (cw_52 hp hk)
