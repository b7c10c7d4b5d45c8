/-! pushing and undoing on both sides; the whole relation -/
theorem HRel_up {N M : Nat} {σ m : Mm} (h : HRel N σ m) (hm : N ≤ M) : HRel M σ m := by
  obtain ⟨e, k, Pf, h1, h2, h3, h4, h5, h6, h7, h8⟩ := h
  exact ⟨e, k, Pf, h1, h2, h3, h4, h5, h6, h7, fun i hi => ⟨(h8 i hi).1, (h8 i hi).2.1, V_up (h8 i hi).2.2 hm⟩⟩
theorem HRel_eq {N : Nat} {σ σ' m m' : Mm} (hs : ∀ c, c < 52 → σ' c = σ c) (h3 : m' 0 3 = m 0 3) (hm : ∀ c, 2 ≤ c → c < 13 → m' c = m c) (h : HRel N σ m) : HRel N σ' m' := by
  obtain ⟨e, k, Pf, a1, a2, a3, a4, a5, a6, a7, a8⟩ := h
  refine ⟨e, k, Pf, by rw [hs 0 (by omega)]; exact a1, a2, by rw [hs 0 (by omega)]; exact a3, h3.trans a4, a5, fun i hi => by rw [hm 2 (by omega) (by omega)]; exact a6 i hi, a7, fun i hi => ?_⟩
  obtain ⟨b1, b2, b3⟩ := a8 i hi
  have hp := (a6 i (by omega)).2
  have hq : (e + 10 - k + i) % 10 < 10 := Nat.mod_lt _ (by omega)
  rw [hs 1 (by omega), hm _ (by omega) (by omega)]
  exact ⟨b1, MR_cells (fun c hc => hs _ (by omega)) b2, b3⟩
theorem hist_push {N src : Nat} {f : Mm → Option Mm} (hf : keepB src f) (hs : src = 1 ∨ src = 17) {σ m : Mm} (h : HRel N σ m) (hV : V N (m src)) (hM : MR (fun c => σ (52 + c)) (m src)) : ∃ σ' m', x_X0_push σ = some σ' ∧ f m = some m' ∧ HRel N σ' m' ∧ (∀ c, 52 ≤ c → σ' c = σ c) ∧ (∀ j, j ≠ 3 → m' 0 j = m 0 j) ∧ ∀ c, c ≠ 0 → c ≠ 2 → (c < 3 ∨ 13 ≤ c) → m' c = m c := by
  obtain ⟨e, k, Pf, a1, a2, a3, a4, a5, a6, a7, a8⟩ := h
  obtain ⟨σ', b1, b2, b3, b4, b5, b6, b7, b8⟩ := X0_push hV hM a1 a2 a3 a5
  obtain ⟨m', Pf', c1, c2, c3, c4, c5, c6, c7, c8⟩ := hf m k Pf a4 a5 a6 a7
  refine ⟨σ', m', b1, c1, ⟨e % 10 + 1, min (k + 1) 10, Pf', b2, by omega, b3, c2, by omega, c4, c5, fun i hi => ?_⟩, b8, c3, c8⟩
  by_cases e1 : i = min (k + 1) 10 - 1
  · have hpl : (e % 10 + 1 + 10 - min (k + 1) 10 + i) % 10 = e % 10 := by omega
    rw [hpl, e1]
    exact ⟨b4, MR_eq c7 hV b6, V_eq c7 hV⟩
  · obtain ⟨d1, d2⟩ := c6 i (by omega)
    rw [d2, d1]
    by_cases e2 : k = 10
    · rw [if_pos e2]
      obtain ⟨g1, g2, g3⟩ := a8 (i + 1) (by omega)
      have hpl : (e % 10 + 1 + 10 - min (k + 1) 10 + i) % 10 = (e + 10 - k + (i + 1)) % 10 := by omega
      have hne : (e + 10 - k + (i + 1)) % 10 ≠ e % 10 := by omega
      have hlt : (e + 10 - k + (i + 1)) % 10 < 10 := by omega
      rw [hpl]
      exact ⟨by rw [b5 _ hne]; exact g1, MR_cells (fun c hc => b7 _ hlt hne c hc) g2, g3⟩
    · rw [if_neg e2]
      obtain ⟨g1, g2, g3⟩ := a8 i (by omega)
      have hpl : (e % 10 + 1 + 10 - min (k + 1) 10 + i) % 10 = (e + 10 - k + i) % 10 := by omega
      have hne : (e + 10 - k + i) % 10 ≠ e % 10 := by omega
      have hlt : (e + 10 - k + i) % 10 < 10 := by omega
      rw [hpl]
      exact ⟨by rw [b5 _ hne]; exact g1, MR_cells (fun c hc => b7 _ hlt hne c hc) g2, g3⟩
/-- undoing: nothing there, or the latest -/
theorem hist_pop {N : Nat} {σ m : Mm} (h : HRel N σ m) : (m 0 3 = 0 ∧ x_X0_pop σ = some (σ, 0)) ∨ ∃ (k q : Nat) (σ' : Mm), m 0 3 = ((k + 1 : Nat) : Int) ∧ k < 10 ∧ q < 10 ∧ m 2 k = ((3 + q : Nat) : Int) ∧ x_X0_pop σ = some (σ', 1) ∧ σ' 0 2 = (k : Int) ∧ V N (m (3 + q)) ∧ MR (fun c => σ' (52 + c)) (m (3 + q)) ∧ (∀ m' : Mm, m' 0 3 = (k : Int) → (∀ c, 2 ≤ c → c < 13 → m' c = m c) → HRel N σ' m') ∧ ∀ c, 57 ≤ c → σ' c = σ c := by
  obtain ⟨e, k, Pf, a1, a2, a3, a4, a5, a6, a7, a8⟩ := h
  -- from the place p
  have hp10 : (e + 9) % 10 < 10 := Nat.mod_lt _ (by omega)
  have hpop : x_X0_pop σ = x_X0_pop_j27 σ (((e + 9) % 10 : Nat) : Int) := by
    unfold x_X0_pop
    rw [a1, zwn (n := e) (by omega), zw_eq (x := (10 : Int)) (by omega) (by omega)]
    by_cases e0 : e = 0
    · subst e0
      rw [if_pos (by omega)]; rfl
    · rw [if_neg (by omega), if_neg (by omega), show (e : Int) - 1 = (((e + 9) % 10 : Nat) : Int) by omega]
  rw [hpop]
  unfold x_X0_pop_j27
  rw [if_pos (zin_i (by omega) (by omega) (by omega)), zix_nat (n := (e + 9) % 10) (by omega), a3]
  by_cases k0 : k = 0
  · left
    subst k0
    refine ⟨a4, ?_⟩
    by_cases w : σ 1 ((e + 9) % 10) = 0
    · rw [if_pos w, if_pos (by decide)]
    · rw [if_neg w, if_pos (by decide)]
  · right
    obtain ⟨b1, b2, b3⟩ := a8 (k - 1) (by omega)
    have hpl : (e + 10 - k + (k - 1)) % 10 = (e + 9) % 10 := by omega
    rw [hpl] at b1 b2
    obtain ⟨q1, q2⟩ := a6 (k - 1) (by omega)
    generalize hp : (e + 9) % 10 = p at *
    rw [if_neg b1, if_neg (by rw [zwn (by omega)]; omega), if_pos (zin_i (by omega) (by omega) (by omega)), if_neg b1]
    have hl : zl_7 p = 52 :: (52 + 1) :: (52 + 2) :: (52 + 3) :: (52 + 4) :: (2 + 5 * p) :: (2 + 5 * p + 1) :: (2 + 5 * p + 2) :: (2 + 5 * p + 3) :: (2 + 5 * p + 4) :: [] := by
      unfold zl_7
      rw [show 3 + 5 * p = 2 + 5 * p + 1 by omega, show 4 + 5 * p = 2 + 5 * p + 2 by omega, show 5 + 5 * p = 2 + 5 * p + 3 by omega, show 6 + 5 * p = 2 + 5 * p + 4 by omega]
    rw [hl]
    obtain ⟨σ1, c1, c2, c3⟩ := copy_cells (σ := σ) (b := 52) (d := 2 + 5 * p) (.inr (by omega)) b3 b2
    rw [c1, Option.bind_some, bnd_eq, bnd_eq]
    generalize zj (52 :: (52 + 1) :: (52 + 2) :: (52 + 3) :: (52 + 4) :: (2 + 5 * p) :: (2 + 5 * p + 1) :: (2 + 5 * p + 2) :: (2 + 5 * p + 3) :: (2 + 5 * p + 4) :: []) σ σ1 = υ at c2 c3
    have e02 : zu υ 0 1 (p : Int) 0 2 = (k : Int) := by
      rw [zu_miss _ _ _ _ (fun _ => by decide), c3 0 (by omega), a3]
    have hne : ∀ c, c ≠ 0 → zu (zu υ 0 1 (p : Int)) 0 2 ((k : Int) - 1) c = υ c := fun c hc => by
      unfold zu
      rw [if_neg hc, if_neg hc]
    rw [e02, bnd_eq]
    refine ⟨k - 1, Pf (k - 1), _, by rw [a4]; omega, by omega, q2, q1, rfl, by rw [zu_hit]; omega, b3, MR_cells (fun c hc => hne _ (by omega)) c2, fun m' m1 m2 => ?_, fun c hc => by rw [hne c (by omega), c3 c (by omega)]⟩
    refine ⟨p, k - 1, Pf, ?_, by omega, by rw [zu_hit]; omega, m1, by omega, fun i hi => by rw [m2 2 (by omega) (by omega)]; exact a6 i hi, a7, fun i hi => ?_⟩
    · rw [zu_miss _ _ _ _ (fun _ => by decide), zu_hit]
    · obtain ⟨g1, g2, g3⟩ := a8 i (by omega)
      have hpl2 : (p + 10 - (k - 1) + i) % 10 = (e + 10 - k + i) % 10 := by omega
      have hlt : (e + 10 - k + i) % 10 < 10 := by omega
      have hi2 := (a6 i (by omega)).2
      rw [hpl2, hne 1 (by omega), c3 1 (by omega), m2 _ (by omega) (by omega)]
      exact ⟨g1, MR_cells (fun c hc => by
        show zu (zu υ 0 1 (p : Int)) 0 2 ((k : Int) - 1) (2 + 5 * ((e + 10 - k + i) % 10) + c) = _
        rw [hne _ (by omega), c3 _ (by omega)]; rfl) g2, g3⟩
/-- what is kept in the slots -/
def SRel (N : Nat) (c m : Mm) : Prop := ∀ n : Nat, n < 2 → m 13 n = ((14 + n : Nat) : Int) ∧ ((c 63 n = 0 ∧ m 16 n = 0) ∨ (c 63 n ≠ 0 ∧ m 16 n = 1 ∧ V N (m (14 + n)) ∧ MR (fun i => c (64 + 5 * n + i)) (m (14 + n))))
/-- the text: its bytes b -/
def TRel (c m : Mm) : Prop := ∃ L : Nat, L ≤ 500 ∧ c 74 1 = (L : Int) ∧ m 0 8 = (L : Int) ∧ ∀ i, i < L → ∃ b : Nat, b < 256 ∧ m 18 i = (b : Int) ∧ zand (c 75 i) 255 = (b : Int)
/-- the report -/
def PRel (c m : Mm) : Prop := ∃ L : Nat, L ≤ 64 ∧ c 99 1 = (L : Int) ∧ m 0 10 = (L : Int) ∧ ∀ i, i < L → c 100 i = m 19 i
/-- the class c (101 cells) and the model m (26 cells) agree -/
def REL (N : Nat) (c m : Mm) : Prop := V N (m 1) ∧ MR (fun i => c (1 + i)) (m 1) ∧ HRel N (fun i => c (11 + i)) m ∧ SRel N c m ∧ TRel c m ∧ PRel c m
theorem SRel_up {N M : Nat} {c m : Mm} (h : SRel N c m) (hm : N ≤ M) : SRel M c m := fun n hn => by
  obtain ⟨h1, h2 | ⟨h2, h3, h4, h5⟩⟩ := h n hn
  · exact ⟨h1, .inl h2⟩
  · exact ⟨h1, .inr ⟨h2, h3, V_up h4 hm, h5⟩⟩
theorem REL_up {N M : Nat} {c m : Mm} (h : REL N c m) (hm : N ≤ M) : REL M c m := ⟨V_up h.1 hm, h.2.1, HRel_up h.2.2.1 hm, SRel_up h.2.2.2.1 hm, h.2.2.2.2⟩
theorem SRel_eq {N : Nat} {c c' m m' : Mm} (hc : ∀ i, 63 ≤ i → i < 74 → c' i = c i) (hm : ∀ i, 13 ≤ i → i < 17 → m' i = m i) (h : SRel N c m) : SRel N c' m' := fun n hn => by
  obtain ⟨h1, h2⟩ := h n hn
  rw [hm 13 (by omega) (by omega), hm 16 (by omega) (by omega), hc 63 (by omega) (by omega), hm (14 + n) (by omega) (by omega)]
  refine ⟨h1, ?_⟩
  rcases h2 with h2 | ⟨h2, h3, h4, h5⟩
  · exact .inl h2
  · exact .inr ⟨h2, h3, h4, MR_cells (fun i hi => hc _ (by omega) (by omega)) h5⟩
/-- what the class holds beside its work space -/
def CE (c c' : Mm) : Prop := (∀ i, 1 ≤ i → i < 101 → (i < 6 ∨ (11 ≤ i ∧ i < 74) ∨ i = 75 ∨ 99 ≤ i) → c' i = c i) ∧ c' 74 1 = c 74 1
/-- what the model holds beside its work space -/
def ME (m m' : Mm) : Prop := (∀ i, 1 ≤ i → i < 20 → i ≠ 17 → m' i = m i) ∧ m' 0 3 = m 0 3 ∧ m' 0 8 = m 0 8 ∧ m' 0 10 = m 0 10
theorem CE_r (c : Mm) : CE c c := ⟨fun _ _ _ _ => rfl, rfl⟩
theorem ME_r (m : Mm) : ME m m := ⟨fun _ _ _ _ => rfl, rfl, rfl, rfl⟩
theorem ME_t {m m' m'' : Mm} (h : ME m m') (h2 : ME m' m'') : ME m m'' := ⟨fun i a b c => (h2.1 i a b c).trans (h.1 i a b c), h2.2.1.trans h.2.1, h2.2.2.1.trans h.2.2.1, h2.2.2.2.trans h.2.2.2⟩
theorem CE_t {m m' m'' : Mm} (h : CE m m') (h2 : CE m' m'') : CE m m'' := ⟨fun i a b c => (h2.1 i a b c).trans (h.1 i a b c), h2.2.trans h.2⟩
theorem ME_SK {m m' : Mm} (h : SK m m') : ME m m' := ⟨fun i a b c => h.1 i (by omega) (by omega), h.2 3 (by omega), h.2 8 (by omega), h.2 10 (by omega)⟩
theorem ME_0 (m : Mm) (v : Int) : ME m (zu m 0 0 v) := ⟨fun i a b c => by unfold zu; rw [if_neg (by omega)], rfl, rfl, rfl⟩
theorem REL_eq {N : Nat} {c c' m m' : Mm} (h : REL N c m) (hc : CE c c') (hm : ME m m') : REL N c' m' := by
  obtain ⟨h1, h2, h3, h4, ⟨L, t1, t2, t3, t4⟩, ⟨P, p1, p2, p3, p4⟩⟩ := h
  obtain ⟨c1, c2⟩ := hc
  obtain ⟨m1, m2, m3, m4⟩ := hm
  refine ⟨by rw [m1 1 (by omega) (by omega) (by omega)]; exact h1, ?_, HRel_eq (fun i hi => c1 _ (by omega) (by omega) (by omega)) m2 (fun i a b => m1 i (by omega) (by omega) (by omega)) h3, SRel_eq (fun i a b => c1 i (by omega) (by omega) (by omega)) (fun i a b => m1 i (by omega) (by omega) (by omega)) h4, ⟨L, t1, c2.trans t2, m3.trans t3, fun i hi => ?_⟩, ⟨P, p1, ?_, m4.trans p3, fun i hi => ?_⟩⟩
  · rw [m1 1 (by omega) (by omega) (by omega)]
    exact MR_cells (fun i hi => c1 _ (by omega) (by omega) (by omega)) h2
  · rw [m1 18 (by omega) (by omega) (by omega), c1 75 (by omega) (by omega) (by omega)]; exact t4 i hi
  · rw [c1 99 (by omega) (by omega) (by omega)]; exact p2
  · rw [c1 100 (by omega) (by omega) (by omega), m1 19 (by omega) (by omega) (by omega)]; exact p4 i hi
/-! the lists of cells -/
theorem q_45 : ∀ c, c < 101 → zq zl_45 c = if 11 ≤ c ∧ c < 63 then some (c - 11) else if 1 ≤ c ∧ c < 6 then some (52 + (c - 1)) else none := by decide +kernel
theorem p_45 : ∀ i, i < 57 → zp zl_45 i = if i < 52 then 11 + i else 1 + (i - 52) := by decide +kernel
theorem q_47 : ∀ c, c < 101 → zq zl_47 c = if 1 ≤ c ∧ c < 6 then some (c - 1) else none := by decide +kernel
theorem p_47 : ∀ i, i < 5 → zp zl_47 i = 1 + i := by decide +kernel
theorem q_54 : ∀ c, c < 101 → zq zl_54 c = if 77 ≤ c ∧ c < 84 then some (c - 77) else none := by decide +kernel
theorem q_49 : ∀ c, c < 101 → zq zl_49 c = if 84 ≤ c ∧ c < 99 then some (c - 84) else none := by decide +kernel
theorem q_41 : ∀ c, c < 101 → zq zl_41 c = if 74 ≤ c ∧ c < 77 then some (c - 74) else none := by decide +kernel
theorem q_46 : ∀ c, c < 101 → zq zl_46 c = if 1 ≤ c ∧ c < 11 then some (c - 1) else none := by decide +kernel
theorem q_53 : ∀ c, c < 101 → zq zl_53 c = if 11 ≤ c ∧ c < 63 then some (c - 11) else none := by decide +kernel
theorem q_55 : ∀ c, c < 101 → zq zl_55 c = if 99 ≤ c then some (c - 99) else if 77 ≤ c ∧ c < 84 then some (2 + (c - 77)) else none := by decide +kernel
def zjo (o : Option Nat) (σ1 : Mm) (d : Nat → Int) : Nat → Int := match o with
  | some i => σ1 i
  | none => d
theorem zj_q (l : List Nat) (σ σ1 : Mm) (c : Nat) {o : Option Nat} (h : zq l c = o) : zj l σ σ1 c = zjo o σ1 (σ c) := by
  subst h
  rfl
/-- work of the class's laying and showdown -/
theorem CE_54 (c σ1 : Mm) : CE c (zj zl_54 c σ1) := ⟨fun i a b h => by rw [zj_q _ _ _ _ (q_54 i b), if_neg (by omega)]; rfl, rfl⟩
theorem CE_49 (c σ1 : Mm) : CE c (zj zl_49 c σ1) := ⟨fun i a b h => by rw [zj_q _ _ _ _ (q_49 i b), if_neg (by omega)]; rfl, rfl⟩
/-- a change: the match's cells and the history's are new -/
theorem REL_mv {N : Nat} {c c' m m' : Mm} (h : REL N c m) (hV : V N (m' 1)) (hM : MR (fun i => c' (1 + i)) (m' 1)) (hH : HRel N (fun i => c' (11 + i)) m') (hc : ∀ i, 63 ≤ i → i < 101 → (i < 74 ∨ i = 75 ∨ 99 ≤ i) → c' i = c i) (hc2 : c' 74 1 = c 74 1) (hm : ∀ i, 13 ≤ i → i < 20 → i ≠ 17 → m' i = m i) (hm8 : m' 0 8 = m 0 8) (hm10 : m' 0 10 = m 0 10) : REL N c' m' := by
  obtain ⟨h1, h2, h3, h4, ⟨L, t1, t2, t3, t4⟩, ⟨P, p1, p2, p3, p4⟩⟩ := h
  refine ⟨hV, hM, hH, SRel_eq (fun i a b => hc i (by omega) (by omega) (by omega)) (fun i a b => hm i (by omega) (by omega) (by omega)) h4, ⟨L, t1, hc2.trans t2, hm8.trans t3, fun i hi => ?_⟩, ⟨P, p1, ?_, hm10.trans p3, fun i hi => ?_⟩⟩
  · rw [hm 18 (by omega) (by omega) (by omega), hc 75 (by omega) (by omega) (by omega)]; exact t4 i hi
  · rw [hc 99 (by omega) (by omega) (by omega)]; exact p2
  · rw [hc 100 (by omega) (by omega) (by omega), hm 19 (by omega) (by omega) (by omega)]; exact p4 i hi
