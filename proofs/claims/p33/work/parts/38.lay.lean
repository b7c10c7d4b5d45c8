/-! The class's lay, and restBehindDrop -/
/-- the row of melds, as a function -/
def mA (M : Ml) (i : Nat) : Int64 × Int := (M[i]?).getD (0, 0)
theorem mA_at {M : Ml} {i : Nat} {q : Int64 × Int} (h : M[i]? = some q) : mA M i = q := by unfold mA; rw [h]; rfl
theorem mA_ex {M : Ml} {i : Nat} (h : i < M.length) : M[i]? = some (mA M i) := by
  unfold mA
  rw [List.getElem?_eq_getElem h]; rfl
theorem mA_mem {M : Ml} (q : Int64 × Int) : (∃ j, j < M.length ∧ mA M j = q) ↔ q ∈ M := by
  constructor
  · rintro ⟨j, h1, h2⟩
    rw [← h2]
    exact List.mem_of_getElem? (mA_ex h1)
  · intro h
    obtain ⟨j, hj⟩ := List.mem_iff_getElem?.mp h
    refine ⟨j, ?_, mA_at hj⟩
    rcases Nat.lt_or_ge j M.length with z | z
    · exact z
    · rw [List.getElem?_eq_none z] at hj; cases hj
theorem X1_keyOf {q : Int64 × Int} (h : okM q) : x_X1_keyOf q.1 q.2 = some ((keyN q : Nat) : Int) := by
  unfold x_X1_keyOf keyN
  rw [X6_lowestOf (lo_spec h.1), Option.bind_some, bitCount_eq, Option.bind_some]
  rcases h.2.2 with e | e
  · rw [e]
    exact congrArg some (by show _ = (((lo q.1 * 14 + cnt (bs q.1) 64) * 4 + 1 : Nat) : Int); omega)
  · rw [e]
    exact congrArg some (by show _ = (((lo q.1 * 14 + cnt (bs q.1) 64) * 4 + 2 : Nat) : Int); omega)
theorem X1_keys {σ : Mm} {M : Ml} (p : Int64) (h : MS σ M) (hM : ∀ q ∈ M, okM q) (hl : M.length ≤ 64) : ∃ σ', lup (fun (s14 : Mm × Int) => x_X1_lay_b7 p s14.1 s14.2) (σ, 0) = some σ' ∧ KF σ' M.length (mA M) := by
  obtain ⟨e9, b1, b2⟩ := lup_for (f := fun (s14 : Mm × Int) => x_X1_lay_b7 p s14.1 s14.2) (fun i s => s.2 = (i : Int) ∧ MS s.1 M ∧ ∀ j, j < i → s.1 3 j = ((keyN (mA M j) : Nat) : Int) ∧ s.1 4 j = ((lW (mA M j).1 : Nat) : Int)) (fun e => KF e M.length (mA M)) M.length (fun i s hi hs => by
    obtain ⟨τ, u⟩ := s
    obtain ⟨hu, hS, ho⟩ := hs
    simp only at hu hS ho
    subst hu
    have hq := mA_ex hi
    have hok := hM _ (List.mem_of_getElem? hq)
    obtain ⟨m1, m2⟩ := hS.2 i _ hq
    have zi : zin (i : Int) 64 := zin_i (by omega) (by omega) (by omega)
    show ∃ s', x_X1_lay_b7 p τ (i : Int) = _ ∧ _
    unfold x_X1_lay_b7
    rw [hS.1, if_neg (by rw [zwn (by omega), zwn (by omega)]; omega), if_neg (by rw [zw_eq (x := (64 : Int)) (by omega) (by omega), zwn (by omega)]; omega)]
    simp only [if_pos zi, bnd_eq]
    rw [zix_nat (by omega), m1, m2, X1_keyOf hok, Option.bind_some, zu_miss _ _ _ _ (fun z => by cases z), m1, X6_pointsOf hok.2.1, Option.bind_some]
    refine ⟨_, rfl, rfl, ⟨?_, fun j q hj => ?_⟩, fun j hj => ?_⟩
    · simpa [zu_at] using hS.1
    · obtain ⟨c1, c2⟩ := hS.2 j q hj
      exact ⟨by simpa [zu_at] using c1, by simpa [zu_at] using c2⟩
    · by_cases e : j = i
      · subst e
        exact ⟨by simp [zu_at], by simp [zu_at, lW]⟩
      · obtain ⟨c1, c2⟩ := ho j (by omega)
        exact ⟨by simp [zu_at, e, c1], by simp [zu_at, e, c2]⟩) (fun s hs => by
    obtain ⟨τ, u⟩ := s
    obtain ⟨hu, hS, ho⟩ := hs
    simp only at hu hS ho
    subst hu
    refine ⟨τ, ?_, hS.1, fun j hj => ?_⟩
    · show x_X1_lay_b7 p τ _ = _
      unfold x_X1_lay_b7
      rw [hS.1, if_pos (Int.le_refl _)]
    · exact ⟨(hS.2 j _ (mA_ex hj)).1, (ho j hj).1, (ho j hj).2⟩) (s := (σ, 0)) ⟨rfl, h, fun j hj => by omega⟩
  exact ⟨e9, b1, b2⟩
/-- what some melds leave of a hand -/
def dl (p : Int64) (F : List Int64) : Int64 := F.foldl (fun a m => dif a m) p
/-- the found laying -/
def LYS (σ : Mm) (p : Int64) (F : List Int64) : Prop := σ 0 7 = (F.length : Int) ∧ (∀ j x, F[j]? = some x → zL (σ 6 j) = x) ∧ zL (σ 0 9) = dl p F ∧ σ 0 10 = ((lW (dl p F) : Nat) : Int)
theorem dl_snoc (p : Int64) (F : List Int64) (x : Int64) : dl p (F ++ [x]) = dif (dl p F) x := by unfold dl; rw [List.foldl_append]; rfl
theorem dl_sb (p : Int64) : ∀ (F : List Int64), cw p → cw (dl p F) := fun F => by
  induction F generalizing p with
  | nil => exact fun h => h
  | cons m F ih => exact fun h => ih (dif p m) (fun c hc => by rw [bs_dif2, h c hc]; rfl)
theorem take_s {α : Type} {l : List α} {i : Nat} {x : α} (h : l[i]? = some x) : l.take (i + 1) = l.take i ++ [x] := by
  rw [List.take_add_one, h]; rfl
theorem lF_3 {h : Int64} : ∀ (L : List Int64) (u : Int64), (∀ m ∈ L, sb m h ∧ 3 ≤ cnt (bs m) 64) → sb u h → 3 * (lF L u).length + cnt (bs u) 64 ≤ cnt (bs h) 64
  | [], u, _, hu => by
    have := cnt_sb hu
    show 3 * 0 + _ ≤ _
    omega
  | m :: r, u, hL, hu => by
    have hm := hL m List.mem_cons_self
    have hr : ∀ x ∈ r, sb x h ∧ 3 ≤ cnt (bs x) 64 := fun x hx => hL x (List.mem_cons_of_mem _ hx)
    rw [lF_cons]
    by_cases e : m &&& u = 0 ∧ lB r u ≤ lW m + lB r (u ||| m)
    · rw [if_pos e]
      have h1 := lF_3 r (u ||| m) hr (sb_or hu hm.1)
      have h2 := cnt_dj e.1
      simp only [List.length_cons]
      omega
    · rw [if_neg e]; exact lF_3 r u hr hu
theorem X1_lay (σ : Mm) {p : Int64} (hp : cw p) (h11 : cnt (bs p) 64 ≤ 11) (hl : (cAll p).length ≤ 64) (hM : ∀ q ∈ cAll p, okM q ∧ sb q.1 p ∧ 3 ≤ cnt (bs q.1) 64) : ∃ (σ' : Mm) (A : Nat → Int64 × Int), x_X1_lay σ p = some σ' ∧ srt A (cAll p).length ∧ (∀ q, (∃ j, j < (cAll p).length ∧ A j = q) ↔ q ∈ cAll p) ∧ LYS σ' p (lF (mfr A (cAll p).length 0) 0) := by
  unfold x_X1_lay
  obtain ⟨σ1, a1, a2⟩ := X1_collect σ p hl
  rw [a1, Option.bind_some]
  obtain ⟨σ2, b1, b2⟩ := X1_keys p a2 (fun q hq => (hM q hq).1) hl
  rw [b1, Option.bind_some]
  unfold x_X1_lay_j63
  obtain ⟨σ3, A, c1, c2, c3, c4⟩ := X1_sort b2 hl (fun i hi => (hM _ (List.mem_of_getElem? (mA_ex hi))).1)
  have c5 : ∀ q, (∃ j, j < (cAll p).length ∧ A j = q) ↔ q ∈ cAll p := fun q => (c4 q).trans (mA_mem q)
  rw [c1, Option.bind_some, bnd_eq, bnd_eq]
  have hA : ∀ i, i < (cAll p).length → sb (A i).1 p ∧ 3 ≤ cnt (bs (A i).1) 64 := fun i hi => (hM _ ((c5 _).mp ⟨i, hi, rfl⟩)).2
  have hz : sb 0 p := (sb_iff _ _).mpr (fun c hc => by rw [bs_0] at hc; cases hc)
  have hK : KW (zu (zu σ3 0 7 0) 0 8 (-1)) (cAll p).length A := ⟨by simpa [zu_at] using c2.1, fun i hi => by
    obtain ⟨d1, d2, d3⟩ := c2.2 i hi
    exact ⟨by simpa [zu_at] using d1, by simpa [zu_at] using d3⟩⟩
  have hF : FS (zu (zu σ3 0 7 0) 0 8 (-1)) (-1) [] := ⟨by simp [zu_at], by simp [zu_at], fun j x hx => by simp at hx⟩
  obtain ⟨σ4, r1, r2, r3, r4⟩ := X1_search_loop hl hA h11 (cAll p).length 5 0 _ 0 [] (-1) [] (by omega) (by simp) hz (by simp) (by simp) (by omega) hK hF (fun j x hx => by simp at hx)
  have hW0 : lW 0 = 0 := psum_zero (fun c _ => bs_0 c)
  rw [hW0] at r1 r4
  have hs : x_X1_search 6 (zu (zu σ3 0 7 0) 0 8 (-1)) (0 : Int) (0 : Int64) (0 : Int) (0 : Int) = some σ4 := by
    show x_X1_search_1 (x_X1_search 5) _ _ _ _ _ = _
    unfold x_X1_search_1
    rw [if_neg (by decide), if_pos (by decide)]
    exact r1
  rw [hs, Option.bind_some, bnd_eq]
  rw [if_pos (by omega), if_pos (by omega), List.nil_append] at r4
  have h3 := lF_3 (h := p) (mfr A (cAll p).length 0) 0 (fun m hm => by
    obtain ⟨j, j1, j2, j3⟩ := mfr_mem hm
    rw [← j3]; exact hA j (by omega)) hz
  generalize hFe : lF (mfr A (cAll p).length 0) 0 = F at *
  have h3 : F.length ≤ 3 := by omega
  obtain ⟨f8, f7, f6⟩ := r4
  obtain ⟨σ5, s1, s2⟩ := lup_for (f := fun (s27 : Mm × Int) => x_X1_lay_b92 s27.1 s27.2) (fun i s => s.2 = (i : Int) ∧ s.1 0 7 = (F.length : Int) ∧ (∀ j x, F[j]? = some x → zL (s.1 6 j) = x) ∧ zL (s.1 0 9) = dl p (F.take i)) (fun e => e 0 7 = (F.length : Int) ∧ (∀ j x, F[j]? = some x → zL (e 6 j) = x) ∧ zL (e 0 9) = dl p F) F.length (fun i s hi hs => by
    obtain ⟨τ, u⟩ := s
    obtain ⟨hu, h7, h6, h9⟩ := hs
    simp only at hu h7 h6 h9
    subst hu
    have hx : F[i]? = some F[i] := List.getElem?_eq_getElem hi
    have hzi : zin (i : Int) 4 := zin_i (by omega) (by omega) (by omega)
    show ∃ s', x_X1_lay_b92 τ (i : Int) = _ ∧ _
    unfold x_X1_lay_b92
    rw [h7, if_neg (by rw [zwn (by omega), zwn (by omega)]; omega), if_neg (by rw [zw_eq (x := (4 : Int)) (by omega) (by omega), zwn (by omega)]; omega), if_pos hzi, bnd_eq, bnd_eq, zix_nat (by omega), h9, h6 i _ hx]
    refine ⟨_, rfl, rfl, ?_, fun j x hj => ?_, ?_⟩
    · simpa [zu_at] using h7
    · have := h6 j x hj
      simpa [zu_at] using this
    · simp only [zu_hit, zL_toInt]
      rw [take_s hx, dl_snoc]; rfl) (fun s hs => by
    obtain ⟨τ, u⟩ := s
    obtain ⟨hu, h7, h6, h9⟩ := hs
    simp only at hu h7 h6 h9
    subst hu
    refine ⟨τ, ?_, h7, h6, by rw [h9, List.take_length]⟩
    show x_X1_lay_b92 τ _ = _
    unfold x_X1_lay_b92
    rw [h7, if_pos (Int.le_refl _)]) (s := (zu σ4 0 9 (Int64.toInt p), 0)) ⟨rfl, by simpa [zu_at] using f7, fun j x hx => by
      have := f6 j x hx
      simpa [zu_at] using this, by simp only [zu_hit, zL_toInt]; rfl⟩
  rw [s1, Option.bind_some]
  obtain ⟨g7, g6, g9⟩ := s2
  rw [g9, X6_pointsOf (dl_sb p F hp), Option.bind_some, bnd_eq]
  refine ⟨_, A, rfl, c3, c5, ?_⟩
  rw [hFe]
  refine ⟨?_, fun j x hx => ?_, ?_, ?_⟩
  · simpa [zu_at] using g7
  · have := g6 j x hx
    simpa [zu_at] using this
  · simpa [zu_at] using g9
  · simp [zu_at, lW]
/-- what the search for the best drop holds -/
def DS (σ : Mm) (h dr : Int64) (o : Option Nat) : Prop := zL (σ 0 11) = h ∧ zL (σ 0 12) = dr ∧ σ 0 13 = (match o with
  | some v => (v : Int)
  | none => -1)
def MW (σ : Mm) (M : Ml) : Prop := σ 0 4 = (M.length : Int) ∧ ∀ (i : Nat) (q : Int64 × Int), M[i]? = some q → zL (σ 1 i) = q.1
theorem cw_dif {x : Int64} (y : Int64) (h : cw x) : cw (dif x y) := fun c hc => by rw [bs_dif2, h c hc]; rfl
theorem cw_sb {x y : Int64} (h : sb x y) (hy : cw y) : cw x := fun c hc => by
  cases e : bs x c
  · rfl
  · have := (sb_iff _ _).mp h c e
    rw [hy c hc] at this; cases this
theorem omin_some {a b : Option Nat} {x : Nat} (h : a = some x) : omin a b = some (match b with
  | some y => min x y
  | none => x) := by subst h; cases b <;> rfl
/-- its last act -/
theorem X1_dropEnd {R : Mm → Int → Int64 → Int → Option Mm} {σ : Mm} {h dr u : Int64} {o : Option Nat} (hh : cw h) (hd : sb dr h) (ho : ∀ v, o = some v → v ≤ 520) (hD : DS σ h dr o) {M : Ml} (hM : MW σ M) : ∃ σ', x_X1_searchDrop_j77 R σ u = some σ' ∧ DS σ' h dr (omin o (lD h dr [] u)) ∧ MW σ' M := by
  obtain ⟨d1, d2, d3⟩ := hD
  have w1 : pmax (bs (dif dr u)) 52 ≤ 10 := pmax_le (fun c _ _ => pts_le c)
  have w2 := lW_le (dif h u)
  unfold x_X1_searchDrop_j77
  have e1 : x_X1_mostPointsOf (zL (σ 0 12) &&& (u ^^^ (-1))) = some ((pmax (bs (dif dr u)) 52 : Nat) : Int) := by
    rw [d2]; exact X1_mostPointsOf (cw_dif u (cw_sb hd hh))
  have e2 : x_X6_pointsOf (zL (σ 0 11) &&& (u ^^^ (-1))) = some ((lW (dif h u) : Nat) : Int) := by
    rw [d1]; exact X6_pointsOf (cw_dif u hh)
  have hle2 : pmax (bs (dif dr u)) 52 ≤ lW (dif h u) := by
    rcases pmax_ex (S := bs (dif dr u)) (n := 52) with e | ⟨k, h1, h2, h3⟩
    · omega
    · rw [← h3]
      rw [bs_dif2] at h2
      simp only [Bool.and_eq_true] at h2
      rw [lW_one (S := dif h u) (c := k) (by rw [bs_dif2, (sb_iff dr h).mp hd k h2.1, h2.2]; rfl) h1]
      omega
  rw [e1, Option.bind_some, e2, Option.bind_some, bnd_eq]
  have hset : ∀ v : Nat, (v : Int) = ((lW (dif h u) : Nat) : Int) - ((pmax (bs (dif dr u)) 52 : Nat) : Int) → DS (zu σ 0 13 (((lW (dif h u) : Nat) : Int) - ((pmax (bs (dif dr u)) 52 : Nat) : Int))) h dr (some v) ∧ MW (zu σ 0 13 (((lW (dif h u) : Nat) : Int) - ((pmax (bs (dif dr u)) 52 : Nat) : Int))) M := fun v hv => by
    refine ⟨⟨by simpa [zu_at] using d1, by simpa [zu_at] using d2, by rw [zu_hit]; exact hv.symm⟩, ⟨by simpa [zu_at] using hM.1, fun i q hq => ?_⟩⟩
    have := hM.2 i q hq
    simpa [zu_at] using this
  by_cases c : 0 < pmax (bs (dif dr u)) 52
  · have hl : lD h dr [] u = some (lW (dif h u) - pmax (bs (dif dr u)) 52) := by
      show (if _ then _ else _) = _
      rw [if_pos c]
    rw [hl, if_neg (by rw [zwn (by omega)]; omega)]
    cases o with
    | none =>
      rw [d3, if_pos rfl, bnd_eq]
      obtain ⟨q1, q2⟩ := hset (lW (dif h u) - pmax (bs (dif dr u)) 52) (by omega)
      exact ⟨_, rfl, q1, q2⟩
    | some v =>
      have hv := ho v rfl
      have d3 : σ 0 13 = (v : Int) := d3
      rw [d3, if_neg (by rw [zwn (by omega), zw_eq (x := (-1 : Int)) (by omega) (by omega)]; omega)]
      by_cases c2 : v ≤ lW (dif h u) - pmax (bs (dif dr u)) 52
      · rw [if_pos (by rw [zwn (by omega), zw_eq (by omega) (by omega)]; omega)]
        refine ⟨σ, rfl, ⟨d1, d2, ?_⟩, hM⟩
        show σ 0 13 = ((min v (lW (dif h u) - pmax (bs (dif dr u)) 52) : Nat) : Int)
        rw [d3]; omega
      · rw [if_neg (by rw [zwn (by omega), zw_eq (by omega) (by omega)]; omega), bnd_eq]
        obtain ⟨q1, q2⟩ := hset (min v (lW (dif h u) - pmax (bs (dif dr u)) 52)) (by omega)
        exact ⟨_, rfl, q1, q2⟩
  · have hl : lD h dr [] u = none := by
      show (if _ then _ else _) = _
      rw [if_neg c]
    rw [hl, if_pos (by rw [zwn (by omega)]; omega)]
    exact ⟨σ, rfl, by cases o <;> exact ⟨d1, d2, d3⟩, hM⟩
theorem omin_assoc (a b c : Option Nat) : omin (omin a b) c = omin a (omin b c) := by
  cases a <;> cases b <;> cases c <;> simp [omin] <;> omega
theorem omin_le {a b : Option Nat} {n : Nat} (ha : ∀ v, a = some v → v ≤ n) (hb : ∀ v, b = some v → v ≤ n) : ∀ v, omin a b = some v → v ≤ n := fun v h => by
  cases a with
  | none => exact hb v h
  | some x => cases b with
    | none => exact ha v h
    | some y =>
      have h := Option.some.inj h
      have := ha x rfl
      omega
theorem lD_nil (h dr u : Int64) : lD h dr [] u = if 0 < pmax (bs (dif dr u)) 52 then some (lW (dif h u) - pmax (bs (dif dr u)) 52) else none := rfl
theorem lD_le0 {h dr u : Int64} {v : Nat} (hv : lD h dr [] u = some v) : v ≤ 520 := by
  have h9 := lW_le (dif h u)
  by_cases c : 0 < pmax (bs (dif dr u)) 52
  · have e : lD h dr [] u = some (lW (dif h u) - pmax (bs (dif dr u)) 52) := if_pos c
    rw [e] at hv
    have h8 := Option.some.inj hv
    omega
  · have e : lD h dr [] u = none := if_neg c
    rw [e] at hv
    cases hv
theorem lD_le {h dr : Int64} (L : List Int64) : ∀ (u : Int64) (v : Nat), lD h dr L u = some v → v ≤ 520 := by
  induction L with
  | nil => intro u v hv; exact lD_le0 hv
  | cons m r ih =>
    intro u v hv
    rw [lD_cons] at hv
    by_cases c : m &&& u = 0
    · rw [if_pos c] at hv
      exact omin_le (ih (u ||| m)) (ih u) v hv
    · rw [if_neg c] at hv; exact ih u v hv
theorem X1_drop_loop {M : Ml} {h dr : Int64} (hn : M.length ≤ 64) (hA : ∀ q ∈ M, sb q.1 h ∧ 3 ≤ cnt (bs q.1) 64) (h11 : cnt (bs h) 64 ≤ 11) (hh : cw h) (hd : sb dr h) : ∀ (k N i d : Nat) (σ : Mm) (u : Int64) (o : Option Nat), i + k = M.length → N + d = 5 → sb u h → 3 * d ≤ cnt (bs u) 64 → (∀ v, o = some v → v ≤ 520) → MW σ M → DS σ h dr o → ∃ σ', ((lup (fun (s10 : Mm × Int) => x_X1_searchDrop_b15 (x_X1_searchDrop N) u (d : Int) s10.1 s10.2) (σ, (i : Int))).bind fun σ12 => x_X1_searchDrop_j77 (x_X1_searchDrop N) σ12 u) = some σ' ∧ MW σ' M ∧ DS σ' h dr (omin o (lD h dr ((M.drop i).map (fun q => q.1)) u))
  | 0, N, i, d, σ, u, o, hi, hN, hu, hc, ho, hM, hD => by
    have hi : i = M.length := by omega
    subst hi
    have e1 : x_X1_searchDrop_b15 (x_X1_searchDrop N) u (d : Int) σ (M.length : Int) = some (.inr σ) := by
      unfold x_X1_searchDrop_b15
      rw [hM.1, if_neg (by rw [zwn (by omega)]; omega), if_pos (Int.le_refl _)]
    rw [lup_inr (s := (σ, (M.length : Int))) e1, Option.bind_some]
    obtain ⟨σ', b1, b2, b3⟩ := X1_dropEnd (R := x_X1_searchDrop N) (u := u) hh hd ho hD hM
    exact ⟨σ', b1, b3, by rw [List.drop_length]; exact b2⟩
  | k + 1, N, i, d, σ, u, o, hi, hN, hu, hc, ho, hM, hD => by
    have hin : i < M.length := by omega
    have hq := mA_ex hin
    generalize mA M i = q at hq
    have m1 := hM.2 i q hq
    have hqm := List.mem_of_getElem? hq
    obtain ⟨hmh, hm3⟩ := hA q hqm
    have zi : zin (i : Int) 64 := zin_i (by omega) (by omega) (by omega)
    have hdr : M.drop i = q :: M.drop (i + 1) := by
      rw [List.drop_eq_getElem_cons hin]
      rw [List.getElem?_eq_getElem hin] at hq
      rw [Option.some.inj hq]
    rw [hdr, List.map_cons, lD_cons]
    have hcu := cnt_sb hu
    have hstep : x_X1_searchDrop_b15 (x_X1_searchDrop N) u (d : Int) σ (i : Int) = (if q.1 &&& u = 0 then (x_X1_searchDrop N σ ((i : Int) + 1) (u ||| q.1) ((d : Int) + 1)).bind fun σ8 => some (.inl (σ8, (i : Int) + 1)) else some (.inl (σ, (i : Int) + 1))) := by
      unfold x_X1_searchDrop_b15
      rw [hM.1, if_neg (by rw [zwn (by omega)]; omega), if_neg (by rw [zwn (by omega), zwn (by omega)]; omega), if_neg (by rw [zw_eq (x := (64 : Int)) (by omega) (by omega), zwn (by omega)]; omega)]
      simp only [if_pos zi, bnd_eq]
      rw [zix_nat (by omega), m1]
      by_cases e : q.1 &&& u = 0
      · rw [if_neg (by rw [Ne, zcmp_e]; exact fun z => z e), if_pos e]
      · rw [if_pos (by rw [Ne, zcmp_e]; exact e), if_neg e]
    have g3 : (i : Int) + 1 = ((i + 1 : Nat) : Int) := by omega
    by_cases e : q.1 &&& u = 0
    · rw [if_pos e] at hstep ⊢
      have hc1 := cnt_dj e
      have hu1 := sb_or hu hmh
      have hc2 := cnt_sb hu1
      obtain ⟨N', hN'⟩ : ∃ N', N = N' + 1 := ⟨N - 1, by omega⟩
      subst hN'
      obtain ⟨σ1, r1, r2, r3⟩ := X1_drop_loop hn hA h11 hh hd k N' (i + 1) (d + 1) σ (u ||| q.1) o (by omega) (by omega) hu1 (by omega) ho hM hD
      have hrec : x_X1_searchDrop (N' + 1) σ ((i : Int) + 1) (u ||| q.1) ((d : Int) + 1) = some σ1 := by
        have g2 : (d : Int) + 1 = ((d + 1 : Nat) : Int) := by omega
        rw [g2, g3]
        show x_X1_searchDrop_1 (x_X1_searchDrop N') _ _ _ _ = _
        unfold x_X1_searchDrop_1
        rw [if_neg (by rw [zwn (by omega)]; omega), if_pos (by rw [zw_eq (x := (4 : Int)) (by omega) (by omega), zwn (by omega)]; omega)]
        exact r1
      rw [hrec, Option.bind_some] at hstep
      rw [lup_inl (s := (σ, (i : Int))) hstep, g3]
      obtain ⟨σ2, q1, q2, q3⟩ := X1_drop_loop hn hA h11 hh hd k (N' + 1) (i + 1) d σ1 u _ (by omega) hN hu hc (omin_le ho (lD_le _ _)) r2 r3
      exact ⟨σ2, q1, q2, by rw [← omin_assoc]; exact q3⟩
    · rw [if_neg e] at hstep ⊢
      rw [lup_inl (s := (σ, (i : Int))) hstep, g3]
      exact X1_drop_loop hn hA h11 hh hd k N (i + 1) d σ u o (by omega) hN hu hc ho hM hD
theorem X1_restBehindDrop (σ : Mm) {p : Int64} {x : Int} {b : Int64} (hb : x_X6_bitOf x = some b) (hp : cw p) (h11 : cnt (bs p) 64 ≤ 11) (hl : (cAll p).length ≤ 64) (hM : ∀ q ∈ cAll p, okM q ∧ sb q.1 p ∧ 3 ≤ cnt (bs q.1) 64) : ∃ σ', x_X1_restBehindDrop σ p x = some (σ', match lD p (dif p b) ((cAll p).map (fun q => q.1)) 0 with
    | some v => (v : Int)
    | none => -1) := by
  unfold x_X1_restBehindDrop
  obtain ⟨σ1, a1, a2⟩ := X1_collect σ p hl
  rw [a1, Option.bind_some, bnd_eq, hb, Option.bind_some, bnd_eq, bnd_eq]
  have hz : sb 0 p := (sb_iff _ _).mpr (fun c hc => by rw [bs_0] at hc; cases hc)
  have hd : sb (dif p b) p := (sb_iff _ _).mpr (fun c hc => by
    rw [bs_dif2] at hc
    simp only [Bool.and_eq_true] at hc
    exact hc.1)
  obtain ⟨σ', r1, r2, r3⟩ := X1_drop_loop hl (fun q hq => (hM q hq).2) h11 hp hd (cAll p).length 5 0 0 (zu (zu (zu σ1 0 11 (Int64.toInt p)) 0 12 (Int64.toInt (p &&& (b ^^^ (-1))))) 0 13 (-1)) 0 none (by omega) (by omega) hz (by omega) (fun v hv => by cases hv) ⟨by simpa [zu_at] using a2.1, fun i q hq => by
      have := (a2.2 i q hq).1
      simpa [zu_at] using this⟩ ⟨by simp [zu_at, zL_toInt], by rw [zu_miss _ _ _ _ (fun _ => by decide), zu_hit, zL_toInt]; rfl, by simp [zu_at]⟩
  have hs : x_X1_searchDrop 6 (zu (zu (zu σ1 0 11 (Int64.toInt p)) 0 12 (Int64.toInt (p &&& (b ^^^ (-1))))) 0 13 (-1)) (0 : Int) (0 : Int64) (0 : Int) = some σ' := by
    show x_X1_searchDrop_1 (x_X1_searchDrop 5) _ _ _ _ = _
    unfold x_X1_searchDrop_1
    rw [if_neg (by decide), if_pos (by decide)]
    exact r1
  rw [hs, Option.bind_some]
  refine ⟨σ', ?_⟩
  have := r3.2.2
  rw [List.drop_zero] at this
  rw [this]
  rfl
