/-! what there is of a laying: player, meldOf, meld -/
theorem fold_lup {β ε : Type} {f : β × Int → Option ((β × Int) ⊕ ε)} {F : List Int64} {g : β → Int64 → β} {e : β → ε} (step : ∀ (i : Nat) (x : Int64) (b : β), F[i]? = some x → f (b, (i : Int)) = some (.inl (g b x, (i : Int) + 1))) (fin : ∀ b, f (b, (F.length : Int)) = some (.inr (e b))) (b : β) : lup f (b, 0) = some (e (F.foldl g b)) := by
  have key : ∀ (l : List Int64) (i : Nat) (b : β), i ≤ F.length → F.drop i = l → lup f (b, (i : Int)) = some (e (l.foldl g b)) := by
    intro l
    induction l with
    | nil =>
      intro i b hi hd
      have : F.length ≤ i := List.drop_eq_nil_iff.mp hd
      have : i = F.length := by omega
      subst this
      exact lup_inr (fin b)
    | cons x l ih =>
      intro i b hi hd
      obtain ⟨h1, h2, h3⟩ := drop_at hd
      rw [lup_inl (step i x b h1), show ((i : Int) + 1) = ((i + 1 : Nat) : Int) by omega, ih (i + 1) (g b x) (by omega) h2]
      rfl
  exact key F 0 b (by omega) rfl
def ixF (p : Int64 → Bool) : List Int64 → Nat → Option Nat
  | [], _ => none
  | x :: l, i => if p x = true then some i else ixF p l (i + 1)
theorem find_lup {f : Int → Option (Int ⊕ (Int ⊕ Unit))} {F : List Int64} {p : Int64 → Bool} (step : ∀ (i : Nat) (x : Int64), F[i]? = some x → f (i : Int) = some (if p x = true then .inr (.inl (i : Int)) else .inl ((i : Int) + 1))) (fin : f (F.length : Int) = some (.inr (.inr ()))) : lup f 0 = some (match ixF p F 0 with
    | some j => .inl (j : Int)
    | none => .inr ()) := by
  have key : ∀ (l : List Int64) (i : Nat), i ≤ F.length → F.drop i = l → lup f (i : Int) = some (match ixF p l i with
    | some j => .inl (j : Int)
    | none => .inr ()) := by
    intro l
    induction l with
    | nil =>
      intro i hi hd
      have : F.length ≤ i := List.drop_eq_nil_iff.mp hd
      have : i = F.length := by omega
      subst this
      exact lup_inr fin
    | cons x l ih =>
      intro i hi hd
      obtain ⟨h1, h2, h3⟩ := drop_at hd
      have hs := step i x h1
      unfold ixF
      by_cases e : p x = true
      · rw [if_pos e] at hs ⊢
        exact lup_inr hs
      · rw [if_neg e] at hs ⊢
        rw [lup_inl hs, show ((i : Int) + 1) = ((i + 1 : Nat) : Int) by omega]
        exact ih (i + 1) (by omega) h2
  exact key F 0 (by omega) rfl
theorem R_lay {N : Nat} {c m : Mm} {P : Int64} (h : REL N c m) (hp : cw P) (h11 : cnt (bs P) 64 ≤ 11) : ∃ σ1, x_X1_lay (zb zl_54 c) P = some σ1 ∧ LYS σ1 P (Lay P) ∧ REL N (zj zl_54 c σ1) m := by
  obtain ⟨σ1, a1, a2⟩ := X1_lay2 (zb zl_54 c) hp h11
  exact ⟨σ1, a1, a2, REL_eq h (CE_54 c σ1) (ME_r m)⟩
/-- a meld of a laying -/
def mld (x : Int64) : Prop := isSet x ∨ isRun x
theorem mld_cw {x : Int64} (h : mld x) : cw x := tM_cw (tM_of h)
theorem kK_lt (p : Int64) : kK p < 3 := by
  unfold kK
  split
  · omega
  · split
    · omega
    · split
      · split <;> omega
      · omega
theorem so_set {x : Int64} (h : isSet x) : x_X7_isSetOf x = some 1 ∧ kK x = 1 := by
  obtain ⟨v, v1, ⟨v2, -⟩ | ⟨-, v3⟩⟩ := X7_isSetOf (mld_cw (.inl h)) (meld_nz (.inl h))
  · exact ⟨by rw [v1, v2], (rkd_set h).2⟩
  · exact absurd (rkd_set h).1 v3
theorem so_run {x : Int64} (h : isRun x) : x_X7_isSetOf x = some 0 ∧ kK x = 2 := by
  have hk : kK x = 2 := by rw [kK_kd (.inr h), kd_2 h]
  obtain ⟨v, v1, ⟨v2, v3⟩ | ⟨v2, -⟩⟩ := X7_isSetOf (mld_cw (.inr h)) (meld_nz (.inr h))
  · rw [kK_1 (meld_3 (.inr h)) v3] at hk; omega
  · exact ⟨by rw [v1, v2], hk⟩
/-- counting by kind -/
noncomputable def gKd (k : Nat) : Int → Int64 → Int := fun b x => if kK x = k then b + 1 else b
theorem X1_countKind {σ : Mm} {F : List Int64} (h7 : σ 0 7 = (F.length : Int)) (hf : ∀ j x, F[j]? = some x → zL (σ 6 j) = x) (h4 : F.length ≤ 4) (hw : ∀ x ∈ F, cw x) {k : Nat} (hk : k < 3) : x_X1_countKind σ (k : Int) = some (F.foldl (gKd k) 0) := by
  unfold x_X1_countKind
  rw [fold_lup (f := fun (s8 : Int × Int) => x_X1_countKind_b4 σ (k : Int) s8.1 s8.2) (F := F) (g := gKd k) (e := fun b => b) (fun i x b hi => by
    have hl := (List.getElem?_eq_some_iff.mp hi).1
    have hx := kK_lt x
    show x_X1_countKind_b4 σ (k : Int) b (i : Int) = _
    unfold x_X1_countKind_b4 gKd
    rw [h7, if_neg (nle_n hl (by omega)), X1_foundAt h7 hf h4 hi, Option.bind_some, X6_kindOf (hw x (List.mem_of_getElem? hi)), Option.bind_some, zwn (by omega), zwn (by omega)]
    by_cases e : kK x = k
    · rw [if_neg (by omega), if_pos e]; rfl
    · rw [if_pos (by omega), if_neg e]; rfl) (fun b => by
    show x_X1_countKind_b4 σ (k : Int) b (F.length : Int) = _
    unfold x_X1_countKind_b4
    rw [h7, if_pos (Int.le_refl _)]) 0]
  rfl
/-- runs that wrap -/
def wrp (x : Int64) : Prop := ∃ s f n, s < 4 ∧ f < 13 ∧ 3 ≤ n ∧ n ≤ 12 ∧ x = run s f n ∧ 13 < f + n
noncomputable def gWr : Int → Int64 → Int := fun b x => @ite Int (wrp x) (Classical.propDecidable _) (b + 1) b
theorem wrp_run {s f n : Nat} (hs : s < 4) (hf : f < 13) (h3 : 3 ≤ n) (hn : n ≤ 12) : wrp (run s f n) ↔ 13 < f + n := by
  constructor
  · rintro ⟨s', f', n', a1, a2, a3, a4, a5, a6⟩
    have c1 := cnt_run (f := f) hs (show n ≤ 13 by omega)
    have c2 := cnt_run (f := f') a1 (show n' ≤ 13 by omega)
    rw [← a5, c1] at c2
    have b1 := (first_run hs hf h3 (by omega)).1
    have b2 := (first_run a1 a2 a3 (by omega)).1
    rw [← a5, b1, if_neg (by omega), if_neg (by omega)] at b2
    have b3 := Option.some.inj b2
    omega
  · intro h
    exact ⟨s, f, n, hs, hf, h3, hn, rfl, h⟩
theorem X1_countWrapped {σ : Mm} {F : List Int64} (h7 : σ 0 7 = (F.length : Int)) (hf : ∀ j x, F[j]? = some x → zL (σ 6 j) = x) (h4 : F.length ≤ 4) (hw : ∀ x ∈ F, mld x) : x_X1_countWrapped σ = some (F.foldl gWr 0) := by
  unfold x_X1_countWrapped
  rw [fold_lup (f := fun (s15 : Int × Int) => x_X1_countWrapped_b4 σ s15.1 s15.2) (F := F) (g := gWr) (e := fun b => b) (fun i x b hi => by
    have hl := (List.getElem?_eq_some_iff.mp hi).1
    have hx := hw x (List.mem_of_getElem? hi)
    show x_X1_countWrapped_b4 σ b (i : Int) = _
    unfold x_X1_countWrapped_b4 gWr
    rw [h7, if_neg (nle_n hl (by omega)), X1_foundAt h7 hf h4 hi, Option.bind_some, X6_kindOf (mld_cw hx), Option.bind_some]
    rcases hx with hx | hx
    · rw [(so_set hx).2, if_pos (by decide), if_neg (fun z => by
        obtain ⟨s, f, n, a1, a2, a3, a4, a5, -⟩ := z
        exact set_run hx ⟨s, f, n, a1, a2, a3, a4, a5⟩)]
      unfold x_X1_countWrapped_j34_4
      rw [if_pos rfl]; rfl
    · rw [(so_run hx).2, if_neg (by decide), firstOf_eq (mld_cw (.inr hx)) (meld_nz (.inr hx))]
      obtain ⟨s, f, n, a1, a2, a3, a4, a5⟩ := hx
      subst a5
      rw [(first_run a1 a2 a3 (by omega)).1, if_neg (by omega), Option.bind_some]
      unfold x_X1_countWrapped_j34_4
      rw [if_neg (by rw [zwn (by omega), zw_eq (x := (-1 : Int)) (by omega) (by omega)]; omega), zrem13 (by omega), zdiv13 (by omega), show (13 * s + f) % 13 = f by omega, show (13 * s + f) / 13 = s by omega, zwn (by omega), show (s : Int) * 13 = ((13 * s : Nat) : Int) by omega]
      by_cases f0 : f = 0
      · rw [if_pos (by omega), if_neg (fun z => by have := (wrp_run a1 a2 a3 a4).mp z; omega)]; rfl
      · rw [if_neg (by omega), X6_has _ (by omega), Option.bind_some]
        have hb : bs (run s f n) (13 * s) = true ↔ 13 < f + n := by
          have := bs_run2 (f := f) (n := n) a1 (j := 0) (by omega)
          rw [Nat.add_zero] at this
          rw [this, rb_i]
          constructor
          · rintro ⟨i, i1, i2⟩; omega
          · intro z; exact ⟨13 - f, by omega, by omega⟩
        by_cases e : 13 < f + n
        · rw [if_pos (hb.mpr e), if_neg (by decide), if_pos ((wrp_run a1 a2 a3 a4).mpr e)]; rfl
        · rw [if_neg (fun z => e (hb.mp z)), if_pos (by decide), if_neg (fun z => e ((wrp_run a1 a2 a3 a4).mp z))]; rfl) (fun b => by
    show x_X1_countWrapped_b4 σ b (F.length : Int) = _
    unfold x_X1_countWrapped_b4
    rw [h7, if_pos (Int.le_refl _)]) 0]
  rfl
theorem X7_countMelds {σ : Mm} {P : Int64} {F : List Int64} (h : LM σ P F) (h4 : F.length ≤ 3) (hw : ∀ x ∈ F, mld x) : x_X7_countMelds σ 4 = some (F.foldl (gKd 1) 0) ∧ x_X7_countMelds σ 5 = some (F.foldl (gKd 2) 0) ∧ x_X7_countMelds σ 7 = some (F.foldl gWr 0) := by
  obtain ⟨l1, l2, l3, l4⟩ := h
  have hbase : ∀ (p b : Int), x_X7_countMelds_b4 σ p b (F.length : Int) = some (.inr b) := fun p b => by
    unfold x_X7_countMelds_b4
    rw [l1, if_pos (Int.le_refl _)]
  refine ⟨?_, ?_, ?_⟩
  · unfold x_X7_countMelds
    rw [fold_lup (f := fun (s31 : Int × Int) => x_X7_countMelds_b4 σ 4 s31.1 s31.2) (F := F) (g := gKd 1) (e := fun b => b) (fun i x b hi => by
      have hl := (List.getElem?_eq_some_iff.mp hi).1
      have hx := hw x (List.mem_of_getElem? hi)
      show x_X7_countMelds_b4 σ 4 b (i : Int) = _
      unfold x_X7_countMelds_b4 gKd
      rw [l1, if_neg (nle_n hl (by omega)), if_neg (by decide), if_pos (zin_i (by omega) (by omega) (by omega)), zix_nat (n := i) (by omega), l2 i x hi]
      rcases hx with hx | hx
      · rw [(so_set hx).1, (so_set hx).2, Option.bind_some, if_neg (by decide), if_pos rfl]; rfl
      · rw [(so_run hx).1, (so_run hx).2, Option.bind_some, if_pos (by decide), if_neg (by decide), Int.add_zero]; rfl) (fun b => hbase 4 b) 0]
    rfl
  · unfold x_X7_countMelds
    rw [fold_lup (f := fun (s31 : Int × Int) => x_X7_countMelds_b4 σ 5 s31.1 s31.2) (F := F) (g := gKd 2) (e := fun b => b) (fun i x b hi => by
      have hl := (List.getElem?_eq_some_iff.mp hi).1
      have hx := hw x (List.mem_of_getElem? hi)
      show x_X7_countMelds_b4 σ 5 b (i : Int) = _
      unfold x_X7_countMelds_b4 gKd
      rw [l1, if_neg (nle_n hl (by omega)), if_pos (by decide), if_neg (by decide), if_pos (zin_i (by omega) (by omega) (by omega)), zix_nat (n := i) (by omega), l2 i x hi]
      rcases hx with hx | hx
      · rw [(so_set hx).1, (so_set hx).2, Option.bind_some, if_pos (by decide), if_pos (by decide), if_neg (by decide), Int.add_zero]; rfl
      · rw [(so_run hx).1, (so_run hx).2, Option.bind_some, if_neg (by decide), if_neg (by decide), if_pos rfl]; rfl) (fun b => hbase 5 b) 0]
    rfl
  · unfold x_X7_countMelds
    rw [fold_lup (f := fun (s31 : Int × Int) => x_X7_countMelds_b4 σ 7 s31.1 s31.2) (F := F) (g := gWr) (e := fun b => b) (fun i x b hi => by
      have hl := (List.getElem?_eq_some_iff.mp hi).1
      have hx := hw x (List.mem_of_getElem? hi)
      show x_X7_countMelds_b4 σ 7 b (i : Int) = _
      unfold x_X7_countMelds_b4 gWr
      rw [l1, if_neg (nle_n hl (by omega)), if_pos (by decide), if_pos (by decide), if_pos (zin_i (by omega) (by omega) (by omega)), zix_nat (n := i) (by omega), l2 i x hi]
      unfold x_X7_isWrapped
      rcases hx with hx | hx
      · obtain ⟨g, g1, -⟩ := X7_firstOf (mld_cw (.inl hx)) (meld_nz (.inl hx))
        rw [g1, Option.bind_some, bnd_eq, (so_set hx).1, Option.bind_some, if_pos (by decide), Option.bind_some, if_pos (by decide), if_neg (fun z => by
          obtain ⟨s, f, n, a1, a2, a3, a4, a5, -⟩ := z
          exact set_run hx ⟨s, f, n, a1, a2, a3, a4, a5⟩), Int.add_zero]; rfl
      · rw [(so_run hx).1]
        obtain ⟨s, f, n, a1, a2, a3, a4, a5⟩ := hx
        subst a5
        rw [(first_run a1 a2 a3 (by omega)).1, if_neg (by omega), Option.bind_some, bnd_eq, Option.bind_some, if_neg (by decide), X7_ones, cnt_run a1 (by omega), Option.bind_some, zrem13 (by omega), show (13 * s + f) % 13 = f by omega, show (f : Int) + (n : Int) = ((f + n : Nat) : Int) by omega]
        by_cases e : 13 < f + n
        · rw [if_neg (by rw [zwn (by omega), zw_eq (x := (13 : Int)) (by omega) (by omega)]; omega), Option.bind_some, if_neg (by decide), if_pos ((wrp_run a1 a2 a3 a4).mpr e)]; rfl
        · rw [if_pos (by rw [zwn (by omega), zw_eq (x := (13 : Int)) (by omega) (by omega)]; omega), Option.bind_some, if_pos (by decide), if_neg (fun z => e ((wrp_run a1 a2 a3 a4).mp z)), Int.add_zero]; rfl) (fun b => hbase 7 b) 0]
    rfl
/-- the whole hand, by places -/
theorem X7_allcards {σ : Mm} {n : Nat} {H : Nat → Nat} {P : Int64} (hH : HP σ n H P) : x_X7_cardsOf σ ((zshl (1 : Int) (n : Int)) - (1 : Int)) = some P := by
  obtain ⟨hD, hO, hn, hP⟩ := hH
  have h11 := hO.1
  have hpn : 2 ^ n ≤ 2048 := Nat.pow_le_pow_right (n := 2) (j := 11) (by decide) h11
  have hp0 : 0 < 2 ^ n := Nat.two_pow_pos n
  rw [zsh1 (by omega), show ((2 ^ n : Nat) : Int) - 1 = ((2 ^ n - 1 : Nat) : Int) by omega, X7_cardsOf hD hO (by omega)]
  congr 1
  apply bs_ext
  intro d _
  apply Bool.eq_iff_iff.mpr
  rw [co_bs d hO.2.1, hP d]
  constructor
  · rintro ⟨i, i1, -, i3⟩; exact ⟨i, i1, i3⟩
  · rintro ⟨i, i1, i3⟩
    exact ⟨i, i1, by rw [Nat.testBit_two_pow_sub_one]; simp [i1], i3⟩
theorem c_player {N : Nat} {c m : Mm} (h : REL N c m) {a b : Int} (ha : zw a = a) (hb : zw b = b) : OK2 N [(0, 1)] c (x_X6_player c a b) (x_X7_player m a b) := by
  have h0 := REL_eq h (CE_r c) (ME_0 m 0)
  unfold x_X6_player x_X7_player x_X6_player_j21 x_X6_player_j22
  rw [bnd_eq]
  by_cases e : 0 ≤ a ∧ a ≤ 1
  · rw [pl_ok ha e, Option.bind_some, if_neg d10, np_ok ha e, Option.bind_some, un2_mk, if_neg (show ¬ zw (0 : Int) ≠ 0 by decide)]
    by_cases e2 : 0 ≤ b ∧ b ≤ 7
    · rw [wi_ok (l := 0) (h := 7) (by decide) (by decide) hb e2, Option.bind_some, if_neg d10, req_1, Option.bind_some, bad_ok (l := 0) (h := 7) (by decide) (by decide) hb e2, Option.bind_some, un2_mk, if_pos d00]
      show OK2 N _ c (inlO _) _
      obtain ⟨p, hp, hap⟩ := pl_nat e
      subst hap
      obtain ⟨P, p1, p2, p3, -⟩ := R_hand h0 hp
      obtain ⟨σ1, s1, ⟨y1, y2, y3, y4⟩, s3⟩ := R_lay h0 p2.1 p3
      obtain ⟨l1, l2, l3, l4⟩ := Lay_ok p2.1 p3
      obtain ⟨m6, H, t1, t2, t3, t4⟩ := X7_layOutOf p2 p3
      have hR : REL N (zj zl_54 c σ1) m6 := REL_eq s3 (CE_r _) (ME_SK (SK_of t4))
      have h00 : m6 0 0 = 0 := by rw [t4.2 0 (by omega)]; rfl
      have hm : ∀ x ∈ Lay P, mld x := fun x hx => (l2 x hx).2
      obtain ⟨u1, u2, u3, u4⟩ := id t2
      obtain ⟨k4, k5, k7⟩ := X7_countMelds t2 l4 hm
      have g10 : zj zl_54 c σ1 77 10 = ((RR P P : Nat) : Int) := by rw [← l3]; exact y4
      have g7 : zj zl_54 c σ1 77 7 = ((Lay P).length : Int) := y1
      have g9 : zL (zj zl_54 c σ1 77 9) = dl P (Lay P) := y3
      have gKd' : ∀ k, k < 3 → x_X1_countKind (zb zl_54 (zj zl_54 c σ1)) ((k : Nat) : Int) = some ((Lay P).foldl (gKd k) 0) := fun k hk => X1_countKind (σ := zb zl_54 (zj zl_54 c σ1)) y1 y2 (by omega) (fun x hx => mld_cw (hm x hx)) hk
      have gWr' : x_X1_countWrapped (zb zl_54 (zj zl_54 c σ1)) = some ((Lay P).foldl gWr 0) := X1_countWrapped (σ := zb zl_54 (zj zl_54 c σ1)) y1 y2 (by omega) hm
      rw [p1, Option.bind_some, s1, Option.bind_some, bnd_eq, t1, Option.bind_some, g10, g7, g9, u1, u4, u3, t3.1.1]
      have fin : ∀ (x y : Option (Mm × Int)) (v : Int), x = some (zj zl_54 c σ1, v) → y = some (m6, v) → OK2 N [(0, 1)] c (inlO x) y := fun x y v hx hy => .inl ⟨_, _, v, by rw [hx]; rfl, hy, h00, hR⟩
      have hcase : b = 0 ∨ b = 1 ∨ b = 2 ∨ b = 3 ∨ b = 4 ∨ b = 5 ∨ b = 6 ∨ b = 7 := by omega
      rcases hcase with q | q | q | q | q | q | q | q <;> subst q
      · rw [if_pos d00, if_pos d00]
        exact fin _ _ ((cnt (bs P) 64 : Nat) : Int) (by rw [bitCount_eq]; rfl) rfl
      · rw [if_neg (by decide), if_pos (by decide), if_neg (by decide), if_pos (by decide)]
        exact fin _ _ _ rfl rfl
      · rw [if_neg (by decide), if_neg (by decide), if_pos (by decide), if_neg (by decide), if_neg (by decide), if_pos (by decide)]
        exact fin _ _ _ rfl rfl
      · rw [if_neg (by decide), if_neg (by decide), if_neg (by decide), if_pos (by decide), if_neg (by decide), if_neg (by decide), if_neg (by decide), if_pos (by decide)]
        exact fin _ _ _ (by rw [bitCount_eq]; rfl) (by rw [X7_ones]; rfl)
      · rw [if_neg (by decide), if_neg (by decide), if_neg (by decide), if_neg (by decide), if_pos (by decide), if_neg (by decide), if_neg (by decide), if_neg (by decide), if_neg (by decide), if_pos (by decide)]
        exact fin _ _ _ (by rw [show (1 : Int) = ((1 : Nat) : Int) from rfl, gKd' 1 (by omega)]; rfl) (by rw [k4]; rfl)
      · rw [if_neg (by decide), if_neg (by decide), if_neg (by decide), if_neg (by decide), if_neg (by decide), if_pos (by decide), if_neg (by decide), if_neg (by decide), if_neg (by decide), if_neg (by decide), if_neg (by decide), if_pos (by decide)]
        exact fin _ _ _ (by rw [show (2 : Int) = ((2 : Nat) : Int) from rfl, gKd' 2 (by omega)]; rfl) (by rw [k5]; rfl)
      · rw [if_neg (by decide), if_neg (by decide), if_neg (by decide), if_neg (by decide), if_neg (by decide), if_neg (by decide), if_pos (by decide), if_neg (by decide), if_neg (by decide), if_neg (by decide), if_neg (by decide), if_neg (by decide), if_neg (by decide), if_pos (by decide)]
        exact fin _ _ ((lW P : Nat) : Int) (by rw [lW_cw p2.1]; rfl) (by rw [X7_allcards t3, Option.bind_some, X7_pointsOf]; rfl)
      · rw [if_neg (by decide), if_neg (by decide), if_neg (by decide), if_neg (by decide), if_neg (by decide), if_neg (by decide), if_neg (by decide), if_neg (by decide), if_neg (by decide), if_neg (by decide), if_neg (by decide), if_neg (by decide), if_neg (by decide), if_neg (by decide)]
        exact fin _ _ _ (by rw [gWr']; rfl) (by rw [k7]; rfl)
    · rw [wi_no (l := 0) (h := 7) (by decide) (by decide) hb e2, Option.bind_some, if_pos d00, req_0, Option.bind_some, bad_no (l := 0) (h := 7) (by decide) (by decide) hb e2, Option.bind_some, un2_mk, if_neg d10]
      exact .inr ⟨0, 1, _, _, .head _, rfl, rfl, rfl, REL_eq h0 (CE_r c) (ME_0 _ 1)⟩
  · rw [pl_no ha e, Option.bind_some, if_pos d00, req_0, Option.bind_some, np_no ha e, Option.bind_some, un2_mk, if_pos (show zw (1 : Int) ≠ 0 by decide)]
    exact .inr ⟨0, 1, _, _, .head _, rfl, rfl, rfl, REL_eq h0 (CE_r c) (ME_0 _ 1)⟩
theorem ixF_lt {p : Int64 → Bool} : ∀ {l : List Int64} {i j : Nat}, ixF p l i = some j → j < i + l.length
  | [], i, j, h => by cases h
  | x :: l, i, j, h => by
    unfold ixF at h
    by_cases e : p x = true
    · rw [if_pos e] at h
      cases h
      show i < i + (l.length + 1)
      omega
    · rw [if_neg e] at h
      have := ixF_lt h
      show j < i + (l.length + 1)
      omega
theorem c_meldOf {N : Nat} {c m : Mm} (h : REL N c m) {a b : Int} (ha : zw a = a) (hb : zw b = b) : OK2 N [(0, 1), (1, 2)] c (x_X6_meldOf c a b) (x_X7_meldOf m a b) := by
  have h0 := REL_eq h (CE_r c) (ME_0 m 0)
  unfold x_X6_meldOf x_X7_meldOf
  rw [bnd_eq]
  by_cases e : 0 ≤ a ∧ a ≤ 1
  · rw [pl_ok ha e, Option.bind_some, req_1, Option.bind_some, np_ok ha e, Option.bind_some, un2_mk, if_pos d00]
    show OK2 N _ c ((x_X6_requireHeld c a b).bind _) _
    obtain ⟨p, hp, hap⟩ := pl_nat e
    subst hap
    rcases held_all h0 hp hb with ⟨k, k1, k2, k3, k4, k5⟩ | ⟨k4, k5⟩
    · subst k1
      rw [k4, k5, Option.bind_some, Option.bind_some, if_pos (by decide)]
      show OK2 N _ c (inlO _) _
      obtain ⟨P, p1, p2, p3, -⟩ := R_hand h0 hp
      obtain ⟨σ1, s1, ⟨y1, y2, y3, y4⟩, s3⟩ := R_lay h0 p2.1 p3
      obtain ⟨l1, l2, l3, l4⟩ := Lay_ok p2.1 p3
      obtain ⟨m6, H, t1, ⟨u1, u2, u3, u4⟩, t3, t4⟩ := X7_layOutOf p2 p3
      have hR : REL N (zj zl_54 c σ1) m6 := REL_eq s3 (CE_r _) (ME_SK (SK_of t4))
      have h00 : m6 0 0 = 0 := by rw [t4.2 0 (by omega)]; rfl
      rw [p1, Option.bind_some, s1, Option.bind_some, bnd_eq, t1, Option.bind_some]
      have hi : x_X1_indexOf (zb zl_54 (zj zl_54 c σ1)) (k : Int) = some (match ixF (fun x => bs x k) (Lay P) 0 with
          | some j => (j : Int)
          | none => -1) := by
        unfold x_X1_indexOf
        rw [find_lup (f := fun (s6 : Int) => x_X1_indexOf_b2 (zb zl_54 (zj zl_54 c σ1)) (k : Int) s6) (F := Lay P) (p := fun x => bs x k) (fun i x hi => by
          have hl := (List.getElem?_eq_some_iff.mp hi).1
          show x_X1_indexOf_b2 (zb zl_54 (zj zl_54 c σ1)) (k : Int) (i : Int) = _
          unfold x_X1_indexOf_b2
          have y1' : zb zl_54 (zj zl_54 c σ1) 0 7 = ((Lay P).length : Int) := y1
          rw [y1', if_neg (nle_n hl (by omega)), X1_foundAt (σ := zb zl_54 (zj zl_54 c σ1)) y1 y2 (by omega) hi, Option.bind_some, X6_has _ k2, Option.bind_some]
          cases bs x k <;> rfl) (by
          show x_X1_indexOf_b2 (zb zl_54 (zj zl_54 c σ1)) (k : Int) ((Lay P).length : Int) = _
          unfold x_X1_indexOf_b2
          have y1' : zb zl_54 (zj zl_54 c σ1) 0 7 = ((Lay P).length : Int) := y1
          rw [y1', if_pos (Int.le_refl _)])]
        cases ixF (fun x => bs x k) (Lay P) 0 <;> rfl
      have hj : lup (fun (s10 : Int) => x_X7_meldOf_b38 m6 (k : Int) s10) (0 : Int) = some (match ixF (fun x => bs x k) (Lay P) 0 with
          | some j => .inl (j : Int)
          | none => .inr ()) := find_lup (f := fun (s10 : Int) => x_X7_meldOf_b38 m6 (k : Int) s10) (F := Lay P) (p := fun x => bs x k) (fun i x hi => by
          have hl := (List.getElem?_eq_some_iff.mp hi).1
          show x_X7_meldOf_b38 m6 (k : Int) (i : Int) = _
          unfold x_X7_meldOf_b38
          rw [u1, if_neg (nle_n hl (by omega)), if_pos (zin_i (by omega) (by omega) (by omega)), zix_nat (n := i) (by omega), u2 i x hi]
          simp only [bit_1f x (show k < 64 by omega)]
          cases bs x k <;> rfl) (by
          show x_X7_meldOf_b38 m6 (k : Int) ((Lay P).length : Int) = _
          unfold x_X7_meldOf_b38
          rw [u1, if_pos (Int.le_refl _)])
      rw [hi, hj, Option.bind_some, Option.bind_some]
      refine .inl ⟨_, _, _, rfl, ?_, h00, hR⟩
      cases ixF (fun x => bs x k) (Lay P) 0 <;> rfl
    · rw [k4, k5, Option.bind_some, Option.bind_some, if_neg (by decide), bnd_eq]
      exact .inr ⟨1, 2, _, _, .tail _ (.head _), rfl, rfl, rfl, REL_eq h0 (CE_r c) (ME_0 _ 2)⟩
  · rw [pl_no ha e, Option.bind_some, req_0, Option.bind_some, np_no ha e, Option.bind_some, un2_mk, if_neg d10]
    exact .inr ⟨0, 1, _, _, .head _, rfl, rfl, rfl, REL_eq h0 (CE_r c) (ME_0 _ 1)⟩
theorem lo_low {x : Int64} (h : mld x) : isLow x (lo x) := lo_spec (meld_nz h)
theorem c_meld {N : Nat} {c m : Mm} (h : REL N c m) {a b d : Int} (ha : zw a = a) (hb : zw b = b) (hd : zw d = d) : OK2 N [(0, 1)] c (x_X6_meld c a b d) (x_X7_meld m a b d) := by
  have h0 := REL_eq h (CE_r c) (ME_0 m 0)
  unfold x_X6_meld x_X7_meld x_X6_meld_j20 x_X6_meld_j21
  rw [bnd_eq]
  by_cases e : 0 ≤ a ∧ a ≤ 1
  · rw [pl_ok ha e, Option.bind_some, if_neg d10, np_ok ha e, Option.bind_some, un2_mk, if_neg (show ¬ zw (0 : Int) ≠ 0 by decide)]
    by_cases e2 : 0 ≤ d ∧ d ≤ 3
    · rw [wi_ok (l := 0) (h := 3) (by decide) (by decide) hd e2, Option.bind_some, if_neg d10, req_1, Option.bind_some, bad_ok (l := 0) (h := 3) (by decide) (by decide) hd e2, Option.bind_some, un2_mk, if_pos d00]
      show OK2 N _ c (inlO _) _
      obtain ⟨p, hp, hap⟩ := pl_nat e
      subst hap
      obtain ⟨P, p1, p2, p3, -⟩ := R_hand h0 hp
      obtain ⟨σ1, s1, ⟨y1, y2, y3, y4⟩, s3⟩ := R_lay h0 p2.1 p3
      obtain ⟨l1, l2, l3, l4⟩ := Lay_ok p2.1 p3
      obtain ⟨m6, H, t1, ⟨u1, u2, u3, u4⟩, t3, t4⟩ := X7_layOutOf p2 p3
      have hR : REL N (zj zl_54 c σ1) m6 := REL_eq s3 (CE_r _) (ME_SK (SK_of t4))
      have h00 : m6 0 0 = 0 := by rw [t4.2 0 (by omega)]; rfl
      have g7 : zj zl_54 c σ1 77 7 = ((Lay P).length : Int) := y1
      rw [p1, Option.bind_some, s1, Option.bind_some, bnd_eq, t1, Option.bind_some, g7, u1]
      by_cases w : b < 0
      · have w' : zw b < 0 := by rw [hb]; exact w
        rw [if_pos w', if_pos w']
        exact .inl ⟨_, _, _, rfl, rfl, h00, hR⟩
      · have w' : ¬ zw b < 0 := by rw [hb]; exact w
        rw [if_neg w', if_neg w']
        obtain ⟨k, hk⟩ : ∃ k : Nat, b = (k : Int) := ⟨b.toNat, by omega⟩
        subst hk
        have hk2 : k < 2147483648 := by
          have := zw_rng (k : Int)
          omega
        by_cases v : k < (Lay P).length
        · have v' : zw (k : Int) < zw ((Lay P).length : Int) := by rw [zwn hk2, zwn (by omega)]; omega
          obtain ⟨x, hx⟩ : ∃ x, (Lay P)[k]? = some x := ⟨_, List.getElem?_eq_getElem v⟩
          have hm : mld x := (l2 x (List.mem_of_getElem? hx)).2
          rw [if_pos v', if_pos v', X1_foundAt (σ := zb zl_54 (zj zl_54 c σ1)) y1 y2 (by omega) hx, Option.bind_some, X6_kindOf (mld_cw hm), Option.bind_some, if_pos (zin_i (by omega) (by omega) (by omega)), zix_nat (n := k) (by omega), u2 k x hx, bnd_eq]
          have fin : ∀ (x y : Option (Mm × Int)) (v : Int), x = some (zj zl_54 c σ1, v) → y = some (m6, v) → OK2 N [(0, 1)] c (inlO x) y := fun x y v hx hy => .inl ⟨_, _, v, by rw [hx]; rfl, hy, h00, hR⟩
          unfold x_X6_meld_j80
          have hcase : d = 0 ∨ d = 1 ∨ d = 2 ∨ d = 3 := by omega
          have n10 : ¬ zw (1 : Int) = 0 := by decide
          have n20 : ¬ zw (2 : Int) = 0 := by decide
          have n21 : ¬ zw (2 : Int) = 1 := by decide
          have n30 : ¬ zw (3 : Int) = 0 := by decide
          have n31 : ¬ zw (3 : Int) = 1 := by decide
          have n32 : ¬ zw (3 : Int) = 2 := by decide
          have y11 : zw (1 : Int) = 1 := by decide
          have y22 : zw (2 : Int) = 2 := by decide
          rcases hm with hm | hm
          · rw [(so_set hm).2, if_pos (by decide), (so_set hm).1]
            rcases hcase with q | q | q | q <;> subst q
            · refine fin _ _ ((cnt (bs x) 64 : Nat) : Int) ?_ ?_
              · rw [if_pos d00, bitCount_eq]; rfl
              · rw [if_pos d00, X7_ones]; rfl
            · refine fin _ _ 0 ?_ ?_
              · rw [if_neg n10, if_pos y11]; rfl
              · rw [if_neg n10, if_pos y11]; rfl
            · refine fin _ _ (zrem (lo x : Int) 13) ?_ ?_
              · rw [if_neg n20, if_neg n21, if_pos y22, if_pos d00, X6_lowestOf (lo_low (.inl hm))]; rfl
              · rw [if_neg n20, if_neg n21, if_pos y22, Option.bind_some, if_neg d10, X7_lowest (lo_low (.inl hm))]; rfl
            · refine fin _ _ ((lW x : Nat) : Int) ?_ ?_
              · rw [if_neg n30, if_neg n31, if_neg n32, lW_cw (mld_cw (.inl hm))]; rfl
              · rw [if_neg n30, if_neg n31, if_neg n32, X7_pointsOf]; rfl
          · rw [(so_run hm).2, if_neg (by decide), (so_run hm).1, firstOf_eq (mld_cw (.inr hm)) (meld_nz (.inr hm))]
            rcases hcase with q | q | q | q <;> subst q
            · refine fin _ _ ((cnt (bs x) 64 : Nat) : Int) ?_ ?_
              · rw [if_pos d00, bitCount_eq]; rfl
              · rw [if_pos d00, X7_ones]; rfl
            · refine fin _ _ 1 ?_ ?_
              · rw [if_neg n10, if_pos y11]; rfl
              · rw [if_neg n10, if_pos y11]; rfl
            · obtain ⟨g, g1, -⟩ := X7_firstOf (mld_cw (.inr hm)) (meld_nz (.inr hm))
              refine fin _ _ ((13 * (lo x / 13) + g : Nat) : Int) ?_ ?_
              · rw [if_neg n20, if_neg n21, if_pos y22, if_neg d10, g1]; rfl
              · rw [if_neg n20, if_neg n21, if_pos y22, Option.bind_some, if_pos d00, g1]; rfl
            · refine fin _ _ ((lW x : Nat) : Int) ?_ ?_
              · rw [if_neg n30, if_neg n31, if_neg n32, lW_cw (mld_cw (.inr hm))]; rfl
              · rw [if_neg n30, if_neg n31, if_neg n32, X7_pointsOf]; rfl
        · have v' : ¬ zw (k : Int) < zw ((Lay P).length : Int) := by rw [zwn hk2, zwn (by omega)]; omega
          rw [if_neg v', if_neg v']
          exact .inl ⟨_, _, _, rfl, rfl, h00, hR⟩
    · rw [wi_no (l := 0) (h := 3) (by decide) (by decide) hd e2, Option.bind_some, if_pos d00, req_0, Option.bind_some, bad_no (l := 0) (h := 3) (by decide) (by decide) hd e2, Option.bind_some, un2_mk, if_neg d10]
      exact .inr ⟨0, 1, _, _, .head _, rfl, rfl, rfl, REL_eq h0 (CE_r c) (ME_0 _ 1)⟩
  · rw [pl_no ha e, Option.bind_some, if_pos d00, req_0, Option.bind_some, np_no ha e, Option.bind_some, un2_mk, if_pos (show zw (1 : Int) ≠ 0 by decide)]
    exact .inr ⟨0, 1, _, _, .head _, rfl, rfl, rfl, REL_eq h0 (CE_r c) (ME_0 _ 1)⟩
