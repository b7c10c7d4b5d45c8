/-! The class's search for the best laying -/
def FS (σ : Mm) (fw : Int) (fl : List Int64) : Prop := σ 0 8 = fw ∧ σ 0 7 = (fl.length : Int) ∧ ∀ j x, fl[j]? = some x → zL (σ 6 j) = x
def KW (σ : Mm) (n : Nat) (A : Nat → Int64 × Int) : Prop := σ 0 4 = (n : Int) ∧ ∀ i, i < n → zL (σ 1 i) = (A i).1 ∧ σ 4 i = ((lW (A i).1 : Nat) : Int)
def TS (σ : Mm) (pre : List Int64) : Prop := ∀ j x, pre[j]? = some x → zL (σ 5 j) = x
/-- the melds from i on -/
def mfr (A : Nat → Int64 × Int) : Nat → Nat → List Int64
  | 0, _ => []
  | k + 1, i => (A i).1 :: mfr A k (i + 1)
theorem cnt_dj {u m : Int64} (h : m &&& u = 0) : cnt (bs (u ||| m)) 64 = cnt (bs u) 64 + cnt (bs m) 64 := by
  rw [cnt_psum, cnt_psum, cnt_psum, ← psum_add (fun c _ hc => by
    cases e : bs m c
    · rfl
    · have := (dj_iff m u).mp h c e
      rw [hc] at this; cases this)]
  exact psum_congr (fun c _ => bs_or u m c)
theorem cnt_sb {u h : Int64} (hs : sb u h) : cnt (bs u) 64 ≤ cnt (bs h) 64 := by
  rw [cnt_psum, cnt_psum]
  exact psum_le (fun c _ hc => (sb_iff u h).mp hs c hc)
theorem sb_or {u m h : Int64} (h1 : sb u h) (h2 : sb m h) : sb (u ||| m) h := (sb_iff _ _).mpr (fun c hc => by
  rw [bs_or] at hc
  rcases Bool.or_eq_true_iff.mp hc with z | z
  · exact (sb_iff _ _).mp h1 c z
  · exact (sb_iff _ _).mp h2 c z)
theorem lW_le (x : Int64) : lW x ≤ 520 := by
  have h1 := psum_bound (S := bs x) pts_le (n := 52)
  have h2 := cnt_le (bs x) 52
  unfold lW
  omega
/-- the search's last act: what was tried is kept if it is better -/
theorem X1_keep {R : Mm → Int → Int64 → Int → Int → Option Mm} {σ : Mm} {w : Nat} {pre : List Int64} {fw : Int} {fl : List Int64} (hw : w ≤ 520) (hp : pre.length ≤ 3) (hf : FS σ fw fl) (hfw : -1 ≤ fw ∧ fw ≤ 520) (ht : TS σ pre) : ∃ σ', x_X1_search_j107 R σ (w : Int) (pre.length : Int) = some σ' ∧ (FS σ' (if fw < (w : Int) then (w : Int) else fw) (if fw < (w : Int) then pre else fl)) ∧ TS σ' pre ∧ (∀ j, σ' 1 j = σ 1 j ∧ σ' 4 j = σ 4 j ∧ σ' 5 j = σ 5 j) ∧ σ' 0 4 = σ 0 4 := by
  unfold x_X1_search_j107
  rw [hf.1]
  by_cases c : fw < (w : Int)
  · rw [if_neg (by rw [zwn (by omega), zw_eq (by omega) (by omega)]; omega), if_pos c, if_pos c, bnd_eq, bnd_eq]
    obtain ⟨e9, b1, b2⟩ := lup_for (f := fun (s26 : Mm × Int) => x_X1_search_b131 R (pre.length : Int) s26.1 s26.2) (fun i s => s.2 = (i : Int) ∧ s.1 0 8 = (w : Int) ∧ s.1 0 7 = (pre.length : Int) ∧ (∀ j x, j < i → pre[j]? = some x → zL (s.1 6 j) = x) ∧ (∀ j, s.1 1 j = σ 1 j ∧ s.1 4 j = σ 4 j ∧ s.1 5 j = σ 5 j) ∧ s.1 0 4 = σ 0 4) (fun e => FS e (w : Int) pre ∧ (∀ j, e 1 j = σ 1 j ∧ e 4 j = σ 4 j ∧ e 5 j = σ 5 j) ∧ e 0 4 = σ 0 4) pre.length (fun i s hi hs => by
      obtain ⟨τ, u⟩ := s
      obtain ⟨hu, h8, h7, h6, ho, h04⟩ := hs
      simp only at hu h8 h7 h6 ho h04
      subst hu
      show ∃ s', x_X1_search_b131 R (pre.length : Int) τ (i : Int) = _ ∧ _
      unfold x_X1_search_b131
      have zi : zin (i : Int) 4 := zin_i (by omega) (by omega) (by omega)
      rw [if_neg (by rw [zwn (by omega), zwn (by omega)]; omega), if_neg (by rw [zw_eq (x := (4 : Int)) (by omega) (by omega), zwn (by omega)]; omega), if_pos zi, if_pos zi, bnd_eq, bnd_eq, zix_nat (by omega)]
      refine ⟨_, rfl, rfl, ?_, ?_, fun j x hj hx => ?_, fun j => ?_, ?_⟩
      · simpa [zu_at] using h8
      · simpa [zu_at] using h7
      · by_cases e : j = i
        · subst e
          show zL (zu τ 6 j _ 6 j) = x
          rw [zu_hit, zL_toInt, (ho j).2.2]
          exact ht j x hx
        · show zL (zu τ 6 i _ 6 j) = x
          rw [zu_miss _ _ _ _ (fun _ => e)]
          exact h6 j x (by omega) hx
      · obtain ⟨o1, o2, o3⟩ := ho j
        refine ⟨?_, ?_, ?_⟩
        · simpa [zu_at] using o1
        · simpa [zu_at] using o2
        · simpa [zu_at] using o3
      · simpa [zu_at] using h04) (fun s hs => by
      obtain ⟨τ, u⟩ := s
      obtain ⟨hu, h8, h7, h6, ho, h04⟩ := hs
      simp only at hu h8 h7 h6 ho h04
      subst hu
      refine ⟨τ, ?_, ⟨h8, h7, fun j x hx => ?_⟩, ho, h04⟩
      · show x_X1_search_b131 R _ τ _ = _
        unfold x_X1_search_b131
        rw [if_pos (Int.le_refl _)]
      · have hj : j < pre.length := by
          rcases Nat.lt_or_ge j pre.length with z | z
          · exact z
          · rw [List.getElem?_eq_none z] at hx; cases hx
        exact h6 j x hj hx) (s := (zu (zu σ 0 8 (w : Int)) 0 7 (pre.length : Int), 0)) ⟨rfl, by simp [zu_at], by simp [zu_at], fun j x hj => by omega, fun j => by simp [zu_at], by simp [zu_at]⟩
    rw [b1, Option.bind_some]
    obtain ⟨c1, c2, c3⟩ := b2
    exact ⟨e9, rfl, c1, fun j x hx => by rw [(c2 j).2.2]; exact ht j x hx, c2, c3⟩
  · rw [if_pos (by rw [zwn (by omega), zw_eq (by omega) (by omega)]; omega), if_neg c, if_neg c]
    exact ⟨σ, rfl, hf, ht, fun j => ⟨rfl, rfl, rfl⟩, rfl⟩
theorem lB_le {h : Int64} : ∀ (L : List Int64) (u : Int64), (∀ m ∈ L, sb m h) → sb u h → lW u + lB L u ≤ lW h
  | [], u, _, hu => by
    have := lW_dif hu
    show lW u + 0 ≤ _
    omega
  | m :: r, u, hL, hu => by
    have h1 := lB_le r u (fun x hx => hL x (List.mem_cons_of_mem _ hx)) hu
    rw [lB_cons]
    by_cases e : m &&& u = 0
    · have h2 := lB_le r (u ||| m) (fun x hx => hL x (List.mem_cons_of_mem _ hx)) (sb_or hu (hL m List.mem_cons_self))
      have := lW_or e
      rw [if_pos e]
      omega
    · rw [if_neg e]; exact h1
theorem mfr_mem {A : Nat → Int64 × Int} {m : Int64} : ∀ {k i : Nat}, m ∈ mfr A k i → ∃ j, i ≤ j ∧ j < i + k ∧ (A j).1 = m
  | 0, i, h => by cases h
  | k + 1, i, h => by
    rcases List.mem_cons.mp h with e | e
    · exact ⟨i, by omega, by omega, e.symm⟩
    · obtain ⟨j, h1, h2, h3⟩ := mfr_mem e
      exact ⟨j, by omega, by omega, h3⟩
theorem FS_comb {σ : Mm} {fw : Int} {fl : List Int64} {w wm B1 B2 : Nat} {pre : List Int64} {m : Int64} {F1 F2 : List Int64} {P : Prop} [Decidable P] (e : P) (h : FS σ (if (if fw < ((w + wm : Nat) : Int) + (B1 : Int) then ((w + wm : Nat) : Int) + (B1 : Int) else fw) < (w : Int) + (B2 : Int) then (w : Int) + (B2 : Int) else (if fw < ((w + wm : Nat) : Int) + (B1 : Int) then ((w + wm : Nat) : Int) + (B1 : Int) else fw)) (if (if fw < ((w + wm : Nat) : Int) + (B1 : Int) then ((w + wm : Nat) : Int) + (B1 : Int) else fw) < (w : Int) + (B2 : Int) then pre ++ F2 else (if fw < ((w + wm : Nat) : Int) + (B1 : Int) then pre ++ m :: F1 else fl))) : FS σ (if fw < (w : Int) + ((max (wm + B1) B2 : Nat) : Int) then (w : Int) + ((max (wm + B1) B2 : Nat) : Int) else fw) (if fw < (w : Int) + ((max (wm + B1) B2 : Nat) : Int) then pre ++ (if P ∧ B2 ≤ wm + B1 then m :: F1 else F2) else fl) := by
  by_cases c1 : fw < ((w + wm : Nat) : Int) + (B1 : Int)
  · simp only [if_pos c1] at h
    have c4 : fw < (w : Int) + ((max (wm + B1) B2 : Nat) : Int) := by omega
    simp only [if_pos c4]
    by_cases c2 : B2 ≤ wm + B1
    · have c3 : ¬ ((w + wm : Nat) : Int) + (B1 : Int) < (w : Int) + (B2 : Int) := by omega
      have c5 : P ∧ B2 ≤ wm + B1 := ⟨e, c2⟩
      simp only [if_neg c3] at h
      simp only [if_pos c5]
      have : (w : Int) + ((max (wm + B1) B2 : Nat) : Int) = ((w + wm : Nat) : Int) + (B1 : Int) := by omega
      rw [this]; exact h
    · have c3 : ((w + wm : Nat) : Int) + (B1 : Int) < (w : Int) + (B2 : Int) := by omega
      have c5 : ¬ (P ∧ B2 ≤ wm + B1) := fun z => c2 z.2
      simp only [if_pos c3] at h
      simp only [if_neg c5]
      have : (w : Int) + ((max (wm + B1) B2 : Nat) : Int) = (w : Int) + (B2 : Int) := by omega
      rw [this]; exact h
  · simp only [if_neg c1] at h
    by_cases c2 : fw < (w : Int) + (B2 : Int)
    · have c4 : fw < (w : Int) + ((max (wm + B1) B2 : Nat) : Int) := by omega
      have c5 : ¬ (P ∧ B2 ≤ wm + B1) := fun z => by have := z.2; omega
      simp only [if_pos c2] at h
      simp only [if_pos c4, if_neg c5]
      have : (w : Int) + ((max (wm + B1) B2 : Nat) : Int) = (w : Int) + (B2 : Int) := by omega
      rw [this]; exact h
    · have c4 : ¬ fw < (w : Int) + ((max (wm + B1) B2 : Nat) : Int) := by omega
      simp only [if_neg c2] at h
      simp only [if_neg c4]
      exact h
theorem X1_search_loop {n : Nat} {A : Nat → Int64 × Int} {h : Int64} (hn : n ≤ 64) (hA : ∀ i, i < n → sb (A i).1 h ∧ 3 ≤ cnt (bs (A i).1) 64) (h11 : cnt (bs h) 64 ≤ 11) : ∀ (k N i : Nat) (σ : Mm) (u : Int64) (pre : List Int64) (fw : Int) (fl : List Int64), i + k = n → N + pre.length = 5 → sb u h → 3 * pre.length ≤ cnt (bs u) 64 → pre.length ≤ 3 → -1 ≤ fw ∧ fw ≤ 520 → KW σ n A → FS σ fw fl → TS σ pre → ∃ σ', ((lup (fun (s15 : Mm × Int) => x_X1_search_b15 (x_X1_search N) u (lW u : Int) (pre.length : Int) s15.1 s15.2) (σ, (i : Int))).bind fun σ17 => x_X1_search_j107 (x_X1_search N) σ17 (lW u : Int) (pre.length : Int)) = some σ' ∧ KW σ' n A ∧ TS σ' pre ∧ FS σ' (if fw < (lW u : Int) + (lB (mfr A k i) u : Int) then (lW u : Int) + (lB (mfr A k i) u : Int) else fw) (if fw < (lW u : Int) + (lB (mfr A k i) u : Int) then pre ++ lF (mfr A k i) u else fl)
  | 0, N, i, σ, u, pre, fw, fl, hi, hN, hu, hc, hp, hfw, hK, hF, hT => by
    have hi : i = n := by omega
    subst hi
    have e1 : x_X1_search_b15 (x_X1_search N) u (lW u : Int) (pre.length : Int) σ (i : Int) = some (.inr σ) := by
      unfold x_X1_search_b15
      rw [hK.1, if_neg (by rw [zwn (by omega)]; omega), if_pos (Int.le_refl _)]
    rw [lup_inr (s := (σ, (i : Int))) e1, Option.bind_some]
    obtain ⟨σ', b1, b2, b3, b4, b5⟩ := X1_keep (R := x_X1_search N) (lW_le u) hp hF hfw hT
    refine ⟨σ', b1, ⟨by rw [b5]; exact hK.1, fun j hj => ?_⟩, b3, ?_⟩
    · obtain ⟨d1, d2, d3⟩ := b4 j
      rw [d1, d2]
      exact hK.2 j hj
    · have e2 : (lW u : Int) + (lB (mfr A 0 i) u : Int) = (lW u : Int) := by show (lW u : Int) + 0 = _; omega
      have e3 : pre ++ lF (mfr A 0 i) u = pre := List.append_nil pre
      rw [e2, e3]
      exact b2
  | k + 1, N, i, σ, u, pre, fw, fl, hi, hN, hu, hc, hp, hfw, hK, hF, hT => by
    have hin : i < n := by omega
    obtain ⟨m1, m2⟩ := hK.2 i hin
    obtain ⟨hmh, hm3⟩ := hA i hin
    have zi : zin (i : Int) 64 := zin_i (by omega) (by omega) (by omega)
    have hW := lW_le u
    have hl : mfr A (k + 1) i = (A i).1 :: mfr A k (i + 1) := rfl
    rw [hl, lB_cons, lF_cons]
    have hstep : x_X1_search_b15 (x_X1_search N) u (lW u : Int) (pre.length : Int) σ (i : Int) = (if (A i).1 &&& u = 0 then (x_X1_search N (zu σ 5 pre.length (Int64.toInt (A i).1)) ((i : Int) + 1) (u ||| (A i).1) ((lW u : Int) + (lW (A i).1 : Int)) ((pre.length : Int) + 1)).bind fun σ8 => some (.inl (σ8, (i : Int) + 1)) else some (.inl (σ, (i : Int) + 1))) := by
      unfold x_X1_search_b15
      rw [hK.1, if_neg (by rw [zwn (by omega)]; omega), if_neg (by rw [zwn (by omega), zwn (by omega)]; omega), if_neg (by rw [zw_eq (x := (64 : Int)) (by omega) (by omega), zwn (by omega)]; omega), if_neg (by rw [zw_eq (x := (4 : Int)) (by omega) (by omega), zwn (by omega)]; omega)]
      simp only [if_pos zi, bnd_eq]
      rw [zix_nat (by omega), m1]
      by_cases e : (A i).1 &&& u = 0
      · rw [if_neg (by rw [Ne, zcmp_e]; exact fun z => z e), if_pos e, if_pos (zin_i (by omega) (by omega) (by omega)), zix_nat (by omega)]
        rw [zu_miss _ _ _ _ (fun z => by cases z), zu_miss _ _ _ _ (fun z => by cases z), m1, m2]
      · rw [if_pos (by rw [Ne, zcmp_e]; exact e), if_neg e]
    by_cases e : (A i).1 &&& u = 0
    · rw [if_pos e] at hstep ⊢
      have hc1 := cnt_dj e
      have hu1 := sb_or hu hmh
      have hc2 := cnt_sb hu1
      have hW1 := lW_or e
      have hW2 := lW_le (u ||| (A i).1)
      have hK1 : KW (zu σ 5 pre.length (Int64.toInt (A i).1)) n A := ⟨by rw [zu_miss _ _ _ _ (fun z => by cases z)]; exact hK.1, fun j hj => by
        rw [zu_miss _ _ _ _ (fun z => by cases z), zu_miss _ _ _ _ (fun z => by cases z)]; exact hK.2 j hj⟩
      have hF1 : FS (zu σ 5 pre.length (Int64.toInt (A i).1)) fw fl := ⟨by rw [zu_miss _ _ _ _ (fun z => by cases z)]; exact hF.1, by rw [zu_miss _ _ _ _ (fun z => by cases z)]; exact hF.2.1, fun j x hx => by
        rw [zu_miss _ _ _ _ (fun z => by cases z)]; exact hF.2.2 j x hx⟩
      have hT1 : TS (zu σ 5 pre.length (Int64.toInt (A i).1)) (pre ++ [(A i).1]) := fun j x hx => by
        rcases Nat.lt_trichotomy j pre.length with c | c | c
        · rw [List.getElem?_append_left c] at hx
          rw [zu_miss _ _ _ _ (fun _ => by omega)]
          exact hT j x hx
        · subst c
          simp at hx
          subst hx
          rw [zu_hit, zL_toInt]
        · rw [List.getElem?_eq_none (by simp; omega)] at hx
          cases hx
      have hlen : (pre ++ [(A i).1]).length = pre.length + 1 := by simp
      obtain ⟨N', hN'⟩ : ∃ N', N = N' + 1 := ⟨N - 1, by omega⟩
      subst hN'
      obtain ⟨σ1, r1, r2, r3, r4⟩ := X1_search_loop hn hA h11 k N' (i + 1) _ (u ||| (A i).1) (pre ++ [(A i).1]) fw fl (by omega) (by omega) hu1 (by omega) (by omega) hfw hK1 hF1 hT1
      have hrec : x_X1_search (N' + 1) (zu σ 5 pre.length (Int64.toInt (A i).1)) ((i : Int) + 1) (u ||| (A i).1) ((lW u : Int) + (lW (A i).1 : Int)) ((pre.length : Int) + 1) = some σ1 := by
        have g1 : (lW u : Int) + (lW (A i).1 : Int) = (lW (u ||| (A i).1) : Int) := by omega
        have g2 : (pre.length : Int) + 1 = ((pre ++ [(A i).1]).length : Int) := by omega
        have g3 : (i : Int) + 1 = ((i + 1 : Nat) : Int) := by omega
        rw [g1, g2, g3]
        show x_X1_search_1 (x_X1_search N') _ _ _ _ _ = _
        unfold x_X1_search_1
        rw [if_neg (by rw [zwn (by omega)]; omega), if_pos (by rw [zw_eq (x := (4 : Int)) (by omega) (by omega), zwn (by omega)]; omega)]
        exact r1
      rw [hrec, Option.bind_some] at hstep
      rw [lup_inl (s := (σ, (i : Int))) hstep]
      have hT2 : TS σ1 pre := fun j x hx => r3 j x (by
        have hj : j < pre.length := by
          rcases Nat.lt_or_ge j pre.length with z | z
          · exact z
          · rw [List.getElem?_eq_none z] at hx; cases hx
        rw [List.getElem?_append_left hj]; exact hx)
      have hBle : (lW (u ||| (A i).1) : Int) + (lB (mfr A k (i + 1)) (u ||| (A i).1) : Int) ≤ 520 := by
        have h8 := lB_le (h := h) (mfr A k (i + 1)) (u ||| (A i).1) (fun m hm => by
          obtain ⟨j, j1, j2, j3⟩ := mfr_mem hm
          rw [← j3]; exact (hA j (by omega)).1) hu1
        have := lW_le h
        omega
      have g3 : (i : Int) + 1 = ((i + 1 : Nat) : Int) := by omega
      rw [g3]
      obtain ⟨σ2, q1, q2, q3, q4⟩ := X1_search_loop hn hA h11 k (N' + 1) (i + 1) σ1 u pre _ _ (by omega) hN hu hc hp (by split <;> omega) r2 r4 hT2
      refine ⟨σ2, q1, q2, q3, ?_⟩
      have ea : pre ++ [(A i).1] ++ lF (mfr A k (i + 1)) (u ||| (A i).1) = pre ++ (A i).1 :: lF (mfr A k (i + 1)) (u ||| (A i).1) := by simp
      rw [ea] at q4
      rw [hW1] at q4
      exact FS_comb e q4
    · rw [if_neg e] at hstep ⊢
      have c5 : ¬ ((A i).1 &&& u = 0 ∧ lB (mfr A k (i + 1)) u ≤ lW (A i).1 + lB (mfr A k (i + 1)) (u ||| (A i).1)) := fun z => e z.1
      simp only [if_neg c5]
      rw [lup_inl (s := (σ, (i : Int))) hstep]
      have g3 : (i : Int) + 1 = ((i + 1 : Nat) : Int) := by omega
      rw [g3]
      exact X1_search_loop hn hA h11 k N (i + 1) σ u pre fw fl (by omega) hN hu hc hp hfw hK hF hT
