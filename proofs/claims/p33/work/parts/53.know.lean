/-! The model's findKnock -/
def CM (σ : Mm) (T : List Int64) (L : Int64) : Prop := σ 0 21 = (T.length : Int) ∧ (∀ j x, T[j]? = some x → zL (σ 24 j) = x) ∧ zL (σ 0 18) = L
/-- the table's melds, apart from what is left -/
def TL (T : List Int64) (L : Int64) : Prop := T.length ≤ 4 ∧ ∀ m ∈ T, tM m ∧ m &&& L = 0
theorem X7_in {σ : Mm} {T : List Int64} {L : Int64} {c : Nat} (hT : CM σ T L) (hL : TL T L) (hc : c < 52) : ∀ (l : List Int64) (i : Nat), i ≤ T.length → T.drop i = l → lup (fun (s7 : Int) => x_X7_nextAdded_b10 σ (c : Int) s7) (i : Int) = some (match (if bs L c = true then tkF c l i else none) with
    | some j => .inl (j : Int)
    | none => .inr ())
  | [], i, hi, hd => by
    have h4 := hL.1
    have hl : T.length ≤ i := List.drop_eq_nil_iff.mp hd
    have : (if bs L c = true then tkF c [] i else none) = none := by split <;> rfl
    rw [this]
    refine lup_inr ?_
    show x_X7_nextAdded_b10 σ (c : Int) (i : Int) = _
    unfold x_X7_nextAdded_b10
    rw [hT.1, if_pos (by rw [zwn (n := T.length) (by omega), zwn (n := i) (by omega)]; omega)]
  | m :: l, i, hi, hd => by
    have h4 := hL.1
    obtain ⟨h1, h2, h3⟩ := drop_at hd
    obtain ⟨hm1, hm2⟩ := hL.2 m (List.mem_of_getElem? h1)
    have hbody : x_X7_nextAdded_b10 σ (c : Int) (i : Int) = if bs L c = true then (if kK (m ||| one c) = 0 then some (.inl ((i : Int) + 1)) else some (.inr (.inl (i : Int)))) else some (.inr (.inr ())) := by
      unfold x_X7_nextAdded_b10
      rw [hT.1, hT.2.2, if_neg (nle_n (by omega) (by omega))]
      simp only [bit_1f L (show c < 64 by omega)]
      by_cases e : bs L c = true
      · have hbm : bs m c = false := by
          cases w : bs m c
          · rfl
          · have := (dj_iff _ _).mp hm2 c w
            rw [e] at this; cases this
        rw [if_pos e, if_neg (by rw [e]; decide), if_pos (zin_i (by omega) (by omega) (by omega)), zix_nat (n := i) (by omega), hT.2.1 i m h1, X7_takes hm1 hc hbm, Option.bind_some]
        by_cases e2 : kK (m ||| one c) = 0
        · rw [if_pos e2, if_pos e2, if_pos (by decide)]; rfl
        · rw [if_neg e2, if_neg e2, if_neg (by decide)]
      · have e : bs L c = false := by simpa using e
        rw [e, if_pos rfl, if_neg (by decide)]
    by_cases e : bs L c = true
    · rw [if_pos e] at hbody ⊢
      unfold tkF
      by_cases e2 : kK (m ||| one c) = 0
      · rw [if_pos e2] at hbody ⊢
        rw [lup_inl (f := fun (s7 : Int) => x_X7_nextAdded_b10 σ (c : Int) s7) hbody]
        have := X7_in hT hL hc l (i + 1) (by omega) h2
        rw [if_pos e] at this
        rw [show ((i : Int) + 1) = ((i + 1 : Nat) : Int) by omega]
        exact this
      · rw [if_neg e2] at hbody ⊢
        exact lup_inr (f := fun (s7 : Int) => x_X7_nextAdded_b10 σ (c : Int) s7) hbody
    · rw [if_neg e] at hbody ⊢
      exact lup_inr (f := fun (s7 : Int) => x_X7_nextAdded_b10 σ (c : Int) s7) hbody
theorem X7_out {σ : Mm} {T : List Int64} {L : Int64} (hT : CM σ T L) (hL : TL T L) : ∀ (k c : Nat), c + k = 52 → lup (fun (s12 : Int) => x_X7_nextAdded_b2 σ s12) (c : Int) = some (match nxF T L k c with
    | some q => .inl ((q.1 : Int), (q.2 : Int))
    | none => .inr ())
  | 0, c, h => by
    refine lup_inr ?_
    show x_X7_nextAdded_b2 σ (c : Int) = _
    unfold x_X7_nextAdded_b2
    rw [zw_eq (x := (52 : Int)) (by omega) (by omega), zwn (by omega), if_pos (by omega)]
    rfl
  | k + 1, c, h => by
    have hin := X7_in hT hL (c := c) (by omega) T 0 (by omega) rfl
    have hbody : x_X7_nextAdded_b2 σ (c : Int) = (match (if bs L c = true then tkF c T 0 else none) with
      | some j => some (.inr (.inl ((c : Int), (j : Int))))
      | none => some (.inl ((c : Int) + 1))) := by
      unfold x_X7_nextAdded_b2
      rw [zw_eq (x := (52 : Int)) (by omega) (by omega), zwn (by omega), if_neg (by omega)]
      have hin : lup (fun (s7 : Int) => x_X7_nextAdded_b10 σ (c : Int) s7) (0 : Int) = _ := hin
      rw [hin, Option.bind_some]
      cases (if bs L c = true then tkF c T 0 else none) <;> rfl
    have next := X7_out hT hL k (c + 1) (by omega)
    have e1 : ((c : Int) + 1) = ((c + 1 : Nat) : Int) := by omega
    unfold nxF
    by_cases e : bs L c = true
    · rw [if_pos e] at hbody ⊢
      cases e2 : tkF c T 0 with
      | some j =>
        rw [e2] at hbody
        exact lup_inr (f := fun (s12 : Int) => x_X7_nextAdded_b2 σ s12) hbody
      | none =>
        rw [e2] at hbody
        rw [lup_inl (f := fun (s12 : Int) => x_X7_nextAdded_b2 σ s12) hbody, e1]
        exact next
    · rw [if_neg e] at hbody ⊢
      rw [lup_inl (f := fun (s12 : Int) => x_X7_nextAdded_b2 σ s12) hbody, e1]
      exact next
def cdN (o : Option (Nat × Nat)) : Int := match o with
  | some q => ((64 * q.1 + q.2 : Nat) : Int)
  | none => -1
theorem X7_nextAdded {σ : Mm} {T : List Int64} {L : Int64} (hT : CM σ T L) (hL : TL T L) : x_X7_nextAdded σ = some (cdN (nxF T L 52 0)) := by
  have ho := X7_out hT hL 52 0 (by omega)
  unfold x_X7_nextAdded
  have ho : lup (fun (s12 : Int) => x_X7_nextAdded_b2 σ s12) (0 : Int) = _ := ho
  rw [ho, Option.bind_some]
  cases nxF T L 52 0 with
  | none => rfl
  | some q =>
    show some ((64 : Int) * (q.1 : Int) + (q.2 : Int)) = some ((64 * q.1 + q.2 : Nat) : Int)
    congr 1
/-- scratch of the model's knocks -/
def SK (σ σ' : Mm) : Prop := (∀ c, c ≠ 0 → (c < 20 ∨ 25 ≤ c) → σ' c = σ c) ∧ ∀ j, (j < 12 ∨ 25 ≤ j) → σ' 0 j = σ 0 j
theorem SK_of {σ σ' : Mm} (h : SC σ σ') : SK σ σ' := ⟨fun c h1 h2 => h.1 c h1 (by omega), fun j hj => h.2 j (by omega)⟩
theorem SK_t {σ σ' σ'' : Mm} (h : SK σ σ') (h2 : SK σ' σ'') : SK σ σ'' := ⟨fun c h3 h4 => (h2.1 c h3 h4).trans (h.1 c h3 h4), fun j hj => (h2.2 j hj).trans (h.2 j hj)⟩
theorem SK_r (σ : Mm) : SK σ σ := ⟨fun _ _ _ => rfl, fun _ _ => rfl⟩
theorem SK_u (σ : Mm) {k j : Nat} (v : Int) (h : (20 ≤ k ∧ k < 25) ∨ (k = 0 ∧ 12 ≤ j ∧ j < 25)) : SK σ (zu σ k j v) := by
  refine ⟨fun c h1 h2 => ?_, fun i hi => ?_⟩
  · unfold zu
    rw [if_neg (by omega)]
  · rw [zu_miss _ _ _ _ (fun z => by omega)]
theorem cnt_rm {L : Int64} {c : Nat} (hc : c < 64) (h : bs L c = true) : cnt (bs L) 64 = 1 + cnt (bs (dif L (one c))) 64 := by
  rw [cnt_dif (S := L) (m := one c) ((sb_iff _ _).mpr (fun j hj => by
    rw [bs_one2 hc, decide_eq_true_eq] at hj
    rw [hj]; exact h)), cnt_one hc]
theorem TL_set {T : List Int64} {L : Int64} {q : Nat × Nat} (hL : TL T L) (e : nxF T L 52 0 = some q) : TL (setT T q.1 q.2) (dif L (one q.1)) := by
  obtain ⟨a1, a2, m, a3, a5, a6, a7⟩ := nx_at e
  rw [a6]
  refine ⟨by rw [List.length_set]; exact hL.1, fun y hy => ?_⟩
  have hsub : ∀ y, y &&& L = 0 → y &&& dif L (one q.1) = 0 := fun y hy => (dj_iff _ _).mpr (fun c hc => by
    rw [bs_dif2, (dj_iff _ _).mp hy c hc]; rfl)
  rcases mem_set hy with hy | hy
  · exact ⟨(hL.2 y hy).1, hsub y (hL.2 y hy).2⟩
  · obtain ⟨m1, m2⟩ := hL.2 m (List.mem_of_getElem? a3)
    have hbm : bs m q.1 = false := by
      cases w : bs m q.1
      · rfl
      · have := (dj_iff _ _).mp m2 _ w
        rw [a2] at this; cases this
    subst hy
    refine ⟨tM_add m1 a1 hbm a5, (dj_iff _ _).mpr (fun c hc => ?_)⟩
    rw [bs_add m (by omega), Bool.or_eq_true_iff, decide_eq_true_eq] at hc
    rw [bs_dif2, bs_one2 (by omega)]
    rcases hc with hc | hc
    · rw [(dj_iff _ _).mp m2 c hc]; rfl
    · rw [hc]; simp
theorem X7_kloop : ∀ (n k : Nat) (σ : Mm) (T : List Int64) (L : Int64), cnt (bs L) 64 ≤ n → CM σ T L → TL T L → σ 0 24 = (k : Int) → ∃ σ', lup (fun (s24 : Mm × Int) => x_X7_findKnock_b93 s24.1 s24.2) (σ, cdN (nxF T L 52 0)) = some σ' ∧ zL (σ' 0 18) = (adF n T L k).1 ∧ σ' 0 24 = ((adF n T L k).2 : Int) ∧ σ' 0 22 = σ 0 22 ∧ SK σ σ'
  | n, k, σ, T, L, hn, hT, hL, hk => by
    cases e : nxF T L 52 0 with
    | none =>
      have hz : adF n T L k = (L, k) := by
        cases n with
        | zero => rfl
        | succ n => unfold adF; rw [e]
      rw [hz]
      refine ⟨σ, lup_inr ?_, hT.2.2, hk, rfl, SK_r σ⟩
      show x_X7_findKnock_b93 σ (-1) = _
      unfold x_X7_findKnock_b93
      rw [if_pos rfl]
    | some q =>
      obtain ⟨a1, a2, m, a3, a5, a6, a7⟩ := nx_at e
      have h4 := hL.1
      have hc := cnt_rm (L := L) (c := q.1) (by omega) a2
      cases n with
      | zero => omega
      | succ n =>
        have hTL := TL_set hL e
        have z1 : zrem (((64 * q.1 + q.2 : Nat) : Int)) (64 : Int) = (q.2 : Int) := by
          have := zrem_nat (a := 64 * q.1 + q.2) (b := 64) (by omega) (by omega) (by omega)
          rw [show (64 * q.1 + q.2) % 64 = q.2 by omega] at this
          exact this
        have z2 : zdiv (((64 * q.1 + q.2 : Nat) : Int)) (64 : Int) = (q.1 : Int) := by
          have := zdiv_nat (a := 64 * q.1 + q.2) (b := 64) (by omega) (by omega) (by omega)
          rw [show (64 * q.1 + q.2) / 64 = q.1 by omega] at this
          exact this
        generalize hσ1 : zu σ 24 q.2 (Int64.toInt (m ||| one q.1)) = σ1
        generalize hσ2 : zu σ1 0 18 (Int64.toInt (dif L (one q.1))) = σ2
        generalize hσ3 : zu σ2 0 24 ((k : Int) + 1) = σ3
        have e18 : σ1 0 18 = σ 0 18 := by rw [← hσ1]; exact zu_miss _ _ _ _ (fun z => by omega)
        have e24 : σ2 0 24 = (k : Int) := by rw [← hσ2, zu_miss _ _ _ _ (fun _ => by decide), ← hσ1, zu_miss _ _ _ _ (fun z => by omega)]; exact hk
        have hCM : CM σ3 (setT T q.1 q.2) (dif L (one q.1)) := by
          rw [a6]
          refine ⟨?_, fun j x hx => ?_, ?_⟩
          · rw [List.length_set, ← hσ3, zu_miss _ _ _ _ (fun _ => by decide), ← hσ2, zu_miss _ _ _ _ (fun _ => by decide), ← hσ1, zu_miss _ _ _ _ (fun z => by omega)]
            exact hT.1
          · rw [← hσ3, zu_miss _ _ _ _ (fun z => by omega), ← hσ2, zu_miss _ _ _ _ (fun z => by omega), ← hσ1]
            rcases set_at hx with ⟨b1, b2⟩ | ⟨b1, b2⟩
            · rw [b1, zu_hit, zL_toInt, b2]
            · rw [zu_miss _ _ _ _ (fun _ => b1)]
              exact hT.2.1 j x b2
          · rw [← hσ3, zu_miss _ _ _ _ (fun _ => by decide), ← hσ2, zu_hit, zL_toInt]
        have hSK : SK σ σ3 := by
          rw [← hσ3, ← hσ2, ← hσ1]
          exact SK_t (SK_u _ _ (.inl (by omega))) (SK_t (SK_u _ _ (.inr (by omega))) (SK_u _ _ (.inr (by omega))))
        have h22 : σ3 0 22 = σ 0 22 := by
          rw [← hσ3, zu_miss _ _ _ _ (fun _ => by decide), ← hσ2, zu_miss _ _ _ _ (fun _ => by decide), ← hσ1, zu_miss _ _ _ _ (fun z => by omega)]
        have hstep : x_X7_findKnock_b93 σ (cdN (some q)) = some (.inl (σ3, cdN (nxF (setT T q.1 q.2) (dif L (one q.1)) 52 0))) := by
          show x_X7_findKnock_b93 σ ((64 * q.1 + q.2 : Nat) : Int) = _
          unfold x_X7_findKnock_b93
          rw [if_neg (by rw [zwn (by omega), zw_eq (x := (-1 : Int)) (by omega) (by omega)]; omega), z1, z2, if_pos (zin_i (by omega) (by omega) (by omega)), if_pos (zin_i (by omega) (by omega) (by omega)), bnd_eq, zix_nat (n := q.2) (by omega), hT.2.1 _ _ a3]
          show bnd (zu (zu σ 24 q.2 (Int64.toInt (m ||| one q.1))) 0 18 (Int64.toInt (dif (zL (zu σ 24 q.2 (Int64.toInt (m ||| one q.1)) 0 18)) (one q.1)))) _ = _
          rw [hσ1, e18, hT.2.2, bnd_eq, hσ2, e24, bnd_eq, hσ3, X7_nextAdded hCM hTL, Option.bind_some]
        rw [lup_inl (f := fun (s24 : Mm × Int) => x_X7_findKnock_b93 s24.1 s24.2) (s := (σ, cdN (some q))) hstep]
        obtain ⟨σ', k1, k2, k3, k4, k5⟩ := X7_kloop n (k + 1) σ3 (setT T q.1 q.2) (dif L (one q.1)) (by omega) hCM hTL (by rw [← hσ3, zu_hit]; omega)
        unfold adF
        rw [e]
        exact ⟨σ', k1, k2, k3, k4.trans h22, SK_t hSK k5⟩
theorem dl_sb2 (p : Int64) : ∀ F : List Int64, sb (dl p F) p := fun F => by
  have : ∀ (F : List Int64) (q : Int64), sb q p → sb (F.foldl (fun a m => dif a m) q) p := fun F => by
    induction F with
    | nil => exact fun q h => h
    | cons m F ih => exact fun q h => ih (dif q m) (sb_tr (sb_dif q m) h)
  exact this F p (sb_self p)
theorem sel_2 {σ : Mm} {p : Int} {P : Int64} (h : hnd σ p P) {k : Nat} (hk : k < 52) : ∀ c, c < 52 → bs (dif P (one k)) c = selB σ p (k : Int) (-1) c := fun c hc => by
  unfold selB
  have e : ¬ zw (c : Int) = zw (-1) := by rw [zwn (by omega), zw_eq (x := (-1 : Int)) (by omega) (by omega)]; omega
  rw [decide_eq_false e, bs_dif2, h.2 c hc, bs_one2 (by omega), Bool.or_false, Bool.and_comm]
  congr 1
  rw [zwn (by omega), zwn (by omega)]
  by_cases w : c = k
  · simp [w]
  · have : ¬ (c : Int) = (k : Int) := by omega
    simp [w, this]
theorem hnd_SK {σ σ' : Mm} {p : Int} {P : Int64} (h : hnd σ p P) (hs : SK σ σ') : hnd σ' p P := ⟨h.1, fun c hc => by rw [hs.1 1 (by omega) (by omega)]; exact h.2 c hc⟩
theorem cnt_rm_le {P : Int64} (k : Nat) : cnt (bs (dif P (one k))) 64 ≤ cnt (bs P) 64 := cnt_sb (sb_dif P (one k))
theorem X7_findKnock {σ : Mm} {P Q : Int64} {c : Nat} (hP : hnd σ (σ 1 4) P) (hQ : hnd σ (1 - σ 1 4) Q) (hd : P &&& Q = 0) (hc : c < 52) (hp : cnt (bs P) 64 ≤ 11) (hq : cnt (bs Q) 64 ≤ 11) : ∃ σ', x_X7_findKnock σ (c : Int) = some σ' ∧ σ' 0 22 = ((RR (dif P (one c)) (dif P (one c)) : Nat) : Int) ∧ σ' 0 23 = ((lW (sho (dif P (one c)) Q).1 : Nat) : Int) ∧ σ' 0 24 = (((sho (dif P (one c)) Q).2 : Nat) : Int) ∧ SK σ σ' := by
  have hcw := cw_dif (one c) hP.1
  have h11 : cnt (bs (dif P (one c))) 64 ≤ 11 := Nat.le_trans (cnt_rm_le c) hp
  have z4 : zix (4 : Int) = 4 := by decide
  obtain ⟨σ2, H, a1, a2, a3⟩ := X7_takeHand σ (σ 1 4) (c : Int) (-1) hcw h11 (sel_2 hP hc)
  obtain ⟨σ3, b1, ⟨b2, b3, b4, b5⟩, b6, b7⟩ := X7_layOut a2
  obtain ⟨l1, l2, l3, l4⟩ := Lay_ok hcw h11
  have hR := RR_le hcw h11 (sb_self (dif P (one c)))
  unfold x_X7_findKnock
  rw [if_pos (by decide), z4, a1, Option.bind_some, b1, Option.bind_some, bnd_eq, bnd_eq]
  have e17 : zu σ3 0 22 (σ3 0 19) 0 17 = ((Lay (dif P (one c))).length : Int) := by
    rw [zu_miss _ _ _ _ (fun _ => by decide)]; exact b2
  rw [e17, b5]
  generalize hP' : dif P (one c) = P' at *
  generalize hσ5 : zu (zu σ3 0 22 ((RR P' P' : Nat) : Int)) 0 21 ((Lay P').length : Int) = σ5
  have hSK5 : SK σ σ5 := by
    rw [← hσ5]
    exact SK_t (SK_of a3) (SK_t (SK_of b7) (SK_t (SK_u _ _ (.inr (by omega))) (SK_u _ _ (.inr (by omega)))))
  have f17 : σ5 0 17 = ((Lay P').length : Int) := by
    rw [← hσ5, zu_miss _ _ _ _ (fun _ => by decide), zu_miss _ _ _ _ (fun _ => by decide)]; exact b2
  have f21 : σ5 0 21 = ((Lay P').length : Int) := by rw [← hσ5, zu_hit]
  have f22 : σ5 0 22 = ((RR P' P' : Nat) : Int) := by rw [← hσ5, zu_miss _ _ _ _ (fun _ => by decide), zu_hit]
  have f23 : ∀ j x, (Lay P')[j]? = some x → zL (σ5 23 j) = x := fun j x hx => by
    rw [← hσ5, zu_miss _ _ _ _ (fun z => by omega), zu_miss _ _ _ _ (fun z => by omega)]; exact b3 j x hx
  -- the melds go onto the table
  obtain ⟨σ13, c1, c2, c3⟩ := lup_for (f := fun (s11 : Mm × Int) => x_X7_findKnock_b34 s11.1 s11.2) (fun i s => s.2 = (i : Int) ∧ (∀ k, k ≠ 24 → s.1 k = σ5 k) ∧ ∀ j, j < i → zL (s.1 24 j) = zL (σ5 23 j)) (fun e => (∀ k, k ≠ 24 → e k = σ5 k) ∧ ∀ j, j < (Lay P').length → zL (e 24 j) = zL (σ5 23 j)) (Lay P').length (fun i s hi hs => by
    obtain ⟨τ, u⟩ := s
    obtain ⟨h1, h2, h3⟩ := hs
    simp only at h1 h2 h3
    subst h1
    refine ⟨(zu τ 24 i (Int64.toInt (zL (τ 23 i))), (i : Int) + 1), ?_, by show (i : Int) + 1 = _; omega, fun k hk => ?_, fun j hj => ?_⟩
    · show x_X7_findKnock_b34 τ (i : Int) = _
      unfold x_X7_findKnock_b34
      rw [h2 0 (by omega), f17, if_neg (by rw [zwn (by omega), zwn (by omega)]; omega), if_pos (zin_i (by omega) (by omega) (by omega)), if_pos (zin_i (by omega) (by omega) (by omega)), zix_nat (n := i) (by omega), bnd_eq, bnd_eq]
    · show zu τ 24 i _ k = _
      unfold zu
      rw [if_neg hk]; exact h2 k hk
    · show zL (zu τ 24 i (Int64.toInt (zL (τ 23 i))) 24 j) = _
      by_cases w : j = i
      · rw [w, zu_hit, zL_toInt, h2 23 (by omega)]
      · rw [zu_miss _ _ _ _ (fun _ => w)]
        exact h3 j (by omega)) (fun s hs => by
    obtain ⟨τ, u⟩ := s
    obtain ⟨h1, h2, h3⟩ := hs
    simp only at h1 h2 h3
    subst h1
    refine ⟨τ, ?_, h2, h3⟩
    show x_X7_findKnock_b34 τ _ = _
    unfold x_X7_findKnock_b34
    rw [h2 0 (by omega), f17, if_pos (Int.le_refl _)]) (s := (σ5, 0)) ⟨rfl, fun _ _ => rfl, fun j hj => by omega⟩
  rw [c1, Option.bind_some, if_pos (by decide), c2 1 (by omega), hSK5.1 1 (by omega) (by omega)]
  have hSK13 : SK σ σ13 := SK_t hSK5 ⟨fun k h1 h2 => by rw [c2 k (by omega)], fun j hj => by rw [c2 0 (by omega)]⟩
  obtain ⟨σ15, H2, d1, ⟨d2, d3, d4, d5⟩, d6, d7⟩ := X7_layOutOf (hnd_SK hQ hSK13) hq
  rw [d1, Option.bind_some, bnd_eq]
  generalize hσ16 : zu σ15 0 24 0 = σ16
  have hSK16 : SK σ σ16 := by
    rw [← hσ16]
    exact SK_t hSK13 (SK_t (SK_of d7) (SK_u _ _ (.inr (by omega))))
  have g22 : σ16 0 22 = ((RR P' P' : Nat) : Int) := by
    rw [← hσ16, zu_miss _ _ _ _ (fun _ => by decide), d7.2 22 (by omega), c2 0 (by omega)]; exact f22
  have hCM : CM σ16 (Lay P') (dl Q (Lay Q)) := by
    refine ⟨?_, fun j x hx => ?_, ?_⟩
    · rw [← hσ16, zu_miss _ _ _ _ (fun _ => by decide), d7.2 21 (by omega), c2 0 (by omega)]; exact f21
    · rw [← hσ16, zu_miss _ _ _ _ (fun z => by omega), d7.1 24 (by omega) (by omega), c3 j (List.getElem?_eq_some_iff.mp hx).1]
      exact f23 j x hx
    · rw [← hσ16, zu_miss _ _ _ _ (fun _ => by decide)]; exact d4
  have hTL : TL (Lay P') (dl Q (Lay Q)) := ⟨by omega, fun m hm => ⟨tM_of (l2 m hm).2, (dj_iff _ _).mpr (fun k hk => by
    have k1 := (sb_iff _ _).mp (l2 m hm).1 k hk
    rw [← hP'] at k1
    have k2 := (sb_iff _ _).mp (sb_dif P (one c)) k k1
    have k3 := (dj_iff _ _).mp hd k k2
    cases w : bs (dl Q (Lay Q)) k
    · rfl
    · have := (sb_iff _ _).mp (dl_sb2 Q (Lay Q)) k w
      rw [k3] at this; cases this)⟩⟩
  have g24 : σ16 0 24 = 0 := by rw [← hσ16, zu_hit]
  have key : ∃ τ, lup (fun (s24 : Mm × Int) => x_X7_findKnock_b93 s24.1 s24.2) (σ16, if zw (σ16 0 22) ≤ 0 then -1 else cdN (nxF (Lay P') (dl Q (Lay Q)) 52 0)) = some τ ∧ zL (τ 0 18) = (sho P' Q).1 ∧ τ 0 24 = ((sho P' Q).2 : Int) ∧ τ 0 22 = σ16 0 22 ∧ SK σ16 τ := by
    unfold sho
    rw [g22, zwn (by omega)]
    by_cases e : 0 < RR P' P'
    · rw [if_pos e, if_neg (by omega)]
      have hc52 : cnt (bs (dl Q (Lay Q))) 64 ≤ 52 := by
        have := cnt_sb (dl_sb2 Q (Lay Q))
        omega
      obtain ⟨τ, t1, t2, t3, t4, t5⟩ := X7_kloop 52 0 σ16 _ _ hc52 hCM hTL g24
      exact ⟨τ, t1, t2, t3, t4.trans g22, t5⟩
    · rw [if_neg e, if_pos (by omega)]
      refine ⟨σ16, lup_inr ?_, hCM.2.2, g24, g22, SK_r _⟩
      show x_X7_findKnock_b93 σ16 (-1) = _
      unfold x_X7_findKnock_b93
      rw [if_pos rfl]
  obtain ⟨τ, t1, t2, t3, t4, t5⟩ := key
  have hj : ∀ v, v = (if zw (σ16 0 22) ≤ 0 then -1 else cdN (nxF (Lay P') (dl Q (Lay Q)) 52 0)) → x_X7_findKnock_j92 σ16 v = some (zu τ 0 23 ((lW (sho P' Q).1 : Nat) : Int)) := fun v hv => by
    subst hv
    unfold x_X7_findKnock_j92
    rw [t1, Option.bind_some, t2, X7_pointsOf, Option.bind_some, bnd_eq]
    rfl
  refine ⟨zu τ 0 23 ((lW (sho P' Q).1 : Nat) : Int), ?_, ?_, zu_hit _ _ _ _, ?_, SK_t hSK16 (SK_t t5 (SK_u _ _ (.inr (by omega))))⟩
  · by_cases e : zw (σ16 0 22) ≤ 0
    · rw [if_pos e]
      exact hj _ (by rw [if_pos e])
    · rw [if_neg e, X7_nextAdded hCM hTL, Option.bind_some]
      exact hj _ (by rw [if_neg e])
  · rw [zu_miss _ _ _ _ (fun _ => by decide), t4, g22]
  · rw [zu_miss _ _ _ _ (fun _ => by decide), t3]
