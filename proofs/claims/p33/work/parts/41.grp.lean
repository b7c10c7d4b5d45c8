/-! The row is short enough; its groups -/
theorem runs_all (r : Nat) (h : r < 8192) : runsOk r = true := by
  have h1 : r = 1024 * (r / 1024) + r % 1024 := by omega
  have h2 : r % 1024 < 1024 := by omega
  have h3 : r / 1024 = 0 ∨ r / 1024 = 1 ∨ r / 1024 = 2 ∨ r / 1024 = 3 ∨ r / 1024 = 4 ∨ r / 1024 = 5 ∨ r / 1024 = 6 ∨ r / 1024 = 7 := by omega
  rcases h3 with e | e | e | e | e | e | e | e <;> rw [e] at h1 <;> rw [h1]
  · exact runs_0 _ h2
  · exact runs_1 _ h2
  · exact runs_2 _ h2
  · exact runs_3 _ h2
  · exact runs_4 _ h2
  · exact runs_5 _ h2
  · exact runs_6 _ h2
  · exact runs_7 _ h2
theorem cRuns_len {p : Int64} {s : Nat} (hs : s < 4) (h11 : cnt (bs p) 64 ≤ 11) : 11 * (cRuns ((zlushr p ((s : Int) * 13)) &&& 8191) ((s : Int) * 13)).length ≤ 45 * cnt (fun c => bs p (13 * s + c)) 13 := by
  have e1 : cnt (fun c => (un ((zlushr p ((s : Int) * 13)) &&& 8191)).testBit c) 13 = cnt (fun c => bs p (13 * s + c)) 13 := by
    refine cnt_congr (fun c hc => ?_)
    rw [← bs_un, bs_ranks p hs]
    simp [hc]
  have e2 : cnt (fun c => bs p (13 * s + c)) 13 ≤ 11 := by
    have h1 := cnt_split (bs p) (13 * s) (64 - 13 * s)
    have h2 := cnt_split (fun c => bs p (13 * s + c)) 13 (64 - 13 * s - 13)
    rw [show 13 * s + (64 - 13 * s) = 64 by omega] at h1
    rw [show 13 + (64 - 13 * s - 13) = 64 - 13 * s by omega] at h2
    omega
  have e3 : un ((zlushr p ((s : Int) * 13)) &&& 8191) < 8192 := by
    rw [un_and]
    have : un 8191 = 8191 := by decide +kernel
    rw [this]
    have := @Nat.and_le_right (un (zlushr p ((s : Int) * 13))) 8191
    omega
  have h := runs_all _ e3
  unfold runsOk at h
  rw [e1] at h
  simp only [Bool.or_eq_true, decide_eq_true_eq] at h
  unfold cRuns
  by_cases e : 3 ≤ cnt (bs ((zlushr p ((s : Int) * 13)) &&& 8191)) 64
  · rw [if_pos e, cR_len]
    omega
  · rw [if_neg e]; simp
theorem cS_len {p : Int64} (hp : cw p) (h11 : cnt (bs p) 64 ≤ 11) : (cS p 4 0).length ≤ 45 := by
  have h0 := cRuns_len (p := p) (s := 0) (by decide) h11
  have h1 := cRuns_len (p := p) (s := 1) (by decide) h11
  have h2 := cRuns_len (p := p) (s := 2) (by decide) h11
  have h3 := cRuns_len (p := p) (s := 3) (by decide) h11
  have e : cS p 4 0 = cRuns ((zlushr p (((0 : Nat) : Int) * 13)) &&& 8191) (((0 : Nat) : Int) * 13) ++ (cRuns ((zlushr p (((1 : Nat) : Int) * 13)) &&& 8191) (((1 : Nat) : Int) * 13) ++ (cRuns ((zlushr p (((2 : Nat) : Int) * 13)) &&& 8191) (((2 : Nat) : Int) * 13) ++ (cRuns ((zlushr p (((3 : Nat) : Int) * 13)) &&& 8191) (((3 : Nat) : Int) * 13) ++ []))) := rfl
  have hc : cnt (bs p) 64 = cnt (fun c => bs p (13 * 0 + c)) 13 + (cnt (fun c => bs p (13 * 1 + c)) 13 + (cnt (fun c => bs p (13 * 2 + c)) 13 + cnt (fun c => bs p (13 * 3 + c)) 13)) := by
    rw [cnt52 hp, show (52 : Nat) = 13 + (13 + (13 + 13)) by decide, cnt_split, cnt_split, cnt_split]
    have z1 : cnt (bs p) 13 = cnt (fun c => bs p (13 * 0 + c)) 13 := cnt_congr (fun c _ => by rw [show 13 * 0 + c = c by omega])
    have z2 : cnt (fun c => bs p (13 + (13 + c))) 13 = cnt (fun c => bs p (13 * 2 + c)) 13 := cnt_congr (fun c _ => by rw [show 13 + (13 + c) = 13 * 2 + c by omega])
    have z3 : cnt (fun c => bs p (13 + (13 + (13 + c)))) 13 = cnt (fun c => bs p (13 * 3 + c)) 13 := cnt_congr (fun c _ => by rw [show 13 + (13 + (13 + c)) = 13 * 3 + c by omega])
    rw [z1, z2, z3]
  rw [e, List.length_append, List.length_append, List.length_append, List.length_append, List.length_nil]
  omega
theorem cSets_len (s : Int64) : 4 * (cSets s).length ≤ 5 * cnt (bs s) 64 := by
  unfold cSets
  by_cases e : 3 ≤ cnt (bs s) 64
  · rw [if_pos e]
    by_cases e4 : cnt (bs s) 64 = 4
    · rw [if_pos e4]
      show 4 * (1 + 1 + 1 + 1 + 1) ≤ _
      omega
    · rw [if_neg e4]
      show 4 * 1 ≤ _
      omega
  · rw [if_neg e]; simp
theorem cT_len {p : Int64} (hp : cw p) : ∀ k i : Nat, i + k = 13 → 4 * (cT p k i).length ≤ 5 * cnt (fun c => bs p c && decide (i ≤ c % 13)) 64
  | 0, i, _ => Nat.zero_le _
  | k + 1, i, hi => by
    have ih := cT_len hp k (i + 1) (by omega)
    have h1 := cSets_len (p &&& zlshl oneRank (i : Int))
    have h2 : cnt (fun c => bs p c && decide (i ≤ c % 13)) 64 = cnt (bs (p &&& zlshl oneRank (i : Int))) 64 + cnt (fun c => bs p c && decide (i + 1 ≤ c % 13)) 64 := by
      rw [cnt_psum, cnt_psum, cnt_psum, ← psum_add (fun c _ hc => by
        rw [bs_prank p (by omega)] at hc
        simp only [Bool.and_eq_true, decide_eq_true_eq] at hc
        have : ¬ i + 1 ≤ c % 13 := by omega
        simp [this])]
      refine psum_congr (fun c _ => ?_)
      rw [bs_prank p (by omega)]
      cases e : bs p c
      · rfl
      · have h52 := cw_lt hp e
        by_cases e1 : c % 13 = i
        · have a1 : i ≤ c % 13 := by omega
          simp [a1, h52, e1]
        · by_cases e2 : i ≤ c % 13
          · have a1 : i + 1 ≤ c % 13 := by omega
            simp [e2, a1]
          · have a1 : ¬ i + 1 ≤ c % 13 := by omega
            simp [e1, e2, a1]
    show 4 * (cSets (p &&& zlshl oneRank (i : Int)) ++ cT p k (i + 1)).length ≤ _
    rw [List.length_append]
    omega
theorem cAll_len {p : Int64} (hp : cw p) (h11 : cnt (bs p) 64 ≤ 11) : (cAll p).length ≤ 64 := by
  have h1 := cS_len hp h11
  have h2 := cT_len hp 13 0 rfl
  have h3 : cnt (fun c => bs p c && decide (0 ≤ c % 13)) 64 = cnt (bs p) 64 := cnt_congr (fun c _ => by simp)
  unfold cAll
  rw [List.length_append]
  omega
/-! The kind is the cards' own; an order of melds by one number -/
theorem set_run {m : Int64} (h : isSet m) (h2 : isRun m) : False := by
  obtain ⟨r, -, h3, -⟩ := h
  obtain ⟨s, f, n, h4, h5, h6, h7, h8⟩ := h2
  have a := (h3 (13 * s + (f + 0) % 13) (by rw [h8]; exact (bs_run h4 _).mpr ⟨0, by omega, rfl⟩)).2
  have b := (h3 (13 * s + (f + 1) % 13) (by rw [h8]; exact (bs_run h4 _).mpr ⟨1, by omega, rfl⟩)).2
  omega
noncomputable def kd (m : Int64) : Nat := @ite Nat (isSet m) (Classical.propDecidable _) 1 2
theorem kd_1 {m : Int64} (h : isSet m) : kd m = 1 := if_pos h
theorem kd_2 {m : Int64} (h : isRun m) : kd m = 2 := if_neg (fun z => set_run z h)
noncomputable def mR (m : Int64) : Nat := (cnt (bs m) 64 * 4 + kd m) * 18446744073709551616 + (18446744073709551615 - rv m 64)
theorem rv64_inj {x y : Int64} (h : rv x 64 = rv y 64) : x = y := by
  false_or_by_contra
  rename_i c
  have hd : x ^^^ y ≠ 0 := fun z => c (by
    apply bs_ext
    intro j _
    have := bs_nz.mp z j
    rw [bs_xor] at this
    cases e : bs x j <;> cases e2 : bs y j <;> rw [e, e2] at this <;> first | rfl | cases this)
  obtain ⟨k, hk1, hk2⟩ := low_ex hd
  have hb : ∀ j, j < k → bs x j = bs y j := fun j hj => by
    have := hk2 j hj
    rw [bs_xor] at this
    cases e : bs x j <;> cases e2 : bs y j <;> rw [e, e2] at this <;> first | rfl | cases this
  have hk := bs_lt hk1
  rw [bs_xor] at hk1
  cases e : bs x k <;> cases e2 : bs y k <;> rw [e, e2] at hk1
  · cases hk1
  · have := rv_less (fun j hj => (hb j hj).symm) e2 e hk; omega
  · have := rv_less hb e e2 hk; omega
  · cases hk1
theorem kd_r (m : Int64) : kd m = 1 ∨ kd m = 2 := by
  by_cases h : isSet m
  · exact .inl (kd_1 h)
  · exact .inr (if_neg h)
theorem mR_inj (x y : Int64) (h : mR x = mR y) : x = y := by
  apply rv64_inj
  have h1 := rv_lt x 64
  have h2 := rv_lt y 64
  unfold mR at h
  omega
theorem rv_up {x : Int64} (hx : cw x) : ∀ j, rv x (52 + j) = rv x 52 * 2 ^ j
  | 0 => by rw [Nat.pow_zero, Nat.mul_one]
  | j + 1 => by
    show 2 * rv x (52 + j) + (if bs x (52 + j) then 1 else 0) = _
    rw [rv_up hx j, hx _ (by omega), Nat.pow_succ]
    simp only [Bool.false_eq_true, if_false, Nat.add_zero]
    rw [Nat.mul_comm 2, Nat.mul_assoc]
theorem rk_mR {a b : Int64 × Int} (ha : okM a) (hb : okM b) (ka : a.2 = (kd a.1 : Int)) (kb : b.2 = (kd b.1 : Int)) (ca : cnt (bs a.1) 64 ≤ 11) (cb : cnt (bs b.1) 64 ≤ 11) (h : rk a ≤ rk b) : lo a.1 ≤ lo b.1 ∧ (lo a.1 = lo b.1 → mR a.1 ≤ mR b.1) := by
  have h1 := rv_lt a.1 52
  have h2 := rv_lt b.1 52
  have h3 := rv_up ha.2.1 12
  have h4 := rv_up hb.2.1 12
  have k1 := kd_r a.1
  have k2 := kd_r b.1
  have e1 : a.2.toNat = kd a.1 := by rw [ka]; rfl
  have e2 : b.2.toNat = kd b.1 := by rw [kb]; rfl
  unfold rk keyN at h
  unfold mR
  rw [e1, e2] at h
  rw [show 52 + 12 = 64 from rfl] at h3 h4
  rw [h3, h4]
  omega
/-- the melds of L under their least card -/
def gC (L : List Int64) (k : Nat) : List Int64 := L.filter (fun m => decide (lo m = k))
theorem lo_split {k : Nat} : ∀ {L : List Int64}, L.Pairwise (fun a b => lo a ≤ lo b) → L.filter (fun m => decide (k ≤ lo m)) = L.filter (fun m => decide (lo m = k)) ++ L.filter (fun m => decide (k + 1 ≤ lo m))
  | [], _ => rfl
  | m :: L, h => by
    obtain ⟨h1, h2⟩ := List.pairwise_cons.mp h
    have ih := lo_split (k := k) h2
    rcases Nat.lt_trichotomy (lo m) k with e | e | e
    · rw [List.filter_cons_of_neg (by simp; omega), List.filter_cons_of_neg (by simp; omega), List.filter_cons_of_neg (by simp; omega)]
      exact ih
    · rw [List.filter_cons_of_pos (by simp; omega), List.filter_cons_of_pos (by simp; omega), List.filter_cons_of_neg (by simp; omega), ih]
      rfl
    · have hn : L.filter (fun m => decide (lo m = k)) = [] := by
        rw [List.filter_eq_nil_iff]
        intro x hx
        have := h1 x hx
        simp; omega
      rw [hn, List.nil_append] at ih
      rw [List.filter_cons_of_pos (by simp; omega), List.filter_cons_of_neg (by simp; omega), List.filter_cons_of_pos (by simp; omega), hn, List.nil_append, ih]
theorem gC_all {L : List Int64} (h : L.Pairwise (fun a b => lo a ≤ lo b)) (h52 : ∀ m ∈ L, lo m < 52) : ∀ d, d ≤ 52 → lL (gC L) d = L.filter (fun m => decide (52 - d ≤ lo m))
  | 0, _ => by
    show [] = _
    symm
    rw [List.filter_eq_nil_iff]
    intro m hm
    have := h52 m hm
    simp; omega
  | d + 1, hd => by
    show gC L (51 - d) ++ lL (gC L) d = _
    rw [gC_all h h52 d (by omega), show 52 - (d + 1) = 51 - d by omega, lo_split (k := 51 - d) h, show 51 - d + 1 = 52 - d by omega]
    rfl
theorem gC_L {L : List Int64} (h : L.Pairwise (fun a b => lo a ≤ lo b)) (h52 : ∀ m ∈ L, lo m < 52) : lL (gC L) 52 = L := by
  rw [gC_all h h52 52 (Nat.le_refl _)]
  rw [List.filter_eq_self]
  intro m _
  simp
/-- good groups for a hand: its melds, each group in order -/
def GG (g : Nat → List Int64) (p : Int64) : Prop := (∀ k m, m ∈ g k ↔ (sb m p ∧ (isSet m ∨ isRun m) ∧ lo m = k)) ∧ ∀ k, (g k).Pairwise (fun a b => mR a ≤ mR b)
theorem meld_3 {m : Int64} (h : isSet m ∨ isRun m) : 3 ≤ cnt (bs m) 64 := by
  rcases h with ⟨r, -, -, h⟩ | ⟨s, f, n, h3, h4, h5, h6, h7⟩
  · exact h
  · rw [h7, cnt_run h3 (by omega)]; exact h5
theorem meld_nz {m : Int64} (h : isSet m ∨ isRun m) : m ≠ 0 := fun z => by
  have := meld_3 h
  rw [cnt_z.mpr z] at this
  omega
theorem GG_ok {g : Nat → List Int64} {p : Int64} (h : GG g p) : gOk g p := fun k m hm => by
  obtain ⟨h1, h2, h3⟩ := (h.1 k m).mp hm
  exact ⟨by rw [← h3]; exact lo_spec (meld_nz h2), h1⟩
theorem GG_eq {g g' : Nat → List Int64} {p : Int64} (h : GG g p) (h' : GG g' p) : (∀ d S, lR g d S = lR g' d S) ∧ (∀ d S, lG g d S = lG g' d S) :=
  ⟨lR_mem (fun k m => (h.1 k m).trans (h'.1 k m).symm), lG_mem mR_inj (fun k m => (h.1 k m).trans (h'.1 k m).symm) h.2 h'.2⟩
