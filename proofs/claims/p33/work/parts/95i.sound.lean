/-! the places' counts -/
theorem cnt_img {g : Nat → Nat} : ∀ (n : Nat) (S : Nat → Bool), (∀ j, j < n → g j < 52) → (∀ i j, i < n → j < n → g i = g j → i = j) → (∀ c, c < 52 → (S c = true ↔ ∃ j, j < n ∧ g j = c)) → cnt S 52 = n
  | 0, S, _, _, h => by
    rw [cnt_congr (T := fun _ => false) (fun c hc => by
      cases e : S c
      · rfl
      · obtain ⟨j, j1, -⟩ := (h c hc).mp e
        omega)]
    rfl
  | n + 1, S, h1, h2, h3 => by
    have ih := cnt_img n (fun c => S c && !decide (c = g n)) (fun j hj => h1 j (by omega)) (fun i j hi hj => h2 i j (by omega) (by omega)) (fun c hc => by
      constructor
      · intro e
        rw [Bool.and_eq_true, Bool.not_eq_true', decide_eq_false_iff_not] at e
        obtain ⟨j, j1, j2⟩ := (h3 c hc).mp e.1
        rcases Nat.lt_or_ge j n with q | q
        · exact ⟨j, q, j2⟩
        · exact absurd (by rw [← j2, show j = n by omega]) e.2
      · rintro ⟨j, j1, j2⟩
        rw [Bool.and_eq_true, Bool.not_eq_true', decide_eq_false_iff_not]
        refine ⟨(h3 c hc).mpr ⟨j, by omega, j2⟩, fun z => ?_⟩
        have := h2 j n (by omega) (by omega) (j2.trans z)
        omega)
    rw [cnt_ins (S := fun c => S c && !decide (c = g n)) (S' := S) (h1 n (by omega)) ((h3 _ (h1 n (by omega))).mpr ⟨n, by omega, rfl⟩) (by simp) (fun d hd hne => by simp [hne]), ih]
theorem cnt_4 {f : Nat → Int} : ∀ n : Nat, (∀ c, c < n → f c = 0 ∨ f c = 1 ∨ f c = 2 ∨ f c = 3) → cnt (fun c => decide (f c = 0)) n + cnt (fun c => decide (f c = 1)) n + cnt (fun c => decide (f c = 2)) n + cnt (fun c => decide (f c = 3)) n = n
  | 0, _ => rfl
  | n + 1, h => by
    have ih := cnt_4 n (fun c hc => h c (by omega))
    show (cnt (fun c => decide (f c = 0)) n + if decide (f n = 0) = true then 1 else 0) + (cnt (fun c => decide (f c = 1)) n + if decide (f n = 1) = true then 1 else 0) + (cnt (fun c => decide (f c = 2)) n + if decide (f n = 2) = true then 1 else 0) + (cnt (fun c => decide (f c = 3)) n + if decide (f n = 3) = true then 1 else 0) = n + 1
    rcases h n (by omega) with e | e | e | e <;> rw [e] <;> simp <;> omega
/-- how many cards lie at a place -/
def plc (r : Nat → Int) (j i : Nat) : Int := ((cnt (fun c => decide (r (119 + c) = (j : Int))) i : Nat) : Int)
theorem plc_2 {N : Nat} {r : Nat → Int} (h : V N r) : plc r 2 52 = r 14 := by
  obtain ⟨⟨a, b, c, d, e, f, g, k, l, m, n⟩, -, ⟨p1, p2⟩, w, -⟩ := h
  have := cnt_img (g := fun j => (r (67 + j)).toNat) (r 14).toNat (fun c => decide (r (119 + c) = ((2 : Nat) : Int))) (fun j hj => by
    obtain ⟨c, c1, c2⟩ := p1 j (by omega)
    show (r (67 + j)).toNat < 52
    omega) (fun i j hi hj he => p2 i j (by omega) (by omega) (by
    obtain ⟨c, c1, c2⟩ := p1 i (by omega)
    obtain ⟨d, d1, d2⟩ := p1 j (by omega)
    have he : (r (67 + i)).toNat = (r (67 + j)).toNat := he
    omega)) (fun c hc => by
    rw [decide_eq_true_iff]
    refine (w c hc).2.2.trans ⟨?_, ?_⟩
    · rintro ⟨j, j1, j2⟩
      exact ⟨j, by omega, by show (r (67 + j)).toNat = c; omega⟩
    · rintro ⟨j, j1, j2⟩
      obtain ⟨d, d1, d2⟩ := p1 j (by omega)
      have j2 : (r (67 + j)).toNat = c := j2
      exact ⟨j, by omega, by omega⟩)
  unfold plc
  omega
theorem plc_p {N : Nat} {r : Nat → Int} (h : V N r) {p : Nat} (hp : p < 2) : plc r p 52 = r 0 + (if r 4 = (p : Int) ∧ r 5 = 1 then 1 else 0) := h.2.2.2.2.1 (p : Int) (by omega)
theorem plc_3 {N : Nat} {r : Nat → Int} (h : V N r) : plc r 3 52 = 52 - r 13 := by
  have h2 := plc_2 h
  have h0 := plc_p h (p := 0) (by omega)
  have h1 := plc_p h (p := 1) (by omega)
  have h4 := cnt_4 (f := fun c => r (119 + c)) 52 (fun c hc => (h.2.2.2.1 c hc).1)
  obtain ⟨⟨a, b, c, d, e, f, g, k, l, m, n⟩, -⟩ := h
  unfold plc at *
  have h4' : ((cnt (fun c => decide (r (119 + c) = 0)) 52 : Nat) : Int) + ((cnt (fun c => decide (r (119 + c) = 1)) 52 : Nat) : Int) + ((cnt (fun c => decide (r (119 + c) = 2)) 52 : Nat) : Int) + ((cnt (fun c => decide (r (119 + c) = 3)) 52 : Nat) : Int) = 52 := by omega
  have hs : (if r 4 = 0 ∧ r 5 = 1 then (1 : Int) else 0) + (if r 4 = 1 ∧ r 5 = 1 then 1 else 0) = r 5 := by
    rcases e with w | w <;> rcases f with w2 | w2 <;> rw [w, w2] <;> simp
  have h0 : ((cnt (fun c => decide (r (119 + c) = 0)) 52 : Nat) : Int) = r 0 + (if r 4 = 0 ∧ r 5 = 1 then 1 else 0) := h0
  have h1 : ((cnt (fun c => decide (r (119 + c) = 1)) 52 : Nat) : Int) = r 0 + (if r 4 = 1 ∧ r 5 = 1 then 1 else 0) := h1
  have h2 : ((cnt (fun c => decide (r (119 + c) = 2)) 52 : Nat) : Int) = r 14 := h2
  show ((cnt (fun c => decide (r (119 + c) = 3)) 52 : Nat) : Int) = 52 - r 13
  omega
set_option maxHeartbeats 4000000 in
theorem loop15 {N : Nat} {m σ4 : Mm} (hR : REL N σ4 m) (hz : ∀ j, j < 4 → σ4 101 j = 0) :
    ∃ e, lup (fun (s11 : Mm × Int) => x_L_isSound_b15 s11.1 s11.2) (σ4, (0 : Int)) = some e ∧ REL N e m ∧ ∀ j, j < 4 → e 101 j = plc (m 1) j 52 := by
  refine lup_for (f := fun (s11 : Mm × Int) => x_L_isSound_b15 s11.1 s11.2) (fun i s => REL N s.1 m ∧ s.2 = (i : Int) ∧ ∀ j, j < 4 → s.1 101 j = plc (m 1) j i) (fun e => REL N e m ∧ ∀ j, j < 4 → e 101 j = plc (m 1) j 52) 52 (fun i s hi hs => ?_) (fun s hs => ?_) ⟨hR, rfl, fun j hj => (hz j hj).trans rfl⟩
  · obtain ⟨σ, iv⟩ := s
    obtain ⟨hR, i1, i2⟩ := hs
    simp only at hR i1 i2
    subst i1
    have hw := h_where (v_where (REL_zb hR) hi)
    have hv := (hR.1.2.2.2.1 i hi).1
    obtain ⟨w, w1, w2⟩ : ∃ w : Nat, w < 4 ∧ m 1 (119 + i) = (w : Int) := ⟨(m 1 (119 + i)).toNat, by omega, by omega⟩
    have hzk : zin ((w : Nat) : Int) 4 := ⟨by rw [zwn (by omega)]; omega, by rw [zwn (by omega)]; omega⟩
    have hxk : zix ((w : Nat) : Int) = w := zix_nat (by omega)
    refine ⟨(zu σ 101 w (σ 101 w + 1), (i : Int) + 1), ?_, REL_c hR (fun k hk => zu_ne _ _ _ (by omega)), by show (i : Int) + 1 = ((i + 1 : Nat) : Int); omega, fun j hj => ?_⟩
    · show x_L_isSound_b15 σ (i : Int) = _
      unfold x_L_isSound_b15
      rw [e108, if_neg (by rw [zwn (by omega), show zw 52 = 52 from by decide]; omega), hw, Option.bind_some, w2, if_pos hzk, if_pos hzk, hxk, bnd_eq, bnd_eq]
    · show zu σ 101 w (σ 101 w + 1) 101 j = plc (m 1) j (i + 1)
      rw [zu_at]
      unfold plc
      rw [cnt_s]
      have := i2 j hj
      unfold plc at this
      by_cases c : j = w
      · subst c
        rw [if_pos ⟨rfl, rfl⟩, this, if_pos (by simp [w2])]
      · rw [if_neg (fun z => c z.2), this, if_neg (by simp [w2]; omega)]
        omega
  · obtain ⟨σ, iv⟩ := s
    obtain ⟨hR, i1, i2⟩ := hs
    simp only at hR i1 i2
    subst i1
    refine ⟨σ, ?_, hR, i2⟩
    show x_L_isSound_b15 σ ((52 : Nat) : Int) = _
    unfold x_L_isSound_b15
    rw [if_pos (by decide)]
