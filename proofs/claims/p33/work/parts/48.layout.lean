/-! The model's layOut, and leastBehind -/
/-- what lies laid out in the model -/
def LM (σ : Mm) (P : Int64) (F : List Int64) : Prop := σ 0 17 = (F.length : Int) ∧ (∀ j x, F[j]? = some x → zL (σ 23 j) = x) ∧ zL (σ 0 18) = dl P F ∧ σ 0 19 = ((RR P P : Nat) : Int)
theorem lM_cases (b : Nat) (f : Int64 → Nat) (S : Int64) : ∀ l : List Int64, lM b f S l = b ∨ ∃ m, m ∈ l ∧ sb m S ∧ lM b f S l = f (dif S m)
  | [] => .inl rfl
  | m :: l => by
    rw [lM_cons]
    rcases lM_cases b f S l with z | ⟨x, x1, x2, x3⟩
    · by_cases e : sb m S
      · rw [if_pos e]
        rcases Nat.le_total (f (dif S m)) (lM b f S l) with w | w
        · exact .inr ⟨m, List.mem_cons_self, e, Nat.min_eq_left w⟩
        · exact .inl (by rw [Nat.min_eq_right w]; exact z)
      · rw [if_neg e]; exact .inl z
    · by_cases e : sb m S
      · rw [if_pos e]
        rcases Nat.le_total (f (dif S m)) (lM b f S l) with w | w
        · exact .inr ⟨m, List.mem_cons_self, e, Nat.min_eq_left w⟩
        · exact .inr ⟨x, List.mem_cons_of_mem _ x1, x2, by rw [Nat.min_eq_right w]; exact x3⟩
      · rw [if_neg e]; exact .inr ⟨x, List.mem_cons_of_mem _ x1, x2, x3⟩
theorem lM_mem {b : Nat} {f : Int64 → Nat} {S : Int64} : ∀ {l : List Int64} {m : Int64}, m ∈ l → sb m S → lM b f S l ≤ f (dif S m)
  | x :: l, m, hx, hs => by
    rw [lM_cons]
    rcases List.mem_cons.mp hx with e | e
    · subst e
      rw [if_pos hs]; omega
    · have := lM_mem (b := b) (f := f) e hs
      split <;> omega
theorem or_self_l (x y : Int64) (h : sb x y) : x ||| y = y := by
  apply bs_ext
  intro c _
  rw [bs_or]
  have := (sb_iff _ _).mp h c
  cases e : bs x c
  · rfl
  · rw [this e]; rfl
theorem X7_layOut {σ : Mm} {n : Nat} {H : Nat → Nat} {P : Int64} (hH : HP σ n H P) : ∃ σ', x_X7_layOut σ = some σ' ∧ LM σ' P (Lay P) ∧ HP σ' n H P ∧ SC σ σ' := by
  obtain ⟨σ1, N, a1, a2, a3, a4⟩ := X7_findRests hH
  obtain ⟨⟨hD, h, hn, hP⟩, hNS, hO, hmem, hl⟩ := a2
  have h1 := h.1
  have hcw : cw P := cw_P ⟨hD, h, hn, hP⟩
  have h11 : cnt (bs P) 64 ≤ 11 := by omega
  have hGG := gPl_GG h hP hO hmem
  have hgk := GG_ok hGG
  have hfun : RR P = lR (gPl H n N) 52 := funext (fun S => RR_eq hGG S)
  have hL := Lay_eq hGG
  obtain ⟨-, -, -, hF3⟩ := Lay_ok hcw h11
  have hpn : 2 ^ n ≤ 2048 := Nat.pow_le_pow_right (n := 2) (j := 11) (by decide) h1
  have hp0 : 0 < 2 ^ n := Nat.two_pow_pos n
  have hfull : co H (2 ^ n - 1) n = P := by
    apply bs_ext
    intro c _
    cases e : bs (co H (2 ^ n - 1) n) c
    · symm
      cases e2 : bs P c
      · rfl
      · obtain ⟨i, i1, i2⟩ := (hP c).mp e2
        rw [(co_bs c h.2.1).mpr ⟨i, i1, by rw [Nat.testBit_two_pow_sub_one]; simp [i1], i2⟩] at e; cases e
    · exact ((sb_iff _ _).mp (co_sbP h hP _) c e).symm
  have hRP := RR_le hcw h11 ((sb_iff P P).mpr (fun c hc => hc))
  unfold x_X7_layOut
  rw [a1, Option.bind_some, un2_eq, bnd_eq, bnd_eq, bnd_eq, bnd_eq]
  generalize hτ : zu (zu (zu σ1 0 19 ((RR P P : Nat) : Int)) 0 17 0) 0 18 (Int64.toInt 0) = τ0
  have hD0 : HD τ0 n H := by rw [← hτ]; exact HD_zu (HD_zu (HD_zu hD (by omega)) (by omega)) (by omega)
  have h21 : τ0 21 = σ1 21 := by rw [← hτ]; rfl
  have h22 : τ0 22 = σ1 22 := by rw [← hτ]; rfl
  have h14 : τ0 0 14 = σ1 0 14 := by rw [← hτ]; simp [zu_at]
  have h17 : τ0 0 17 = 0 := by rw [← hτ]; simp [zu_at]
  have h18 : zL (τ0 0 18) = 0 := by rw [← hτ, zu_hit, zL_toInt]
  have h19 : τ0 0 19 = ((RR P P : Nat) : Int) := by rw [← hτ]; simp [zu_at]
  have hsc0 : SC σ τ0 := by rw [← hτ]; exact SC_t a4 (SC_t (SC_u _ _ (.inr (by omega))) (SC_t (SC_u _ _ (.inr (by omega))) (SC_u _ _ (.inr (by omega)))))
  have hN0 : NS τ0 N := ⟨by rw [h14]; exact hNS.1, fun i a hx => by rw [h21]; exact hNS.2 i a hx⟩
  have hR0 : ∀ a, a < 2 ^ n → τ0 22 a = ((RR P (co H a n) : Nat) : Int) := fun a ha => by rw [h22]; exact a3 a ha
  clear hτ
  rw [hD0.1, zsh1 (by omega)]
  have ea : ((2 ^ n : Nat) : Int) - 1 = ((2 ^ n - 1 : Nat) : Int) := by omega
  rw [ea]
  obtain ⟨e9, d1, d2, d3, d4⟩ := lup_ind (f := fun (s38 : Mm × Int × Int) => x_X7_layOut_b29 s38.1 s38.2.1 s38.2.2) (fun i s => ∃ (a lost : Nat) (A : List Int64), s.2.1 = (a : Int) ∧ s.2.2 = (lost : Int) ∧ a < 2 ^ n ∧ a + i ≤ 2047 ∧ lost + RR P (co H a n) = RR P P ∧ A ++ lG (gPl H n N) 52 (co H a n) = Lay P ∧ s.1 0 17 = (A.length : Int) ∧ (∀ j x, A[j]? = some x → zL (s.1 23 j) = x) ∧ zL (s.1 0 18) ||| co H a n = dl P A ∧ zL (s.1 0 18) &&& co H a n = 0 ∧ s.1 0 19 = ((RR P P : Nat) : Int) ∧ HD s.1 n H ∧ NS s.1 N ∧ (∀ b, b < 2 ^ n → s.1 22 b = ((RR P (co H b n) : Nat) : Int)) ∧ SC σ s.1) (fun e => LM e P (Lay P) ∧ HD e n H ∧ SC σ e) 2048 (fun i s hs => by
    obtain ⟨τ, ua, ul⟩ := s
    obtain ⟨a, lost, A, hua, hul, ha, hai, hlost, hA, q17, q23, q18, qdj, q19, qD, qN, qR, qsc⟩ := hs
    simp only at hua hul q17 q23 q18 qdj q19 qD qN qR qsc
    subst hua hul
    show (∃ s', x_X7_layOut_b29 τ (a : Int) (lost : Int) = _ ∧ _) ∨ (∃ e, x_X7_layOut_b29 τ (a : Int) (lost : Int) = _ ∧ _)
    unfold x_X7_layOut_b29
    by_cases e : a = 0
    · right
      subst e
      rw [if_pos (by decide)]
      have hz := co_z h
      rw [hz, lG_skip (k := 52) (Nat.le_refl _) (fun c _ => bs_0 c)] at hA
      have hA : A = Lay P := by
        have : A ++ [] = Lay P := hA
        rw [List.append_nil] at this
        exact this
      rw [hz] at q18
      have e0 : zL (τ 0 18) ||| 0 = zL (τ 0 18) := by apply bs_ext; intro c _; rw [bs_or, bs_0]; simp
      rw [e0] at q18
      subst hA
      exact ⟨_, rfl, ⟨q17, q23, q18, q19⟩, qD, qsc⟩
    · left
      obtain ⟨k, hk⟩ := nlow_ex e
      have hkn := nlow_lt hk ha
      have hk52 := h.2.1 k hkn
      have p2 : 2 ^ k < 2147483648 := Nat.pow_lt_pow_right (a := 2) (n := 31) (by decide) (by omega)
      have hlow := co_low h ha hk
      have hsbP : sb (co H a n) P := co_sbP h hP a
      have hRa := RR_le hcw h11 hsbP
      rw [if_neg (by rw [zwn (by omega)]; omega), zlow (by omega) hk, bnd_eq]
      have hGa := lG_low (g := gPl H n N) hgk hlow hk52
      rw [← hfun] at hGa
      have hRa2 := lR_low (g := gPl H n N) hgk hlow hk52
      rw [← hfun] at hRa2
      -- the row's first meld that fits
      have hcond : ∀ m, mP n H m → ((lo (co H m n) = H k ∧ sb (co H m n) (co H a n)) ↔ ((zw (zand (m : Int) ((2 ^ k : Nat) : Int)) ≠ 0) ∧ sb (co H m n) (co H a n))) := fun m hm => by
        have hm2 := nlt31 hm.1 h1
        have hand : zw (zand (m : Int) ((2 ^ k : Nat) : Int)) ≠ 0 ↔ m.testBit k = true := by
          rw [zand_nat (by omega) p2]
          have hle := @Nat.and_le_left m (2 ^ k)
          rw [zwn (by omega)]
          constructor
          · intro z
            have hnz : m &&& 2 ^ k ≠ 0 := fun w => z (by rw [w]; rfl)
            obtain ⟨j, hj⟩ := Nat.exists_testBit_of_ne_zero hnz
            rw [Nat.testBit_and, Nat.testBit_two_pow, Bool.and_eq_true, decide_eq_true_eq] at hj
            rw [hj.2]; exact hj.1
          · intro z w
            have w2 : m &&& 2 ^ k = 0 := by omega
            have := congrArg (fun q => q.testBit k) w2
            simp only [Nat.testBit_and, Nat.testBit_two_pow_self, z, Nat.zero_testBit] at this
            cases this
        rw [hand]
        constructor
        · rintro ⟨z1, z2⟩
          refine ⟨?_, z2⟩
          have := (lo_spec (meld_nz hm.2)).1
          rw [z1, co_at h m hkn] at this
          exact this
        · rintro ⟨z1, z2⟩
          refine ⟨lo_eq ⟨by rw [co_at h m hkn]; exact z1, fun j hj => ?_⟩, z2⟩
          cases w : bs (co H m n) j
          · rfl
          · have := (sb_iff _ _).mp z2 j w
            rw [hlow.2 j hj] at this; cases this
      have hfind : (gPl H n N (H k)).find? (fun m => decide (sb m (co H a n) ∧ RR P (dif (co H a n) m) ≤ RR P (co H a n))) = (N.find? (fun m => decide (lo (co H m n) = H k ∧ sb (co H m n) (co H a n) ∧ RR P (dif (co H a n) (co H m n)) ≤ RR P (co H a n)))).map (fun m => co H m n) := by
        unfold gPl
        rw [List.find?_filter, List.find?_map]
        congr 1
        apply find_congr
        intro m _
        show decide (decide (lo (co H m n) = H k) = true ∧ decide _ = true) = _
        apply decide_eq_decide.mpr
        rw [decide_eq_true_eq, decide_eq_true_eq]
      obtain ⟨e8, f1, f2⟩ := lup_ind (f := fun (s19 : Int) => x_X7_layOut_b41 τ (a : Int) (lost : Int) ((2 ^ k : Nat) : Int) s19) (fun j s => s = (j : Int) ∧ j ≤ N.length ∧ N.find? (fun m => decide (lo (co H m n) = H k ∧ sb (co H m n) (co H a n) ∧ RR P (dif (co H a n) (co H m n)) ≤ RR P (co H a n))) = (N.drop j).find? (fun m => decide (lo (co H m n) = H k ∧ sb (co H m n) (co H a n) ∧ RR P (dif (co H a n) (co H m n)) ≤ RR P (co H a n)))) (fun e => (e = (N.length : Int) ∧ N.find? (fun m => decide (lo (co H m n) = H k ∧ sb (co H m n) (co H a n) ∧ RR P (dif (co H a n) (co H m n)) ≤ RR P (co H a n))) = none) ∨ ∃ (j m : Nat), e = (j : Int) ∧ N[j]? = some m ∧ N.find? (fun m => decide (lo (co H m n) = H k ∧ sb (co H m n) (co H a n) ∧ RR P (dif (co H a n) (co H m n)) ≤ RR P (co H a n))) = some m) N.length (fun j s hs => by
        obtain ⟨hs, hj, hf⟩ := hs
        subst hs
        show (∃ s', x_X7_layOut_b41 τ (a : Int) (lost : Int) ((2 ^ k : Nat) : Int) (j : Int) = _ ∧ _) ∨ (∃ e, x_X7_layOut_b41 τ (a : Int) (lost : Int) ((2 ^ k : Nat) : Int) (j : Int) = _ ∧ _)
        unfold x_X7_layOut_b41
        rw [qN.1]
        by_cases ej : j = N.length
        · right
          subst ej
          rw [if_pos (Int.le_refl _)]
          rw [List.drop_length] at hf
          exact ⟨_, rfl, .inl ⟨rfl, hf⟩⟩
        · have hjl : j < N.length := by omega
          have hjx : N[j]? = some N[j] := List.getElem?_eq_getElem hjl
          have hdrop : N.drop j = N[j] :: N.drop (j + 1) := List.drop_eq_getElem_cons hjl
          generalize N[j] = m at hjx hdrop
          have hm := (hmem m).mp (List.mem_of_getElem? hjx)
          have hm2 := nlt31 hm.1 h1
          rw [hdrop, List.find?_cons] at hf
          have zj200 : zin (j : Int) 200 := zin_i (by omega) (by omega) (by omega)
          have hc := hcond m hm
          have hsk : ¬ (lo (co H m n) = H k ∧ sb (co H m n) (co H a n) ∧ RR P (dif (co H a n) (co H m n)) ≤ RR P (co H a n)) → N.find? (fun m => decide (lo (co H m n) = H k ∧ sb (co H m n) (co H a n) ∧ RR P (dif (co H a n) (co H m n)) ≤ RR P (co H a n))) = (N.drop (j + 1)).find? (fun m => decide (lo (co H m n) = H k ∧ sb (co H m n) (co H a n) ∧ RR P (dif (co H a n) (co H m n)) ≤ RR P (co H a n))) := fun z => by
            rw [hf, decide_eq_false z]
          rw [if_neg (by rw [zwn (by omega), zwn (by omega)]; omega)]
          simp only [if_pos zj200, bnd_eq]
          rw [zix_nat (by omega), qN.2 j m hjx]
          simp only [msub_eq h hm.1 ha]
          by_cases c1 : zw (zand (m : Int) ((2 ^ k : Nat) : Int)) = 0
          · left
            rw [if_pos c1]
            refine ⟨_, rfl, hjl, by omega, by omega, hsk (fun z => (hc.mp ⟨z.1, z.2.1⟩).1 c1)⟩
          · rw [if_neg c1]
            by_cases c2 : sb (co H m n) (co H a n)
            · have hlo := (hc.mpr ⟨c1, c2⟩).1
              rw [if_neg (fun z => z c2), zdif (by omega) (by omega)]
              have hd2 := ndif_m h hm c2
              have hle := RR_le hcw h11 (sb_tr (sb_dif (co H a n) (co H m n)) hsbP)
              rw [if_pos (zin_i (by omega) (by omega) (by omega)), zix_nat (by omega), qR _ (by omega), co_dif h, q19]
              by_cases c3 : RR P (dif (co H a n) (co H m n)) ≤ RR P (co H a n)
              · right
                rw [if_pos (by rw [zw_eq (by omega) (by omega), zwn (by omega)]; omega)]
                refine ⟨_, rfl, .inr ⟨j, m, rfl, hjx, ?_⟩⟩
                rw [hf, decide_eq_true ⟨hlo, c2, c3⟩]
              · left
                rw [if_neg (by rw [zw_eq (by omega) (by omega), zwn (by omega)]; omega)]
                exact ⟨_, rfl, hjl, by omega, by omega, hsk (fun z => c3 z.2.2)⟩
            · left
              rw [if_pos c2]
              exact ⟨_, rfl, hjl, by omega, by omega, hsk (fun z => c2 z.2.1)⟩) (s := 0) 0 ⟨rfl, Nat.zero_le _, by rw [List.drop_zero]⟩
      rw [f1, Option.bind_some]
      unfold x_X7_layOut_j107_29
      rw [qN.1]
      rcases f2 with ⟨g1, g2⟩ | ⟨j, m, g1, g2, g3⟩
      · -- the card is left
        subst g1
        rw [hfind, g2] at hGa
        have hGa : lG (gPl H n N) 52 (co H a n) = lG (gPl H n N) 52 (dif (co H a n) (one (H k))) := hGa
        have hd1 := ndif_low ha hk
        have hS1 : co H (ndif a (2 ^ k)) n = dif (co H a n) (one (H k)) := by rw [co_dif h, co_one h hkn]
        have hpl := pts_le (H k)
        -- no meld does as well, so the rest is the card and what is left without it
        have hval : RR P (co H a n) = pts (H k) + RR P (dif (co H a n) (one (H k))) := by
          have hnone : (gPl H n N (H k)).find? (fun m => decide (sb m (co H a n) ∧ RR P (dif (co H a n) m) ≤ RR P (co H a n))) = none := by rw [hfind, g2]; rfl
          rw [List.find?_eq_none] at hnone
          rcases lM_cases (pts (H k) + RR P (dif (co H a n) (one (H k)))) (RR P) (co H a n) (gPl H n N (H k)) with z | ⟨m, m1, m2, m3⟩
          · rw [hRa2]; exact z
          · exfalso
            apply hnone m m1
            rw [decide_eq_true_eq]
            exact ⟨m2, by rw [hRa2, m3]; exact Nat.le_refl _⟩
        rw [if_pos (Int.le_refl _), X7_cardsOf qD h p2, Option.bind_some, bnd_eq, co_one h hkn, low_place h ha hk, Option.bind_some, if_pos (zin_i (by omega) (by omega) (by omega)), zix_nat (by omega)]
        have hD2 : HD (zu τ 0 18 (Int64.toInt (zL (τ 0 18) ||| one (H k)))) n H := HD_zu qD (by omega)
        rw [hD2.2 k hkn, X7_points (by omega), Option.bind_some, bnd_eq, bnd_eq, zdif (by omega) p2]
        have hone : bs (co H a n) (H k) = true := hlow.1
        have h64 : H k < 64 := by omega
        refine ⟨_, rfl, by omega, ndif a (2 ^ k), lost + pts (H k), A, rfl, by show (lost : Int) + ((pts (H k) : Nat) : Int) = ((lost + pts (H k) : Nat) : Int); omega, ndif_lt ha, by omega, by rw [hS1]; omega, by rw [hS1, ← hGa]; exact hA, ?_, fun j x hx => ?_, ?_, ?_, ?_, hD2, ⟨?_, fun i x hx => ?_⟩, fun b hb => ?_, SC_t qsc (SC_u _ _ (.inr (by omega)))⟩
        · exact (zu_miss (c := 0) (i := 17) τ 0 18 (Int64.toInt (zL (τ 0 18) ||| one (H k))) (fun _ => by decide)).trans q17
        · have := q23 j x hx
          rw [← this]
          exact congrArg zL (zu_miss (c := 23) (i := j) τ 0 18 (Int64.toInt (zL (τ 0 18) ||| one (H k))) (fun z => by cases z))
        · simp only [zu_hit, zL_toInt]
          rw [hS1, ← q18]
          apply bs_ext
          intro c _
          rw [bs_or, bs_or, bs_dif2, bs_or, bs_one2 h64]
          by_cases z : c = H k
          · subst z; rw [hone]; simp
          · simp [z]
        · simp only [zu_hit, zL_toInt]
          rw [hS1, dj_iff]
          intro c hc
          rw [bs_or, bs_one2 h64, Bool.or_eq_true_iff] at hc
          rw [bs_dif2, bs_one2 h64]
          rcases hc with z | z
          · rw [(dj_iff _ _).mp qdj c z]; rfl
          · rw [z]; simp
        · exact (zu_miss (c := 0) (i := 19) τ 0 18 (Int64.toInt (zL (τ 0 18) ||| one (H k))) (fun _ => by decide)).trans q19
        · exact (zu_miss (c := 0) (i := 14) τ 0 18 (Int64.toInt (zL (τ 0 18) ||| one (H k))) (fun _ => by decide)).trans qN.1
        · exact (zu_miss (c := 21) (i := i) τ 0 18 (Int64.toInt (zL (τ 0 18) ||| one (H k))) (fun z => by cases z)).trans (qN.2 i x hx)
        · exact (zu_miss (c := 22) (i := b) τ 0 18 (Int64.toInt (zL (τ 0 18) ||| one (H k))) (fun z => by cases z)).trans (qR b hb)
      · -- a meld is laid
        subst g1
        have hjl : j < N.length := by
          rcases Nat.lt_or_ge j N.length with z | z
          · exact z
          · rw [List.getElem?_eq_none z] at g2; cases g2
        have hmN := List.mem_of_getElem? g2
        have hm := (hmem m).mp hmN
        have hm2 := nlt31 hm.1 h1
        have hp := List.find?_some g3
        rw [decide_eq_true_eq] at hp
        obtain ⟨p3, p4, p5⟩ := hp
        rw [hfind, g3] at hGa
        have hGa : lG (gPl H n N) 52 (co H a n) = co H m n :: lG (gPl H n N) 52 (dif (co H a n) (co H m n)) := hGa
        have hmg : co H m n ∈ gPl H n N (H k) := by
          unfold gPl
          exact List.mem_filter.mpr ⟨List.mem_map.mpr ⟨m, hmN, rfl⟩, by simpa using p3⟩
        have hge : RR P (co H a n) ≤ RR P (dif (co H a n) (co H m n)) := by
          rw [hRa2]
          exact lM_mem hmg p4
        have hS1 : co H (ndif a m) n = dif (co H a n) (co H m n) := co_dif h a m
        have hd2 := ndif_m h hm p4
        rw [hGa] at hA
        have hAl : A.length + 1 ≤ 3 := by
          have := congrArg List.length hA
          simp only [List.length_append, List.length_cons] at this
          omega
        rw [if_neg (by rw [zwn (by omega), zwn (by omega)]; omega), if_pos (zin_i (by omega) (by omega) (by omega)), zix_nat (by omega), qN.2 j m g2, X7_cardsOf qD h (by omega), Option.bind_some, q17, if_pos (zin_i (by omega) (by omega) (by omega)), bnd_eq, bnd_eq, if_pos (zin_i (by omega) (by omega) (by omega)), bnd_eq, zix_nat (n := A.length) (by omega)]
        generalize hv : zu (zu τ 23 A.length (Int64.toInt (co H m n))) 0 17 (zu τ 23 A.length (Int64.toInt (co H m n)) 0 17 + 1) = υ
        have u21 : ∀ i, υ 21 i = τ 21 i := fun i => by rw [← hv]; simp [zu_at]
        have u22 : ∀ i, υ 22 i = τ 22 i := fun i => by rw [← hv]; simp [zu_at]
        have u14 : υ 0 14 = τ 0 14 := by rw [← hv]; simp [zu_at]
        have u17 : υ 0 17 = (A.length : Int) + 1 := by rw [← hv]; simp [zu_at, q17]
        have u18 : υ 0 18 = τ 0 18 := by rw [← hv]; simp [zu_at]
        have u19 : υ 0 19 = τ 0 19 := by rw [← hv]; simp [zu_at]
        have u23 : ∀ i, υ 23 i = if i = A.length then Int64.toInt (co H m n) else τ 23 i := fun i => by rw [← hv]; simp [zu_at]
        have uD : HD υ n H := by rw [← hv]; exact HD_zu (HD_zu qD (by omega)) (by omega)
        have uS : SC τ υ := by rw [← hv]; exact SC_t (SC_u _ _ (.inl (by omega))) (SC_u _ _ (.inr (by omega)))
        clear hv
        rw [u21, qN.2 j m g2, zdif (by omega) (by omega)]
        refine ⟨_, rfl, by omega, ndif a m, lost, A ++ [co H m n], rfl, rfl, ndif_lt ha, by omega, by rw [hS1]; omega, by rw [hS1, ← hA]; simp, ?_, fun i x hx => ?_, ?_, ?_, u19.trans q19, uD, ⟨u14.trans qN.1, fun i x hx => (u21 i).trans (qN.2 i x hx)⟩, fun b hb => (u22 b).trans (qR b hb), SC_t qsc uS⟩
        · show υ 0 17 = _
          rw [u17]; simp
        · show zL (υ 23 i) = x
          rw [u23]
          rcases Nat.lt_trichotomy i A.length with c | c | c
          · rw [List.getElem?_append_left c] at hx
            rw [if_neg (by omega)]
            exact q23 i x hx
          · subst c
            simp at hx
            rw [if_pos rfl, zL_toInt]
            exact hx
          · rw [List.getElem?_eq_none (by simp; omega)] at hx
            cases hx
        · show zL (υ 0 18) ||| _ = _
          rw [u18, hS1, dl_snoc, ← q18]
          apply bs_ext
          intro c _
          rw [bs_or, bs_dif2, bs_dif2, bs_or]
          cases e1 : bs (zL (τ 0 18)) c
          · rfl
          · have e2 := (dj_iff _ _).mp qdj c e1
            have e3 : bs (co H m n) c = false := by
              cases e4 : bs (co H m n) c
              · rfl
              · rw [(sb_iff _ _).mp p4 c e4] at e2; cases e2
            rw [e2, e3]; rfl
        · show zL (υ 0 18) &&& _ = 0
          rw [u18, hS1, dj_iff]
          intro c hc
          rw [bs_dif2, (dj_iff _ _).mp qdj c hc]; rfl) (s := (τ0, ((2 ^ n - 1 : Nat) : Int), 0)) 0 ⟨2 ^ n - 1, 0, [], rfl, rfl, by omega, by omega, by rw [hfull]; omega, by rw [hfull, hL]; rfl, h17, fun j x hx => by simp at hx, by
      rw [hfull]
      show zL (τ0 0 18) ||| P = P
      rw [h18]
      exact or_self_l 0 P ((sb_iff _ _).mpr (fun c hc => by rw [bs_0] at hc; cases hc)), by
      show zL (τ0 0 18) &&& _ = 0
      rw [h18]
      apply bs_ext; intro c _; rw [bs_and, bs_0]; rfl, h19, hD0, hN0, hR0, hsc0⟩
  rw [d1]
  exact ⟨e9, rfl, d2, ⟨d3, h, hn, hP⟩, d4⟩
