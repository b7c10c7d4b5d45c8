/-! bestDrop, gap, meanRest, laid -/
/-- may be dropped -/
def elg (P : Int64) (x : Int) (c : Nat) : Prop := bs P c = true ∧ ¬ zw (c : Int) = zw x
/-- b is not worse a drop than c -/
def dom (P : Int64) (b c : Nat) : Prop := RR P (dif P (one b)) < RR P (dif P (one c)) ∨ (RR P (dif P (one b)) = RR P (dif P (one c)) ∧ (pts c < pts b ∨ (pts c = pts b ∧ b ≤ c)))
theorem dom_u {P : Int64} {x : Int} {b d : Nat} (hb : elg P x b) (hd : elg P x d) (h1 : ∀ c, elg P x c → dom P b c) (h2 : ∀ c, elg P x c → dom P d c) : b = d := by
  have a := h1 d hd
  have b' := h2 b hb
  unfold dom at a b'
  omega
theorem pts_lt (c : Nat) : pts c < 1000 := by have := pts_le c; omega
theorem pF_m1 : x_X6_pointsFor (-1) = some 0 := by decide
/-- the card i is better than the best so far -/
def btr (P : Int64) (i : Nat) (best least : Int) : Prop := best = -1 ∨ ((RR P (dif P (one i)) : Nat) : Int) < least ∨ (((RR P (dif P (one i)) : Nat) : Int) = least ∧ ∀ k : Nat, best = (k : Int) → pts k < pts i)
/-- one card of the class's loop -/
theorem X6_best1 {N : Nat} {c m : Mm} {P : Int64} {mv : Nat} {x : Int} (h : REL N c m) (h5 : c 1 5 = (mv : Int)) (hm : mv < 2) (hx : c 1 7 = x) (hP : zL (zb zl_47 c 2 mv) = P) (hcw : cw P) (h11 : cnt (bs P) 64 ≤ 11) {i : Nat} (hi : i < 52) (best least : Int) (hb : best = -1 ∨ ∃ k : Nat, best = (k : Int) ∧ k < 52) (hl : 0 ≤ least ∧ least ≤ 520) : (¬ elg P x i → x_X6_bestDrop_b18 c best least (i : Int) = some (.inl (c, best, least, (i : Int) + 1))) ∧ (elg P x i → ∃ c' : Mm, REL N c' m ∧ CE c c' ∧ (btr P i best least → x_X6_bestDrop_b18 c best least (i : Int) = some (.inl (c', (i : Int), ((RR P (dif P (one i)) : Nat) : Int), (i : Int) + 1))) ∧ (¬ btr P i best least → x_X6_bestDrop_b18 c best least (i : Int) = some (.inl (c', best, least, (i : Int) + 1)))) := by
  have hho : x_X2_handOf (zb zl_47 c) (c 1 5) = some P := by rw [h5, X2_handOf _ hm, hP]
  have hz : zw (i : Int) = (i : Int) := zwn (by omega)
  constructor
  · intro hne
    unfold x_X6_bestDrop_b18
    rw [if_neg (nle_l (by omega) (by omega)), hho, Option.bind_some, X6_has P hi, Option.bind_some]
    by_cases e : bs P i = true
    · rw [if_pos e, if_neg d10, hx, if_neg (fun z => hne ⟨e, z⟩), bnd_eq]
    · rw [if_neg e, if_pos d00, bnd_eq]
  · rintro ⟨e1, e2⟩
    have hw2 := cw_dif (one i) hcw
    have h112 := Nat.le_trans (cnt_rm_le (P := P) i) h11
    obtain ⟨σ1, s1, ⟨y1, y2, y3, y4⟩, s3⟩ := R_lay h hw2 h112
    obtain ⟨l1, l2, l3, l4⟩ := Lay_ok hw2 h112
    have hRR : RR P (dif P (one i)) = RR (dif P (one i)) (dif P (one i)) := RR_sub hcw h11 (sb_dif P (one i))
    have hR := RR_le hcw h11 (sb_dif P (one i))
    have g10 : zj zl_54 c σ1 77 10 = ((RR P (dif P (one i)) : Nat) : Int) := by rw [hRR, ← l3]; exact y4
    refine ⟨zj zl_54 c σ1, s3, CE_54 c σ1, ?_⟩
    have hpi := X6_pointsFor (c := i) (by omega)
    have hli := pts_lt i
    have hwo : x_X2_handWithout (zb zl_47 c) (i : Int) = some (dif P (one i)) := by rw [X2_handWithout hm h5 hi, hP]
    have j107 : x_X6_bestDrop_j107_18 (zj zl_54 c σ1) best least (i : Int) = some (.inl (zj zl_54 c σ1, (i : Int), ((RR P (dif P (one i)) : Nat) : Int), (i : Int) + 1)) := by
      unfold x_X6_bestDrop_j107_18
      rw [g10]
      split
      · rfl
      · rw [if_neg d10]; rfl
    have j111 : (best = -1 → x_X6_bestDrop_j111_18 (zj zl_54 c σ1) best least (i : Int) = some (.inl (zj zl_54 c σ1, (i : Int), ((RR P (dif P (one i)) : Nat) : Int), (i : Int) + 1))) ∧ (best ≠ -1 → x_X6_bestDrop_j111_18 (zj zl_54 c σ1) best least (i : Int) = some (.inl (zj zl_54 c σ1, best, least, (i : Int) + 1))) := by
      unfold x_X6_bestDrop_j111_18
      rw [g10]
      rcases hb with hb | ⟨k, hb, hk⟩
      · subst hb
        exact ⟨fun _ => by rw [if_pos rfl]; rfl, fun z => absurd rfl z⟩
      · subst hb
        have hk1 : ¬ zw (k : Int) = zw (-1 : Int) := by rw [zwn (by omega), zw_eq (x := (-1 : Int)) (by omega) (by omega)]; omega
        exact ⟨fun z => by omega, fun _ => by rw [if_neg hk1, if_pos d00]; rfl⟩
    have hbody : x_X6_bestDrop_b18 c best least (i : Int) = if ((RR P (dif P (one i)) : Nat) : Int) < least then x_X6_bestDrop_j107_18 (zj zl_54 c σ1) best least (i : Int) else if ((RR P (dif P (one i)) : Nat) : Int) ≠ least then x_X6_bestDrop_j111_18 (zj zl_54 c σ1) best least (i : Int) else (x_X6_pointsFor best).bind fun v23 => if zw ((pts i : Nat) : Int) ≤ zw v23 then x_X6_bestDrop_j111_18 (zj zl_54 c σ1) best least (i : Int) else x_X6_bestDrop_j107_18 (zj zl_54 c σ1) best least (i : Int) := by
      unfold x_X6_bestDrop_b18
      rw [if_neg (nle_l (by omega) (by omega)), hho, Option.bind_some, X6_has P hi, Option.bind_some, if_pos e1, if_neg d10, hx, if_pos e2, hwo, Option.bind_some, s1, Option.bind_some, bnd_eq, g10, zwn (n := RR P (dif P (one i))) (by omega), zw_eq (x := least) (by omega) (by omega), hpi, Option.bind_some]
    rw [hbody]
    generalize hRd : RR P (dif P (one i)) = R at *
    have hbt : btr P i best least ↔ best = -1 ∨ (R : Int) < least ∨ ((R : Int) = least ∧ ∀ k : Nat, best = (k : Int) → pts k < pts i) := by
      unfold btr
      rw [hRd]
    rw [hbt]
    by_cases q1 : (R : Int) < least
    · rw [if_pos q1]
      exact ⟨fun _ => j107, fun z => absurd (.inr (.inl q1)) z⟩
    · rw [if_neg q1]
      rcases hb with hb | ⟨k, hb, hk⟩
      · subst hb
        refine ⟨fun _ => ?_, fun z => absurd (.inl rfl) z⟩
        split
        · exact j111.1 rfl
        · rw [pF_m1, Option.bind_some]
          split
          · exact j111.1 rfl
          · exact j107
      · subst hb
        have hlk := pts_lt k
        have hkm : ((k : Nat) : Int) ≠ -1 := by omega
        by_cases q2 : (R : Int) = least
        · rw [if_neg (fun z => z q2), X6_pointsFor (c := k) (by omega), Option.bind_some, zwn (n := pts i) (by omega), zwn (n := pts k) (by omega)]
          by_cases q3 : pts k < pts i
          · rw [if_neg (by omega)]
            exact ⟨fun _ => j107, fun z => absurd (.inr (.inr ⟨q2, fun k' hk' => by
              have : k' = k := by omega
              rw [this]; exact q3⟩)) z⟩
          · rw [if_pos (by omega)]
            refine ⟨fun z => ?_, fun _ => j111.2 hkm⟩
            rcases z with z | z | ⟨-, z⟩
            · exact absurd z hkm
            · exact absurd z q1
            · exact absurd (z k rfl) q3
        · rw [if_pos q2]
          refine ⟨fun z => ?_, fun _ => j111.2 hkm⟩
          rcases z with z | z | ⟨z, -⟩
          · exact absurd z hkm
          · exact absurd z q1
          · exact absurd z q2
theorem X6_bestL {N : Nat} {m : Mm} {P : Int64} {mv : Nat} {x : Int} (hm : mv < 2) (hcw : cw P) (h11 : cnt (bs P) 64 ≤ 11) : ∀ (k i : Nat) (c : Mm) (best least : Int), i + k = 52 → REL N c m → c 1 5 = (mv : Int) → c 1 7 = x → zL (zb zl_47 c 2 mv) = P → ((best = -1 ∧ least = 0 ∧ ∀ d, d < i → ¬ elg P x d) ∨ ∃ b : Nat, best = (b : Int) ∧ b < i ∧ least = ((RR P (dif P (one b)) : Nat) : Int) ∧ elg P x b ∧ ∀ d, d < i → elg P x d → dom P b d) → ∃ (c' : Mm) (e : Int), lup (fun (s31 : Mm × Int × Int × Int) => x_X6_bestDrop_b18 s31.1 s31.2.1 s31.2.2.1 s31.2.2.2) (c, best, least, (i : Int)) = some (c', e) ∧ REL N c' m ∧ ((e = -1 ∧ ∀ d, d < 52 → ¬ elg P x d) ∨ ∃ b : Nat, e = (b : Int) ∧ elg P x b ∧ ∀ d, d < 52 → elg P x d → dom P b d) := by
  intro k
  induction k with
  | zero =>
    intro i c best least hi hR h5 hx hP hinv
    have : i = 52 := by omega
    subst this
    refine ⟨c, best, lup_inr ?_, hR, ?_⟩
    · show x_X6_bestDrop_b18 c best least _ = _
      unfold x_X6_bestDrop_b18
      rw [if_pos (by show zw 52 ≤ zw ((52 : Nat) : Int); decide)]
    · rcases hinv with ⟨a1, -, a3⟩ | ⟨b, a1, a2, a3, a4, a5⟩
      · exact .inl ⟨a1, a3⟩
      · exact .inr ⟨b, a1, a4, a5⟩
  | succ k ih =>
    intro i c best least hi hR h5 hx hP hinv
    have hi52 : i < 52 := by omega
    have hbb : best = -1 ∨ ∃ k : Nat, best = (k : Int) ∧ k < 52 := by
      rcases hinv with ⟨a1, -, -⟩ | ⟨b, a1, a2, -⟩
      · exact .inl a1
      · exact .inr ⟨b, a1, by omega⟩
    have hll : 0 ≤ least ∧ least ≤ 520 := by
      rcases hinv with ⟨-, a2, -⟩ | ⟨b, a1, a2, a3, a4, a5⟩
      · omega
      · have := RR_le hcw h11 (sb_dif P (one b))
        omega
    obtain ⟨t1, t2⟩ := X6_best1 (N := N) (m := m) (mv := mv) (x := x) hR h5 hm hx hP hcw h11 hi52 best least hbb hll
    have ei : (i : Int) + 1 = ((i + 1 : Nat) : Int) := by omega
    by_cases e : elg P x i
    · obtain ⟨c', c1, c2, c3, c4⟩ := t2 e
      have h5' : c' 1 5 = (mv : Int) := by rw [c2.1 1 (by omega) (by omega) (by omega)]; exact h5
      have hx' : c' 1 7 = x := by rw [c2.1 1 (by omega) (by omega) (by omega)]; exact hx
      have hP' : zL (zb zl_47 c' 2 mv) = P := by
        show zL (c' 3 mv) = P
        rw [c2.1 3 (by omega) (by omega) (by omega)]; exact hP
      by_cases w : btr P i best least
      · rw [lup_inl (f := fun (s31 : Mm × Int × Int × Int) => x_X6_bestDrop_b18 s31.1 s31.2.1 s31.2.2.1 s31.2.2.2) (s := (c, best, least, (i : Int))) (c3 w), ei]
        refine ih (i + 1) c' (i : Int) _ (by omega) c1 h5' hx' hP' (.inr ⟨i, rfl, by omega, rfl, e, fun d hd he => ?_⟩)
        unfold dom
        unfold btr at w
        by_cases q : d = i
        · subst q
          exact .inr ⟨rfl, .inr ⟨rfl, Nat.le_refl d⟩⟩
        · rcases hinv with ⟨a1, a2, a3⟩ | ⟨b, a1, a2, a3, a4, a5⟩
          · exact absurd he (a3 d (by omega))
          · have hd2 := a5 d (by omega) he
            unfold dom at hd2
            rcases w with w | w | ⟨w1, w2⟩
            · omega
            · omega
            · have := w2 b a1
              omega
      · rw [lup_inl (f := fun (s31 : Mm × Int × Int × Int) => x_X6_bestDrop_b18 s31.1 s31.2.1 s31.2.2.1 s31.2.2.2) (s := (c, best, least, (i : Int))) (c4 w), ei]
        refine ih (i + 1) c' best least (by omega) c1 h5' hx' hP' ?_
        rcases hinv with ⟨a1, a2, a3⟩ | ⟨b, a1, a2, a3, a4, a5⟩
        · exact absurd (.inl a1) w
        · refine .inr ⟨b, a1, by omega, a3, a4, fun d hd he => ?_⟩
          by_cases q : d = i
          · subst q
            unfold dom
            have n1 : ¬ ((RR P (dif P (one d)) : Nat) : Int) < least := fun z => w (.inr (.inl z))
            by_cases q2 : ((RR P (dif P (one d)) : Nat) : Int) = least
            · have n2 : ¬ pts b < pts d := fun z => w (.inr (.inr ⟨q2, fun k hk => by
                have : k = b := by omega
                rw [this]; exact z⟩))
              exact .inr ⟨by omega, by omega⟩
            · exact .inl (by omega)
          · exact a5 d (by omega) he
    · rw [lup_inl (f := fun (s31 : Mm × Int × Int × Int) => x_X6_bestDrop_b18 s31.1 s31.2.1 s31.2.2.1 s31.2.2.2) (s := (c, best, least, (i : Int))) (t1 e), ei]
      refine ih (i + 1) c best least (by omega) hR h5 hx hP ?_
      have ne : ∀ d, d < i + 1 → elg P x d → d < i := fun d hd he => by
        have : d ≠ i := fun z => e (by rw [← z]; exact he)
        omega
      rcases hinv with ⟨a1, a2, a3⟩ | ⟨b, a1, a2, a3, a4, a5⟩
      · exact .inl ⟨a1, a2, fun d hd he => a3 d (ne d hd he) he⟩
      · exact .inr ⟨b, a1, by omega, a3, a4, fun d hd he => a5 d (ne d hd he) he⟩
/-- the model's loop -/
theorem X7_bestL {σ : Mm} {P : Int64} {n : Nat} {H : Nat → Nat} {Nl : List Nat} {x : Int} {v : Nat} (hR : RS σ n H P Nl) (hr : ∀ a, a < 2 ^ n → σ 22 a = ((RR P (co H a n) : Nat) : Int)) (hx : σ 1 7 = x) (hv : lsb P x v) (hv2 : v ≤ 520) : ∃ b : Nat, lup (fun (s28 : Int × Int) => x_X7_bestDrop_b42 σ (v : Int) s28.1 s28.2) ((-1 : Int), (0 : Int)) = some (b : Int) ∧ elg P x b ∧ ∀ d, elg P x d → dom P b d := by
  obtain ⟨hH, -⟩ := hR
  have hcw := cw_P hH
  obtain ⟨hD, hO, hn, hP⟩ := hH
  have h1 := hO.1
  have h11 : cnt (bs P) 64 ≤ 11 := by omega
  obtain ⟨e9, b1, b2⟩ := lup_for (f := fun (s28 : Int × Int) => x_X7_bestDrop_b42 σ (v : Int) s28.1 s28.2) (fun i s => s.2 = (i : Int) ∧ ((s.1 = -1 ∧ ∀ j, j < i → ¬ (elg P x (H j) ∧ RR P (dif P (one (H j))) = v)) ∨ ∃ b : Nat, s.1 = (b : Int) ∧ b < 52 ∧ elg P x b ∧ RR P (dif P (one b)) = v ∧ (∃ j, j < i ∧ H j = b) ∧ ∀ j, j < i → elg P x (H j) → RR P (dif P (one (H j))) = v → (pts (H j) < pts b ∨ (pts (H j) = pts b ∧ b ≤ H j)))) (fun e => ∃ b : Nat, e = (b : Int) ∧ elg P x b ∧ ∀ d, elg P x d → dom P b d) n (fun i s hi hs => by
    obtain ⟨best, u⟩ := s
    obtain ⟨hu, hinv⟩ := hs
    simp only at hu hinv
    subst hu
    have h52 := hO.2.1 i hi
    obtain ⟨p1, p2, p3⟩ := place_but h1 hi
    have hle := RR_le hcw h11 (sb_dif P (one (H i)))
    have ei : (i : Int) + 1 = ((i + 1 : Nat) : Int) := by omega
    have hbs : bs P (H i) = true := (hP _).mpr ⟨i, hi, rfl⟩
    have hyes : elg P x (H i) ∧ RR P (dif P (one (H i))) = v → x_X7_bestDrop_b42 σ (v : Int) best (i : Int) = x_X7_bestDrop_j94_42 σ (v : Int) best (i : Int) 1 := fun ⟨⟨_, c⟩, c2⟩ => by
      unfold x_X7_bestDrop_b42 x_X7_bestDrop_j93_42
      rw [hD.1, if_neg (nle_n (by omega) (by omega)), if_pos (zin_i (by omega) (by omega) (by omega)), if_pos zc7, zx7, hx, zix_nat (n := i) (by omega), hD.2 i hi, if_neg c, p1, if_pos (zin_i (by omega) (by omega) (by omega)), zix_nat (n := ndif (2 ^ n - 1) (2 ^ i)) (by omega), hr _ p2, co_but hO hP hi, if_neg (fun z => z (by rw [c2]))]
    have hno : ¬ (elg P x (H i) ∧ RR P (dif P (one (H i))) = v) → x_X7_bestDrop_b42 σ (v : Int) best (i : Int) = some (.inl (best, (i : Int) + 1)) := fun hn2 => by
      unfold x_X7_bestDrop_b42 x_X7_bestDrop_j93_42
      rw [hD.1, if_neg (nle_n (by omega) (by omega)), if_pos (zin_i (by omega) (by omega) (by omega)), if_pos zc7, zx7, hx, zix_nat (n := i) (by omega), hD.2 i hi]
      by_cases c : zw (H i : Int) = zw x
      · rw [if_pos c]
        unfold x_X7_bestDrop_j94_42
        rw [if_pos d00, bnd_eq]
      · rw [if_neg c, p1, if_pos (zin_i (by omega) (by omega) (by omega)), zix_nat (n := ndif (2 ^ n - 1) (2 ^ i)) (by omega), hr _ p2, co_but hO hP hi]
        have c2 : RR P (dif P (one (H i))) ≠ v := fun z => hn2 ⟨⟨hbs, c⟩, z⟩
        rw [if_pos (by rw [zwn (by omega), zwn (by omega)]; omega)]
        unfold x_X7_bestDrop_j94_42
        rw [if_pos d00, bnd_eq]
    by_cases c : elg P x (H i) ∧ RR P (dif P (one (H i))) = v
    · have hbody := hyes c
      have hpi := X7_points (c := H i) (by omega)
      have hli := pts_lt (H i)
      rcases hinv with ⟨a1, a2⟩ | ⟨b, a1, a0, a2, a3, a4, a5⟩
      · subst a1
        refine ⟨((H i : Int), (i : Int) + 1), ?_, ei, .inr ⟨H i, rfl, h52, c.1, c.2, ⟨i, by omega, rfl⟩, fun j hj he hv => ?_⟩⟩
        · show x_X7_bestDrop_b42 σ (v : Int) (-1) (i : Int) = _
          rw [hbody]
          unfold x_X7_bestDrop_j94_42
          rw [if_neg d10, if_pos rfl, if_pos (zin_i (by omega) (by omega) (by omega)), zix_nat (n := i) (by omega), hD.2 i hi, bnd_eq, bnd_eq]
        · by_cases q : j = i
          · rw [q]; exact .inr ⟨rfl, Nat.le_refl _⟩
          · exact absurd ⟨he, hv⟩ (a2 j (by omega))
      · subst a1
        have hpb := X7_points (c := b) (by omega)
        have hlb := pts_lt b
        have hb2 : x_X7_bestDrop_b42 σ (v : Int) (b : Int) (i : Int) = if pts b < pts (H i) then some (.inl ((H i : Int), (i : Int) + 1)) else some (.inl ((b : Int), (i : Int) + 1)) := by
          rw [hbody]
          unfold x_X7_bestDrop_j94_42
          rw [if_neg d10, if_neg (by rw [zwn (by omega), zw_eq (x := (-1 : Int)) (by omega) (by omega)]; omega), if_pos (zin_i (by omega) (by omega) (by omega)), zix_nat (n := i) (by omega), hD.2 i hi, hpi, Option.bind_some, hpb, Option.bind_some, zwn (by omega), zwn (by omega)]
          by_cases q : pts b < pts (H i)
          · rw [if_neg (by omega), if_pos q, if_pos (zin_i (by omega) (by omega) (by omega)), bnd_eq, bnd_eq]
          · rw [if_pos (by omega), if_neg q, bnd_eq]
        by_cases q : pts b < pts (H i)
        · rw [if_pos q] at hb2
          refine ⟨((H i : Int), (i : Int) + 1), hb2, ei, .inr ⟨H i, rfl, h52, c.1, c.2, ⟨i, by omega, rfl⟩, fun j hj he hv => ?_⟩⟩
          by_cases q2 : j = i
          · rw [q2]; exact .inr ⟨rfl, Nat.le_refl _⟩
          · have := a5 j (by omega) he hv
            omega
        · rw [if_neg q] at hb2
          refine ⟨((b : Int), (i : Int) + 1), hb2, ei, .inr ⟨b, rfl, a0, a2, a3, ?_, fun j hj he hv => ?_⟩⟩
          · obtain ⟨j, j1, j2⟩ := a4
            exact ⟨j, by omega, j2⟩
          · by_cases q2 : j = i
            · obtain ⟨j', j1, j2⟩ := a4
              have := hO.2.2 j' i j1 hi
              rw [q2]
              omega
            · exact a5 j (by omega) he hv
    · have hbody := hno c
      refine ⟨(best, (i : Int) + 1), hbody, ei, ?_⟩
      rcases hinv with ⟨a1, a2⟩ | ⟨b, a1, a0, a2, a3, a4, a5⟩
      · refine .inl ⟨a1, fun j hj => ?_⟩
        by_cases q2 : j = i
        · rw [q2]; exact c
        · exact a2 j (by omega)
      · refine .inr ⟨b, a1, a0, a2, a3, ?_, fun j hj he hv => ?_⟩
        · obtain ⟨j, j1, j2⟩ := a4
          exact ⟨j, by omega, j2⟩
        · by_cases q2 : j = i
          · rw [q2] at he hv; exact absurd ⟨he, hv⟩ c
          · exact a5 j (by omega) he hv) (fun s hs => by
    obtain ⟨best, u⟩ := s
    obtain ⟨hu, hinv⟩ := hs
    simp only at hu hinv
    subst hu
    refine ⟨best, ?_, ?_⟩
    · show x_X7_bestDrop_b42 σ (v : Int) best _ = _
      unfold x_X7_bestDrop_b42
      rw [hD.1, if_pos (Int.le_refl _)]
    · obtain ⟨⟨c0, c1, c2, c3⟩, c4⟩ := hv
      rcases hinv with ⟨a1, a2⟩ | ⟨b, a1, a0, a2, a3, a4, a5⟩
      · obtain ⟨i, i1, i2⟩ := (hP c0).mp c1
        exact absurd (by rw [i2]; exact ⟨⟨c1, c2⟩, c3.symm⟩) (a2 i i1)
      · refine ⟨b, a1, a2, fun d hd => ?_⟩
        obtain ⟨i, i1, i2⟩ := (hP d).mp hd.1
        have h5 := c4 d hd.1 hd.2
        unfold dom
        by_cases q : RR P (dif P (one d)) = v
        · have := a5 i i1 (by rw [i2]; exact hd) (by rw [i2]; exact q)
          rw [i2] at this
          exact .inr ⟨by omega, this⟩
        · exact .inl (by omega)) (s := (-1, 0)) ⟨rfl, .inl ⟨rfl, fun j hj => by omega⟩⟩
  obtain ⟨b, k1, k2, k3⟩ := b2
  exact ⟨b, by rw [b1, k1], k2, k3⟩
theorem c_bestDrop {N : Nat} {c m : Mm} (h : REL N c m) : OK1 N (x_X6_bestDrop c) (x_X7_bestDrop m) := by
  have h0 := REL_eq h (CE_r c) (ME_0 m 0)
  unfold x_X6_bestDrop x_X7_bestDrop
  rw [bnd_eq, X7_canDrop h0.1, X2_canDrop h0.1 (R_now h0), Option.bind_some, Option.bind_some]
  rcases cdR_01 (zu m 0 0 0 1) with ⟨e, e6, e5⟩ | e
  · rw [e, if_pos (show zw (1 : Int) ≠ 0 by decide), if_pos (show zw (1 : Int) ≠ 0 by decide), if_pos zc4, zx4]
    obtain ⟨mv, m1, m2, hm5⟩ := R_mover h0
    obtain ⟨q1, q2, q3, q4⟩ := hnd_of h0.1 (R_now h0) m1
    generalize hP : zL (zb zl_47 c 2 mv) = P at q1 q2 q3 q4
    have hb := h0.1.1.1
    rw [m2, e5, if_pos ⟨rfl, rfl⟩] at q3
    have p2 : hnd (zu m 0 0 0) (zu m 0 0 0 1 4) P := ⟨q1, fun j hj => by rw [q2 j hj, m2]⟩
    obtain ⟨σ4, H, t1, t2, t3⟩ := X7_takeHand (zu m 0 0 0) (zu m 0 0 0 1 4) (-1) (-1) p2.1 q4 (sel_1 p2)
    have e7 : c 1 7 = zu m 0 0 0 1 7 := h0.2.1.1.2.2.2.2.2.2.2.1
    have hx := ex_other q1 (by omega : 2 ≤ cnt (bs P) 64) (c 1 7)
    obtain ⟨m5, w, Nl, f1, f2, f3, f4, f5, f6⟩ := X7_leastBehind (c 1 7) t2 hx
    have e17 : m5 1 7 = c 1 7 := by rw [f6.1 1 (by omega) (by omega), t3.1 1 (by omega) (by omega), e7]
    obtain ⟨b, g1, g2, g3⟩ := X7_bestL (x := c 1 7) f4 f5 e17 f2 f3
    have hR5 : REL N c m5 := REL_eq h0 (CE_r c) (ME_SK (SK_of (SC_t t3 f6)))
    obtain ⟨c', e', k1, k2, k3⟩ := X6_bestL (N := N) (m := m5) (x := c 1 7) m1 q1 q4 52 0 c (-1) 0 (by omega) hR5 hm5 rfl hP (.inl ⟨rfl, rfl, fun d hd => by omega⟩)
    have k1 : lup (fun (s31 : Mm × Int × Int × Int) => x_X6_bestDrop_b18 s31.1 s31.2.1 s31.2.2.1 s31.2.2.2) (c, (-1 : Int), (0 : Int), (0 : Int)) = some (c', e') := k1
    rw [k1, Option.bind_some, un2_mk, t1, Option.bind_some, if_pos zc7, zx7, t3.1 1 (by omega) (by omega), ← e7, f1, Option.bind_some, un2_mk, g1, Option.bind_some]
    rcases k3 with ⟨-, k4⟩ | ⟨d, k4, k5, k6⟩
    · exact absurd g2 (k4 b (cw_lt q1 g2.1))
    · have : d = b := dom_u k5 g2 (fun y hy => k6 y (cw_lt q1 hy.1) hy) g3
      subst this
      exact ⟨_, _, (d : Int), by rw [k4], rfl, k2⟩
  · rw [e, if_neg (show ¬ zw (0 : Int) ≠ 0 by decide), if_neg (show ¬ zw (0 : Int) ≠ 0 by decide)]
    exact ⟨_, _, _, rfl, rfl, h0⟩
