/-! The model's melds: isSet, isAhead, addMeld -/
/-- scratch: what the model's layings write -/
def SC (σ σ' : Mm) : Prop := (∀ c, c ≠ 0 → (c < 20 ∨ 24 ≤ c) → σ' c = σ c) ∧ ∀ j, (j < 12 ∨ 20 ≤ j) → σ' 0 j = σ 0 j
theorem SC_r (σ : Mm) : SC σ σ := ⟨fun _ _ _ => rfl, fun _ _ => rfl⟩
theorem SC_t {σ σ' σ'' : Mm} (h : SC σ σ') (h2 : SC σ' σ'') : SC σ σ'' := ⟨fun c h3 h4 => (h2.1 c h3 h4).trans (h.1 c h3 h4), fun j hj => (h2.2 j hj).trans (h.2 j hj)⟩
theorem SC_u (σ : Mm) {k j : Nat} (v : Int) (h : (20 ≤ k ∧ k < 24) ∨ (k = 0 ∧ 12 ≤ j ∧ j < 20)) : SC σ (zu σ k j v) := by
  refine ⟨fun c h1 h2 => ?_, fun i hi => ?_⟩
  · unfold zu
    rw [if_neg (by omega)]
  · rw [zu_miss _ _ _ _ (fun z => by omega)]
/-- whether the cards at some places are of one rank -/
def same (n : Nat) (H : Nat → Nat) (a : Nat) : Prop := ∀ i j, i < n → j < n → a.testBit i = true → a.testBit j = true → H i % 13 = H j % 13
theorem X7_isSet {σ : Mm} {n : Nat} {H : Nat → Nat} (hH : HD σ n H) (h : hOk n H) {a : Nat} (ha : a < 2147483648) : ∃ v : Int, x_X7_isSet σ (a : Int) = some v ∧ (v = 0 ∨ v = 1) ∧ (v = 1 ↔ same n H a) := by
  have h1 := h.1
  unfold x_X7_isSet
  -- the rank that was seen last, and whether all were the same
  obtain ⟨e9, b1, b2, b3⟩ := lup_for (f := fun (s20 : Int × Int × Int) => x_X7_isSet_b7 σ (a : Int) s20.1 s20.2.1 s20.2.2) (fun i s => s.2.2 = (i : Int) ∧ (s.2.1 = 0 ∨ s.2.1 = 1) ∧ (s.2.1 = 1 ↔ same i H a) ∧ ((s.1 = -1 ∧ ∀ j, j < i → a.testBit j = false) ∨ ∃ j, j < i ∧ a.testBit j = true ∧ s.1 = ((H j % 13 : Nat) : Int))) (fun e => (e = 0 ∨ e = 1) ∧ (e = 1 ↔ same n H a)) n (fun i s hi hs => by
    obtain ⟨x, v, u⟩ := s
    obtain ⟨hu, hv, hsm, hx⟩ := hs
    simp only at hu hv hsm hx
    subst hu
    have h52 := h.2.1 i hi
    show ∃ s', x_X7_isSet_b7 σ (a : Int) x v (i : Int) = _ ∧ _
    unfold x_X7_isSet_b7
    rw [hH.1, if_neg (by rw [zwn (by omega), zwn (by omega)]; omega)]
    simp only [bit_z ha (show i < 31 by omega), if_pos (zin_i (n := 11) (x := (i : Int)) (by omega) (by omega) (by omega)), bnd_eq]
    rw [zix_nat (by omega), hH.2 i hi, zrem13 (by omega)]
    cases e : a.testBit i
    · rw [if_pos rfl]
      refine ⟨_, rfl, rfl, hv, hsm.trans ?_, ?_⟩
      · constructor
        · intro q p r hp hr hp2 hr2
          have hp9 : p ≠ i := fun z => by rw [z, e] at hp2; cases hp2
          have hr9 : r ≠ i := fun z => by rw [z, e] at hr2; cases hr2
          exact q p r (by omega) (by omega) hp2 hr2
        · intro q p r hp hr hp2 hr2
          exact q p r (by omega) (by omega) hp2 hr2
      · rcases hx with ⟨z1, z2⟩ | ⟨j, j1, j2, j3⟩
        · exact .inl ⟨z1, fun j hj => by
            by_cases w : j = i
            · rw [w]; exact e
            · exact z2 j (by omega)⟩
        · exact .inr ⟨j, by omega, j2, j3⟩
    · rw [if_neg (by decide)]
      have hnew : ∀ w : Int, ((w, (0 : Int), (i : Int) + 1) : Int × Int × Int) = (w, 0, (i : Int) + 1) := fun _ => rfl
      rcases hv with hv | hv
      · subst hv
        rw [if_pos (by decide)]
        refine ⟨_, rfl, rfl, .inl rfl, ?_, .inr ⟨i, by omega, e, rfl⟩⟩
        constructor
        · intro z; cases z
        · intro q
          exact absurd (hsm.mpr (fun p r hp hr hp2 hr2 => q p r (by omega) (by omega) hp2 hr2)) (by decide)
      · subst hv
        have hs1 := hsm.mp rfl
        rw [if_neg (by decide)]
        rcases hx with ⟨z1, z2⟩ | ⟨j, j1, j2, j3⟩
        · subst z1
          rw [if_pos rfl]
          refine ⟨_, rfl, rfl, .inr rfl, ?_, .inr ⟨i, by omega, e, rfl⟩⟩
          refine ⟨fun _ p r hp hr hp2 hr2 => ?_, fun _ => rfl⟩
          have hp9 : p = i := by
            rcases Nat.lt_or_ge p i with w | w
            · rw [z2 p w] at hp2; cases hp2
            · omega
          have hr9 : r = i := by
            rcases Nat.lt_or_ge r i with w | w
            · rw [z2 r w] at hr2; cases hr2
            · omega
          rw [hp9, hr9]
        · subst j3
          have h53 := h.2.1 j (by omega)
          rw [if_neg (by rw [zwn (by omega), zw_eq (x := (-1 : Int)) (by omega) (by omega)]; omega), zwn (by omega), zwn (by omega)]
          by_cases w : H i % 13 = H j % 13
          · rw [if_neg (by omega)]
            refine ⟨_, rfl, rfl, .inr rfl, ?_, .inr ⟨i, by omega, e, rfl⟩⟩
            refine ⟨fun _ p r hp hr hp2 hr2 => ?_, fun _ => rfl⟩
            have q1 : ∀ p, p < i + 1 → a.testBit p = true → H p % 13 = H j % 13 := fun p hp hp2 => by
              by_cases z : p = i
              · rw [z]; exact w
              · exact hs1 p j (by omega) j1 hp2 j2
            rw [q1 p hp hp2, q1 r hr hr2]
          · rw [if_pos (by omega)]
            refine ⟨_, rfl, rfl, .inl rfl, ?_, .inr ⟨i, by omega, e, rfl⟩⟩
            constructor
            · intro z; cases z
            · intro q
              exact absurd (q i j (by omega) (by omega) e j2) w) (fun s hs => by
    obtain ⟨x, v, u⟩ := s
    obtain ⟨hu, hv, hsm, hx⟩ := hs
    simp only at hu hv hsm hx
    subst hu
    refine ⟨_, ?_, hv, hsm⟩
    show x_X7_isSet_b7 σ (a : Int) _ _ _ = _
    unfold x_X7_isSet_b7
    rw [hH.1, if_pos (Int.le_refl _)]) (s := (-1, 1, 0)) ⟨rfl, .inr rfl, ⟨fun _ p r hp => by omega, fun _ => rfl⟩, .inl ⟨rfl, fun j hj => by omega⟩⟩
  rw [b1, Option.bind_some]
  rcases b2 with z | z
  · subst z
    exact ⟨0, by rw [if_pos (.inl (by decide))], .inl rfl, b3⟩
  · subst z
    exact ⟨1, by rw [if_pos (.inr (by decide))], .inr rfl, b3⟩
/-- of a meld: whether it is a set -/
theorem same_kd {n : Nat} {H : Nat → Nat} (h : hOk n H) {a : Nat} (hm : isSet (co H a n) ∨ isRun (co H a n)) : same n H a ↔ kd (co H a n) = 1 := by
  rcases hm with hm | hm
  · refine ⟨fun _ => kd_1 hm, fun _ i j hi hj h1 h2 => ?_⟩
    obtain ⟨r, -, h3, -⟩ := hm
    rw [(h3 (H i) (by rw [co_at h a hi]; exact h1)).2, (h3 (H j) (by rw [co_at h a hj]; exact h2)).2]
  · constructor
    · intro hs
      exfalso
      obtain ⟨s, f, k, h4, h5, h6, h7, h8⟩ := hm
      obtain ⟨i, i1, i2, i3⟩ := (co_bs (n := n) (13 * s + (f + 0) % 13) h.2.1).mp (by rw [h8]; exact (bs_run h4 _).mpr ⟨0, by omega, rfl⟩)
      obtain ⟨j, j1, j2, j3⟩ := (co_bs (n := n) (13 * s + (f + 1) % 13) h.2.1).mp (by rw [h8]; exact (bs_run h4 _).mpr ⟨1, by omega, rfl⟩)
      have := hs i j i1 j1 i2 j2
      omega
    · intro z
      rw [kd_2 hm] at z; cases z
theorem nlt31 {a n : Nat} (ha : a < 2 ^ n) (hn : n ≤ 11) : a < 2048 := Nat.lt_of_lt_of_le ha (Nat.pow_le_pow_right (n := 2) (by decide) hn)
theorem lexP {n : Nat} {H : Nat → Nat} (h : hOk n H) {a b : Nat} (ha : a < 2 ^ n) (hb : b < 2 ^ n) : zw (zand (zand (a : Int) (zxor (a : Int) (b : Int))) (-(zxor (a : Int) (b : Int)))) = 0 ↔ rv (co H a n) 64 ≤ rv (co H b n) 64 := by
  have ha2 := nlt31 ha h.1
  have hb2 := nlt31 hb h.1
  have hx : a ^^^ b < 2048 := Nat.xor_lt_two_pow (n := 11) ha2 hb2
  rw [zxor_nat (by omega) (by omega)]
  by_cases e : a = b
  · subst e
    have : a ^^^ a = 0 := Nat.xor_self a
    rw [this]
    have e1 : zand (a : Int) ((0 : Nat) : Int) = ((a &&& 0 : Nat) : Int) := zand_nat (by omega) (by omega)
    rw [e1, Nat.and_zero]
    constructor
    · intro _; exact Nat.le_refl _
    · intro _; decide
  · have hd : a ^^^ b ≠ 0 := fun z => e (by
      apply Nat.eq_of_testBit_eq
      intro i
      have := congrArg (fun q => q.testBit i) z
      simp only [Nat.testBit_xor, Nat.zero_testBit] at this
      cases e1 : a.testBit i <;> cases e2 : b.testBit i <;> rw [e1, e2] at this <;> first | rfl | cases this)
    obtain ⟨k, hk⟩ := nlow_ex hd
    have hkn : k < n := nlow_lt hk (Nat.xor_lt_two_pow ha hb)
    have hk2 := hk.2
    have hk1 := hk.1
    rw [Nat.testBit_xor] at hk1
    have hbits : ∀ j, j < k → a.testBit j = b.testBit j := fun j hj => by
      have := hk2 j hj
      rw [Nat.testBit_xor] at this
      cases e1 : a.testBit j <;> cases e2 : b.testBit j <;> rw [e1, e2] at this <;> first | rfl | cases this
    have hcards : ∀ c, c < H k → bs (co H a n) c = bs (co H b n) c := fun c hc => by
      have key : ∀ x y : Nat, (∀ j, j < k → x.testBit j = y.testBit j) → bs (co H x n) c = true → bs (co H y n) c = true := fun x y hxy hx => by
        obtain ⟨i, i1, i2, i3⟩ := (co_bs c h.2.1).mp hx
        have hik : i < k := by
          rcases Nat.lt_trichotomy i k with w | w | w
          · exact w
          · subst w; omega
          · have := h.2.2 k i w i1; omega
        exact (co_bs c h.2.1).mpr ⟨i, i1, by rw [← hxy i hik]; exact i2, i3⟩
      cases e1 : bs (co H a n) c
      · cases e2 : bs (co H b n) c
        · rfl
        · rw [key b a (fun j hj => (hbits j hj).symm) e2] at e1; cases e1
      · rw [key a b hbits e1]
    have h64 : H k < 64 := by have := h.2.1 k hkn; omega
    -- the lowest differing place of a
    have hz : ∀ v : Bool, a.testBit k = v → zand (zand (a : Int) ((a ^^^ b : Nat) : Int)) (-((a ^^^ b : Nat) : Int)) = if v = true then ((2 ^ k : Nat) : Int) else 0 := fun v hv => by
      unfold zand
      rw [zJ_toInt]
      have e1 : (zJ (a : Int) &&& zJ ((a ^^^ b : Nat) : Int)) &&& zJ (-((a ^^^ b : Nat) : Int)) = zJ (a : Int) &&& (zJ ((a ^^^ b : Nat) : Int) &&& zJ (-((a ^^^ b : Nat) : Int))) := Int32.toBitVec_inj.mp (by simp only [Int32.toBitVec_and]; exact BitVec.and_assoc _ _ _)
      have e2 : zJ ((a ^^^ b : Nat) : Int) &&& zJ (-((a ^^^ b : Nat) : Int)) = zJ ((2 ^ k : Nat) : Int) := by
        have := zlow (a := a ^^^ b) (by omega) hk
        unfold zand at this
        rw [← this, zJ_toInt]
      rw [e1, e2]
      have e3 : zand (a : Int) ((2 ^ k : Nat) : Int) = ((a &&& 2 ^ k : Nat) : Int) := zand_nat (by omega) (Nat.pow_lt_pow_right (a := 2) (n := 31) (by decide) (by have := h.1; omega))
      unfold zand at e3
      rw [e3]
      have e4 : a &&& 2 ^ k = if v = true then 2 ^ k else 0 := by
        apply Nat.eq_of_testBit_eq
        intro i
        rw [Nat.testBit_and, Nat.testBit_two_pow]
        by_cases w : k = i
        · subst w
          rw [hv]
          cases v
          · simp
          · simp [Nat.testBit_two_pow_self]
        · cases v
          · simp [w]
          · simp [w, Nat.testBit_two_pow]
      rw [e4]
      cases v <;> rfl
    have hp2 : 2 ^ k < 2147483648 := Nat.pow_lt_pow_right (a := 2) (n := 31) (by decide) (by have := h.1; omega)
    have hp0 : 0 < 2 ^ k := Nat.two_pow_pos k
    cases e1 : a.testBit k <;> cases e2 : b.testBit k <;> rw [e1, e2] at hk1
    · cases hk1
    · rw [hz _ e1]
      have := rv_less (x := co H b n) (y := co H a n) (k := H k) (fun j hj => (hcards j hj).symm) (by rw [co_at h b hkn]; exact e2) (by rw [co_at h a hkn]; exact e1) h64
      constructor
      · intro _; omega
      · intro _; rw [if_neg (by decide)]; decide
    · rw [hz _ e1]
      have := rv_less (x := co H a n) (y := co H b n) (k := H k) hcards (by rw [co_at h a hkn]; exact e1) (by rw [co_at h b hkn]; exact e2) h64
      constructor
      · intro z
        rw [if_pos rfl, zwn hp2] at z
        omega
      · intro _; omega
    · cases hk1
/-- places that are a meld -/
def mP (n : Nat) (H : Nat → Nat) (a : Nat) : Prop := a < 2 ^ n ∧ (isSet (co H a n) ∨ isRun (co H a n))
theorem X7_isAhead {σ : Mm} {n : Nat} {H : Nat → Nat} (hH : HD σ n H) (h : hOk n H) {a b : Nat} (ha : mP n H a) (hb : mP n H b) : x_X7_isAhead σ (a : Int) (b : Int) = some (if mR (co H a n) < mR (co H b n) then 1 else 0) := by
  have ha2 := nlt31 ha.1 h.1
  have hb2 := nlt31 hb.1 h.1
  have ca : cnt (bs (zi2l (a : Int))) 64 = cnt (bs (co H a n)) 64 := by rw [zi2l_cnt ha.1 (by have := h.1; omega), co_cnt h]
  have cb : cnt (bs (zi2l (b : Int))) 64 = cnt (bs (co H b n)) 64 := by rw [zi2l_cnt hb.1 (by have := h.1; omega), co_cnt h]
  have la := cnt_le (bs (co H a n)) 64
  have lb := cnt_le (bs (co H b n)) 64
  have ra := rv_lt (co H a n) 64
  have rb := rv_lt (co H b n) 64
  obtain ⟨va, va1, va2, va3⟩ := X7_isSet hH h (show a < 2147483648 by omega)
  obtain ⟨vb, vb1, vb2, vb3⟩ := X7_isSet hH h (show b < 2147483648 by omega)
  rw [same_kd h ha.2] at va3
  rw [same_kd h hb.2] at vb3
  have ka := kd_r (co H a n)
  have kb := kd_r (co H b n)
  unfold x_X7_isAhead
  rw [X7_ones, Option.bind_some, X7_ones, Option.bind_some, ca, cb, zwn (by omega), zwn (by omega)]
  by_cases e : cnt (bs (co H a n)) 64 = cnt (bs (co H b n)) 64
  · rw [if_pos (by omega), va1, Option.bind_some, vb1, Option.bind_some]
    have hl := lexP h ha.1 hb.1
    have ew : zw va = va := zw_eq (by omega) (by omega)
    have ew2 : zw vb = vb := zw_eq (by omega) (by omega)
    rw [ew, ew2]
    by_cases e2 : va = vb
    · rw [if_pos e2, bnd_eq]
      have e3 : kd (co H a n) = kd (co H b n) := by
        rcases ka with z | z <;> rcases kb with w | w
        · omega
        · have := va3.mpr z
          have := vb3.mp (by omega)
          omega
        · have := vb3.mpr w
          have := va3.mp (by omega)
          omega
        · omega
      by_cases e4 : rv (co H a n) 64 ≤ rv (co H b n) 64
      · rw [if_pos (hl.mpr e4), if_neg]
        unfold mR
        omega
      · rw [if_neg (fun z => e4 (hl.mp z)), if_pos]
        unfold mR
        omega
    · rw [if_neg e2, Option.bind_some, ew, if_pos va2]
      have e3 : kd (co H a n) ≠ kd (co H b n) := fun z => by
        rcases va2 with w | w <;> rcases vb2 with w2 | w2
        · omega
        · have := vb3.mp w2
          have := va3.mpr (by omega)
          omega
        · have := va3.mp w
          have := vb3.mpr (by omega)
          omega
        · omega
      rcases va2 with w | w
      · rw [w, if_neg]
        have : kd (co H a n) ≠ 1 := fun z => by have := va3.mpr z; omega
        unfold mR
        omega
      · rw [w, if_pos]
        have := va3.mp w
        unfold mR
        omega
  · rw [if_neg (by omega)]
    by_cases e2 : cnt (bs (co H b n)) 64 ≤ cnt (bs (co H a n)) 64
    · rw [if_pos (by omega), if_neg]
      unfold mR
      omega
    · rw [if_neg (by omega), if_pos]
      unfold mR
      omega
/-- the model's row of melds -/
def NS (σ : Mm) (N : List Nat) : Prop := σ 0 14 = (N.length : Int) ∧ ∀ (i a : Nat), N[i]? = some a → σ 21 i = (a : Int)
def nOk (n : Nat) (H : Nat → Nat) (N : List Nat) : Prop := (∀ a ∈ N, mP n H a) ∧ N.Pairwise (fun a b => mR (co H a n) ≤ mR (co H b n))
theorem HD_SC {σ σ' : Mm} {n : Nat} {H : Nat → Nat} (h : HD σ n H) (h1 : σ' 0 12 = σ 0 12) (h2 : ∀ i, σ' 20 i = σ 20 i) : HD σ' n H := ⟨h1.trans h.1, fun i hi => (h2 i).trans (h.2 i hi)⟩
theorem HD_zu {σ : Mm} {n : Nat} {H : Nat → Nat} {k j : Nat} {v : Int} (h : HD σ n H) (hk : (k ≠ 0 ∨ j ≠ 12) ∧ k ≠ 20) : HD (zu σ k j v) n H := by
  refine HD_SC h ?_ (fun i => ?_)
  · rw [zu_miss (c := 0) (i := 12) σ k j v (fun z => by omega)]
  · rw [zu_miss (c := 20) (i := i) σ k j v (fun z => by omega)]
theorem X7_addMeld {σ : Mm} {n : Nat} {H : Nat → Nat} (hH : HD σ n H) (h : hOk n H) {N : List Nat} (hN : NS σ N) (hO : nOk n H N) (hl : N.length < 200) {a : Nat} (ha : mP n H a) : ∃ σ' N', x_X7_addMeld σ (a : Int) = some σ' ∧ NS σ' N' ∧ nOk n H N' ∧ (∀ x, x ∈ N' ↔ x = a ∨ x ∈ N) ∧ N'.length = N.length + 1 ∧ HD σ' n H ∧ SC σ σ' := by
  unfold x_X7_addMeld
  rw [bnd_eq, hN.1]
  -- t places are passed
  obtain ⟨e9, b1, b2⟩ := lup_ind (f := fun (s10 : Mm × Int) => x_X7_addMeld_b5 (a : Int) s10.1 s10.2) (fun k s => ∃ t : Nat, s.2 = (t : Int) ∧ t + k = N.length ∧ (∀ j x, j < t → N[j]? = some x → s.1 21 j = (x : Int)) ∧ (∀ j x, t ≤ j → N[j]? = some x → s.1 21 (j + 1) = (x : Int) ∧ mR (co H a n) ≤ mR (co H x n)) ∧ s.1 0 14 = (N.length : Int) ∧ HD s.1 n H ∧ SC σ s.1) (fun e => ∃ t : Nat, e.2 = (t : Int) ∧ t ≤ N.length ∧ (∀ j x, j < t → N[j]? = some x → e.1 21 j = (x : Int) ∧ mR (co H x n) ≤ mR (co H a n)) ∧ (∀ j x, t ≤ j → N[j]? = some x → e.1 21 (j + 1) = (x : Int) ∧ mR (co H a n) ≤ mR (co H x n)) ∧ e.1 0 14 = (N.length : Int) ∧ HD e.1 n H ∧ SC σ e.1) N.length (fun k s hp => by
    obtain ⟨τ, u⟩ := s
    obtain ⟨t, hu, htk, q1, q2, q3, q4, q5⟩ := hp
    simp only at hu q1 q2 q3 q4 q5
    subst hu
    show (∃ s', x_X7_addMeld_b5 (a : Int) τ (t : Int) = _ ∧ _) ∨ (∃ e, x_X7_addMeld_b5 (a : Int) τ (t : Int) = _ ∧ _)
    unfold x_X7_addMeld_b5
    cases t with
    | zero =>
      right
      rw [if_pos (by decide)]
      exact ⟨_, rfl, 0, rfl, Nat.zero_le _, fun j x hj => by omega, q2, q3, q4, q5⟩
    | succ t =>
      have ht : t < N.length := by omega
      have hx : N[t]? = some N[t] := List.getElem?_eq_getElem ht
      generalize N[t] = x at hx
      have et : ((t + 1 : Nat) : Int) - 1 = (t : Int) := by omega
      have hmx := hO.1 x (List.mem_of_getElem? hx)
      rw [if_neg (by rw [zwn (by omega)]; omega), et, if_pos (zin_i (by omega) (by omega) (by omega)), zix_nat (by omega), q1 t x (by omega) hx, X7_isAhead q4 h ha hmx, Option.bind_some]
      by_cases e : mR (co H a n) < mR (co H x n)
      · left
        rw [if_pos e, if_neg (by decide), if_pos (zin_i (by omega) (by omega) (by omega)), if_pos (zin_i (by omega) (by omega) (by omega)), bnd_eq, bnd_eq, zix_nat (by omega)]
        have ec : ((t + 1 : Nat) : Int) + -1 = (t : Int) := by omega
        rw [ec]
        refine ⟨_, rfl, by omega, t, rfl, by omega, fun j y hj hy => ?_, fun j y hj hy => ?_, ?_, ?_, SC_t q5 (SC_u _ _ (.inl (by omega)))⟩
        · show zu τ 21 (t + 1) _ 21 j = _
          rw [zu_miss _ _ _ _ (fun _ => by omega)]
          exact q1 j y (by omega) hy
        · show zu τ 21 (t + 1) _ 21 (j + 1) = _ ∧ _
          by_cases z : j = t
          · subst z
            rw [hx] at hy
            have hy := Option.some.inj hy
            subst hy
            rw [zu_hit]
            exact ⟨rfl, by omega⟩
          · rw [zu_miss _ _ _ _ (fun _ => by omega)]
            exact q2 j y (by omega) hy
        · exact (zu_miss (c := 0) (i := 14) τ 21 (t + 1) (x : Int) (fun z => by cases z)).trans q3
        · exact HD_zu q4 (by omega)
      · right
        rw [if_neg e, if_pos (by decide)]
        refine ⟨_, rfl, t + 1, rfl, by omega, fun j y hj hy => ⟨q1 j y hj hy, ?_⟩, q2, q3, q4, q5⟩
        by_cases z : j = t
        · subst z
          rw [hx] at hy
          have hy := Option.some.inj hy
          subst hy
          omega
        · have hjt : j < t := by omega
          have hj2 : j < N.length := by omega
          have e1 : N[j] = y := by
            rw [List.getElem?_eq_getElem hj2] at hy
            exact Option.some.inj hy
          have e2 : N[t] = x := by
            rw [List.getElem?_eq_getElem ht] at hx
            exact Option.some.inj hx
          have := List.pairwise_iff_getElem.mp hO.2 j t hj2 ht hjt
          rw [e1, e2] at this
          omega) (s := (σ, (N.length : Int))) 0 ⟨N.length, rfl, rfl, fun j x _ hx => hN.2 j x hx, fun j x hj hx => absurd hx (by rw [List.getElem?_eq_none hj]; intro z; cases z), hN.1, hH, SC_r σ⟩
  obtain ⟨τ, u⟩ := e9
  obtain ⟨t, hu, ht, q1, q2, q3, q4, q5⟩ := b2
  simp only at hu q1 q2 q3 q4 q5
  subst hu
  rw [b1, Option.bind_some, un2_eq]
  show ∃ σ' N', (if zin (t : Int) 200 then _ else none) = _ ∧ _
  rw [if_pos (zin_i (by omega) (by omega) (by omega)), bnd_eq, bnd_eq, zix_nat (by omega)]
  refine ⟨_, N.take t ++ a :: N.drop t, rfl, ⟨?_, fun i x hx => ?_⟩, ⟨fun x hx => ?_, ?_⟩, fun x => ?_, ?_, ?_, ?_⟩
  · rw [zu_hit, zu_miss _ _ _ _ (fun z => by cases z)]
    show τ 0 14 + 1 = _
    rw [q3]
    simp
    omega
  · rw [zu_miss _ _ _ _ (fun z => by cases z)]
    rcases Nat.lt_trichotomy i t with c | c | c
    · rw [List.getElem?_append_left (by simp; omega), List.getElem?_take_of_lt c] at hx
      rw [zu_miss _ _ _ _ (fun _ => by omega)]
      exact (q1 i x c hx).1
    · subst c
      rw [List.getElem?_append_right (by simp; omega)] at hx
      simp only [List.length_take, Nat.min_eq_left ht, Nat.sub_self, List.getElem?_cons_zero] at hx
      have hx := Option.some.inj hx
      subst hx
      rw [zu_hit]
    · rw [List.getElem?_append_right (by simp; omega)] at hx
      simp only [List.length_take, Nat.min_eq_left ht] at hx
      rw [show i - t = (i - t - 1) + 1 by omega, List.getElem?_cons_succ, List.getElem?_drop] at hx
      rw [zu_miss _ _ _ _ (fun _ => by omega)]
      have := (q2 (t + (i - t - 1)) x (by omega) hx).1
      rw [show t + (i - t - 1) + 1 = i by omega] at this
      exact this
  · rcases List.mem_append.mp hx with z | z
    · exact hO.1 x (List.mem_of_mem_take z)
    · rcases List.mem_cons.mp z with w | w
      · rw [w]; exact ha
      · exact hO.1 x (List.mem_of_mem_drop w)
  · have hlt : ∀ x ∈ N.take t, mR (co H x n) ≤ mR (co H a n) := fun x hx => by
      obtain ⟨j, hj⟩ := List.mem_iff_getElem?.mp hx
      have hjt : j < t := by
        rcases Nat.lt_or_ge j t with c | c
        · exact c
        · rw [List.getElem?_eq_none (by simp; omega)] at hj; cases hj
      rw [List.getElem?_take_of_lt hjt] at hj
      exact (q1 j x hjt hj).2
    have hge : ∀ x ∈ N.drop t, mR (co H a n) ≤ mR (co H x n) := fun x hx => by
      obtain ⟨j, hj⟩ := List.mem_iff_getElem?.mp hx
      rw [List.getElem?_drop] at hj
      exact (q2 (t + j) x (by omega) hj).2
    refine List.pairwise_append.mpr ⟨hO.2.take, List.pairwise_cons.mpr ⟨hge, hO.2.drop⟩, fun x hx y hy => ?_⟩
    rcases List.mem_cons.mp hy with w | w
    · rw [w]; exact hlt x hx
    · exact Nat.le_trans (hlt x hx) (hge y w)
  · have e0 : x ∈ N ↔ x ∈ N.take t ∨ x ∈ N.drop t := by
      rw [← List.mem_append, List.take_append_drop]
    rw [List.mem_append, List.mem_cons, e0]
    constructor
    · rintro (z | z | z)
      · exact .inr (.inl z)
      · exact .inl z
      · exact .inr (.inr z)
    · rintro (z | z | z)
      · exact .inr (.inl z)
      · exact .inl z
      · exact .inr (.inr z)
  · simp
    omega
  · exact HD_zu (HD_zu q4 (by omega)) (by omega)
  · exact SC_t q5 (SC_t (SC_u _ _ (.inl (by omega))) (SC_u _ _ (.inr (by omega))))
