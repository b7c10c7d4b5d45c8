/-! a told move's end on both sides -/
theorem q_22 (c : Nat) : zq zl_22 c = if c < 8 then some c else none := by
  rcases c with _ | _ | _ | _ | _ | _ | _ | _ | c
  all_goals rfl
theorem q_23 (c : Nat) : zq zl_23 c = if 3 ≤ c ∧ c < 23 then some (c - 3) else none := by
  rcases c with _ | _ | _ | _ | _ | _ | _ | _ | _ | _ | _ | _ | _ | _ | _ | _ | _ | _ | _ | _ | _ | _ | _ | c
  all_goals rfl
theorem q_19 (c : Nat) : zq zl_19 c = if c < 5 then some c else none := by
  rcases c with _ | _ | _ | _ | _ | c
  all_goals rfl
theorem q_20 (c : Nat) : zq zl_20 c = if 5 ≤ c ∧ c < 20 then some (c - 5) else none := by
  rcases c with _ | _ | _ | _ | _ | _ | _ | _ | _ | _ | _ | _ | _ | _ | _ | _ | _ | _ | _ | _ | c
  all_goals rfl
theorem z22 (σ ρ : Mm) (c : Nat) : zj zl_22 σ ρ c = if c < 8 then ρ c else σ c := by
  rw [zj_q _ _ _ _ (q_22 c)]
  by_cases h : c < 8
  · rw [if_pos h, if_pos h]; rfl
  · rw [if_neg h, if_neg h]; rfl
theorem z23 (σ ρ : Mm) (c : Nat) : zj zl_23 σ ρ c = if 3 ≤ c ∧ c < 23 then ρ (c - 3) else σ c := by
  rw [zj_q _ _ _ _ (q_23 c)]
  by_cases h : 3 ≤ c ∧ c < 23
  · rw [if_pos h, if_pos h]; rfl
  · rw [if_neg h, if_neg h]; rfl
theorem z19 (σ ρ : Mm) (c : Nat) : zj zl_19 σ ρ c = if c < 5 then ρ c else σ c := by
  rw [zj_q _ _ _ _ (q_19 c)]
  by_cases h : c < 5
  · rw [if_pos h, if_pos h]; rfl
  · rw [if_neg h, if_neg h]; rfl
theorem z20 (σ ρ : Mm) (c : Nat) : zj zl_20 σ ρ c = if 5 ≤ c ∧ c < 20 then ρ (c - 5) else σ c := by
  rw [zj_q _ _ _ _ (q_20 c)]
  by_cases h : 5 ≤ c ∧ c < 20
  · rw [if_pos h, if_pos h]; rfl
  · rw [if_neg h, if_neg h]; rfl
theorem b23 (σ : Mm) {c : Nat} (h : c < 5) : zb zl_19 (zb zl_23 σ) c = σ (3 + c) := by
  rcases (show c = 0 ∨ c = 1 ∨ c = 2 ∨ c = 3 ∨ c = 4 by omega) with rfl | rfl | rfl | rfl | rfl <;> rfl
def CV (σ σ' : Mm) : Prop := σ' 1 = σ 1 ∧ σ' 2 = σ 2 ∧ ∀ j, (j < 2 ∨ 6 ≤ j) → σ' 0 j = σ 0 j
def KA (m m' : Mm) : Prop := (∀ c, c ≠ 0 → c ≠ 1 → (c < 20 ∨ 25 ≤ c) → m' c = m c) ∧ ∀ j, (j < 12 ∨ 25 ≤ j) → m' 0 j = m 0 j
def KM (m m' : Mm) : Prop := (∀ c, c ≠ 0 → c ≠ 1 → (c < 20 ∨ 25 ≤ c) → m' c = m c) ∧ ∀ j, (j < 12 ∨ 32 ≤ j) → m' 0 j = m 0 j
theorem CV_t {σ σ' σ'' : Mm} (h : CV σ σ') (h2 : CV σ' σ'') : CV σ σ'' := ⟨h2.1.trans h.1, h2.2.1.trans h.2.1, fun j hj => (h2.2.2 j hj).trans (h.2.2 j hj)⟩
theorem KM_t {σ σ' σ'' : Mm} (h : KM σ σ') (h2 : KM σ' σ'') : KM σ σ'' := ⟨fun c a b d => (h2.1 c a b d).trans (h.1 c a b d), fun j a => (h2.2 j a).trans (h.2 j a)⟩
theorem CV_A {σ σ' : Mm} (h : AF σ σ') : CV σ σ' := ⟨h.1 1 (by omega), h.1 2 (by omega), h.2⟩
theorem CV_r (σ : Mm) : CV σ σ := ⟨rfl, rfl, fun _ _ => rfl⟩
theorem KM_r (σ : Mm) : KM σ σ := ⟨fun _ _ _ _ => rfl, fun _ _ => rfl⟩
theorem KM_A {m m' : Mm} (h : KA m m') : KM m m' := ⟨h.1, fun j hj => h.2 j (by omega)⟩
theorem KM_N {m m' : Mm} (h : NE2 m m') : KM m m' := ⟨fun c a _ _ => h.1 c a, fun j hj => h.2 j (by omega)⟩
theorem KM_F {m m' : Mm} (h : NF m m') : KM m m' := KM_N (NE2_of h)
theorem KA_R {m m' : Mm} (h : RW m m') : KA m m' := ⟨fun c _ b _ => h c b, fun j _ => by rw [h 0 (by omega)]⟩
theorem KA_S {m m' : Mm} (h : SK m m') : KA m m' := ⟨fun c a _ d => h.1 c a d, h.2⟩
theorem KA_t {σ σ' σ'' : Mm} (h : KA σ σ') (h2 : KA σ' σ'') : KA σ σ'' := ⟨fun c a b d => (h2.1 c a b d).trans (h.1 c a b d), fun j a => (h2.2 j a).trans (h.2 j a)⟩
theorem SY_KA {σ m m' : Mm} {L : Nat} {b : Nat → Nat} {a s t : Nat} (h : SY σ m L b a s t) (hk : KA m m') : SY σ m' L b a s t := SY_eq h rfl (fun _ _ _ => rfl) (hk.1 18 (by omega) (by omega) (by omega)) (hk.2 8 (by omega)) (fun j _ _ => hk.2 j (by omega))
theorem AH_KA {σ m m' : Mm} {L : Nat} {b : Nat → Nat} {p : Nat} (h : AH σ m L b p) (hk : KA m m') : AH σ m' L b p := AH_eq h rfl (fun _ _ _ => rfl) (hk.1 18 (by omega) (by omega) (by omega)) (hk.2 8 (by omega)) (fun j _ _ => hk.2 j (by omega))
/-- what a step of the moves gives -/
def MVo (N : Nat) (σ m : Mm) (L : Nat) (b : Nat → Nat) (p : Nat) (x : Option (Mm × Int)) (y : Option Mm) : Prop := (∃ (σ' m' : Mm) (a' s' t' : Nat), x = some (σ', 0) ∧ y.bind x_X7_goOn = some m' ∧ SY σ' m' L b a' s' t' ∧ m' 0 31 = 0 ∧ V N (m' 1) ∧ MR (fun c => σ' (3 + c)) (m' 1) ∧ p < s' ∧ CV σ σ' ∧ KM m m') ∨ ∃ (E : Nat) (σ' m' : Mm), 0 < E ∧ E < 10000 ∧ x = some (σ', (E : Int)) ∧ y.bind x_X7_goOn = some m' ∧ m' 0 31 = (E : Int) ∧ CV σ σ' ∧ KM m m'
theorem MVo_fr {N : Nat} {σ σ1 m m1 : Mm} {L : Nat} {b : Nat → Nat} {p p1 : Nat} {x : Option (Mm × Int)} {y : Option Mm} (h : MVo N σ1 m1 L b p1 x y) (hp : p ≤ p1) (h1 : CV σ σ1) (h2 : KM m m1) : MVo N σ m L b p x y := by
  rcases h with ⟨σ', m', a', s', t', q1, q2, q3, q4, q5, q6, q7, q8, q9⟩ | ⟨E, σ', m', q1, q2, q3, q4, q5, q6, q7⟩
  · exact .inl ⟨σ', m', a', s', t', q1, q2, q3, q4, q5, q6, by omega, CV_t h1 q8, KM_t h2 q9⟩
  · exact .inr ⟨E, σ', m', q1, q2, q3, q4, q5, CV_t h1 q6, KM_t h2 q7⟩
theorem mv_tail {N : Nat} {σ m : Mm} {L : Nat} {b : Nat → Nat} {p : Nat} {v3 v4 r : Int} {ACT : Mm → Option Mm} (hA : AH σ m L b p) (hr : zw r = r) (hp : ∀ σ5, AF σ σ5 → (r = 0 ∧ ∃ π m5, x_X3_play (zb zl_23 σ5) v3 v4 = some (π, 1) ∧ ACT m = some m5 ∧ KA m m5 ∧ V N (m5 1) ∧ MR π (m5 1)) ∨ (r ≠ 0 ∧ ∃ π, x_X3_play (zb zl_23 σ5) v3 v4 = some (π, 0))) : MVo N σ m L b p (x_X3_readMove_j44 σ v3 v4 0) ((x_X7_ends m r).bind fun o => un2 o fun σ4 v5 => (if zw v5 = 0 then some σ4 else ACT σ4)) := by
  unfold x_X3_readMove_j44
  rw [if_neg z0n]
  rcases semi_13 hA with ⟨ρ, a, s, a1, a2, a3, a4, a5, a6⟩ | ⟨E, ρ, e1, e2, a1, a2, a3⟩
  · rw [a1, Option.bind_some, un2_mk, bnd_eq]
    unfold x_X3_readMove_j55
    rw [if_pos d00]
    generalize zj zl_13 σ ρ = σ5 at a2 a3
    have o8 : ∀ π c, c < 3 → zj zl_23 σ5 π c = σ5 c := fun π c hc => by rw [z23, if_neg (by omega)]
    have i8 : ∀ π c, c < 5 → zj zl_23 σ5 π (3 + c) = π c := fun π c hc => by rw [z23, if_pos (by omega), Nat.add_sub_cancel_left]
    have c8 : ∀ π, CV σ5 (zj zl_23 σ5 π) := fun π => ⟨o8 π 1 (by omega), o8 π 2 (by omega), fun j _ => by rw [o8 π 0 (by omega)]⟩
    rcases hp σ5 a2 with ⟨r0, π, m5, p1, p2, p3, p4, p5⟩ | ⟨r0, π, p1⟩
    · left
      subst r0
      rw [p1, Option.bind_some, un2_mk, bnd_eq, if_pos (show zw (1 : Int) ≠ 0 by decide), a5, Option.bind_some, un2_mk, if_neg (show ¬ zw (1 : Int) = 0 by decide), p2, Option.bind_some]
      have hS : SY (zj zl_23 σ5 π) m5 L b a s 3 := SY_eq (SY_KA a3 p3) (o8 π 1 (by omega)) (fun j _ _ => by rw [o8 π 0 (by omega)]) rfl rfl (fun _ _ _ => rfl)
      have hM : MR (fun c => zj zl_23 σ5 π (3 + c)) (m5 1) := MR_cells (fun c hc => i8 π c hc) p5
      have e31 : m5 0 31 = 0 := (p3.2 31 (by omega)).trans hA.1
      have c9 := CV_t (CV_A a2) (c8 π)
      generalize zj zl_23 σ5 π = σ8 at hS hM c9
      have hS' := SY_13 hS
      obtain ⟨ρ', m6, a', s', t', r1, r2, r3, r4, r5, r6⟩ := scan_both hS'.1 hS'.2.1 hS'.2.2.1 hS'.2.2.2.2.2.2.1
      have f6 : AF σ8 (zj zl_13 σ8 ρ') := AF_13 r5
      have hsa : s < a := hS.2.2.2.2.2.2.2.2.2.2.1 (by omega)
      rw [r1, Option.bind_some, bnd_eq, goOn_0 e31]
      refine ⟨_, m6, a', s', t', rfl, r2, SY_13' r3, (r6.2 31 (by omega)).trans e31, by rw [r6.1 1 (by omega)]; exact p4, ?_, by omega, CV_t c9 (CV_A f6), KM_t (KM_A p3) (KM_F r6)⟩
      rw [r6.1 1 (by omega)]
      exact MR_cells (fun c hc => f6.1 (3 + c) (by omega)) hM
    · right
      have hL := a3.1.1
      have hs5 : s ≤ 500 := by
        have h1 := a3.2.2.2.2.2.1
        have h2 := a3.2.2.2.2.2.2.1
        omega
      have hE : 0 < 8 * s + 4 ∧ 8 * s + 4 < 10000 := by omega
      have ec : x_X3_errorAs (zb zl_21 (zj zl_23 σ5 π)) (4 : Int) = some ((8 * s + 4 : Nat) : Int) := err_at (σ := zb zl_21 (zj zl_23 σ5 π)) (by
        show zj zl_23 σ5 π 0 3 = _
        rw [o8 π 0 (by omega)]; exact a3.2.2.2.1) 4
      rw [p1, Option.bind_some, un2_mk, bnd_eq, if_neg z0n, ec, Option.bind_some, a6 r (by rw [hr]; exact r0), Option.bind_some, un2_mk, if_pos d00, Option.bind_some, goOn_d (zu_hit _ _ _ _) hE]
      exact ⟨8 * s + 4, _, _, hE.1, hE.2, rfl, rfl, zu_hit _ _ _ _, CV_t (CV_A a2) (c8 π), KM_N (NE2_u _ _)⟩
  · right
    rw [a1, Option.bind_some, un2_mk, bnd_eq, a3 r, Option.bind_some, un2_mk, if_pos d00, Option.bind_some, goOn_d (zu_hit _ _ _ _) ⟨e1, e2⟩]
    unfold x_X3_readMove_j55
    rw [if_neg (E_ne ⟨e1, e2⟩)]
    exact ⟨E, _, _, e1, e2, rfl, rfl, zu_hit _ _ _ _, CV_A a2, KM_N (NE2_u _ _)⟩
