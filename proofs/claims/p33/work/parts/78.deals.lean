/-! a told deal on both sides -/
def CF (σ σ' : Mm) : Prop := (∀ c, c ≠ 0 → c ≠ 2 → (c < 3 ∨ 8 ≤ c) → σ' c = σ c) ∧ ∀ j, (j < 2 ∨ 6 ≤ j) → j ≠ 7 → σ' 0 j = σ 0 j
def MFD (m m' : Mm) : Prop := (∀ c, c ≠ 0 → c ≠ 1 → c ≠ 25 → m' c = m c) ∧ ∀ j, (j < 26 ∨ 32 ≤ j) → m' 0 j = m 0 j
theorem CF_t {σ σ' σ'' : Mm} (h : CF σ σ') (h2 : CF σ' σ'') : CF σ σ'' := ⟨fun c a b d => (h2.1 c a b d).trans (h.1 c a b d), fun j a b => (h2.2 j a b).trans (h.2 j a b)⟩
theorem MFD_t {σ σ' σ'' : Mm} (h : MFD σ σ') (h2 : MFD σ' σ'') : MFD σ σ'' := ⟨fun c a b d => (h2.1 c a b d).trans (h.1 c a b d), fun j a => (h2.2 j a).trans (h.2 j a)⟩
theorem CF_H {σ σ' : Mm} (h : HF σ σ') : CF σ σ' := ⟨fun c a _ d => h.1 c a (by omega), fun j a _ => h.2 j a⟩
theorem CF_A {σ σ' : Mm} (h : AF σ σ') : CF σ σ' := ⟨fun c a _ d => h.1 c (by omega), fun j a _ => h.2 j a⟩
theorem MFD_N {m m' : Mm} (h : NE2 m m') : MFD m m' := ⟨fun c a _ _ => h.1 c a, fun j a => h.2 j (by omega)⟩
theorem MFD_F {m m' : Mm} (h : NF m m') : MFD m m' := MFD_N (NE2_of h)
theorem MFD_G {m m' : Mm} (h : NG m m') : MFD m m' := ⟨fun c a _ d => h.1 c a d, h.2⟩
theorem MFD_R {m m' : Mm} (h : RW m m') : MFD m m' := ⟨fun c a b _ => h c b, fun j _ => by rw [h 0 (by omega)]⟩
theorem CF_13 {σ ρ : Mm} (h : DF (zb zl_13 σ) ρ) : CF σ (zj zl_13 σ ρ) := ⟨fun c a b d => by
  rw [z13]
  by_cases e : c < 3
  · rw [if_pos e, h.1 c a b]
    have : c = 1 := by omega
    subst this; rfl
  · rw [if_neg e], fun j a b => by
  rw [z13, if_pos (by omega), h.2 j a b]; rfl⟩
theorem j123_dead {m : Mm} {E : Nat} (h31 : m 0 31 = (E : Int)) (hE : 0 < E ∧ E < 10000) (v1 v2 v3 v4 v5 : Int) : x_X7_load_j123 m v1 v2 v3 v4 v5 = x_X7_load_j139 m v5 := by
  unfold x_X7_load_j123
  rw [h31, if_pos (E_ne hE)]
theorem deal_both {N : Nat} {σ m : Mm} {L : Nat} {b : Nat → Nat} (hT : TB σ m L b) (h27 : m 0 27 = 0) (h31 : m 0 31 = 0) : (∃ (σ' m' : Mm) (a s t : Nat), x_X3_readDeal σ = some (σ', 0) ∧ hd0 m = x_X7_load_j139 m' 1 ∧ SY σ' m' L b a s t ∧ m' 0 31 = 0 ∧ V N (m' 1) ∧ MR (fun c => σ' (3 + c)) (m' 1) ∧ CF σ σ' ∧ MFD m m') ∨ ∃ (E : Nat) (σ' m' : Mm) (v : Int), 0 < E ∧ E < 10000 ∧ x_X3_readDeal σ = some (σ', (E : Int)) ∧ hd0 m = x_X7_load_j139 m' v ∧ m' 0 31 = (E : Int) ∧ CF σ σ' ∧ MFD m m' := by
  have F0 : CF σ (zu σ 0 2 0) := ⟨fun c a _ _ => by unfold zu; rw [if_neg a], fun j a _ => zu_miss _ _ _ _ (fun _ => by omega)⟩
  have hT1 : TB (zu σ 0 2 0) m L b := TB_f hT (AF_u σ (j := 2) 0 (by omega)) (NF_r m)
  have e2 : zu σ 0 2 0 0 2 = 0 := zu_hit _ _ _ _
  have hc : x_X3_readDeal σ = (x_X3_readHead (zu σ 0 2 0)).bind fun o => un2 o fun σ2 v3 => (if zw v3 ≠ 0 then (if zw v3 ≠ 0 then some (σ2, v3) else cbg σ2 v3) else (x_X3_readDeck (zb zl_13 σ2)).bind fun o => un2 o fun σ12 v13 => bnd (zj zl_13 σ2 σ12) fun σ14 => (if zw v13 ≠ 0 then some (σ14, v13) else cbg σ14 v13)) := rfl
  rw [hc]
  generalize zu σ 0 2 0 = σ1 at F0 hT1 e2
  rcases head_both hT1 e2 h27 h31 with ⟨n, h, k, t, p, σ2, m2, b1, b2, b3, b4, b5, b6, a1, a2, a3, a4, a5, s0, s1, s2, s3⟩ | ⟨E, σ2, m2, v1, v2, v3, v4, hE1, hE2, a1, a2, a3, a4, a5⟩
  · rw [a1, a2, Option.bind_some, un2_mk, if_neg z0n]
    have F2 := CF_t F0 (CF_H a4)
    have G2 := MFD_F a5
    rcases deck_both (AH_13 a3) (n : Int) (h : Int) (k : Int) (t : Int) 1 with ⟨kk, D, ρ, m3, a, s, tt, c1, c2, c3, c4, c5, c6, c7⟩ | ⟨E, ρ, m3, hE1, hE2, c1, c2, c3, c4, c5⟩
    · left
      rw [c1, c2, Option.bind_some, un2_mk, bnd_eq, if_neg z0n]
      have F3 := CF_t F2 (CF_13 c6)
      have y3 : zj zl_13 σ2 ρ 3 = σ2 3 := by rw [z13, if_neg (by omega)]
      have hTD : TD (zj zl_13 σ2 ρ) m3 kk D := by
        obtain ⟨g1, g2, g3, g4, g5⟩ := c3
        have y0 : zj zl_13 σ2 ρ 0 = ρ 0 := by rw [z13, if_pos (by omega)]
        have y2 : zj zl_13 σ2 ρ 2 = ρ 2 := by rw [z13, if_pos (by omega)]
        exact ⟨g1, by rw [y0]; exact g2, g3, fun i hi => by rw [y2]; exact g4 i hi, g5⟩
      have hS : SY (zj zl_13 σ2 ρ) m3 L b a s tt := SY_13' c4
      generalize zj zl_13 σ2 ρ = σ3 at F3 y3 hTD hS
      obtain ⟨σ', m', d1, d2, d3, d4, d5, d6⟩ := begin_both (N := N) hTD b1 b2 b3 b4 ⟨b5, b6⟩ (by rw [y3]; exact s0) (by rw [y3]; exact s1) (by rw [y3]; exact s2) (by rw [y3]; exact s3)
      refine ⟨σ', m', a, s, tt, d1 0, ?_, SY_eq hS (d6 1 (by omega) (by omega)) (fun j _ _ => by rw [d6 0 (by omega) (by omega)]) (d5 18 (by omega)) (by rw [d5 0 (by omega)]) (fun j _ _ => by rw [d5 0 (by omega)]), by rw [d5 0 (by omega)]; exact c5, d3, d4, CF_t F3 ⟨fun c q0 q2 q3 => d6 c q2 q3, fun j _ _ => by rw [d6 0 (by omega) (by omega)]⟩, MFD_t G2 (MFD_t (MFD_G c7) (MFD_R d5))⟩
      unfold x_X7_load_j123
      rw [c5, if_neg z0n, d2, Option.bind_some]
    · right
      rw [c1, c2, Option.bind_some, un2_mk, bnd_eq, if_pos (E_ne ⟨hE1, hE2⟩), j123_dead c3 ⟨hE1, hE2⟩]
      exact ⟨E, _, m3, 1, hE1, hE2, rfl, rfl, c3, CF_t F2 (CF_13 c4), MFD_t G2 (MFD_G c5)⟩
  · right
    have hE : 0 < E ∧ E < 10000 := ⟨hE1, hE2⟩
    -- behind a fault nothing is told
    have h26 : zu m2 0 26 (0 : Int) 0 31 = (E : Int) := by rw [zu_miss _ _ _ _ (fun _ => by omega)]; exact a3
    rw [a1, a2, Option.bind_some, un2_mk, if_pos (E_ne hE), if_pos (E_ne hE)]
    unfold hdK
    rw [bnd_eq, dead_word h26 hE, Option.bind_some, if_pos d00, j123_dead h26 hE]
    exact ⟨E, σ2, _, 0, hE1, hE2, rfl, rfl, h26, CF_t F0 (CF_H a4), MFD_t (MFD_N a5) ⟨fun c q0 _ _ => by unfold zu; rw [if_neg q0], fun j hj => zu_miss _ _ _ _ (fun _ => by omega)⟩⟩
