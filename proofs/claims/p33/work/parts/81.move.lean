/-! a told move, read and played -/
theorem MR_A {σ σ' : Mm} {r : Nat → Int} (h : AF σ σ') (hM : MR (fun c => σ (3 + c)) r) : MR (fun c => σ' (3 + c)) r := MR_cells (fun c hc => h.1 (3 + c) (by omega)) hM
theorem j44_bad (σ : Mm) (v3 v4 : Int) {E : Nat} (hE : 0 < E ∧ E < 10000) : x_X3_readMove_j44 σ v3 v4 (E : Int) = some (σ, (E : Int)) := by
  unfold x_X3_readMove_j44 x_X3_readMove_j55
  rw [if_pos (E_ne hE), if_neg (E_ne hE)]
theorem MVo_dead {N : Nat} {σ σ' m m' : Mm} {L : Nat} {b : Nat → Nat} {p E : Nat} {x : Option (Mm × Int)} {y : Option Mm} (hE : 0 < E ∧ E < 10000) (hx : x = some (σ', (E : Int))) (hy : y = some m') (h31 : m' 0 31 = (E : Int)) (h1 : CV σ σ') (h2 : KM m m') : MVo N σ m L b p x y := by
  refine .inr ⟨E, σ', m', hE.1, hE.2, hx, ?_, h31, h1, h2⟩
  rw [hy, Option.bind_some, goOn_d h31 hE]
theorem move_both {N : Nat} {σ m : Mm} {L : Nat} {b : Nat → Nat} {a s t : Nat} (hN : N < 100000) (hS : SY σ m L b a s t) (h31 : m 0 31 = 0) (hV : V N (m 1)) (hM : MR (fun c => σ (3 + c)) (m 1)) : MVo (N + 1) σ m L b s (x_X3_readMove σ) (x_X7_move m) := by
  have hL := hS.1.1
  have hsa : s ≤ a := hS.2.2.2.2.2.1
  have haL : a ≤ L := hS.2.2.2.2.2.2.1
  obtain ⟨u3, c3, d3, e3, g3⟩ := word_both (u := 3) (SY_13 hS) h31 (by omega)
  obtain ⟨u4, c4, d4, e4, g4⟩ := word_both (u := 4) (SY_13 hS) h31 (by omega)
  obtain ⟨u5, c5, d5, e5, g5⟩ := word_both (u := 5) (SY_13 hS) h31 (by omega)
  obtain ⟨u6, c6, d6, e6, g6⟩ := word_both (u := 6) (SY_13 hS) h31 (by omega)
  obtain ⟨u7, c7, d7, e7, g7⟩ := word_both (u := 7) (SY_13 hS) h31 (by omega)
  obtain ⟨m2, r1, r2, r3⟩ := SY_AH hS h31
  have e1 : m2 1 = m 1 := r3.1 1 (by omega)
  have hV2 : V N (m2 1) := by rw [e1]; exact hV
  have hM2 : MR (fun c => σ (3 + c)) (m2 1) := by rw [e1]; exact hM
  have hmt : x_X3_moveTold (zb zl_21 σ) = (if zw u3 = 0 then (if zw u4 = 0 then (if zw u5 = 0 then (if zw u6 = 0 then (if zw u7 = 0 then some (0 : Int) else some (5 : Int)) else some (4 : Int)) else some (3 : Int)) else some (2 : Int)) else some (1 : Int)) := by
    have f : ∀ x y, x_X3_isWord (zb zl_13 σ) x = some y → x_X3_isWord (zb zl_21 σ) x = some y := fun _ _ h => h
    unfold x_X3_moveTold
    rw [f 3 u3 d3, f 4 u4 d4, f 5 u5 d5, f 6 u6 d6, f 7 u7 d7, Option.bind_some, Option.bind_some, Option.bind_some, Option.bind_some, Option.bind_some]
  unfold x_X3_readMove x_X7_move
  rw [hmt, e3, e4, e5, e6, e7, r1]
  simp only [Option.bind_some]
  have up : ∀ {r : Nat → Int}, V N r → V (N + 1) r := fun h => V_up h (Nat.le_succ N)
  rcases c3 with rfl | rfl
  · rw [if_pos d00]
    rcases c4 with rfl | rfl
    · rw [if_pos d00, if_neg z0n, if_pos d00]
      rcases c5 with rfl | rfl
      · rw [if_pos d00, if_pos d00]
        rcases c6 with rfl | rfl
        · rw [if_pos d00, if_pos d00]
          rcases c7 with rfl | rfl
          · -- no move's word
            have hE : 0 < 8 * s + 1 ∧ 8 * s + 1 < 10000 := by omega
            have ec : x_X3_errorAs (zb zl_21 σ) (1 : Int) = some ((8 * s + 1 : Nat) : Int) := err_at (σ := zb zl_21 σ) hS.2.2.2.1 1
            have ew : x_X7_wrong m (1 : Int) = some (zu m 0 31 ((8 * s + 1 : Nat) : Int)) := wrong_0 h31 hS.2.2.2.2.1 1
            rw [if_pos d00, if_pos d00, ew, Option.bind_some, Option.bind_some, if_neg z0n, ec, Option.bind_some]
            exact MVo_dead hE rfl rfl (zu_hit _ _ _ _) (CV_r σ) (KM_N (NE2_u _ _))
          · -- deal
            rw [if_neg w0n, if_neg w0n, Option.bind_some, if_pos (by decide), if_neg (by decide), if_pos (by decide), X7_noDeal hV2, Option.bind_some]
            exact MVo_fr (mv_tail (N := N + 1) (ACT := aDeal) r2 neR_0 (fun σ5 h5 => by
              rcases play_5 hN hV2 (MR_A h5 hM2) with h | h
              · exact .inl h
              · exact .inr h)) hsa (CV_r σ) (KM_F r3)
        · -- knock
          rw [if_neg w0n, if_neg w0n, Option.bind_some, if_pos (by decide), if_neg (by decide), if_neg (by decide)]
          unfold x_X3_readMove_j31
          rcases held_step r2 hV2 hM2 with ⟨k, p1, τ, m3, k1, k2, k3, k4, k5, k6, k7, k8, k9⟩ | ⟨E, τ, m3, k1, k2, k3, k4, k5, k6, k7⟩
          · have e2 : m3 1 = m2 1 := k9.1 1 (by omega)
            have hM3 : MR (fun c => zj zl_22 σ τ (3 + c)) (m3 1) := by rw [e2]; exact MR_A k8 hM2
            have hV3 : V N (m3 1) := by rw [e2]; exact hV2
            obtain ⟨r, m4, x1, x2, x3, x4⟩ := play_4 (m := m3) hV3 k1 (by rw [e2]; exact k7) ⟨_, hM3⟩
            rw [k2, Option.bind_some, un2_mk, bnd_eq, bnd_eq, k3, k4, Option.bind_some, un2_mk, k5.1, if_neg z0n, x1, Option.bind_some, un2_mk]
            have ka := KA_S (SK_of x2)
            exact MVo_fr (mv_tail (N := N + 1) (ACT := aKnock (k : Int)) (AH_KA k5 ka) x3 (fun σ5 h5 => by
              rcases x4 σ5 (MR_A h5 hM3) with ⟨y0, π, m5, y1, y2, y3, y4, y5⟩ | h
              · exact .inl ⟨y0, π, m5, y1, y2, y3, up y4, y5⟩
              · exact .inr h)) (by omega) (CV_A k8) (KM_t (KM_F r3) (KM_t (KM_F k9) (KM_A ka)))
          · rw [k3, Option.bind_some, un2_mk, bnd_eq, bnd_eq, k4, Option.bind_some, un2_mk, k5, if_pos (E_ne ⟨k1, k2⟩), dead_ends k5 ⟨k1, k2⟩, Option.bind_some, un2_mk, if_pos d00]
            exact MVo_dead ⟨k1, k2⟩ (j44_bad _ _ _ ⟨k1, k2⟩) rfl k5 (CV_A k6) (KM_t (KM_F r3) (KM_N k7))
      · -- drop
        rw [if_neg w0n, if_neg w0n, Option.bind_some, if_pos (by decide), if_pos (by decide)]
        unfold x_X3_readMove_j31
        rcases held_step r2 hV2 hM2 with ⟨k, p1, τ, m3, k1, k2, k3, k4, k5, k6, k7, k8, k9⟩ | ⟨E, τ, m3, k1, k2, k3, k4, k5, k6, k7⟩
        · have e2 : m3 1 = m2 1 := k9.1 1 (by omega)
          have hM3 : MR (fun c => zj zl_22 σ τ (3 + c)) (m3 1) := by rw [e2]; exact MR_A k8 hM2
          have hV3 : V N (m3 1) := by rw [e2]; exact hV2
          rw [k2, Option.bind_some, un2_mk, bnd_eq, bnd_eq, k3, k4, Option.bind_some, un2_mk, X7_noTurn hV3, Option.bind_some]
          exact MVo_fr (mv_tail (N := N + 1) (ACT := aDrop (k : Int)) k5 ntR_0.2 (fun σ5 h5 => by
            rcases play_3 hV3 (MR_A h5 hM3) k1 (by rw [e2]; exact k7) with ⟨y0, π, m5, y1, y2, y3, y4, y5⟩ | h
            · exact .inl ⟨y0, π, m5, y1, y2, y3, up y4, y5⟩
            · exact .inr h)) (by omega) (CV_A k8) (KM_t (KM_F r3) (KM_F k9))
        · have e2 : m3 1 = m2 1 := k7.1 1 (by omega)
          have hV3 : V N (m3 1) := by rw [e2]; exact hV2
          rw [k3, Option.bind_some, un2_mk, bnd_eq, bnd_eq, k4, Option.bind_some, un2_mk, X7_noTurn hV3, Option.bind_some, dead_ends k5 ⟨k1, k2⟩, Option.bind_some, un2_mk, if_pos d00]
          exact MVo_dead ⟨k1, k2⟩ (j44_bad _ _ _ ⟨k1, k2⟩) rfl k5 (CV_A k6) (KM_t (KM_F r3) (KM_N k7))
    · -- the pile
      rw [if_neg w0n, if_pos w1p, Option.bind_some, if_pos (by decide), if_neg (by decide), if_pos (by decide), X7_noDraw hV2, Option.bind_some]
      exact MVo_fr (mv_tail (N := N + 1) (ACT := aDraw 1) r2 ndR_0.2 (fun σ5 h5 => by
        rcases play_1 (q := 1) (.inr ⟨rfl, rfl⟩) hV2 (MR_A h5 hM2) with ⟨y0, π, m5, y1, y2, y3, y4, y5⟩ | h
        · exact .inl ⟨y0, π, m5, y1, y2, y3, up y4, y5⟩
        · exact .inr h)) hsa (CV_r σ) (KM_F r3)
  · -- the stock
    have u40 : u4 = 0 := c4.elim (fun z => z) (fun z => absurd ((g3 rfl).2.symm.trans (g4 z).2) (by decide))
    subst u40
    rw [if_neg w0n, if_neg z0n, if_neg w0n, Option.bind_some, if_pos (by decide), if_neg (by decide), if_pos (by decide), X7_noDraw hV2, Option.bind_some]
    exact MVo_fr (mv_tail (N := N + 1) (ACT := aDraw 0) r2 ndR_0.2 (fun σ5 h5 => by
      rcases play_1 (q := 0) (.inl ⟨rfl, rfl⟩) hV2 (MR_A h5 hM2) with ⟨y0, π, m5, y1, y2, y3, y4, y5⟩ | h
      · exact .inl ⟨y0, π, m5, y1, y2, y3, up y4, y5⟩
      · exact .inr h)) hsa (CV_r σ) (KM_F r3)
